/-! the words of the tables that are kept by a warm state, by their places -/
def kBIG : List Cond := lw_tbl.filter goodWord
theorem kBIG_in {w : Cond} (h : w ∈ kBIG) : w ∈ lw_tbl := (List.mem_filter.mp h).1
theorem kBIG_good {w : Cond} (h : w ∈ kBIG) : goodWord w = true := (List.mem_filter.mp h).2
theorem kT0 {w : Cond} (h : w ∈ k2_sels lw_privs) (g : goodWord w = true) : w ∈ kBIG := List.mem_filter.mpr ⟨List.mem_append_left _ h, g⟩
theorem kT1 {w : Cond} (h : w ∈ tables_1_1) (g : goodWord w = true) : w ∈ kBIG := List.mem_filter.mpr ⟨List.mem_append_right _ (List.mem_append_left _ h), g⟩
theorem kT2 {w : Cond} (h : w ∈ tables_1_2) (g : goodWord w = true) : w ∈ kBIG := List.mem_filter.mpr ⟨List.mem_append_right _ (List.mem_append_right _ (List.mem_append_left _ h)), g⟩
theorem kT3 {w : Cond} (h : w ∈ tables_1_3) (g : goodWord w = true) : w ∈ kBIG := List.mem_filter.mpr ⟨List.mem_append_right _ (List.mem_append_right _ (List.mem_append_right _ (List.mem_append_left _ h))), g⟩
theorem kT4 {w : Cond} (h : w ∈ tables_1_4) (g : goodWord w = true) : w ∈ kBIG := List.mem_filter.mpr ⟨List.mem_append_right _ (List.mem_append_right _ (List.mem_append_right _ (List.mem_append_right _ h))), g⟩
theorem q0_0 : Cond.selects RX4 yX4_faulted yX4_faulted ∈ kBIG := kT0 (List.mem_of_getElem? (i := 0) rfl) rfl
theorem q0_1 : Cond.selects RX4 yX4_isPerson yX4_isPerson ∈ kBIG := kT0 (List.mem_of_getElem? (i := 1) rfl) rfl
theorem q0_2 : Cond.selects RX4 yX4_hasNoMoor yX4_hasNoMoor ∈ kBIG := kT0 (List.mem_of_getElem? (i := 2) rfl) rfl
theorem q0_3 : Cond.selects RX4 yX4_becomes yX4_becomes ∈ kBIG := kT0 (List.mem_of_getElem? (i := 3) rfl) rfl
theorem q0_4 : Cond.selects RX4 yX4_refusalOfPairs yX4_refusalOfPairs ∈ kBIG := kT0 (List.mem_of_getElem? (i := 4) rfl) rfl
theorem q0_5 : Cond.selects RX4 yX4_play yX4_play ∈ kBIG := kT0 (List.mem_of_getElem? (i := 5) rfl) rfl
theorem q0_6 : Cond.selects RX4 yX4_ofRound yX4_ofRound ∈ kBIG := kT0 (List.mem_of_getElem? (i := 6) rfl) rfl
theorem q0_7 : Cond.selects RX4 yX4_findBestOrder yX4_findBestOrder ∈ kBIG := kT0 (List.mem_of_getElem? (i := 7) rfl) rfl
theorem q0_8 : Cond.selects RX4 yX4_comingInTriedOrder yX4_comingInTriedOrder ∈ kBIG := kT0 (List.mem_of_getElem? (i := 8) rfl) rfl
theorem q0_9 : Cond.selects RX4 yX4_bySuchReadings yX4_bySuchReadings ∈ kBIG := kT0 (List.mem_of_getElem? (i := 9) rfl) rfl
theorem q0_10 : Cond.selects RX4 yX4_readingsHoldInDraft yX4_readingsHoldInDraft ∈ kBIG := kT0 (List.mem_of_getElem? (i := 10) rfl) rfl
theorem q0_11 : Cond.selects RX4 yX4_smellsByWhichItComes yX4_smellsByWhichItComes ∈ kBIG := kT0 (List.mem_of_getElem? (i := 11) rfl) rfl
theorem q0_12 : Cond.selects RX4 yX4_toldByReeking yX4_toldByReeking ∈ kBIG := kT0 (List.mem_of_getElem? (i := 12) rfl) rfl
theorem q0_13 : Cond.selects RX4 yX4_begins yX4_begins ∈ kBIG := kT0 (List.mem_of_getElem? (i := 13) rfl) rfl
theorem q0_14 : Cond.selects RX4 yX4_toldByRank yX4_toldByRank ∈ kBIG := kT0 (List.mem_of_getElem? (i := 14) rfl) rfl
theorem q0_15 : Cond.selects RX4 yX4_toldByPlain yX4_toldByPlain ∈ kBIG := kT0 (List.mem_of_getElem? (i := 15) rfl) rfl
theorem q0_16 : Cond.selects RX5 yX5_refused yX5_refused ∈ kBIG := kT0 (List.mem_of_getElem? (i := 16) rfl) rfl
theorem q0_17 : Cond.selects RX5 yX5_cellsBarred yX5_cellsBarred ∈ kBIG := kT0 (List.mem_of_getElem? (i := 17) rfl) rfl
theorem q0_18 : Cond.selects RX5 yX5_failed yX5_failed ∈ kBIG := kT0 (List.mem_of_getElem? (i := 18) rfl) rfl
theorem q0_19 : Cond.selects RX5 yX5_readsMoor yX5_readsMoor ∈ kBIG := kT0 (List.mem_of_getElem? (i := 19) rfl) rfl
theorem q0_20 : Cond.selects RX5 yX5_codeAt yX5_codeAt ∈ kBIG := kT0 (List.mem_of_getElem? (i := 20) rfl) rfl
theorem q0_21 : Cond.selects RX5 yX5_figure yX5_figure ∈ kBIG := kT0 (List.mem_of_getElem? (i := 21) rfl) rfl
theorem q0_22 : Cond.selects RX5 yX5_readsPerson yX5_readsPerson ∈ kBIG := kT0 (List.mem_of_getElem? (i := 22) rfl) rfl
theorem q0_23 : Cond.selects RX5 yX5_noPerson yX5_noPerson ∈ kBIG := kT0 (List.mem_of_getElem? (i := 23) rfl) rfl
theorem q0_24 : Cond.selects RX5 yX5_scentOf yX5_scentOf ∈ kBIG := kT0 (List.mem_of_getElem? (i := 24) rfl) rfl
theorem q0_25 : Cond.selects RX5 yX5_isSmelt yX5_isSmelt ∈ kBIG := kT0 (List.mem_of_getElem? (i := 25) rfl) rfl
theorem q0_26 : Cond.selects RX5 yX5_wayTo yX5_wayTo ∈ kBIG := kT0 (List.mem_of_getElem? (i := 26) rfl) rfl
theorem q0_27 : Cond.selects RX5 yX5_goesTo yX5_goesTo ∈ kBIG := kT0 (List.mem_of_getElem? (i := 27) rfl) rfl
theorem q0_28 : Cond.selects RX5 yX5_sent yX5_sent ∈ kBIG := kT0 (List.mem_of_getElem? (i := 28) rfl) rfl
theorem q0_29 : Cond.selects RX5 yX5_pairsBarred yX5_pairsBarred ∈ kBIG := kT0 (List.mem_of_getElem? (i := 29) rfl) rfl
theorem q0_30 : Cond.selects RX5 yX5_keepAll yX5_keepAll ∈ kBIG := kT0 (List.mem_of_getElem? (i := 30) rfl) rfl
theorem q0_31 : Cond.selects RX5 yX5_roundBy yX5_roundBy ∈ kBIG := kT0 (List.mem_of_getElem? (i := 31) rfl) rfl
theorem q0_32 : Cond.selects RX5 yX5_bringBack yX5_bringBack ∈ kBIG := kT0 (List.mem_of_getElem? (i := 32) rfl) rfl
theorem q0_33 : Cond.selects RX5 yX5_comeNow yX5_comeNow ∈ kBIG := kT0 (List.mem_of_getElem? (i := 33) rfl) rfl
theorem q0_34 : Cond.selects RX5 yX5_bestOrder yX5_bestOrder ∈ kBIG := kT0 (List.mem_of_getElem? (i := 34) rfl) rfl
theorem q0_35 : Cond.selects RX5 yX5_comeInOrder yX5_comeInOrder ∈ kBIG := kT0 (List.mem_of_getElem? (i := 35) rfl) rfl
theorem q0_36 : Cond.selects RX5 yX5_nextOrder yX5_nextOrder ∈ kBIG := kT0 (List.mem_of_getElem? (i := 36) rfl) rfl
theorem q0_37 : Cond.selects RX5 yX5_exchange yX5_exchange ∈ kBIG := kT0 (List.mem_of_getElem? (i := 37) rfl) rfl
theorem q0_38 : Cond.selects RX5 yX5_spreads yX5_spreads ∈ kBIG := kT0 (List.mem_of_getElem? (i := 38) rfl) rfl
theorem q0_39 : Cond.selects RX5 yX5_asMet yX5_asMet ∈ kBIG := kT0 (List.mem_of_getElem? (i := 39) rfl) rfl
theorem q0_40 : Cond.selects RX5 yX5_areSo yX5_areSo ∈ kBIG := kT0 (List.mem_of_getElem? (i := 40) rfl) rfl
theorem q0_41 : Cond.selects RX5 yX5_noCell yX5_noCell ∈ kBIG := kT0 (List.mem_of_getElem? (i := 41) rfl) rfl
theorem q0_42 : Cond.selects RX5 yX5_failedLong yX5_failedLong ∈ kBIG := kT0 (List.mem_of_getElem? (i := 42) rfl) rfl
theorem q0_43 : Cond.selects RX5 yX5_traced yX5_traced ∈ kBIG := kT0 (List.mem_of_getElem? (i := 43) rfl) rfl
theorem q1_0 : Cond.initialized RL ∈ kBIG := kT1 (List.mem_of_getElem? (i := 0) rfl) rfl
theorem q1_1 : Cond.initialized RX4 ∈ kBIG := kT1 (List.mem_of_getElem? (i := 1) rfl) rfl
theorem q1_2 : Cond.initialized RX0 ∈ kBIG := kT1 (List.mem_of_getElem? (i := 2) rfl) rfl
theorem q1_3 : Cond.initialized RX1 ∈ kBIG := kT1 (List.mem_of_getElem? (i := 3) rfl) rfl
theorem q1_4 : Cond.initialized RX2 ∈ kBIG := kT1 (List.mem_of_getElem? (i := 4) rfl) rfl
theorem q1_5 : Cond.initialized RX5 ∈ kBIG := kT1 (List.mem_of_getElem? (i := 5) rfl) rfl
theorem q1_6 : Cond.initialized RX3 ∈ kBIG := kT1 (List.mem_of_getElem? (i := 6) rfl) rfl
theorem q1_7 : Cond.initialized RJ6 ∈ kBIG := kT1 (List.mem_of_getElem? (i := 7) rfl) rfl
theorem q1_8 : Cond.initialized RJ9 ∈ kBIG := kT1 (List.mem_of_getElem? (i := 8) rfl) rfl
theorem q1_9 : Cond.initialized RJ10 ∈ kBIG := kT1 (List.mem_of_getElem? (i := 9) rfl) rfl
theorem q1_10 : Cond.classLink RL 7 "NosePost" ∈ kBIG := kT1 (List.mem_of_getElem? (i := 10) rfl) rfl
theorem q1_11 : Cond.instantiable RX4 13 ∈ kBIG := kT1 (List.mem_of_getElem? (i := 11) rfl) rfl
theorem q1_12 : Cond.methodLink RL 9 yX4_init ∈ kBIG := kT1 (List.mem_of_getElem? (i := 12) rfl) rfl
theorem q1_13 : Cond.instanceMethod yX4_init ∈ kBIG := kT1 (List.mem_of_getElem? (i := 13) rfl) rfl
theorem q1_14 : Cond.code yX4_init cX4_init 2 none ∈ kBIG := kT1 (List.mem_of_getElem? (i := 14) rfl) rfl
theorem q1_15 : Cond.methodLink RX4 3 ⟨"java/lang/Object", "<init>", "()V"⟩ ∈ kBIG := kT1 (List.mem_of_getElem? (i := 15) rfl) rfl
theorem q1_16 : Cond.instanceMethod ⟨"java/lang/Object", "<init>", "()V"⟩ ∈ kBIG := kT1 (List.mem_of_getElem? (i := 16) rfl) rfl
theorem q1_17 : Cond.code ⟨"java/lang/Object", "<init>", "()V"⟩ object_method_1_code 1 none ∈ kBIG := kT1 (List.mem_of_getElem? (i := 17) rfl) rfl
theorem q1_18 : Cond.classLink RX4 9 "NosePost$Moor" ∈ kBIG := kT1 (List.mem_of_getElem? (i := 18) rfl) rfl
theorem q1_19 : Cond.instantiable RX0 7 ∈ kBIG := kT1 (List.mem_of_getElem? (i := 19) rfl) rfl
theorem q1_20 : Cond.methodLink RX4 11 yX0_init ∈ kBIG := kT1 (List.mem_of_getElem? (i := 20) rfl) rfl
theorem q1_21 : Cond.instanceMethod yX0_init ∈ kBIG := kT1 (List.mem_of_getElem? (i := 21) rfl) rfl
theorem q1_22 : Cond.code yX0_init cX0_init 1 none ∈ kBIG := kT1 (List.mem_of_getElem? (i := 22) rfl) rfl
theorem q1_23 : Cond.methodLink RX0 3 ⟨"java/lang/Object", "<init>", "()V"⟩ ∈ kBIG := kT1 (List.mem_of_getElem? (i := 23) rfl) rfl
theorem q1_24 : Cond.fieldLink RX0 24 "NosePost$Moor" "post" "I" ∈ kBIG := kT1 (List.mem_of_getElem? (i := 24) rfl) rfl
theorem q1_25 : Cond.fieldLink RX4 123 "NosePost$Moor" "post" "I" ∈ kBIG := kT1 (List.mem_of_getElem? (i := 25) rfl) rfl
theorem q1_26 : Cond.fieldLink RX3 21 "NosePost$Moor" "post" "I" ∈ kBIG := kT1 (List.mem_of_getElem? (i := 26) rfl) rfl
theorem q1_27 : Cond.fieldLink RX0 28 "NosePost$Moor" "lax" "I" ∈ kBIG := kT1 (List.mem_of_getElem? (i := 27) rfl) rfl
theorem q1_28 : Cond.fieldLink RX3 27 "NosePost$Moor" "lax" "I" ∈ kBIG := kT1 (List.mem_of_getElem? (i := 28) rfl) rfl
theorem q1_29 : Cond.fieldLink RX4 126 "NosePost$Moor" "lax" "I" ∈ kBIG := kT1 (List.mem_of_getElem? (i := 29) rfl) rfl
theorem q1_30 : Cond.fieldLink RX0 31 "NosePost$Moor" "people" "I" ∈ kBIG := kT1 (List.mem_of_getElem? (i := 30) rfl) rfl
theorem q1_31 : Cond.fieldLink RX4 92 "NosePost$Moor" "people" "I" ∈ kBIG := kT1 (List.mem_of_getElem? (i := 31) rfl) rfl
theorem q1_32 : Cond.fieldLink RX3 30 "NosePost$Moor" "people" "I" ∈ kBIG := kT1 (List.mem_of_getElem? (i := 32) rfl) rfl
theorem q1_33 : Cond.fieldLink RX0 9 "NosePost$Moor" "kind" "[I" ∈ kBIG := kT1 (List.mem_of_getElem? (i := 33) rfl) rfl
theorem q1_34 : Cond.fieldLink RX4 98 "NosePost$Moor" "kind" "[I" ∈ kBIG := kT1 (List.mem_of_getElem? (i := 34) rfl) rfl
theorem q1_35 : Cond.fieldLink RX3 33 "NosePost$Moor" "kind" "[I" ∈ kBIG := kT1 (List.mem_of_getElem? (i := 35) rfl) rfl
theorem q1_36 : Cond.fieldLink RX0 15 "NosePost$Moor" "smell" "[I" ∈ kBIG := kT1 (List.mem_of_getElem? (i := 36) rfl) rfl
theorem q1_37 : Cond.fieldLink RX4 101 "NosePost$Moor" "smell" "[I" ∈ kBIG := kT1 (List.mem_of_getElem? (i := 37) rfl) rfl
theorem q1_38 : Cond.fieldLink RX3 41 "NosePost$Moor" "smell" "[I" ∈ kBIG := kT1 (List.mem_of_getElem? (i := 38) rfl) rfl
theorem q1_39 : Cond.fieldLink RX0 18 "NosePost$Moor" "was" "[I" ∈ kBIG := kT1 (List.mem_of_getElem? (i := 39) rfl) rfl
theorem q1_40 : Cond.fieldLink RX4 104 "NosePost$Moor" "was" "[I" ∈ kBIG := kT1 (List.mem_of_getElem? (i := 40) rfl) rfl
theorem q1_41 : Cond.fieldLink RX3 44 "NosePost$Moor" "was" "[I" ∈ kBIG := kT1 (List.mem_of_getElem? (i := 41) rfl) rfl
theorem q1_42 : Cond.fieldLink RX0 21 "NosePost$Moor" "place" "[I" ∈ kBIG := kT1 (List.mem_of_getElem? (i := 42) rfl) rfl
theorem q1_43 : Cond.fieldLink RX4 107 "NosePost$Moor" "place" "[I" ∈ kBIG := kT1 (List.mem_of_getElem? (i := 43) rfl) rfl
theorem q1_44 : Cond.fieldLink RX3 47 "NosePost$Moor" "place" "[I" ∈ kBIG := kT1 (List.mem_of_getElem? (i := 44) rfl) rfl
theorem q1_45 : Cond.lays RX0 "NosePost$Moor" "post" "I" ∈ kBIG := kT1 (List.mem_of_getElem? (i := 45) rfl) rfl
theorem q1_47 : Cond.lays RX0 "NosePost$Moor" "lax" "I" ∈ kBIG := kT1 (List.mem_of_getElem? (i := 47) rfl) rfl
theorem q1_49 : Cond.lays RX0 "NosePost$Moor" "people" "I" ∈ kBIG := kT1 (List.mem_of_getElem? (i := 49) rfl) rfl
theorem q1_51 : Cond.laysFinal RX0 "NosePost$Moor" "kind" "[I" ∈ kBIG := kT1 (List.mem_of_getElem? (i := 51) rfl) rfl
theorem q1_53 : Cond.laysFinal RX0 "NosePost$Moor" "smell" "[I" ∈ kBIG := kT1 (List.mem_of_getElem? (i := 53) rfl) rfl
theorem q1_55 : Cond.laysFinal RX0 "NosePost$Moor" "was" "[I" ∈ kBIG := kT1 (List.mem_of_getElem? (i := 55) rfl) rfl
theorem q1_57 : Cond.laysFinal RX0 "NosePost$Moor" "place" "[I" ∈ kBIG := kT1 (List.mem_of_getElem? (i := 57) rfl) rfl
theorem q1_60 : Cond.arrayClass .int ∈ kBIG := kT1 (List.mem_of_getElem? (i := 60) rfl) rfl
theorem q1_61 : Cond.classLink RX4 21 "NosePost$Sheet" ∈ kBIG := kT1 (List.mem_of_getElem? (i := 61) rfl) rfl
theorem q1_63 : Cond.instantiable RX1 4 ∈ kBIG := kT1 (List.mem_of_getElem? (i := 63) rfl) rfl
theorem q1_64 : Cond.methodLink RX4 27 yX1_init ∈ kBIG := kT1 (List.mem_of_getElem? (i := 64) rfl) rfl
theorem q1_65 : Cond.instanceMethod yX1_init ∈ kBIG := kT1 (List.mem_of_getElem? (i := 65) rfl) rfl
theorem q1_66 : Cond.code yX1_init cX1_init 1 none ∈ kBIG := kT1 (List.mem_of_getElem? (i := 66) rfl) rfl
theorem q1_67 : Cond.methodLink RX1 3 ⟨"java/lang/Object", "<init>", "()V"⟩ ∈ kBIG := kT1 (List.mem_of_getElem? (i := 67) rfl) rfl
theorem q1_68 : Cond.fieldLink RX1 15 "NosePost$Sheet" "hasRow" "Z" ∈ kBIG := kT1 (List.mem_of_getElem? (i := 68) rfl) rfl
theorem q1_69 : Cond.fieldLink RX4 183 "NosePost$Sheet" "hasRow" "Z" ∈ kBIG := kT1 (List.mem_of_getElem? (i := 69) rfl) rfl
theorem q1_70 : Cond.fieldLink RX1 19 "NosePost$Sheet" "lane" "I" ∈ kBIG := kT1 (List.mem_of_getElem? (i := 70) rfl) rfl
theorem q1_71 : Cond.fieldLink RX4 193 "NosePost$Sheet" "lane" "I" ∈ kBIG := kT1 (List.mem_of_getElem? (i := 71) rfl) rfl
theorem q1_72 : Cond.fieldLink RX1 23 "NosePost$Sheet" "length" "I" ∈ kBIG := kT1 (List.mem_of_getElem? (i := 72) rfl) rfl
theorem q1_73 : Cond.fieldLink RX1 9 "NosePost$Sheet" "cells" "[I" ∈ kBIG := kT1 (List.mem_of_getElem? (i := 73) rfl) rfl
theorem q1_74 : Cond.fieldLink RX4 73 "NosePost$Sheet" "cells" "[I" ∈ kBIG := kT1 (List.mem_of_getElem? (i := 74) rfl) rfl
theorem q1_75 : Cond.lays RX1 "NosePost$Sheet" "hasRow" "Z" ∈ kBIG := kT1 (List.mem_of_getElem? (i := 75) rfl) rfl
theorem q1_77 : Cond.lays RX1 "NosePost$Sheet" "lane" "I" ∈ kBIG := kT1 (List.mem_of_getElem? (i := 77) rfl) rfl
theorem q1_79 : Cond.lays RX1 "NosePost$Sheet" "length" "I" ∈ kBIG := kT1 (List.mem_of_getElem? (i := 79) rfl) rfl
theorem q1_81 : Cond.laysFinal RX1 "NosePost$Sheet" "cells" "[I" ∈ kBIG := kT1 (List.mem_of_getElem? (i := 81) rfl) rfl
theorem q1_84 : Cond.classLink RX4 28 "NosePost$Tally" ∈ kBIG := kT1 (List.mem_of_getElem? (i := 84) rfl) rfl
theorem q1_85 : Cond.instantiable RX2 4 ∈ kBIG := kT1 (List.mem_of_getElem? (i := 85) rfl) rfl
theorem q1_87 : Cond.instanceMethod yX2_init ∈ kBIG := kT1 (List.mem_of_getElem? (i := 87) rfl) rfl
theorem q1_88 : Cond.code yX2_init cX2_init 1 none ∈ kBIG := kT1 (List.mem_of_getElem? (i := 88) rfl) rfl
theorem q1_89 : Cond.methodLink RX2 3 ⟨"java/lang/Object", "<init>", "()V"⟩ ∈ kBIG := kT1 (List.mem_of_getElem? (i := 89) rfl) rfl
theorem q1_90 : Cond.fieldLink RX2 9 "NosePost$Tally" "came" "I" ∈ kBIG := kT1 (List.mem_of_getElem? (i := 90) rfl) rfl
theorem q1_91 : Cond.fieldLink RX4 225 "NosePost$Tally" "came" "I" ∈ kBIG := kT1 (List.mem_of_getElem? (i := 91) rfl) rfl
theorem q1_92 : Cond.fieldLink RX2 15 "NosePost$Tally" "firstWrong" "I" ∈ kBIG := kT1 (List.mem_of_getElem? (i := 92) rfl) rfl
theorem q1_93 : Cond.fieldLink RX4 228 "NosePost$Tally" "firstWrong" "I" ∈ kBIG := kT1 (List.mem_of_getElem? (i := 93) rfl) rfl
theorem q1_94 : Cond.fieldLink RX2 18 "NosePost$Tally" "getters" "I" ∈ kBIG := kT1 (List.mem_of_getElem? (i := 94) rfl) rfl
theorem q1_95 : Cond.fieldLink RX4 231 "NosePost$Tally" "getters" "I" ∈ kBIG := kT1 (List.mem_of_getElem? (i := 95) rfl) rfl
theorem q1_96 : Cond.fieldLink RX2 21 "NosePost$Tally" "home" "I" ∈ kBIG := kT1 (List.mem_of_getElem? (i := 96) rfl) rfl
theorem q1_97 : Cond.fieldLink RX4 234 "NosePost$Tally" "home" "I" ∈ kBIG := kT1 (List.mem_of_getElem? (i := 97) rfl) rfl
theorem q1_98 : Cond.lays RX2 "NosePost$Tally" "came" "I" ∈ kBIG := kT1 (List.mem_of_getElem? (i := 98) rfl) rfl
theorem q1_100 : Cond.lays RX2 "NosePost$Tally" "firstWrong" "I" ∈ kBIG := kT1 (List.mem_of_getElem? (i := 100) rfl) rfl
theorem q1_102 : Cond.lays RX2 "NosePost$Tally" "getters" "I" ∈ kBIG := kT1 (List.mem_of_getElem? (i := 102) rfl) rfl
theorem q1_104 : Cond.lays RX2 "NosePost$Tally" "home" "I" ∈ kBIG := kT1 (List.mem_of_getElem? (i := 104) rfl) rfl
theorem q1_107 : Cond.fieldLink RX4 12 "NosePost" "now" "LNosePost$Moor;" ∈ kBIG := kT1 (List.mem_of_getElem? (i := 107) rfl) rfl
theorem q1_108 : Cond.fieldLink RX4 18 "NosePost" "draft" "LNosePost$Moor;" ∈ kBIG := kT1 (List.mem_of_getElem? (i := 108) rfl) rfl
theorem q1_109 : Cond.fieldLink RX4 23 "NosePost" "sheets" "[LNosePost$Sheet;" ∈ kBIG := kT1 (List.mem_of_getElem? (i := 109) rfl) rfl
theorem q1_110 : Cond.fieldLink RX4 31 "NosePost" "tally" "LNosePost$Tally;" ∈ kBIG := kT1 (List.mem_of_getElem? (i := 110) rfl) rfl
theorem q1_111 : Cond.fieldLink RX4 35 "NosePost" "readingFor" "[I" ∈ kBIG := kT1 (List.mem_of_getElem? (i := 111) rfl) rfl
theorem q1_112 : Cond.fieldLink RX4 39 "NosePost" "readingTo" "[I" ∈ kBIG := kT1 (List.mem_of_getElem? (i := 112) rfl) rfl
theorem q1_113 : Cond.fieldLink RX4 42 "NosePost" "goesAtFirst" "[I" ∈ kBIG := kT1 (List.mem_of_getElem? (i := 113) rfl) rfl
theorem q1_114 : Cond.fieldLink RX4 45 "NosePost" "tried" "[I" ∈ kBIG := kT1 (List.mem_of_getElem? (i := 114) rfl) rfl
theorem q1_115 : Cond.fieldLink RX4 48 "NosePost" "best" "[I" ∈ kBIG := kT1 (List.mem_of_getElem? (i := 115) rfl) rfl
theorem q1_116 : Cond.fieldLink RX4 86 "NosePost" "readings" "I" ∈ kBIG := kT1 (List.mem_of_getElem? (i := 116) rfl) rfl
theorem q1_117 : Cond.fieldLink RX4 89 "NosePost" "letters" "I" ∈ kBIG := kT1 (List.mem_of_getElem? (i := 117) rfl) rfl
theorem q1_118 : Cond.fieldLink RX4 215 "NosePost" "traced" "I" ∈ kBIG := kT1 (List.mem_of_getElem? (i := 118) rfl) rfl
theorem q1_119 : Cond.fieldLink RX4 51 "NosePost" "lastFault" "I" ∈ kBIG := kT1 (List.mem_of_getElem? (i := 119) rfl) rfl
theorem q1_120 : Cond.laysFinal RX4 "NosePost" "now" "LNosePost$Moor;" ∈ kBIG := kT1 (List.mem_of_getElem? (i := 120) rfl) rfl
theorem q1_122 : Cond.laysFinal RX4 "NosePost" "draft" "LNosePost$Moor;" ∈ kBIG := kT1 (List.mem_of_getElem? (i := 122) rfl) rfl
theorem q1_124 : Cond.laysFinal RX4 "NosePost" "sheets" "[LNosePost$Sheet;" ∈ kBIG := kT1 (List.mem_of_getElem? (i := 124) rfl) rfl
theorem q1_126 : Cond.laysFinal RX4 "NosePost" "tally" "LNosePost$Tally;" ∈ kBIG := kT1 (List.mem_of_getElem? (i := 126) rfl) rfl
theorem q1_128 : Cond.laysFinal RX4 "NosePost" "readingFor" "[I" ∈ kBIG := kT1 (List.mem_of_getElem? (i := 128) rfl) rfl
theorem q1_130 : Cond.laysFinal RX4 "NosePost" "readingTo" "[I" ∈ kBIG := kT1 (List.mem_of_getElem? (i := 130) rfl) rfl
theorem q1_132 : Cond.laysFinal RX4 "NosePost" "goesAtFirst" "[I" ∈ kBIG := kT1 (List.mem_of_getElem? (i := 132) rfl) rfl
theorem q1_134 : Cond.laysFinal RX4 "NosePost" "tried" "[I" ∈ kBIG := kT1 (List.mem_of_getElem? (i := 134) rfl) rfl
theorem q1_136 : Cond.laysFinal RX4 "NosePost" "best" "[I" ∈ kBIG := kT1 (List.mem_of_getElem? (i := 136) rfl) rfl
theorem q1_138 : Cond.lays RX4 "NosePost" "readings" "I" ∈ kBIG := kT1 (List.mem_of_getElem? (i := 138) rfl) rfl
theorem q1_140 : Cond.lays RX4 "NosePost" "letters" "I" ∈ kBIG := kT1 (List.mem_of_getElem? (i := 140) rfl) rfl
theorem q1_142 : Cond.lays RX4 "NosePost" "traced" "I" ∈ kBIG := kT1 (List.mem_of_getElem? (i := 142) rfl) rfl
theorem q1_144 : Cond.lays RX4 "NosePost" "lastFault" "I" ∈ kBIG := kT1 (List.mem_of_getElem? (i := 144) rfl) rfl
theorem q1_147 : Cond.methodLink RL 13 yX4_moor ∈ kBIG := kT1 (List.mem_of_getElem? (i := 147) rfl) rfl
theorem q1_148 : Cond.instanceMethod yX4_moor ∈ kBIG := kT1 (List.mem_of_getElem? (i := 148) rfl) rfl
theorem q1_149 : Cond.selects RX4 yX4_moor yX4_moor ∈ kBIG := kT1 (List.mem_of_getElem? (i := 149) rfl) rfl
theorem q1_150 : Cond.code yX4_moor cX4_moor 8 (some .int) ∈ kBIG := kT1 (List.mem_of_getElem? (i := 150) rfl) rfl
theorem q1_151 : Cond.methodLink RX4 55 yX4_isSheet ∈ kBIG := kT1 (List.mem_of_getElem? (i := 151) rfl) rfl
theorem q1_152 : Cond.static yX4_isSheet ∈ kBIG := kT1 (List.mem_of_getElem? (i := 152) rfl) rfl
theorem q1_153 : Cond.code yX4_isSheet cX4_isSheet 1 (some .boolean) ∈ kBIG := kT1 (List.mem_of_getElem? (i := 153) rfl) rfl
theorem q1_154 : Cond.methodLink RX4 59 yX4_isBelow ∈ kBIG := kT1 (List.mem_of_getElem? (i := 154) rfl) rfl
theorem q1_155 : Cond.static yX4_isBelow ∈ kBIG := kT1 (List.mem_of_getElem? (i := 155) rfl) rfl
theorem q1_156 : Cond.code yX4_isBelow cX4_isBelow 2 (some .boolean) ∈ kBIG := kT1 (List.mem_of_getElem? (i := 156) rfl) rfl
theorem q1_157 : Cond.methodLink RX4 63 yX1_faultAs ∈ kBIG := kT1 (List.mem_of_getElem? (i := 157) rfl) rfl
theorem q1_158 : Cond.instanceMethod yX1_faultAs ∈ kBIG := kT1 (List.mem_of_getElem? (i := 158) rfl) rfl
theorem q1_159 : Cond.selects RX1 yX1_faultAs yX1_faultAs ∈ kBIG := kT1 (List.mem_of_getElem? (i := 159) rfl) rfl
theorem q1_160 : Cond.code yX1_faultAs cX1_faultAs 2 (some .int) ∈ kBIG := kT1 (List.mem_of_getElem? (i := 160) rfl) rfl
theorem q1_161 : Cond.methodLink RX4 67 yX1_spans ∈ kBIG := kT1 (List.mem_of_getElem? (i := 161) rfl) rfl
theorem q1_162 : Cond.instanceMethod yX1_spans ∈ kBIG := kT1 (List.mem_of_getElem? (i := 162) rfl) rfl
theorem q1_163 : Cond.selects RX1 yX1_spans yX1_spans ∈ kBIG := kT1 (List.mem_of_getElem? (i := 163) rfl) rfl
theorem q1_164 : Cond.code yX1_spans cX1_spans 3 (some .boolean) ∈ kBIG := kT1 (List.mem_of_getElem? (i := 164) rfl) rfl
theorem q1_165 : Cond.methodLink RX4 70 yX4_faulted ∈ kBIG := kT1 (List.mem_of_getElem? (i := 165) rfl) rfl
theorem q1_167 : Cond.instanceMethod yX4_faulted ∈ kBIG := kT1 (List.mem_of_getElem? (i := 167) rfl) rfl
theorem q1_168 : Cond.code yX4_faulted cX4_faulted 2 (some .int) ∈ kBIG := kT1 (List.mem_of_getElem? (i := 168) rfl) rfl
theorem q1_169 : Cond.methodLink RX4 76 yX3_firstFault ∈ kBIG := kT1 (List.mem_of_getElem? (i := 169) rfl) rfl
theorem q1_170 : Cond.static yX3_firstFault ∈ kBIG := kT1 (List.mem_of_getElem? (i := 170) rfl) rfl
theorem q1_171 : Cond.code yX3_firstFault cX3_firstFault 4 (some .int) ∈ kBIG := kT1 (List.mem_of_getElem? (i := 171) rfl) rfl
theorem q1_172 : Cond.methodLink RX3 11 yX3_goesOnWith ∈ kBIG := kT1 (List.mem_of_getElem? (i := 172) rfl) rfl
theorem q1_173 : Cond.static yX3_goesOnWith ∈ kBIG := kT1 (List.mem_of_getElem? (i := 173) rfl) rfl
theorem q1_174 : Cond.code yX3_goesOnWith cX3_goesOnWith 2 (some .boolean) ∈ kBIG := kT1 (List.mem_of_getElem? (i := 174) rfl) rfl
theorem q1_175 : Cond.methodLink RX3 15 yX3_isDigitBelow ∈ kBIG := kT1 (List.mem_of_getElem? (i := 175) rfl) rfl
theorem q1_176 : Cond.static yX3_isDigitBelow ∈ kBIG := kT1 (List.mem_of_getElem? (i := 176) rfl) rfl
theorem q1_177 : Cond.code yX3_isDigitBelow cX3_isDigitBelow 2 (some .boolean) ∈ kBIG := kT1 (List.mem_of_getElem? (i := 177) rfl) rfl
theorem q1_179 : Cond.methodLink RX4 82 yX3_fill ∈ kBIG := kT1 (List.mem_of_getElem? (i := 179) rfl) rfl
theorem q1_180 : Cond.static yX3_fill ∈ kBIG := kT1 (List.mem_of_getElem? (i := 180) rfl) rfl
theorem q1_181 : Cond.code yX3_fill cX3_fill 6 none ∈ kBIG := kT1 (List.mem_of_getElem? (i := 181) rfl) rfl
theorem q1_182 : Cond.methodLink RX3 37 yX3_kindOf ∈ kBIG := kT1 (List.mem_of_getElem? (i := 182) rfl) rfl
theorem q1_183 : Cond.static yX3_kindOf ∈ kBIG := kT1 (List.mem_of_getElem? (i := 183) rfl) rfl
theorem q1_184 : Cond.code yX3_kindOf cX3_kindOf 1 (some .int) ∈ kBIG := kT1 (List.mem_of_getElem? (i := 184) rfl) rfl
theorem q1_185 : Cond.methodLink RL 18 yX4_ofPerson ∈ kBIG := kT1 (List.mem_of_getElem? (i := 185) rfl) rfl
theorem q1_186 : Cond.instanceMethod yX4_ofPerson ∈ kBIG := kT1 (List.mem_of_getElem? (i := 186) rfl) rfl
theorem q1_187 : Cond.selects RX4 yX4_ofPerson yX4_ofPerson ∈ kBIG := kT1 (List.mem_of_getElem? (i := 187) rfl) rfl
theorem q1_188 : Cond.code yX4_ofPerson cX4_ofPerson 3 (some .int) ∈ kBIG := kT1 (List.mem_of_getElem? (i := 188) rfl) rfl
theorem q1_189 : Cond.methodLink RX4 95 yX4_isPerson ∈ kBIG := kT1 (List.mem_of_getElem? (i := 189) rfl) rfl
theorem q1_191 : Cond.instanceMethod yX4_isPerson ∈ kBIG := kT1 (List.mem_of_getElem? (i := 191) rfl) rfl
theorem q1_192 : Cond.code yX4_isPerson cX4_isPerson 2 (some .boolean) ∈ kBIG := kT1 (List.mem_of_getElem? (i := 192) rfl) rfl
theorem q1_193 : Cond.methodLink RX4 110 yX0_scentOf ∈ kBIG := kT1 (List.mem_of_getElem? (i := 193) rfl) rfl
theorem q1_194 : Cond.instanceMethod yX0_scentOf ∈ kBIG := kT1 (List.mem_of_getElem? (i := 194) rfl) rfl
theorem q1_195 : Cond.selects RX0 yX0_scentOf yX0_scentOf ∈ kBIG := kT1 (List.mem_of_getElem? (i := 195) rfl) rfl
theorem q1_196 : Cond.code yX0_scentOf cX0_scentOf 3 (some .int) ∈ kBIG := kT1 (List.mem_of_getElem? (i := 196) rfl) rfl
theorem q1_197 : Cond.methodLink RX0 40 yJ6_bitCount_0f7a4 ∈ kBIG := kT1 (List.mem_of_getElem? (i := 197) rfl) rfl
theorem q1_198 : Cond.static yJ6_bitCount_0f7a4 ∈ kBIG := kT1 (List.mem_of_getElem? (i := 198) rfl) rfl
theorem q1_199 : Cond.code yJ6_bitCount_0f7a4 cJ6_bitCount_0f7a4 1 (some .int) ∈ kBIG := kT1 (List.mem_of_getElem? (i := 199) rfl) rfl
theorem q1_200 : Cond.constant RJ6 265 (1431655765) ∈ kBIG := kT1 (List.mem_of_getElem? (i := 200) rfl) rfl
theorem q1_201 : Cond.constant RJ6 266 (858993459) ∈ kBIG := kT1 (List.mem_of_getElem? (i := 201) rfl) rfl
theorem q1_202 : Cond.constant RJ6 267 (252645135) ∈ kBIG := kT1 (List.mem_of_getElem? (i := 202) rfl) rfl
theorem q1_203 : Cond.methodLink RX4 113 yX0_isSmelt ∈ kBIG := kT1 (List.mem_of_getElem? (i := 203) rfl) rfl
theorem q1_204 : Cond.instanceMethod yX0_isSmelt ∈ kBIG := kT1 (List.mem_of_getElem? (i := 204) rfl) rfl
theorem q1_205 : Cond.selects RX0 yX0_isSmelt yX0_isSmelt ∈ kBIG := kT1 (List.mem_of_getElem? (i := 205) rfl) rfl
theorem q1_206 : Cond.code yX0_isSmelt cX0_isSmelt 2 (some .boolean) ∈ kBIG := kT1 (List.mem_of_getElem? (i := 206) rfl) rfl
theorem q1_207 : Cond.methodLink RX0 51 yX0_distanceOf ∈ kBIG := kT1 (List.mem_of_getElem? (i := 207) rfl) rfl
theorem q1_208 : Cond.instanceMethod yX0_distanceOf ∈ kBIG := kT1 (List.mem_of_getElem? (i := 208) rfl) rfl
theorem q1_209 : Cond.selects RX0 yX0_distanceOf yX0_distanceOf ∈ kBIG := kT1 (List.mem_of_getElem? (i := 209) rfl) rfl
theorem q1_210 : Cond.code yX0_distanceOf cX0_distanceOf 2 (some .int) ∈ kBIG := kT1 (List.mem_of_getElem? (i := 210) rfl) rfl
theorem q1_211 : Cond.methodLink RX0 46 yJ9_abs_0f7a4 ∈ kBIG := kT1 (List.mem_of_getElem? (i := 211) rfl) rfl
theorem q1_212 : Cond.static yJ9_abs_0f7a4 ∈ kBIG := kT1 (List.mem_of_getElem? (i := 212) rfl) rfl
theorem q1_213 : Cond.code yJ9_abs_0f7a4 cJ9_abs_0f7a4 1 (some .int) ∈ kBIG := kT1 (List.mem_of_getElem? (i := 213) rfl) rfl
theorem q1_214 : Cond.methodLink RX0 54 yX0_scentOf ∈ kBIG := kT1 (List.mem_of_getElem? (i := 214) rfl) rfl
theorem q1_215 : Cond.methodLink RX4 116 yX0_goesTo ∈ kBIG := kT1 (List.mem_of_getElem? (i := 215) rfl) rfl
theorem q1_216 : Cond.instanceMethod yX0_goesTo ∈ kBIG := kT1 (List.mem_of_getElem? (i := 216) rfl) rfl
theorem q1_217 : Cond.selects RX0 yX0_goesTo yX0_goesTo ∈ kBIG := kT1 (List.mem_of_getElem? (i := 217) rfl) rfl
theorem q1_218 : Cond.code yX0_goesTo cX0_goesTo 8 (some .int) ∈ kBIG := kT1 (List.mem_of_getElem? (i := 218) rfl) rfl
theorem q1_219 : Cond.methodLink RL 23 yX4_post ∈ kBIG := kT1 (List.mem_of_getElem? (i := 219) rfl) rfl
theorem q1_220 : Cond.instanceMethod yX4_post ∈ kBIG := kT1 (List.mem_of_getElem? (i := 220) rfl) rfl
theorem q1_221 : Cond.selects RX4 yX4_post yX4_post ∈ kBIG := kT1 (List.mem_of_getElem? (i := 221) rfl) rfl
theorem q1_222 : Cond.code yX4_post cX4_post 3 (some .int) ∈ kBIG := kT1 (List.mem_of_getElem? (i := 222) rfl) rfl
theorem q1_223 : Cond.methodLink RX4 119 yX4_hasNoMoor ∈ kBIG := kT1 (List.mem_of_getElem? (i := 223) rfl) rfl
theorem q1_225 : Cond.instanceMethod yX4_hasNoMoor ∈ kBIG := kT1 (List.mem_of_getElem? (i := 225) rfl) rfl
theorem q1_226 : Cond.code yX4_hasNoMoor cX4_hasNoMoor 1 (some .boolean) ∈ kBIG := kT1 (List.mem_of_getElem? (i := 226) rfl) rfl
theorem q1_227 : Cond.methodLink RL 28 yX4_lax ∈ kBIG := kT1 (List.mem_of_getElem? (i := 227) rfl) rfl
theorem q1_228 : Cond.instanceMethod yX4_lax ∈ kBIG := kT1 (List.mem_of_getElem? (i := 228) rfl) rfl
theorem q1_229 : Cond.selects RX4 yX4_lax yX4_lax ∈ kBIG := kT1 (List.mem_of_getElem? (i := 229) rfl) rfl
theorem q1_230 : Cond.code yX4_lax cX4_lax 3 (some .int) ∈ kBIG := kT1 (List.mem_of_getElem? (i := 230) rfl) rfl
theorem q1_231 : Cond.methodLink RL 32 yX4_bathe ∈ kBIG := kT1 (List.mem_of_getElem? (i := 231) rfl) rfl
theorem q1_232 : Cond.instanceMethod yX4_bathe ∈ kBIG := kT1 (List.mem_of_getElem? (i := 232) rfl) rfl
theorem q1_233 : Cond.selects RX4 yX4_bathe yX4_bathe ∈ kBIG := kT1 (List.mem_of_getElem? (i := 233) rfl) rfl
theorem q1_234 : Cond.code yX4_bathe cX4_bathe 3 (some .int) ∈ kBIG := kT1 (List.mem_of_getElem? (i := 234) rfl) rfl
theorem q1_235 : Cond.methodLink RX4 129 yX4_becomes ∈ kBIG := kT1 (List.mem_of_getElem? (i := 235) rfl) rfl
theorem q1_237 : Cond.instanceMethod yX4_becomes ∈ kBIG := kT1 (List.mem_of_getElem? (i := 237) rfl) rfl
theorem q1_238 : Cond.code yX4_becomes cX4_becomes 6 (some .int) ∈ kBIG := kT1 (List.mem_of_getElem? (i := 238) rfl) rfl
theorem q1_239 : Cond.methodLink RL 36 yX4_moves ∈ kBIG := kT1 (List.mem_of_getElem? (i := 239) rfl) rfl
theorem q2_0 : Cond.instanceMethod yX4_moves ∈ kBIG := kT2 (List.mem_of_getElem? (i := 0) rfl) rfl
theorem q2_1 : Cond.selects RX4 yX4_moves yX4_moves ∈ kBIG := kT2 (List.mem_of_getElem? (i := 1) rfl) rfl
theorem q2_2 : Cond.code yX4_moves cX4_moves 3 (some .int) ∈ kBIG := kT2 (List.mem_of_getElem? (i := 2) rfl) rfl
theorem q2_3 : Cond.methodLink RL 40 yX4_send ∈ kBIG := kT2 (List.mem_of_getElem? (i := 3) rfl) rfl
theorem q2_4 : Cond.instanceMethod yX4_send ∈ kBIG := kT2 (List.mem_of_getElem? (i := 4) rfl) rfl
theorem q2_5 : Cond.selects RX4 yX4_send yX4_send ∈ kBIG := kT2 (List.mem_of_getElem? (i := 5) rfl) rfl
theorem q2_6 : Cond.code yX4_send cX4_send 2 (some .int) ∈ kBIG := kT2 (List.mem_of_getElem? (i := 6) rfl) rfl
theorem q2_7 : Cond.methodLink RX4 133 yX0_deliver ∈ kBIG := kT2 (List.mem_of_getElem? (i := 7) rfl) rfl
theorem q2_8 : Cond.instanceMethod yX0_deliver ∈ kBIG := kT2 (List.mem_of_getElem? (i := 8) rfl) rfl
theorem q2_9 : Cond.selects RX0 yX0_deliver yX0_deliver ∈ kBIG := kT2 (List.mem_of_getElem? (i := 9) rfl) rfl
theorem q2_10 : Cond.code yX0_deliver cX0_deliver 3 (some .int) ∈ kBIG := kT2 (List.mem_of_getElem? (i := 10) rfl) rfl
theorem q2_11 : Cond.methodLink RX0 57 yX0_goesTo ∈ kBIG := kT2 (List.mem_of_getElem? (i := 11) rfl) rfl
theorem q2_12 : Cond.methodLink RL 44 yX4_comes ∈ kBIG := kT2 (List.mem_of_getElem? (i := 12) rfl) rfl
theorem q2_13 : Cond.instanceMethod yX4_comes ∈ kBIG := kT2 (List.mem_of_getElem? (i := 13) rfl) rfl
theorem q2_14 : Cond.selects RX4 yX4_comes yX4_comes ∈ kBIG := kT2 (List.mem_of_getElem? (i := 14) rfl) rfl
theorem q2_15 : Cond.code yX4_comes cX4_comes 2 (some .int) ∈ kBIG := kT2 (List.mem_of_getElem? (i := 15) rfl) rfl
theorem q2_16 : Cond.methodLink RX4 136 yX0_whoseCome ∈ kBIG := kT2 (List.mem_of_getElem? (i := 16) rfl) rfl
theorem q2_17 : Cond.instanceMethod yX0_whoseCome ∈ kBIG := kT2 (List.mem_of_getElem? (i := 17) rfl) rfl
theorem q2_18 : Cond.selects RX0 yX0_whoseCome yX0_whoseCome ∈ kBIG := kT2 (List.mem_of_getElem? (i := 18) rfl) rfl
theorem q2_19 : Cond.code yX0_whoseCome cX0_whoseCome 3 (some .int) ∈ kBIG := kT2 (List.mem_of_getElem? (i := 19) rfl) rfl
theorem q2_20 : Cond.methodLink RX4 140 yX0_whoGetOne ∈ kBIG := kT2 (List.mem_of_getElem? (i := 20) rfl) rfl
theorem q2_21 : Cond.instanceMethod yX0_whoGetOne ∈ kBIG := kT2 (List.mem_of_getElem? (i := 21) rfl) rfl
theorem q2_22 : Cond.selects RX0 yX0_whoGetOne yX0_whoGetOne ∈ kBIG := kT2 (List.mem_of_getElem? (i := 22) rfl) rfl
theorem q2_23 : Cond.code yX0_whoGetOne cX0_whoGetOne 3 (some .int) ∈ kBIG := kT2 (List.mem_of_getElem? (i := 23) rfl) rfl
theorem q2_25 : Cond.static yX4_withOne ∈ kBIG := kT2 (List.mem_of_getElem? (i := 25) rfl) rfl
theorem q2_26 : Cond.code yX4_withOne cX4_withOne 2 (some .int) ∈ kBIG := kT2 (List.mem_of_getElem? (i := 26) rfl) rfl
theorem q2_27 : Cond.methodLink RL 48 yX4_round ∈ kBIG := kT2 (List.mem_of_getElem? (i := 27) rfl) rfl
theorem q2_28 : Cond.instanceMethod yX4_round ∈ kBIG := kT2 (List.mem_of_getElem? (i := 28) rfl) rfl
theorem q2_29 : Cond.selects RX4 yX4_round yX4_round ∈ kBIG := kT2 (List.mem_of_getElem? (i := 29) rfl) rfl
theorem q2_30 : Cond.code yX4_round cX4_round 9 (some .int) ∈ kBIG := kT2 (List.mem_of_getElem? (i := 30) rfl) rfl
theorem q2_31 : Cond.methodLink RX4 143 yX4_isOfRound ∈ kBIG := kT2 (List.mem_of_getElem? (i := 31) rfl) rfl
theorem q2_32 : Cond.static yX4_isOfRound ∈ kBIG := kT2 (List.mem_of_getElem? (i := 32) rfl) rfl
theorem q2_33 : Cond.code yX4_isOfRound cX4_isOfRound 1 (some .boolean) ∈ kBIG := kT2 (List.mem_of_getElem? (i := 33) rfl) rfl
theorem q2_34 : Cond.methodLink RX4 146 yX4_refusalOfPairs ∈ kBIG := kT2 (List.mem_of_getElem? (i := 34) rfl) rfl
theorem q2_36 : Cond.instanceMethod yX4_refusalOfPairs ∈ kBIG := kT2 (List.mem_of_getElem? (i := 36) rfl) rfl
theorem q2_37 : Cond.code yX4_refusalOfPairs cX4_refusalOfPairs 6 (some .int) ∈ kBIG := kT2 (List.mem_of_getElem? (i := 37) rfl) rfl
theorem q2_38 : Cond.methodLink RX4 149 yX4_play ∈ kBIG := kT2 (List.mem_of_getElem? (i := 38) rfl) rfl
theorem q2_40 : Cond.instanceMethod yX4_play ∈ kBIG := kT2 (List.mem_of_getElem? (i := 40) rfl) rfl
theorem q2_41 : Cond.code yX4_play cX4_play 7 none ∈ kBIG := kT2 (List.mem_of_getElem? (i := 41) rfl) rfl
theorem q2_42 : Cond.methodLink RX4 156 yX0_become ∈ kBIG := kT2 (List.mem_of_getElem? (i := 42) rfl) rfl
theorem q2_43 : Cond.instanceMethod yX0_become ∈ kBIG := kT2 (List.mem_of_getElem? (i := 43) rfl) rfl
theorem q2_44 : Cond.selects RX0 yX0_become yX0_become ∈ kBIG := kT2 (List.mem_of_getElem? (i := 44) rfl) rfl
theorem q2_45 : Cond.code yX0_become cX0_become 2 none ∈ kBIG := kT2 (List.mem_of_getElem? (i := 45) rfl) rfl
theorem q2_46 : Cond.methodLink RX0 34 ⟨"java/lang/System", "arraycopy", "(Ljava/lang/Object;ILjava/lang/Object;II)V"⟩ ∈ kBIG := kT2 (List.mem_of_getElem? (i := 46) rfl) rfl
theorem q2_47 : Cond.static ⟨"java/lang/System", "arraycopy", "(Ljava/lang/Object;ILjava/lang/Object;II)V"⟩ ∈ kBIG := kT2 (List.mem_of_getElem? (i := 47) rfl) rfl
theorem q2_48 : Cond.native ⟨"java/lang/System", "arraycopy", "(Ljava/lang/Object;ILjava/lang/Object;II)V"⟩ ∈ kBIG := kT2 (List.mem_of_getElem? (i := 48) rfl) rfl
theorem q2_49 : Cond.methodLink RX4 218 yX2_clear ∈ kBIG := kT2 (List.mem_of_getElem? (i := 49) rfl) rfl
theorem q2_50 : Cond.instanceMethod yX2_clear ∈ kBIG := kT2 (List.mem_of_getElem? (i := 50) rfl) rfl
theorem q2_51 : Cond.selects RX2 yX2_clear yX2_clear ∈ kBIG := kT2 (List.mem_of_getElem? (i := 51) rfl) rfl
theorem q2_52 : Cond.code yX2_clear cX2_clear 1 none ∈ kBIG := kT2 (List.mem_of_getElem? (i := 52) rfl) rfl
theorem q2_53 : Cond.methodLink RX4 221 yX2_add ∈ kBIG := kT2 (List.mem_of_getElem? (i := 53) rfl) rfl
theorem q2_54 : Cond.instanceMethod yX2_add ∈ kBIG := kT2 (List.mem_of_getElem? (i := 54) rfl) rfl
theorem q2_55 : Cond.selects RX2 yX2_add yX2_add ∈ kBIG := kT2 (List.mem_of_getElem? (i := 55) rfl) rfl
theorem q2_56 : Cond.code yX2_add cX2_add 4 none ∈ kBIG := kT2 (List.mem_of_getElem? (i := 56) rfl) rfl
theorem q2_58 : Cond.methodLink RX4 153 yX4_ofRound ∈ kBIG := kT2 (List.mem_of_getElem? (i := 58) rfl) rfl
theorem q2_60 : Cond.instanceMethod yX4_ofRound ∈ kBIG := kT2 (List.mem_of_getElem? (i := 60) rfl) rfl
theorem q2_61 : Cond.code yX4_ofRound cX4_ofRound 2 (some .int) ∈ kBIG := kT2 (List.mem_of_getElem? (i := 61) rfl) rfl
theorem q2_62 : Cond.methodLink RL 53 yX4_strict ∈ kBIG := kT2 (List.mem_of_getElem? (i := 62) rfl) rfl
theorem q2_63 : Cond.instanceMethod yX4_strict ∈ kBIG := kT2 (List.mem_of_getElem? (i := 63) rfl) rfl
theorem q2_64 : Cond.selects RX4 yX4_strict yX4_strict ∈ kBIG := kT2 (List.mem_of_getElem? (i := 64) rfl) rfl
theorem q2_65 : Cond.code yX4_strict cX4_strict 3 (some .int) ∈ kBIG := kT2 (List.mem_of_getElem? (i := 65) rfl) rfl
theorem q2_66 : Cond.methodLink RL 57 yX4_site ∈ kBIG := kT2 (List.mem_of_getElem? (i := 66) rfl) rfl
theorem q2_67 : Cond.instanceMethod yX4_site ∈ kBIG := kT2 (List.mem_of_getElem? (i := 67) rfl) rfl
theorem q2_68 : Cond.selects RX4 yX4_site yX4_site ∈ kBIG := kT2 (List.mem_of_getElem? (i := 68) rfl) rfl
theorem q2_69 : Cond.code yX4_site cX4_site 6 (some .int) ∈ kBIG := kT2 (List.mem_of_getElem? (i := 69) rfl) rfl
theorem q2_70 : Cond.methodLink RX4 160 yJ6_bitCount_0f7a4 ∈ kBIG := kT2 (List.mem_of_getElem? (i := 70) rfl) rfl
theorem q2_71 : Cond.methodLink RL 61 yX4_order ∈ kBIG := kT2 (List.mem_of_getElem? (i := 71) rfl) rfl
theorem q2_72 : Cond.instanceMethod yX4_order ∈ kBIG := kT2 (List.mem_of_getElem? (i := 72) rfl) rfl
theorem q2_73 : Cond.selects RX4 yX4_order yX4_order ∈ kBIG := kT2 (List.mem_of_getElem? (i := 73) rfl) rfl
theorem q2_74 : Cond.code yX4_order cX4_order 3 (some .int) ∈ kBIG := kT2 (List.mem_of_getElem? (i := 74) rfl) rfl
theorem q2_75 : Cond.methodLink RX4 165 yX4_findBestOrder ∈ kBIG := kT2 (List.mem_of_getElem? (i := 75) rfl) rfl
theorem q2_77 : Cond.instanceMethod yX4_findBestOrder ∈ kBIG := kT2 (List.mem_of_getElem? (i := 77) rfl) rfl
theorem q2_78 : Cond.code yX4_findBestOrder cX4_findBestOrder 4 (some .int) ∈ kBIG := kT2 (List.mem_of_getElem? (i := 78) rfl) rfl
theorem q2_79 : Cond.methodLink RX4 237 yX4_comingInTriedOrder ∈ kBIG := kT2 (List.mem_of_getElem? (i := 79) rfl) rfl
theorem q2_81 : Cond.instanceMethod yX4_comingInTriedOrder ∈ kBIG := kT2 (List.mem_of_getElem? (i := 81) rfl) rfl
theorem q2_82 : Cond.code yX4_comingInTriedOrder cX4_comingInTriedOrder 6 (some .int) ∈ kBIG := kT2 (List.mem_of_getElem? (i := 82) rfl) rfl
theorem q2_83 : Cond.methodLink RX4 168 yX4_contains ∈ kBIG := kT2 (List.mem_of_getElem? (i := 83) rfl) rfl
theorem q2_84 : Cond.static yX4_contains ∈ kBIG := kT2 (List.mem_of_getElem? (i := 84) rfl) rfl
theorem q2_85 : Cond.code yX4_contains cX4_contains 2 (some .boolean) ∈ kBIG := kT2 (List.mem_of_getElem? (i := 85) rfl) rfl
theorem q2_86 : Cond.methodLink RX4 244 yX4_withOne ∈ kBIG := kT2 (List.mem_of_getElem? (i := 86) rfl) rfl
theorem q2_87 : Cond.methodLink RX4 196 ⟨"java/lang/System", "arraycopy", "(Ljava/lang/Object;ILjava/lang/Object;II)V"⟩ ∈ kBIG := kT2 (List.mem_of_getElem? (i := 87) rfl) rfl
theorem q2_88 : Cond.methodLink RX4 240 yX4_stepToNextRow ∈ kBIG := kT2 (List.mem_of_getElem? (i := 88) rfl) rfl
theorem q2_89 : Cond.static yX4_stepToNextRow ∈ kBIG := kT2 (List.mem_of_getElem? (i := 89) rfl) rfl
theorem q2_90 : Cond.code yX4_stepToNextRow cX4_stepToNextRow 6 (some .boolean) ∈ kBIG := kT2 (List.mem_of_getElem? (i := 90) rfl) rfl
theorem q2_91 : Cond.methodLink RX4 248 yX4_swap ∈ kBIG := kT2 (List.mem_of_getElem? (i := 91) rfl) rfl
theorem q2_92 : Cond.static yX4_swap ∈ kBIG := kT2 (List.mem_of_getElem? (i := 92) rfl) rfl
theorem q2_93 : Cond.code yX4_swap cX4_swap 4 none ∈ kBIG := kT2 (List.mem_of_getElem? (i := 93) rfl) rfl
theorem q2_94 : Cond.methodLink RL 65 yX4_ahead ∈ kBIG := kT2 (List.mem_of_getElem? (i := 94) rfl) rfl
theorem q2_95 : Cond.instanceMethod yX4_ahead ∈ kBIG := kT2 (List.mem_of_getElem? (i := 95) rfl) rfl
theorem q2_96 : Cond.selects RX4 yX4_ahead yX4_ahead ∈ kBIG := kT2 (List.mem_of_getElem? (i := 96) rfl) rfl
theorem q2_97 : Cond.code yX4_ahead cX4_ahead 2 (some .int) ∈ kBIG := kT2 (List.mem_of_getElem? (i := 97) rfl) rfl
theorem q2_98 : Cond.methodLink RL 69 yX4_reading ∈ kBIG := kT2 (List.mem_of_getElem? (i := 98) rfl) rfl
theorem q2_99 : Cond.instanceMethod yX4_reading ∈ kBIG := kT2 (List.mem_of_getElem? (i := 99) rfl) rfl
theorem q2_100 : Cond.selects RX4 yX4_reading yX4_reading ∈ kBIG := kT2 (List.mem_of_getElem? (i := 100) rfl) rfl
theorem q2_101 : Cond.code yX4_reading cX4_reading 3 (some .int) ∈ kBIG := kT2 (List.mem_of_getElem? (i := 101) rfl) rfl
theorem q2_102 : Cond.methodLink RL 73 yX4_back ∈ kBIG := kT2 (List.mem_of_getElem? (i := 102) rfl) rfl
theorem q2_103 : Cond.instanceMethod yX4_back ∈ kBIG := kT2 (List.mem_of_getElem? (i := 103) rfl) rfl
theorem q2_104 : Cond.selects RX4 yX4_back yX4_back ∈ kBIG := kT2 (List.mem_of_getElem? (i := 104) rfl) rfl
theorem q2_105 : Cond.code yX4_back cX4_back 2 (some .int) ∈ kBIG := kT2 (List.mem_of_getElem? (i := 105) rfl) rfl
theorem q2_106 : Cond.methodLink RL 77 yX4_smells ∈ kBIG := kT2 (List.mem_of_getElem? (i := 106) rfl) rfl
theorem q2_107 : Cond.instanceMethod yX4_smells ∈ kBIG := kT2 (List.mem_of_getElem? (i := 107) rfl) rfl
theorem q2_108 : Cond.selects RX4 yX4_smells yX4_smells ∈ kBIG := kT2 (List.mem_of_getElem? (i := 108) rfl) rfl
theorem q2_109 : Cond.code yX4_smells cX4_smells 2 (some .int) ∈ kBIG := kT2 (List.mem_of_getElem? (i := 109) rfl) rfl
theorem q2_110 : Cond.methodLink RX4 171 yX4_bySuchReadings ∈ kBIG := kT2 (List.mem_of_getElem? (i := 110) rfl) rfl
theorem q2_112 : Cond.instanceMethod yX4_bySuchReadings ∈ kBIG := kT2 (List.mem_of_getElem? (i := 112) rfl) rfl
theorem q2_113 : Cond.code yX4_bySuchReadings cX4_bySuchReadings 6 (some .int) ∈ kBIG := kT2 (List.mem_of_getElem? (i := 113) rfl) rfl
theorem q2_114 : Cond.methodLink RX4 251 yX4_readingsHoldInDraft ∈ kBIG := kT2 (List.mem_of_getElem? (i := 114) rfl) rfl
theorem q2_116 : Cond.instanceMethod yX4_readingsHoldInDraft ∈ kBIG := kT2 (List.mem_of_getElem? (i := 116) rfl) rfl
theorem q2_117 : Cond.code yX4_readingsHoldInDraft cX4_readingsHoldInDraft 2 (some .boolean) ∈ kBIG := kT2 (List.mem_of_getElem? (i := 117) rfl) rfl
theorem q2_118 : Cond.methodLink RL 81 yX4_pasts ∈ kBIG := kT2 (List.mem_of_getElem? (i := 118) rfl) rfl
theorem q2_119 : Cond.instanceMethod yX4_pasts ∈ kBIG := kT2 (List.mem_of_getElem? (i := 119) rfl) rfl
theorem q2_120 : Cond.selects RX4 yX4_pasts yX4_pasts ∈ kBIG := kT2 (List.mem_of_getElem? (i := 120) rfl) rfl
theorem q2_121 : Cond.code yX4_pasts cX4_pasts 2 (some .int) ∈ kBIG := kT2 (List.mem_of_getElem? (i := 121) rfl) rfl
theorem q2_122 : Cond.methodLink RL 85 yX4_kinds ∈ kBIG := kT2 (List.mem_of_getElem? (i := 122) rfl) rfl
theorem q2_123 : Cond.instanceMethod yX4_kinds ∈ kBIG := kT2 (List.mem_of_getElem? (i := 123) rfl) rfl
theorem q2_124 : Cond.selects RX4 yX4_kinds yX4_kinds ∈ kBIG := kT2 (List.mem_of_getElem? (i := 124) rfl) rfl
theorem q2_125 : Cond.code yX4_kinds cX4_kinds 2 (some .int) ∈ kBIG := kT2 (List.mem_of_getElem? (i := 125) rfl) rfl
theorem q2_126 : Cond.methodLink RL 89 yX4_odds ∈ kBIG := kT2 (List.mem_of_getElem? (i := 126) rfl) rfl
theorem q2_127 : Cond.instanceMethod yX4_odds ∈ kBIG := kT2 (List.mem_of_getElem? (i := 127) rfl) rfl
theorem q2_128 : Cond.selects RX4 yX4_odds yX4_odds ∈ kBIG := kT2 (List.mem_of_getElem? (i := 128) rfl) rfl
theorem q2_129 : Cond.code yX4_odds cX4_odds 5 (some .long) ∈ kBIG := kT2 (List.mem_of_getElem? (i := 129) rfl) rfl
theorem q2_130 : Cond.constantLong RX4 174 (-9223372036854775808) ∈ kBIG := kT2 (List.mem_of_getElem? (i := 130) rfl) rfl
theorem q2_131 : Cond.methodLink RX4 176 yX4_smellsByWhichItComes ∈ kBIG := kT2 (List.mem_of_getElem? (i := 131) rfl) rfl
theorem q2_133 : Cond.instanceMethod yX4_smellsByWhichItComes ∈ kBIG := kT2 (List.mem_of_getElem? (i := 133) rfl) rfl
theorem q2_134 : Cond.code yX4_smellsByWhichItComes cX4_smellsByWhichItComes 4 (some .int) ∈ kBIG := kT2 (List.mem_of_getElem? (i := 134) rfl) rfl
theorem q2_135 : Cond.methodLink RL 94 yX4_sheet ∈ kBIG := kT2 (List.mem_of_getElem? (i := 135) rfl) rfl
theorem q2_136 : Cond.instanceMethod yX4_sheet ∈ kBIG := kT2 (List.mem_of_getElem? (i := 136) rfl) rfl
theorem q2_137 : Cond.selects RX4 yX4_sheet yX4_sheet ∈ kBIG := kT2 (List.mem_of_getElem? (i := 137) rfl) rfl
theorem q2_138 : Cond.code yX4_sheet cX4_sheet 4 (some .int) ∈ kBIG := kT2 (List.mem_of_getElem? (i := 138) rfl) rfl
theorem q2_139 : Cond.methodLink RX4 179 yX1_begin ∈ kBIG := kT2 (List.mem_of_getElem? (i := 139) rfl) rfl
theorem q2_140 : Cond.instanceMethod yX1_begin ∈ kBIG := kT2 (List.mem_of_getElem? (i := 140) rfl) rfl
theorem q2_141 : Cond.selects RX1 yX1_begin yX1_begin ∈ kBIG := kT2 (List.mem_of_getElem? (i := 141) rfl) rfl
theorem q2_142 : Cond.code yX1_begin cX1_begin 4 none ∈ kBIG := kT2 (List.mem_of_getElem? (i := 142) rfl) rfl
theorem q2_143 : Cond.methodLink RL 99 yX4_lose ∈ kBIG := kT2 (List.mem_of_getElem? (i := 143) rfl) rfl
theorem q2_144 : Cond.instanceMethod yX4_lose ∈ kBIG := kT2 (List.mem_of_getElem? (i := 144) rfl) rfl
theorem q2_145 : Cond.selects RX4 yX4_lose yX4_lose ∈ kBIG := kT2 (List.mem_of_getElem? (i := 145) rfl) rfl
theorem q2_146 : Cond.code yX4_lose cX4_lose 3 (some .int) ∈ kBIG := kT2 (List.mem_of_getElem? (i := 146) rfl) rfl
theorem q2_147 : Cond.methodLink RL 103 yX4_put ∈ kBIG := kT2 (List.mem_of_getElem? (i := 147) rfl) rfl
theorem q2_148 : Cond.instanceMethod yX4_put ∈ kBIG := kT2 (List.mem_of_getElem? (i := 148) rfl) rfl
theorem q2_149 : Cond.selects RX4 yX4_put yX4_put ∈ kBIG := kT2 (List.mem_of_getElem? (i := 149) rfl) rfl
theorem q2_150 : Cond.code yX4_put cX4_put 5 (some .int) ∈ kBIG := kT2 (List.mem_of_getElem? (i := 150) rfl) rfl
theorem q2_151 : Cond.methodLink RX4 187 yX1_hasCell ∈ kBIG := kT2 (List.mem_of_getElem? (i := 151) rfl) rfl
theorem q2_152 : Cond.instanceMethod yX1_hasCell ∈ kBIG := kT2 (List.mem_of_getElem? (i := 152) rfl) rfl
theorem q2_153 : Cond.selects RX1 yX1_hasCell yX1_hasCell ∈ kBIG := kT2 (List.mem_of_getElem? (i := 153) rfl) rfl
theorem q2_154 : Cond.code yX1_hasCell cX1_hasCell 2 (some .boolean) ∈ kBIG := kT2 (List.mem_of_getElem? (i := 154) rfl) rfl
theorem q2_155 : Cond.methodLink RX4 190 yX1_write ∈ kBIG := kT2 (List.mem_of_getElem? (i := 155) rfl) rfl
theorem q2_156 : Cond.instanceMethod yX1_write ∈ kBIG := kT2 (List.mem_of_getElem? (i := 156) rfl) rfl
theorem q2_157 : Cond.selects RX1 yX1_write yX1_write ∈ kBIG := kT2 (List.mem_of_getElem? (i := 157) rfl) rfl
theorem q2_158 : Cond.code yX1_write cX1_write 3 none ∈ kBIG := kT2 (List.mem_of_getElem? (i := 158) rfl) rfl
theorem q2_159 : Cond.methodLink RL 107 yX4_cell ∈ kBIG := kT2 (List.mem_of_getElem? (i := 159) rfl) rfl
theorem q2_160 : Cond.instanceMethod yX4_cell ∈ kBIG := kT2 (List.mem_of_getElem? (i := 160) rfl) rfl
theorem q2_161 : Cond.selects RX4 yX4_cell yX4_cell ∈ kBIG := kT2 (List.mem_of_getElem? (i := 161) rfl) rfl
theorem q2_162 : Cond.code yX4_cell cX4_cell 5 (some .long) ∈ kBIG := kT2 (List.mem_of_getElem? (i := 162) rfl) rfl
theorem q2_163 : Cond.methodLink RL 112 yX4_copy ∈ kBIG := kT2 (List.mem_of_getElem? (i := 163) rfl) rfl
theorem q2_164 : Cond.instanceMethod yX4_copy ∈ kBIG := kT2 (List.mem_of_getElem? (i := 164) rfl) rfl
theorem q2_165 : Cond.selects RX4 yX4_copy yX4_copy ∈ kBIG := kT2 (List.mem_of_getElem? (i := 165) rfl) rfl
theorem q2_166 : Cond.code yX4_copy cX4_copy 8 (some .int) ∈ kBIG := kT2 (List.mem_of_getElem? (i := 166) rfl) rfl
theorem q2_167 : Cond.methodLink RL 116 yX4_tell ∈ kBIG := kT2 (List.mem_of_getElem? (i := 167) rfl) rfl
theorem q2_168 : Cond.instanceMethod yX4_tell ∈ kBIG := kT2 (List.mem_of_getElem? (i := 168) rfl) rfl
theorem q2_169 : Cond.selects RX4 yX4_tell yX4_tell ∈ kBIG := kT2 (List.mem_of_getElem? (i := 169) rfl) rfl
theorem q2_170 : Cond.code yX4_tell cX4_tell 2 (some .int) ∈ kBIG := kT2 (List.mem_of_getElem? (i := 170) rfl) rfl
theorem q2_171 : Cond.methodLink RX4 202 yX4_toldByReeking ∈ kBIG := kT2 (List.mem_of_getElem? (i := 171) rfl) rfl
theorem q2_173 : Cond.instanceMethod yX4_toldByReeking ∈ kBIG := kT2 (List.mem_of_getElem? (i := 173) rfl) rfl
theorem q2_174 : Cond.code yX4_toldByReeking cX4_toldByReeking 3 (some .int) ∈ kBIG := kT2 (List.mem_of_getElem? (i := 174) rfl) rfl
theorem q2_175 : Cond.methodLink RX4 211 yX4_begins ∈ kBIG := kT2 (List.mem_of_getElem? (i := 175) rfl) rfl
theorem q2_177 : Cond.instanceMethod yX4_begins ∈ kBIG := kT2 (List.mem_of_getElem? (i := 177) rfl) rfl
theorem q2_178 : Cond.code yX4_begins cX4_begins 2 none ∈ kBIG := kT2 (List.mem_of_getElem? (i := 178) rfl) rfl
theorem q2_179 : Cond.methodLink RX4 205 yX4_toldByRank ∈ kBIG := kT2 (List.mem_of_getElem? (i := 179) rfl) rfl
theorem q2_181 : Cond.instanceMethod yX4_toldByRank ∈ kBIG := kT2 (List.mem_of_getElem? (i := 181) rfl) rfl
theorem q2_182 : Cond.code yX4_toldByRank cX4_toldByRank 2 (some .int) ∈ kBIG := kT2 (List.mem_of_getElem? (i := 182) rfl) rfl
theorem q2_183 : Cond.methodLink RX4 208 yX4_toldByPlain ∈ kBIG := kT2 (List.mem_of_getElem? (i := 183) rfl) rfl
theorem q2_185 : Cond.instanceMethod yX4_toldByPlain ∈ kBIG := kT2 (List.mem_of_getElem? (i := 185) rfl) rfl
theorem q2_186 : Cond.code yX4_toldByPlain cX4_toldByPlain 2 (some .int) ∈ kBIG := kT2 (List.mem_of_getElem? (i := 186) rfl) rfl
theorem q2_187 : Cond.methodLink RL 120 yX4_whistle ∈ kBIG := kT2 (List.mem_of_getElem? (i := 187) rfl) rfl
theorem q2_188 : Cond.instanceMethod yX4_whistle ∈ kBIG := kT2 (List.mem_of_getElem? (i := 188) rfl) rfl
theorem q2_189 : Cond.selects RX4 yX4_whistle yX4_whistle ∈ kBIG := kT2 (List.mem_of_getElem? (i := 189) rfl) rfl
theorem q2_190 : Cond.code yX4_whistle cX4_whistle 2 (some .int) ∈ kBIG := kT2 (List.mem_of_getElem? (i := 190) rfl) rfl
theorem q2_191 : Cond.methodLink RL 124 yX4_as ∈ kBIG := kT2 (List.mem_of_getElem? (i := 191) rfl) rfl
theorem q2_192 : Cond.instanceMethod yX4_as ∈ kBIG := kT2 (List.mem_of_getElem? (i := 192) rfl) rfl
theorem q2_193 : Cond.selects RX4 yX4_as yX4_as ∈ kBIG := kT2 (List.mem_of_getElem? (i := 193) rfl) rfl
theorem q2_194 : Cond.code yX4_as cX4_as 3 (some .int) ∈ kBIG := kT2 (List.mem_of_getElem? (i := 194) rfl) rfl
theorem q2_195 : Cond.methodLink RL 128 yX4_trace ∈ kBIG := kT2 (List.mem_of_getElem? (i := 195) rfl) rfl
theorem q2_196 : Cond.instanceMethod yX4_trace ∈ kBIG := kT2 (List.mem_of_getElem? (i := 196) rfl) rfl
theorem q2_197 : Cond.selects RX4 yX4_trace yX4_trace ∈ kBIG := kT2 (List.mem_of_getElem? (i := 197) rfl) rfl
theorem q2_198 : Cond.code yX4_trace cX4_trace 1 (some .int) ∈ kBIG := kT2 (List.mem_of_getElem? (i := 198) rfl) rfl
theorem q2_199 : Cond.methodLink RL 133 yX4_fault ∈ kBIG := kT2 (List.mem_of_getElem? (i := 199) rfl) rfl
theorem q2_200 : Cond.instanceMethod yX4_fault ∈ kBIG := kT2 (List.mem_of_getElem? (i := 200) rfl) rfl
theorem q2_201 : Cond.selects RX4 yX4_fault yX4_fault ∈ kBIG := kT2 (List.mem_of_getElem? (i := 201) rfl) rfl
theorem q2_202 : Cond.code yX4_fault cX4_fault 1 (some .int) ∈ kBIG := kT2 (List.mem_of_getElem? (i := 202) rfl) rfl
theorem q2_203 : Cond.methodLink RL 137 yX4_many ∈ kBIG := kT2 (List.mem_of_getElem? (i := 203) rfl) rfl
theorem q2_204 : Cond.instanceMethod yX4_many ∈ kBIG := kT2 (List.mem_of_getElem? (i := 204) rfl) rfl
theorem q2_205 : Cond.selects RX4 yX4_many yX4_many ∈ kBIG := kT2 (List.mem_of_getElem? (i := 205) rfl) rfl
theorem q2_206 : Cond.code yX4_many cX4_many 2 (some .int) ∈ kBIG := kT2 (List.mem_of_getElem? (i := 206) rfl) rfl
theorem q2_207 : Cond.classLink RL 10 "NosePostModel" ∈ kBIG := kT2 (List.mem_of_getElem? (i := 207) rfl) rfl
theorem q2_208 : Cond.instantiable RX5 31 ∈ kBIG := kT2 (List.mem_of_getElem? (i := 208) rfl) rfl
theorem q2_209 : Cond.methodLink RL 12 yX5_init ∈ kBIG := kT2 (List.mem_of_getElem? (i := 209) rfl) rfl
theorem q2_210 : Cond.instanceMethod yX5_init ∈ kBIG := kT2 (List.mem_of_getElem? (i := 210) rfl) rfl
theorem q2_211 : Cond.code yX5_init cX5_init 2 none ∈ kBIG := kT2 (List.mem_of_getElem? (i := 211) rfl) rfl
theorem q2_212 : Cond.methodLink RX5 1 ⟨"java/lang/Object", "<init>", "()V"⟩ ∈ kBIG := kT2 (List.mem_of_getElem? (i := 212) rfl) rfl
theorem q2_213 : Cond.fieldLink RX5 72 "NosePostModel" "fault" "I" ∈ kBIG := kT2 (List.mem_of_getElem? (i := 213) rfl) rfl
theorem q2_214 : Cond.fieldLink RX5 80 "NosePostModel" "people" "I" ∈ kBIG := kT2 (List.mem_of_getElem? (i := 214) rfl) rfl
theorem q2_215 : Cond.fieldLink RX5 135 "NosePostModel" "postAt" "I" ∈ kBIG := kT2 (List.mem_of_getElem? (i := 215) rfl) rfl
theorem q2_216 : Cond.fieldLink RX5 138 "NosePostModel" "laxNow" "I" ∈ kBIG := kT2 (List.mem_of_getElem? (i := 216) rfl) rfl
theorem q2_217 : Cond.fieldLink RX5 141 "NosePostModel" "letters" "I" ∈ kBIG := kT2 (List.mem_of_getElem? (i := 217) rfl) rfl
theorem q2_218 : Cond.fieldLink RX5 7 "NosePostModel" "kindOf" "[I" ∈ kBIG := kT2 (List.mem_of_getElem? (i := 218) rfl) rfl
theorem q2_219 : Cond.fieldLink RX5 13 "NosePostModel" "smellOf" "[I" ∈ kBIG := kT2 (List.mem_of_getElem? (i := 219) rfl) rfl
theorem q2_220 : Cond.fieldLink RX5 16 "NosePostModel" "wasOf" "[I" ∈ kBIG := kT2 (List.mem_of_getElem? (i := 220) rfl) rfl
theorem q2_221 : Cond.fieldLink RX5 19 "NosePostModel" "placeOf" "[I" ∈ kBIG := kT2 (List.mem_of_getElem? (i := 221) rfl) rfl
theorem q2_222 : Cond.fieldLink RX5 87 "NosePostModel" "readAt" "I" ∈ kBIG := kT2 (List.mem_of_getElem? (i := 222) rfl) rfl
theorem q2_223 : Cond.fieldLink RX5 94 "NosePostModel" "readPeople" "I" ∈ kBIG := kT2 (List.mem_of_getElem? (i := 223) rfl) rfl
theorem q2_224 : Cond.fieldLink RX5 22 "NosePostModel" "readKind" "[I" ∈ kBIG := kT2 (List.mem_of_getElem? (i := 224) rfl) rfl
theorem q2_225 : Cond.fieldLink RX5 25 "NosePostModel" "readSmell" "[I" ∈ kBIG := kT2 (List.mem_of_getElem? (i := 225) rfl) rfl
theorem q2_226 : Cond.fieldLink RX5 28 "NosePostModel" "readWas" "[I" ∈ kBIG := kT2 (List.mem_of_getElem? (i := 226) rfl) rfl
theorem q2_227 : Cond.fieldLink RX5 31 "NosePostModel" "readPlace" "[I" ∈ kBIG := kT2 (List.mem_of_getElem? (i := 227) rfl) rfl
theorem q2_228 : Cond.fieldLink RX5 101 "NosePostModel" "readPost" "I" ∈ kBIG := kT2 (List.mem_of_getElem? (i := 228) rfl) rfl
theorem q2_229 : Cond.fieldLink RX5 104 "NosePostModel" "readLax" "I" ∈ kBIG := kT2 (List.mem_of_getElem? (i := 229) rfl) rfl
theorem q2_230 : Cond.fieldLink RX5 34 "NosePostModel" "smellKept" "[I" ∈ kBIG := kT2 (List.mem_of_getElem? (i := 230) rfl) rfl
theorem q2_231 : Cond.fieldLink RX5 37 "NosePostModel" "wasKept" "[I" ∈ kBIG := kT2 (List.mem_of_getElem? (i := 231) rfl) rfl
theorem q2_232 : Cond.fieldLink RX5 40 "NosePostModel" "placeKept" "[I" ∈ kBIG := kT2 (List.mem_of_getElem? (i := 232) rfl) rfl
theorem q2_233 : Cond.fieldLink RX5 43 "NosePostModel" "orderNow" "[I" ∈ kBIG := kT2 (List.mem_of_getElem? (i := 233) rfl) rfl
theorem q2_234 : Cond.fieldLink RX5 46 "NosePostModel" "orderBest" "[I" ∈ kBIG := kT2 (List.mem_of_getElem? (i := 234) rfl) rfl
theorem q2_235 : Cond.fieldLink RX5 49 "NosePostModel" "metBehind" "[I" ∈ kBIG := kT2 (List.mem_of_getElem? (i := 235) rfl) rfl
theorem q2_236 : Cond.fieldLink RX5 144 "NosePostModel" "readings" "I" ∈ kBIG := kT2 (List.mem_of_getElem? (i := 236) rfl) rfl
theorem q2_237 : Cond.fieldLink RX5 52 "NosePostModel" "readingOf" "[I" ∈ kBIG := kT2 (List.mem_of_getElem? (i := 237) rfl) rfl
theorem q2_238 : Cond.fieldLink RX5 55 "NosePostModel" "readingTo" "[I" ∈ kBIG := kT2 (List.mem_of_getElem? (i := 238) rfl) rfl
theorem q2_239 : Cond.fieldLink RX5 58 "NosePostModel" "sheetSize" "[I" ∈ kBIG := kT2 (List.mem_of_getElem? (i := 239) rfl) rfl
theorem q3_0 : Cond.fieldLink RX5 61 "NosePostModel" "sheetLane" "[I" ∈ kBIG := kT3 (List.mem_of_getElem? (i := 0) rfl) rfl
theorem q3_1 : Cond.fieldLink RX5 64 "NosePostModel" "sheet" "[I" ∈ kBIG := kT3 (List.mem_of_getElem? (i := 1) rfl) rfl
theorem q3_2 : Cond.fieldLink RX5 67 "NosePostModel" "hands" "[I" ∈ kBIG := kT3 (List.mem_of_getElem? (i := 2) rfl) rfl
theorem q3_3 : Cond.fieldLink RX5 246 "NosePostModel" "traceNow" "I" ∈ kBIG := kT3 (List.mem_of_getElem? (i := 3) rfl) rfl
theorem q3_4 : Cond.lays RX5 "NosePostModel" "fault" "I" ∈ kBIG := kT3 (List.mem_of_getElem? (i := 4) rfl) rfl
theorem q3_6 : Cond.lays RX5 "NosePostModel" "people" "I" ∈ kBIG := kT3 (List.mem_of_getElem? (i := 6) rfl) rfl
theorem q3_8 : Cond.lays RX5 "NosePostModel" "postAt" "I" ∈ kBIG := kT3 (List.mem_of_getElem? (i := 8) rfl) rfl
theorem q3_10 : Cond.lays RX5 "NosePostModel" "laxNow" "I" ∈ kBIG := kT3 (List.mem_of_getElem? (i := 10) rfl) rfl
theorem q3_12 : Cond.lays RX5 "NosePostModel" "letters" "I" ∈ kBIG := kT3 (List.mem_of_getElem? (i := 12) rfl) rfl
theorem q3_14 : Cond.laysFinal RX5 "NosePostModel" "kindOf" "[I" ∈ kBIG := kT3 (List.mem_of_getElem? (i := 14) rfl) rfl
theorem q3_16 : Cond.laysFinal RX5 "NosePostModel" "smellOf" "[I" ∈ kBIG := kT3 (List.mem_of_getElem? (i := 16) rfl) rfl
theorem q3_18 : Cond.laysFinal RX5 "NosePostModel" "wasOf" "[I" ∈ kBIG := kT3 (List.mem_of_getElem? (i := 18) rfl) rfl
theorem q3_20 : Cond.laysFinal RX5 "NosePostModel" "placeOf" "[I" ∈ kBIG := kT3 (List.mem_of_getElem? (i := 20) rfl) rfl
theorem q3_22 : Cond.lays RX5 "NosePostModel" "readAt" "I" ∈ kBIG := kT3 (List.mem_of_getElem? (i := 22) rfl) rfl
theorem q3_24 : Cond.lays RX5 "NosePostModel" "readPeople" "I" ∈ kBIG := kT3 (List.mem_of_getElem? (i := 24) rfl) rfl
theorem q3_26 : Cond.laysFinal RX5 "NosePostModel" "readKind" "[I" ∈ kBIG := kT3 (List.mem_of_getElem? (i := 26) rfl) rfl
theorem q3_28 : Cond.laysFinal RX5 "NosePostModel" "readSmell" "[I" ∈ kBIG := kT3 (List.mem_of_getElem? (i := 28) rfl) rfl
theorem q3_30 : Cond.laysFinal RX5 "NosePostModel" "readWas" "[I" ∈ kBIG := kT3 (List.mem_of_getElem? (i := 30) rfl) rfl
theorem q3_32 : Cond.laysFinal RX5 "NosePostModel" "readPlace" "[I" ∈ kBIG := kT3 (List.mem_of_getElem? (i := 32) rfl) rfl
theorem q3_34 : Cond.lays RX5 "NosePostModel" "readPost" "I" ∈ kBIG := kT3 (List.mem_of_getElem? (i := 34) rfl) rfl
theorem q3_36 : Cond.lays RX5 "NosePostModel" "readLax" "I" ∈ kBIG := kT3 (List.mem_of_getElem? (i := 36) rfl) rfl
theorem q3_38 : Cond.laysFinal RX5 "NosePostModel" "smellKept" "[I" ∈ kBIG := kT3 (List.mem_of_getElem? (i := 38) rfl) rfl
theorem q3_40 : Cond.laysFinal RX5 "NosePostModel" "wasKept" "[I" ∈ kBIG := kT3 (List.mem_of_getElem? (i := 40) rfl) rfl
theorem q3_42 : Cond.laysFinal RX5 "NosePostModel" "placeKept" "[I" ∈ kBIG := kT3 (List.mem_of_getElem? (i := 42) rfl) rfl
theorem q3_44 : Cond.laysFinal RX5 "NosePostModel" "orderNow" "[I" ∈ kBIG := kT3 (List.mem_of_getElem? (i := 44) rfl) rfl
theorem q3_46 : Cond.laysFinal RX5 "NosePostModel" "orderBest" "[I" ∈ kBIG := kT3 (List.mem_of_getElem? (i := 46) rfl) rfl
theorem q3_48 : Cond.laysFinal RX5 "NosePostModel" "metBehind" "[I" ∈ kBIG := kT3 (List.mem_of_getElem? (i := 48) rfl) rfl
theorem q3_50 : Cond.lays RX5 "NosePostModel" "readings" "I" ∈ kBIG := kT3 (List.mem_of_getElem? (i := 50) rfl) rfl
theorem q3_52 : Cond.laysFinal RX5 "NosePostModel" "readingOf" "[I" ∈ kBIG := kT3 (List.mem_of_getElem? (i := 52) rfl) rfl
theorem q3_54 : Cond.laysFinal RX5 "NosePostModel" "readingTo" "[I" ∈ kBIG := kT3 (List.mem_of_getElem? (i := 54) rfl) rfl
theorem q3_56 : Cond.laysFinal RX5 "NosePostModel" "sheetSize" "[I" ∈ kBIG := kT3 (List.mem_of_getElem? (i := 56) rfl) rfl
theorem q3_58 : Cond.laysFinal RX5 "NosePostModel" "sheetLane" "[I" ∈ kBIG := kT3 (List.mem_of_getElem? (i := 58) rfl) rfl
theorem q3_60 : Cond.laysFinal RX5 "NosePostModel" "sheet" "[I" ∈ kBIG := kT3 (List.mem_of_getElem? (i := 60) rfl) rfl
theorem q3_62 : Cond.laysFinal RX5 "NosePostModel" "hands" "[I" ∈ kBIG := kT3 (List.mem_of_getElem? (i := 62) rfl) rfl
theorem q3_64 : Cond.lays RX5 "NosePostModel" "traceNow" "I" ∈ kBIG := kT3 (List.mem_of_getElem? (i := 64) rfl) rfl
theorem q3_67 : Cond.methodLink RL 17 yX5_moor ∈ kBIG := kT3 (List.mem_of_getElem? (i := 67) rfl) rfl
theorem q3_68 : Cond.instanceMethod yX5_moor ∈ kBIG := kT3 (List.mem_of_getElem? (i := 68) rfl) rfl
theorem q3_69 : Cond.selects RX5 yX5_moor yX5_moor ∈ kBIG := kT3 (List.mem_of_getElem? (i := 69) rfl) rfl
theorem q3_70 : Cond.code yX5_moor cX5_moor 7 (some .int) ∈ kBIG := kT3 (List.mem_of_getElem? (i := 70) rfl) rfl
theorem q3_71 : Cond.methodLink RX5 119 yX5_noSheet ∈ kBIG := kT3 (List.mem_of_getElem? (i := 71) rfl) rfl
theorem q3_72 : Cond.static yX5_noSheet ∈ kBIG := kT3 (List.mem_of_getElem? (i := 72) rfl) rfl
theorem q3_73 : Cond.code yX5_noSheet cX5_noSheet 1 (some .boolean) ∈ kBIG := kT3 (List.mem_of_getElem? (i := 73) rfl) rfl
theorem q3_74 : Cond.constantLong RX5 170 (3) ∈ kBIG := kT3 (List.mem_of_getElem? (i := 74) rfl) rfl
theorem q3_75 : Cond.methodLink RX5 83 yX5_in ∈ kBIG := kT3 (List.mem_of_getElem? (i := 75) rfl) rfl
theorem q3_76 : Cond.static yX5_in ∈ kBIG := kT3 (List.mem_of_getElem? (i := 76) rfl) rfl
theorem q3_77 : Cond.code yX5_in cX5_in 6 (some .boolean) ∈ kBIG := kT3 (List.mem_of_getElem? (i := 77) rfl) rfl
theorem q3_78 : Cond.methodLink RX5 123 yX5_refused ∈ kBIG := kT3 (List.mem_of_getElem? (i := 78) rfl) rfl
theorem q3_80 : Cond.instanceMethod yX5_refused ∈ kBIG := kT3 (List.mem_of_getElem? (i := 80) rfl) rfl
theorem q3_81 : Cond.code yX5_refused cX5_refused 2 (some .int) ∈ kBIG := kT3 (List.mem_of_getElem? (i := 81) rfl) rfl
theorem q3_82 : Cond.constantLong RX5 126 (2) ∈ kBIG := kT3 (List.mem_of_getElem? (i := 82) rfl) rfl
theorem q3_83 : Cond.methodLink RX5 128 yX5_cellsBarred ∈ kBIG := kT3 (List.mem_of_getElem? (i := 83) rfl) rfl
theorem q3_85 : Cond.instanceMethod yX5_cellsBarred ∈ kBIG := kT3 (List.mem_of_getElem? (i := 85) rfl) rfl
theorem q3_86 : Cond.code yX5_cellsBarred cX5_cellsBarred 6 (some .int) ∈ kBIG := kT3 (List.mem_of_getElem? (i := 86) rfl) rfl
theorem q3_87 : Cond.methodLink RX5 111 yX5_failed ∈ kBIG := kT3 (List.mem_of_getElem? (i := 87) rfl) rfl
theorem q3_89 : Cond.instanceMethod yX5_failed ∈ kBIG := kT3 (List.mem_of_getElem? (i := 89) rfl) rfl
theorem q3_90 : Cond.code yX5_failed cX5_failed 2 (some .int) ∈ kBIG := kT3 (List.mem_of_getElem? (i := 90) rfl) rfl
theorem q3_91 : Cond.methodLink RX5 115 yX5_isBeyond ∈ kBIG := kT3 (List.mem_of_getElem? (i := 91) rfl) rfl
theorem q3_92 : Cond.static yX5_isBeyond ∈ kBIG := kT3 (List.mem_of_getElem? (i := 92) rfl) rfl
theorem q3_93 : Cond.code yX5_isBeyond cX5_isBeyond 4 (some .boolean) ∈ kBIG := kT3 (List.mem_of_getElem? (i := 93) rfl) rfl
theorem q3_94 : Cond.methodLink RX5 132 yX5_readsMoor ∈ kBIG := kT3 (List.mem_of_getElem? (i := 94) rfl) rfl
theorem q3_96 : Cond.instanceMethod yX5_readsMoor ∈ kBIG := kT3 (List.mem_of_getElem? (i := 96) rfl) rfl
theorem q3_97 : Cond.code yX5_readsMoor cX5_readsMoor 4 (some .boolean) ∈ kBIG := kT3 (List.mem_of_getElem? (i := 97) rfl) rfl
theorem q3_98 : Cond.methodLink RX5 90 yX5_codeAt ∈ kBIG := kT3 (List.mem_of_getElem? (i := 98) rfl) rfl
theorem q3_100 : Cond.instanceMethod yX5_codeAt ∈ kBIG := kT3 (List.mem_of_getElem? (i := 100) rfl) rfl
theorem q3_101 : Cond.code yX5_codeAt cX5_codeAt 3 (some .int) ∈ kBIG := kT3 (List.mem_of_getElem? (i := 101) rfl) rfl
theorem q3_102 : Cond.methodLink RX5 97 yX5_figure ∈ kBIG := kT3 (List.mem_of_getElem? (i := 102) rfl) rfl
theorem q3_104 : Cond.instanceMethod yX5_figure ∈ kBIG := kT3 (List.mem_of_getElem? (i := 104) rfl) rfl
theorem q3_105 : Cond.code yX5_figure cX5_figure 7 (some .int) ∈ kBIG := kT3 (List.mem_of_getElem? (i := 105) rfl) rfl
theorem q3_106 : Cond.methodLink RX5 107 yX5_readsPerson ∈ kBIG := kT3 (List.mem_of_getElem? (i := 106) rfl) rfl
theorem q3_108 : Cond.instanceMethod yX5_readsPerson ∈ kBIG := kT3 (List.mem_of_getElem? (i := 108) rfl) rfl
theorem q3_109 : Cond.code yX5_readsPerson cX5_readsPerson 7 (some .boolean) ∈ kBIG := kT3 (List.mem_of_getElem? (i := 109) rfl) rfl
theorem q3_110 : Cond.methodLink RL 22 yX5_ofPerson ∈ kBIG := kT3 (List.mem_of_getElem? (i := 110) rfl) rfl
theorem q3_111 : Cond.instanceMethod yX5_ofPerson ∈ kBIG := kT3 (List.mem_of_getElem? (i := 111) rfl) rfl
theorem q3_112 : Cond.selects RX5 yX5_ofPerson yX5_ofPerson ∈ kBIG := kT3 (List.mem_of_getElem? (i := 112) rfl) rfl
theorem q3_113 : Cond.code yX5_ofPerson cX5_ofPerson 3 (some .int) ∈ kBIG := kT3 (List.mem_of_getElem? (i := 113) rfl) rfl
theorem q3_114 : Cond.methodLink RX5 162 yX5_noPerson ∈ kBIG := kT3 (List.mem_of_getElem? (i := 114) rfl) rfl
theorem q3_116 : Cond.instanceMethod yX5_noPerson ∈ kBIG := kT3 (List.mem_of_getElem? (i := 116) rfl) rfl
theorem q3_117 : Cond.code yX5_noPerson cX5_noPerson 2 (some .boolean) ∈ kBIG := kT3 (List.mem_of_getElem? (i := 117) rfl) rfl
theorem q3_118 : Cond.methodLink RX5 156 yX5_scentOf ∈ kBIG := kT3 (List.mem_of_getElem? (i := 118) rfl) rfl
theorem q3_120 : Cond.instanceMethod yX5_scentOf ∈ kBIG := kT3 (List.mem_of_getElem? (i := 120) rfl) rfl
theorem q3_121 : Cond.code yX5_scentOf cX5_scentOf 3 (some .int) ∈ kBIG := kT3 (List.mem_of_getElem? (i := 121) rfl) rfl
theorem q3_122 : Cond.methodLink RX5 147 yX5_bits ∈ kBIG := kT3 (List.mem_of_getElem? (i := 122) rfl) rfl
theorem q3_123 : Cond.static yX5_bits ∈ kBIG := kT3 (List.mem_of_getElem? (i := 123) rfl) rfl
theorem q3_124 : Cond.code yX5_bits cX5_bits 3 (some .int) ∈ kBIG := kT3 (List.mem_of_getElem? (i := 124) rfl) rfl
theorem q3_125 : Cond.methodLink RX5 159 yX5_isSmelt ∈ kBIG := kT3 (List.mem_of_getElem? (i := 125) rfl) rfl
theorem q3_127 : Cond.instanceMethod yX5_isSmelt ∈ kBIG := kT3 (List.mem_of_getElem? (i := 127) rfl) rfl
theorem q3_128 : Cond.code yX5_isSmelt cX5_isSmelt 2 (some .boolean) ∈ kBIG := kT3 (List.mem_of_getElem? (i := 128) rfl) rfl
theorem q3_129 : Cond.methodLink RX5 153 yX5_wayTo ∈ kBIG := kT3 (List.mem_of_getElem? (i := 129) rfl) rfl
theorem q3_131 : Cond.instanceMethod yX5_wayTo ∈ kBIG := kT3 (List.mem_of_getElem? (i := 131) rfl) rfl
theorem q3_132 : Cond.code yX5_wayTo cX5_wayTo 2 (some .int) ∈ kBIG := kT3 (List.mem_of_getElem? (i := 132) rfl) rfl
theorem q3_133 : Cond.methodLink RX5 150 yX5_apart ∈ kBIG := kT3 (List.mem_of_getElem? (i := 133) rfl) rfl
theorem q3_134 : Cond.static yX5_apart ∈ kBIG := kT3 (List.mem_of_getElem? (i := 134) rfl) rfl
theorem q3_135 : Cond.code yX5_apart cX5_apart 2 (some .int) ∈ kBIG := kT3 (List.mem_of_getElem? (i := 135) rfl) rfl
theorem q3_136 : Cond.methodLink RX5 165 yX5_goesTo ∈ kBIG := kT3 (List.mem_of_getElem? (i := 136) rfl) rfl
theorem q3_138 : Cond.instanceMethod yX5_goesTo ∈ kBIG := kT3 (List.mem_of_getElem? (i := 138) rfl) rfl
theorem q3_139 : Cond.code yX5_goesTo cX5_goesTo 7 (some .int) ∈ kBIG := kT3 (List.mem_of_getElem? (i := 139) rfl) rfl
theorem q3_140 : Cond.methodLink RL 27 yX5_post ∈ kBIG := kT3 (List.mem_of_getElem? (i := 140) rfl) rfl
theorem q3_141 : Cond.instanceMethod yX5_post ∈ kBIG := kT3 (List.mem_of_getElem? (i := 141) rfl) rfl
theorem q3_142 : Cond.selects RX5 yX5_post yX5_post ∈ kBIG := kT3 (List.mem_of_getElem? (i := 142) rfl) rfl
theorem q3_143 : Cond.code yX5_post cX5_post 3 (some .int) ∈ kBIG := kT3 (List.mem_of_getElem? (i := 143) rfl) rfl
theorem q3_144 : Cond.constantLong RX5 168 (9) ∈ kBIG := kT3 (List.mem_of_getElem? (i := 144) rfl) rfl
theorem q3_145 : Cond.methodLink RL 31 yX5_lax ∈ kBIG := kT3 (List.mem_of_getElem? (i := 145) rfl) rfl
theorem q3_146 : Cond.instanceMethod yX5_lax ∈ kBIG := kT3 (List.mem_of_getElem? (i := 146) rfl) rfl
theorem q3_147 : Cond.selects RX5 yX5_lax yX5_lax ∈ kBIG := kT3 (List.mem_of_getElem? (i := 147) rfl) rfl
theorem q3_148 : Cond.code yX5_lax cX5_lax 3 (some .int) ∈ kBIG := kT3 (List.mem_of_getElem? (i := 148) rfl) rfl
theorem q3_149 : Cond.methodLink RL 35 yX5_bathe ∈ kBIG := kT3 (List.mem_of_getElem? (i := 149) rfl) rfl
theorem q3_150 : Cond.instanceMethod yX5_bathe ∈ kBIG := kT3 (List.mem_of_getElem? (i := 150) rfl) rfl
theorem q3_151 : Cond.selects RX5 yX5_bathe yX5_bathe ∈ kBIG := kT3 (List.mem_of_getElem? (i := 151) rfl) rfl
theorem q3_152 : Cond.code yX5_bathe cX5_bathe 4 (some .int) ∈ kBIG := kT3 (List.mem_of_getElem? (i := 152) rfl) rfl
theorem q3_153 : Cond.constantLong RX5 172 (7) ∈ kBIG := kT3 (List.mem_of_getElem? (i := 153) rfl) rfl
theorem q3_154 : Cond.methodLink RL 39 yX5_moves ∈ kBIG := kT3 (List.mem_of_getElem? (i := 154) rfl) rfl
theorem q3_155 : Cond.instanceMethod yX5_moves ∈ kBIG := kT3 (List.mem_of_getElem? (i := 155) rfl) rfl
theorem q3_156 : Cond.selects RX5 yX5_moves yX5_moves ∈ kBIG := kT3 (List.mem_of_getElem? (i := 156) rfl) rfl
theorem q3_157 : Cond.code yX5_moves cX5_moves 4 (some .int) ∈ kBIG := kT3 (List.mem_of_getElem? (i := 157) rfl) rfl
theorem q3_158 : Cond.methodLink RL 43 yX5_send ∈ kBIG := kT3 (List.mem_of_getElem? (i := 158) rfl) rfl
theorem q3_159 : Cond.instanceMethod yX5_send ∈ kBIG := kT3 (List.mem_of_getElem? (i := 159) rfl) rfl
theorem q3_160 : Cond.selects RX5 yX5_send yX5_send ∈ kBIG := kT3 (List.mem_of_getElem? (i := 160) rfl) rfl
theorem q3_161 : Cond.code yX5_send cX5_send 2 (some .int) ∈ kBIG := kT3 (List.mem_of_getElem? (i := 161) rfl) rfl
theorem q3_162 : Cond.methodLink RX5 174 yX5_sent ∈ kBIG := kT3 (List.mem_of_getElem? (i := 162) rfl) rfl
theorem q3_164 : Cond.instanceMethod yX5_sent ∈ kBIG := kT3 (List.mem_of_getElem? (i := 164) rfl) rfl
theorem q3_165 : Cond.code yX5_sent cX5_sent 3 (some .int) ∈ kBIG := kT3 (List.mem_of_getElem? (i := 165) rfl) rfl
theorem q3_166 : Cond.methodLink RL 47 yX5_comes ∈ kBIG := kT3 (List.mem_of_getElem? (i := 166) rfl) rfl
theorem q3_167 : Cond.instanceMethod yX5_comes ∈ kBIG := kT3 (List.mem_of_getElem? (i := 167) rfl) rfl
theorem q3_168 : Cond.selects RX5 yX5_comes yX5_comes ∈ kBIG := kT3 (List.mem_of_getElem? (i := 168) rfl) rfl
theorem q3_169 : Cond.code yX5_comes cX5_comes 6 (some .int) ∈ kBIG := kT3 (List.mem_of_getElem? (i := 169) rfl) rfl
theorem q3_170 : Cond.methodLink RL 52 yX5_round ∈ kBIG := kT3 (List.mem_of_getElem? (i := 170) rfl) rfl
theorem q3_171 : Cond.instanceMethod yX5_round ∈ kBIG := kT3 (List.mem_of_getElem? (i := 171) rfl) rfl
theorem q3_172 : Cond.selects RX5 yX5_round yX5_round ∈ kBIG := kT3 (List.mem_of_getElem? (i := 172) rfl) rfl
theorem q3_173 : Cond.code yX5_round cX5_round 8 (some .int) ∈ kBIG := kT3 (List.mem_of_getElem? (i := 173) rfl) rfl
theorem q3_174 : Cond.constantLong RX5 183 (20) ∈ kBIG := kT3 (List.mem_of_getElem? (i := 174) rfl) rfl
theorem q3_175 : Cond.constantLong RX5 179 (10) ∈ kBIG := kT3 (List.mem_of_getElem? (i := 175) rfl) rfl
theorem q3_176 : Cond.constantLong RX5 185 (15) ∈ kBIG := kT3 (List.mem_of_getElem? (i := 176) rfl) rfl
theorem q3_177 : Cond.methodLink RX5 187 yX5_pairsBarred ∈ kBIG := kT3 (List.mem_of_getElem? (i := 177) rfl) rfl
theorem q3_179 : Cond.instanceMethod yX5_pairsBarred ∈ kBIG := kT3 (List.mem_of_getElem? (i := 179) rfl) rfl
theorem q3_180 : Cond.code yX5_pairsBarred cX5_pairsBarred 5 (some .int) ∈ kBIG := kT3 (List.mem_of_getElem? (i := 180) rfl) rfl
theorem q3_181 : Cond.constantLong RX5 177 (8) ∈ kBIG := kT3 (List.mem_of_getElem? (i := 181) rfl) rfl
theorem q3_182 : Cond.constantLong RX5 181 (19) ∈ kBIG := kT3 (List.mem_of_getElem? (i := 182) rfl) rfl
theorem q3_183 : Cond.methodLink RX5 190 yX5_keepAll ∈ kBIG := kT3 (List.mem_of_getElem? (i := 183) rfl) rfl
theorem q3_185 : Cond.instanceMethod yX5_keepAll ∈ kBIG := kT3 (List.mem_of_getElem? (i := 185) rfl) rfl
theorem q3_186 : Cond.code yX5_keepAll cX5_keepAll 2 none ∈ kBIG := kT3 (List.mem_of_getElem? (i := 186) rfl) rfl
theorem q3_187 : Cond.methodLink RX5 193 yX5_roundBy ∈ kBIG := kT3 (List.mem_of_getElem? (i := 187) rfl) rfl
theorem q3_189 : Cond.instanceMethod yX5_roundBy ∈ kBIG := kT3 (List.mem_of_getElem? (i := 189) rfl) rfl
theorem q3_190 : Cond.code yX5_roundBy cX5_roundBy 12 (some .int) ∈ kBIG := kT3 (List.mem_of_getElem? (i := 190) rfl) rfl
theorem q3_191 : Cond.methodLink RX5 197 yX5_bringBack ∈ kBIG := kT3 (List.mem_of_getElem? (i := 191) rfl) rfl
theorem q3_193 : Cond.instanceMethod yX5_bringBack ∈ kBIG := kT3 (List.mem_of_getElem? (i := 193) rfl) rfl
theorem q3_194 : Cond.code yX5_bringBack cX5_bringBack 2 none ∈ kBIG := kT3 (List.mem_of_getElem? (i := 194) rfl) rfl
theorem q3_195 : Cond.methodLink RL 56 yX5_strict ∈ kBIG := kT3 (List.mem_of_getElem? (i := 195) rfl) rfl
theorem q3_196 : Cond.instanceMethod yX5_strict ∈ kBIG := kT3 (List.mem_of_getElem? (i := 196) rfl) rfl
theorem q3_197 : Cond.selects RX5 yX5_strict yX5_strict ∈ kBIG := kT3 (List.mem_of_getElem? (i := 197) rfl) rfl
theorem q3_198 : Cond.code yX5_strict cX5_strict 5 (some .int) ∈ kBIG := kT3 (List.mem_of_getElem? (i := 198) rfl) rfl
theorem q3_199 : Cond.methodLink RL 60 yX5_site ∈ kBIG := kT3 (List.mem_of_getElem? (i := 199) rfl) rfl
theorem q3_200 : Cond.instanceMethod yX5_site ∈ kBIG := kT3 (List.mem_of_getElem? (i := 200) rfl) rfl
theorem q3_201 : Cond.selects RX5 yX5_site yX5_site ∈ kBIG := kT3 (List.mem_of_getElem? (i := 201) rfl) rfl
theorem q3_202 : Cond.code yX5_site cX5_site 7 (some .int) ∈ kBIG := kT3 (List.mem_of_getElem? (i := 202) rfl) rfl
theorem q3_203 : Cond.methodLink RX5 200 yX5_comeNow ∈ kBIG := kT3 (List.mem_of_getElem? (i := 203) rfl) rfl
theorem q3_205 : Cond.instanceMethod yX5_comeNow ∈ kBIG := kT3 (List.mem_of_getElem? (i := 205) rfl) rfl
theorem q3_206 : Cond.code yX5_comeNow cX5_comeNow 3 (some .int) ∈ kBIG := kT3 (List.mem_of_getElem? (i := 206) rfl) rfl
theorem q3_207 : Cond.methodLink RL 64 yX5_order ∈ kBIG := kT3 (List.mem_of_getElem? (i := 207) rfl) rfl
theorem q3_208 : Cond.instanceMethod yX5_order ∈ kBIG := kT3 (List.mem_of_getElem? (i := 208) rfl) rfl
theorem q3_209 : Cond.selects RX5 yX5_order yX5_order ∈ kBIG := kT3 (List.mem_of_getElem? (i := 209) rfl) rfl
theorem q3_210 : Cond.code yX5_order cX5_order 3 (some .int) ∈ kBIG := kT3 (List.mem_of_getElem? (i := 210) rfl) rfl
theorem q3_211 : Cond.constantLong RX5 215 (-1) ∈ kBIG := kT3 (List.mem_of_getElem? (i := 211) rfl) rfl
theorem q3_212 : Cond.constantLong RX5 217 (5) ∈ kBIG := kT3 (List.mem_of_getElem? (i := 212) rfl) rfl
theorem q3_213 : Cond.methodLink RX5 219 yX5_bestOrder ∈ kBIG := kT3 (List.mem_of_getElem? (i := 213) rfl) rfl
theorem q3_215 : Cond.instanceMethod yX5_bestOrder ∈ kBIG := kT3 (List.mem_of_getElem? (i := 215) rfl) rfl
theorem q3_216 : Cond.code yX5_bestOrder cX5_bestOrder 5 (some .int) ∈ kBIG := kT3 (List.mem_of_getElem? (i := 216) rfl) rfl
theorem q3_217 : Cond.methodLink RX5 208 yX5_comeInOrder ∈ kBIG := kT3 (List.mem_of_getElem? (i := 217) rfl) rfl
theorem q3_219 : Cond.instanceMethod yX5_comeInOrder ∈ kBIG := kT3 (List.mem_of_getElem? (i := 219) rfl) rfl
theorem q3_220 : Cond.code yX5_comeInOrder cX5_comeInOrder 3 (some .int) ∈ kBIG := kT3 (List.mem_of_getElem? (i := 220) rfl) rfl
theorem q3_221 : Cond.methodLink RX5 211 yX5_nextOrder ∈ kBIG := kT3 (List.mem_of_getElem? (i := 221) rfl) rfl
theorem q3_223 : Cond.instanceMethod yX5_nextOrder ∈ kBIG := kT3 (List.mem_of_getElem? (i := 223) rfl) rfl
theorem q3_224 : Cond.code yX5_nextOrder cX5_nextOrder 5 (some .boolean) ∈ kBIG := kT3 (List.mem_of_getElem? (i := 224) rfl) rfl
theorem q3_225 : Cond.methodLink RX5 204 yX5_exchange ∈ kBIG := kT3 (List.mem_of_getElem? (i := 225) rfl) rfl
theorem q3_227 : Cond.instanceMethod yX5_exchange ∈ kBIG := kT3 (List.mem_of_getElem? (i := 227) rfl) rfl
theorem q3_228 : Cond.code yX5_exchange cX5_exchange 4 none ∈ kBIG := kT3 (List.mem_of_getElem? (i := 228) rfl) rfl
theorem q3_229 : Cond.methodLink RL 68 yX5_ahead ∈ kBIG := kT3 (List.mem_of_getElem? (i := 229) rfl) rfl
theorem q3_230 : Cond.instanceMethod yX5_ahead ∈ kBIG := kT3 (List.mem_of_getElem? (i := 230) rfl) rfl
theorem q3_231 : Cond.selects RX5 yX5_ahead yX5_ahead ∈ kBIG := kT3 (List.mem_of_getElem? (i := 231) rfl) rfl
theorem q3_232 : Cond.code yX5_ahead cX5_ahead 5 (some .int) ∈ kBIG := kT3 (List.mem_of_getElem? (i := 232) rfl) rfl
theorem q3_233 : Cond.methodLink RX5 229 yX5_spreads ∈ kBIG := kT3 (List.mem_of_getElem? (i := 233) rfl) rfl
theorem q3_235 : Cond.instanceMethod yX5_spreads ∈ kBIG := kT3 (List.mem_of_getElem? (i := 235) rfl) rfl
theorem q3_236 : Cond.code yX5_spreads cX5_spreads 6 none ∈ kBIG := kT3 (List.mem_of_getElem? (i := 236) rfl) rfl
theorem q3_237 : Cond.methodLink RX5 225 yX5_asMet ∈ kBIG := kT3 (List.mem_of_getElem? (i := 237) rfl) rfl
theorem q3_239 : Cond.instanceMethod yX5_asMet ∈ kBIG := kT3 (List.mem_of_getElem? (i := 239) rfl) rfl
theorem q4_0 : Cond.code yX5_asMet cX5_asMet 3 none ∈ kBIG := kT4 (List.mem_of_getElem? (i := 0) rfl) rfl
theorem q4_1 : Cond.methodLink RX5 222 yX5_isIn ∈ kBIG := kT4 (List.mem_of_getElem? (i := 1) rfl) rfl
theorem q4_2 : Cond.static yX5_isIn ∈ kBIG := kT4 (List.mem_of_getElem? (i := 2) rfl) rfl
theorem q4_3 : Cond.code yX5_isIn cX5_isIn 2 (some .boolean) ∈ kBIG := kT4 (List.mem_of_getElem? (i := 3) rfl) rfl
theorem q4_4 : Cond.methodLink RL 72 yX5_reading ∈ kBIG := kT4 (List.mem_of_getElem? (i := 4) rfl) rfl
theorem q4_5 : Cond.instanceMethod yX5_reading ∈ kBIG := kT4 (List.mem_of_getElem? (i := 5) rfl) rfl
theorem q4_6 : Cond.selects RX5 yX5_reading yX5_reading ∈ kBIG := kT4 (List.mem_of_getElem? (i := 6) rfl) rfl
theorem q4_7 : Cond.code yX5_reading cX5_reading 3 (some .int) ∈ kBIG := kT4 (List.mem_of_getElem? (i := 7) rfl) rfl
theorem q4_8 : Cond.methodLink RL 76 yX5_back ∈ kBIG := kT4 (List.mem_of_getElem? (i := 8) rfl) rfl
theorem q4_9 : Cond.instanceMethod yX5_back ∈ kBIG := kT4 (List.mem_of_getElem? (i := 9) rfl) rfl
theorem q4_10 : Cond.selects RX5 yX5_back yX5_back ∈ kBIG := kT4 (List.mem_of_getElem? (i := 10) rfl) rfl
theorem q4_11 : Cond.code yX5_back cX5_back 2 (some .int) ∈ kBIG := kT4 (List.mem_of_getElem? (i := 11) rfl) rfl
theorem q4_12 : Cond.methodLink RL 80 yX5_smells ∈ kBIG := kT4 (List.mem_of_getElem? (i := 12) rfl) rfl
theorem q4_13 : Cond.instanceMethod yX5_smells ∈ kBIG := kT4 (List.mem_of_getElem? (i := 13) rfl) rfl
theorem q4_14 : Cond.selects RX5 yX5_smells yX5_smells ∈ kBIG := kT4 (List.mem_of_getElem? (i := 14) rfl) rfl
theorem q4_15 : Cond.code yX5_smells cX5_smells 5 (some .int) ∈ kBIG := kT4 (List.mem_of_getElem? (i := 15) rfl) rfl
theorem q4_16 : Cond.methodLink RX5 232 yX5_areSo ∈ kBIG := kT4 (List.mem_of_getElem? (i := 16) rfl) rfl
theorem q4_18 : Cond.instanceMethod yX5_areSo ∈ kBIG := kT4 (List.mem_of_getElem? (i := 18) rfl) rfl
theorem q4_19 : Cond.code yX5_areSo cX5_areSo 3 (some .boolean) ∈ kBIG := kT4 (List.mem_of_getElem? (i := 19) rfl) rfl
theorem q4_20 : Cond.methodLink RL 84 yX5_pasts ∈ kBIG := kT4 (List.mem_of_getElem? (i := 20) rfl) rfl
theorem q4_21 : Cond.instanceMethod yX5_pasts ∈ kBIG := kT4 (List.mem_of_getElem? (i := 21) rfl) rfl
theorem q4_22 : Cond.selects RX5 yX5_pasts yX5_pasts ∈ kBIG := kT4 (List.mem_of_getElem? (i := 22) rfl) rfl
theorem q4_23 : Cond.code yX5_pasts cX5_pasts 5 (some .int) ∈ kBIG := kT4 (List.mem_of_getElem? (i := 23) rfl) rfl
theorem q4_24 : Cond.methodLink RL 88 yX5_kinds ∈ kBIG := kT4 (List.mem_of_getElem? (i := 24) rfl) rfl
theorem q4_25 : Cond.instanceMethod yX5_kinds ∈ kBIG := kT4 (List.mem_of_getElem? (i := 25) rfl) rfl
theorem q4_26 : Cond.selects RX5 yX5_kinds yX5_kinds ∈ kBIG := kT4 (List.mem_of_getElem? (i := 26) rfl) rfl
theorem q4_27 : Cond.code yX5_kinds cX5_kinds 5 (some .int) ∈ kBIG := kT4 (List.mem_of_getElem? (i := 27) rfl) rfl
theorem q4_28 : Cond.methodLink RL 93 yX5_odds ∈ kBIG := kT4 (List.mem_of_getElem? (i := 28) rfl) rfl
theorem q4_29 : Cond.instanceMethod yX5_odds ∈ kBIG := kT4 (List.mem_of_getElem? (i := 29) rfl) rfl
theorem q4_30 : Cond.selects RX5 yX5_odds yX5_odds ∈ kBIG := kT4 (List.mem_of_getElem? (i := 30) rfl) rfl
theorem q4_31 : Cond.code yX5_odds cX5_odds 7 (some .long) ∈ kBIG := kT4 (List.mem_of_getElem? (i := 31) rfl) rfl
theorem q4_32 : Cond.methodLink RX5 76 yX5_lost ∈ kBIG := kT4 (List.mem_of_getElem? (i := 32) rfl) rfl
theorem q4_33 : Cond.static yX5_lost ∈ kBIG := kT4 (List.mem_of_getElem? (i := 33) rfl) rfl
theorem q4_34 : Cond.code yX5_lost cX5_lost 0 (some .long) ∈ kBIG := kT4 (List.mem_of_getElem? (i := 34) rfl) rfl
theorem q4_35 : Cond.constantLong RX5 70 (-9223372036854775808) ∈ kBIG := kT4 (List.mem_of_getElem? (i := 35) rfl) rfl
theorem q4_36 : Cond.methodLink RX5 235 yX5_share ∈ kBIG := kT4 (List.mem_of_getElem? (i := 36) rfl) rfl
theorem q4_37 : Cond.static yX5_share ∈ kBIG := kT4 (List.mem_of_getElem? (i := 37) rfl) rfl
theorem q4_38 : Cond.code yX5_share cX5_share 11 (some .long) ∈ kBIG := kT4 (List.mem_of_getElem? (i := 38) rfl) rfl
theorem q4_39 : Cond.methodLink RL 98 yX5_sheet ∈ kBIG := kT4 (List.mem_of_getElem? (i := 39) rfl) rfl
theorem q4_40 : Cond.instanceMethod yX5_sheet ∈ kBIG := kT4 (List.mem_of_getElem? (i := 40) rfl) rfl
theorem q4_41 : Cond.selects RX5 yX5_sheet yX5_sheet ∈ kBIG := kT4 (List.mem_of_getElem? (i := 41) rfl) rfl
theorem q4_42 : Cond.code yX5_sheet cX5_sheet 5 (some .int) ∈ kBIG := kT4 (List.mem_of_getElem? (i := 42) rfl) rfl
theorem q4_43 : Cond.methodLink RL 102 yX5_lose ∈ kBIG := kT4 (List.mem_of_getElem? (i := 43) rfl) rfl
theorem q4_44 : Cond.instanceMethod yX5_lose ∈ kBIG := kT4 (List.mem_of_getElem? (i := 44) rfl) rfl
theorem q4_45 : Cond.selects RX5 yX5_lose yX5_lose ∈ kBIG := kT4 (List.mem_of_getElem? (i := 45) rfl) rfl
theorem q4_46 : Cond.code yX5_lose cX5_lose 3 (some .int) ∈ kBIG := kT4 (List.mem_of_getElem? (i := 46) rfl) rfl
theorem q4_47 : Cond.methodLink RL 106 yX5_put ∈ kBIG := kT4 (List.mem_of_getElem? (i := 47) rfl) rfl
theorem q4_48 : Cond.instanceMethod yX5_put ∈ kBIG := kT4 (List.mem_of_getElem? (i := 48) rfl) rfl
theorem q4_49 : Cond.selects RX5 yX5_put yX5_put ∈ kBIG := kT4 (List.mem_of_getElem? (i := 49) rfl) rfl
theorem q4_50 : Cond.code yX5_put cX5_put 4 (some .int) ∈ kBIG := kT4 (List.mem_of_getElem? (i := 50) rfl) rfl
theorem q4_51 : Cond.methodLink RX5 239 yX5_noCell ∈ kBIG := kT4 (List.mem_of_getElem? (i := 51) rfl) rfl
theorem q4_53 : Cond.instanceMethod yX5_noCell ∈ kBIG := kT4 (List.mem_of_getElem? (i := 53) rfl) rfl
theorem q4_54 : Cond.code yX5_noCell cX5_noCell 3 (some .int) ∈ kBIG := kT4 (List.mem_of_getElem? (i := 54) rfl) rfl
theorem q4_55 : Cond.methodLink RL 111 yX5_cell ∈ kBIG := kT4 (List.mem_of_getElem? (i := 55) rfl) rfl
theorem q4_56 : Cond.instanceMethod yX5_cell ∈ kBIG := kT4 (List.mem_of_getElem? (i := 56) rfl) rfl
theorem q4_57 : Cond.selects RX5 yX5_cell yX5_cell ∈ kBIG := kT4 (List.mem_of_getElem? (i := 57) rfl) rfl
theorem q4_58 : Cond.code yX5_cell cX5_cell 4 (some .long) ∈ kBIG := kT4 (List.mem_of_getElem? (i := 58) rfl) rfl
theorem q4_59 : Cond.methodLink RX5 242 yX5_failedLong ∈ kBIG := kT4 (List.mem_of_getElem? (i := 59) rfl) rfl
theorem q4_61 : Cond.instanceMethod yX5_failedLong ∈ kBIG := kT4 (List.mem_of_getElem? (i := 61) rfl) rfl
theorem q4_62 : Cond.code yX5_failedLong cX5_failedLong 2 (some .long) ∈ kBIG := kT4 (List.mem_of_getElem? (i := 62) rfl) rfl
theorem q4_63 : Cond.methodLink RL 115 yX5_copy ∈ kBIG := kT4 (List.mem_of_getElem? (i := 63) rfl) rfl
theorem q4_64 : Cond.instanceMethod yX5_copy ∈ kBIG := kT4 (List.mem_of_getElem? (i := 64) rfl) rfl
theorem q4_65 : Cond.selects RX5 yX5_copy yX5_copy ∈ kBIG := kT4 (List.mem_of_getElem? (i := 65) rfl) rfl
theorem q4_66 : Cond.code yX5_copy cX5_copy 7 (some .int) ∈ kBIG := kT4 (List.mem_of_getElem? (i := 66) rfl) rfl
theorem q4_67 : Cond.methodLink RL 119 yX5_tell ∈ kBIG := kT4 (List.mem_of_getElem? (i := 67) rfl) rfl
theorem q4_68 : Cond.instanceMethod yX5_tell ∈ kBIG := kT4 (List.mem_of_getElem? (i := 68) rfl) rfl
theorem q4_69 : Cond.selects RX5 yX5_tell yX5_tell ∈ kBIG := kT4 (List.mem_of_getElem? (i := 69) rfl) rfl
theorem q4_70 : Cond.code yX5_tell cX5_tell 4 (some .int) ∈ kBIG := kT4 (List.mem_of_getElem? (i := 70) rfl) rfl
theorem q4_71 : Cond.methodLink RX5 249 yX5_traced ∈ kBIG := kT4 (List.mem_of_getElem? (i := 71) rfl) rfl
theorem q4_73 : Cond.instanceMethod yX5_traced ∈ kBIG := kT4 (List.mem_of_getElem? (i := 73) rfl) rfl
theorem q4_74 : Cond.code yX5_traced cX5_traced 2 none ∈ kBIG := kT4 (List.mem_of_getElem? (i := 74) rfl) rfl
theorem q4_75 : Cond.methodLink RL 123 yX5_whistle ∈ kBIG := kT4 (List.mem_of_getElem? (i := 75) rfl) rfl
theorem q4_76 : Cond.instanceMethod yX5_whistle ∈ kBIG := kT4 (List.mem_of_getElem? (i := 76) rfl) rfl
theorem q4_77 : Cond.selects RX5 yX5_whistle yX5_whistle ∈ kBIG := kT4 (List.mem_of_getElem? (i := 77) rfl) rfl
theorem q4_78 : Cond.code yX5_whistle cX5_whistle 2 (some .int) ∈ kBIG := kT4 (List.mem_of_getElem? (i := 78) rfl) rfl
theorem q4_79 : Cond.methodLink RL 127 yX5_as ∈ kBIG := kT4 (List.mem_of_getElem? (i := 79) rfl) rfl
theorem q4_80 : Cond.instanceMethod yX5_as ∈ kBIG := kT4 (List.mem_of_getElem? (i := 80) rfl) rfl
theorem q4_81 : Cond.selects RX5 yX5_as yX5_as ∈ kBIG := kT4 (List.mem_of_getElem? (i := 81) rfl) rfl
theorem q4_82 : Cond.code yX5_as cX5_as 3 (some .int) ∈ kBIG := kT4 (List.mem_of_getElem? (i := 82) rfl) rfl
theorem q4_83 : Cond.methodLink RL 132 yX5_trace ∈ kBIG := kT4 (List.mem_of_getElem? (i := 83) rfl) rfl
theorem q4_84 : Cond.instanceMethod yX5_trace ∈ kBIG := kT4 (List.mem_of_getElem? (i := 84) rfl) rfl
theorem q4_85 : Cond.selects RX5 yX5_trace yX5_trace ∈ kBIG := kT4 (List.mem_of_getElem? (i := 85) rfl) rfl
theorem q4_86 : Cond.code yX5_trace cX5_trace 1 (some .int) ∈ kBIG := kT4 (List.mem_of_getElem? (i := 86) rfl) rfl
theorem q4_87 : Cond.methodLink RL 136 yX5_fault ∈ kBIG := kT4 (List.mem_of_getElem? (i := 87) rfl) rfl
theorem q4_88 : Cond.instanceMethod yX5_fault ∈ kBIG := kT4 (List.mem_of_getElem? (i := 88) rfl) rfl
theorem q4_89 : Cond.selects RX5 yX5_fault yX5_fault ∈ kBIG := kT4 (List.mem_of_getElem? (i := 89) rfl) rfl
theorem q4_90 : Cond.code yX5_fault cX5_fault 1 (some .int) ∈ kBIG := kT4 (List.mem_of_getElem? (i := 90) rfl) rfl
theorem q4_91 : Cond.methodLink RL 140 yX5_many ∈ kBIG := kT4 (List.mem_of_getElem? (i := 91) rfl) rfl
theorem q4_92 : Cond.instanceMethod yX5_many ∈ kBIG := kT4 (List.mem_of_getElem? (i := 92) rfl) rfl
theorem q4_93 : Cond.selects RX5 yX5_many yX5_many ∈ kBIG := kT4 (List.mem_of_getElem? (i := 93) rfl) rfl
theorem q4_94 : Cond.code yX5_many cX5_many 2 (some .int) ∈ kBIG := kT4 (List.mem_of_getElem? (i := 94) rfl) rfl
theorem inX0 : ∀ w ∈ u_ws RX0 TX0 7, w ∈ kBIG := List.forall_mem_cons.mpr ⟨q1_45, List.forall_mem_cons.mpr ⟨q1_47, List.forall_mem_cons.mpr ⟨q1_49, List.forall_mem_cons.mpr ⟨q1_51, List.forall_mem_cons.mpr ⟨q1_53, List.forall_mem_cons.mpr ⟨q1_55, List.forall_mem_cons.mpr ⟨q1_57, fun _ h => absurd h List.not_mem_nil⟩⟩⟩⟩⟩⟩⟩
theorem inX1 : ∀ w ∈ u_ws RX1 TX1 4, w ∈ kBIG := List.forall_mem_cons.mpr ⟨q1_75, List.forall_mem_cons.mpr ⟨q1_77, List.forall_mem_cons.mpr ⟨q1_79, List.forall_mem_cons.mpr ⟨q1_81, fun _ h => absurd h List.not_mem_nil⟩⟩⟩⟩
theorem inX2 : ∀ w ∈ u_ws RX2 TX2 4, w ∈ kBIG := List.forall_mem_cons.mpr ⟨q1_98, List.forall_mem_cons.mpr ⟨q1_100, List.forall_mem_cons.mpr ⟨q1_102, List.forall_mem_cons.mpr ⟨q1_104, fun _ h => absurd h List.not_mem_nil⟩⟩⟩⟩
theorem inX4 : ∀ w ∈ u_ws RX4 TX4 13, w ∈ kBIG := List.forall_mem_cons.mpr ⟨q1_120, List.forall_mem_cons.mpr ⟨q1_122, List.forall_mem_cons.mpr ⟨q1_124, List.forall_mem_cons.mpr ⟨q1_126, List.forall_mem_cons.mpr ⟨q1_128, List.forall_mem_cons.mpr ⟨q1_130, List.forall_mem_cons.mpr ⟨q1_132, List.forall_mem_cons.mpr ⟨q1_134, List.forall_mem_cons.mpr ⟨q1_136, List.forall_mem_cons.mpr ⟨q1_138, List.forall_mem_cons.mpr ⟨q1_140, List.forall_mem_cons.mpr ⟨q1_142, List.forall_mem_cons.mpr ⟨q1_144, fun _ h => absurd h List.not_mem_nil⟩⟩⟩⟩⟩⟩⟩⟩⟩⟩⟩⟩⟩
theorem inX5 : ∀ w ∈ u_ws RX5 TX5 31, w ∈ kBIG := List.forall_mem_cons.mpr ⟨q3_4, List.forall_mem_cons.mpr ⟨q3_6, List.forall_mem_cons.mpr ⟨q3_8, List.forall_mem_cons.mpr ⟨q3_10, List.forall_mem_cons.mpr ⟨q3_12, List.forall_mem_cons.mpr ⟨q3_14, List.forall_mem_cons.mpr ⟨q3_16, List.forall_mem_cons.mpr ⟨q3_18, List.forall_mem_cons.mpr ⟨q3_20, List.forall_mem_cons.mpr ⟨q3_22, List.forall_mem_cons.mpr ⟨q3_24, List.forall_mem_cons.mpr ⟨q3_26, List.forall_mem_cons.mpr ⟨q3_28, List.forall_mem_cons.mpr ⟨q3_30, List.forall_mem_cons.mpr ⟨q3_32, List.forall_mem_cons.mpr ⟨q3_34, List.forall_mem_cons.mpr ⟨q3_36, List.forall_mem_cons.mpr ⟨q3_38, List.forall_mem_cons.mpr ⟨q3_40, List.forall_mem_cons.mpr ⟨q3_42, List.forall_mem_cons.mpr ⟨q3_44, List.forall_mem_cons.mpr ⟨q3_46, List.forall_mem_cons.mpr ⟨q3_48, List.forall_mem_cons.mpr ⟨q3_50, List.forall_mem_cons.mpr ⟨q3_52, List.forall_mem_cons.mpr ⟨q3_54, List.forall_mem_cons.mpr ⟨q3_56, List.forall_mem_cons.mpr ⟨q3_58, List.forall_mem_cons.mpr ⟨q3_60, List.forall_mem_cons.mpr ⟨q3_62, List.forall_mem_cons.mpr ⟨q3_64, fun _ h => absurd h List.not_mem_nil⟩⟩⟩⟩⟩⟩⟩⟩⟩⟩⟩⟩⟩⟩⟩⟩⟩⟩⟩⟩⟩⟩⟩⟩⟩⟩⟩⟩⟩⟩⟩
