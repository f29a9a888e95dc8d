/-! printed by wip/whole/gen.py: words, methods, calls -/
theorem inTBX0 : ∀ w ∈ u_ws RX0 TX0 2, w ∈ TB := by decide +kernel
theorem hclX0 : ClOk 0 RX0 TX0 2 := ⟨rfl, inTBX0, nmX0, tyX0, tyX0_ok⟩
theorem inTBX1 : ∀ w ∈ u_ws RX1 TX1 2, w ∈ TB := by decide +kernel
theorem hclX1 : ClOk 1 RX1 TX1 2 := ⟨rfl, inTBX1, nmX1, tyX1, tyX1_ok⟩
theorem inTBX2 : ∀ w ∈ u_ws RX2 TX2 4, w ∈ TB := by decide +kernel
theorem hclX2 : ClOk 2 RX2 TX2 4 := ⟨rfl, inTBX2, nmX2, tyX2, tyX2_ok⟩
theorem inTBX3 : ∀ w ∈ u_ws RX3 TX3 3, w ∈ TB := by decide +kernel
theorem hclX3 : ClOk 3 RX3 TX3 3 := ⟨rfl, inTBX3, nmX3, tyX3, tyX3_ok⟩
theorem inTBX4 : ∀ w ∈ u_ws RX4 TX4 1, w ∈ TB := by decide +kernel
theorem hclX4 : ClOk 4 RX4 TX4 1 := ⟨rfl, inTBX4, nmX4, tyX4, tyX4_ok⟩
theorem inTBX5 : ∀ w ∈ u_ws RX5 TX5 5, w ∈ TB := by decide +kernel
theorem hclX5 : ClOk 5 RX5 TX5 5 := ⟨rfl, inTBX5, nmX5, tyX5, tyX5_ok⟩
theorem inTBX6 : ∀ w ∈ u_ws RX6 TX6 2, w ∈ TB := by decide +kernel
theorem hclX6 : ClOk 6 RX6 TX6 2 := ⟨rfl, inTBX6, nmX6, tyX6, tyX6_ok⟩
theorem inTBX7 : ∀ w ∈ u_ws RX7 TX7 3, w ∈ TB := by decide +kernel
theorem hclX7 : ClOk 7 RX7 TX7 3 := ⟨rfl, inTBX7, nmX7, tyX7, tyX7_ok⟩
theorem inTBX8 : ∀ w ∈ u_ws RX8 TX8 5, w ∈ TB := by decide +kernel
theorem hclX8 : ClOk 8 RX8 TX8 5 := ⟨rfl, inTBX8, nmX8, tyX8, tyX8_ok⟩
theorem inTBX9 : ∀ w ∈ u_ws RX9 TX9 13, w ∈ TB := by decide +kernel
theorem hclX9 : ClOk 9 RX9 TX9 13 := ⟨rfl, inTBX9, nmX9, tyX9, tyX9_ok⟩
theorem inTBX10 : ∀ w ∈ u_ws RX10 TX10 34, w ∈ TB := by decide +kernel
theorem hclX10 : ClOk 10 RX10 TX10 34 := ⟨rfl, inTBX10, nmX10, tyX10, tyX10_ok⟩
theorem isA_2 : isA 2 := ⟨by decide, rfl⟩
theorem isA_3 : isA 3 := ⟨by decide, rfl⟩
theorem isA_5 : isA 5 := ⟨by decide, rfl⟩
theorem isA_7 : isA 7 := ⟨by decide, rfl⟩
theorem isA_11 : isA 11 := ⟨by decide, rfl⟩
theorem isA_12 : isA 12 := ⟨by decide, rfl⟩
theorem isA_13 : isA 13 := ⟨by decide, rfl⟩
theorem isA_15 : isA 15 := ⟨by decide, rfl⟩
theorem isA_17 : isA 17 := ⟨by decide, rfl⟩
theorem isA_18 : isA 18 := ⟨by decide, rfl⟩
theorem isA_19 : isA 19 := ⟨by decide, rfl⟩
theorem isA_21 : isA 21 := ⟨by decide, rfl⟩
theorem isA_22 : isA 22 := ⟨by decide, rfl⟩
theorem isA_24 : isA 24 := ⟨by decide, rfl⟩
theorem isA_25 : isA 25 := ⟨by decide, rfl⟩
theorem isA_27 : isA 27 := ⟨by decide, rfl⟩
theorem isA_32 : isA 32 := ⟨by decide, rfl⟩
theorem isA_50 : isA 50 := ⟨by decide, rfl⟩
theorem isA_51 : isA 51 := ⟨by decide, rfl⟩
theorem isA_52 : isA 52 := ⟨by decide, rfl⟩
theorem isP_26 : isP 26 := ⟨by decide, rfl, rfl⟩
theorem isP_28 : isP 28 := ⟨by decide, rfl, rfl⟩
theorem isP_30 : isP 30 := ⟨by decide, rfl, rfl⟩
theorem isT_4 : isT 4 := ⟨by decide, rfl, rfl⟩
theorem isT_8 : isT 8 := ⟨by decide, rfl, rfl⟩
theorem wd_0 : Cond.selects RX7 yX7_settle yX7_settle ∈ TB := TB_in (List.mem_of_getElem? (i := 0) (by decide +kernel)) rfl
theorem wd_1 : Cond.selects RX9 yX9_refuse yX9_refuse ∈ TB := TB_in (List.mem_of_getElem? (i := 1) (by decide +kernel)) rfl
theorem wd_2 : Cond.selects RX6 yX6_drain yX6_drain ∈ TB := TB_in (List.mem_of_getElem? (i := 2) (by decide +kernel)) rfl
theorem wd_3 : Cond.selects RX7 yX7_lives yX7_lives ∈ TB := TB_in (List.mem_of_getElem? (i := 3) (by decide +kernel)) rfl
theorem wd_4 : Cond.selects RX5 yX5_append yX5_append ∈ TB := TB_in (List.mem_of_getElem? (i := 4) (by decide +kernel)) rfl
theorem wd_5 : Cond.selects RX5 yX5_readAll yX5_readAll ∈ TB := TB_in (List.mem_of_getElem? (i := 5) (by decide +kernel)) rfl
theorem wd_6 : Cond.selects RX5 yX5_readTie yX5_readTie ∈ TB := TB_in (List.mem_of_getElem? (i := 6) (by decide +kernel)) rfl
theorem wd_7 : Cond.selects RX6 yX6_draft yX6_draft ∈ TB := TB_in (List.mem_of_getElem? (i := 7) (by decide +kernel)) rfl
theorem wd_8 : Cond.selects RX5 yX5_readPerson yX5_readPerson ∈ TB := TB_in (List.mem_of_getElem? (i := 8) (by decide +kernel)) rfl
theorem wd_9 : Cond.selects RX5 yX5_readInto yX5_readInto ∈ TB := TB_in (List.mem_of_getElem? (i := 9) (by decide +kernel)) rfl
theorem wd_10 : Cond.selects RX5 yX5_here yX5_here ∈ TB := TB_in (List.mem_of_getElem? (i := 10) (by decide +kernel)) rfl
theorem wd_11 : Cond.selects RX5 yX5_skip yX5_skip ∈ TB := TB_in (List.mem_of_getElem? (i := 11) (by decide +kernel)) rfl
theorem wd_12 : Cond.selects RX5 yX5_drafted yX5_drafted ∈ TB := TB_in (List.mem_of_getElem? (i := 12) (by decide +kernel)) rfl
theorem wd_13 : Cond.selects RX6 yX6_field yX6_field ∈ TB := TB_in (List.mem_of_getElem? (i := 13) (by decide +kernel)) rfl
theorem wd_14 : Cond.selects RX5 yX5_readStrength yX5_readStrength ∈ TB := TB_in (List.mem_of_getElem? (i := 14) (by decide +kernel)) rfl
theorem wd_15 : Cond.selects RX5 yX5_readYears yX5_readYears ∈ TB := TB_in (List.mem_of_getElem? (i := 15) (by decide +kernel)) rfl
theorem wd_16 : Cond.selects RX5 yX5_readYear yX5_readYear ∈ TB := TB_in (List.mem_of_getElem? (i := 16) (by decide +kernel)) rfl
theorem wd_17 : Cond.selects RX6 yX6_endDraft yX6_endDraft ∈ TB := TB_in (List.mem_of_getElem? (i := 17) (by decide +kernel)) rfl
theorem wd_18 : Cond.selects RX6 yX6_takeAll yX6_takeAll ∈ TB := TB_in (List.mem_of_getElem? (i := 18) (by decide +kernel)) rfl
theorem wd_19 : Cond.selects RX6 yX6_drop yX6_drop ∈ TB := TB_in (List.mem_of_getElem? (i := 19) (by decide +kernel)) rfl
theorem wd_20 : Cond.selects RX9 yX9_lookAt yX9_lookAt ∈ TB := TB_in (List.mem_of_getElem? (i := 20) (by decide +kernel)) rfl
theorem wd_21 : Cond.selects RX6 yX6_draw yX6_draw ∈ TB := TB_in (List.mem_of_getElem? (i := 21) (by decide +kernel)) rfl
theorem wd_22 : Cond.selects RX7 yX7_strength yX7_strength ∈ TB := TB_in (List.mem_of_getElem? (i := 22) (by decide +kernel)) rfl
theorem wd_23 : Cond.selects RX7 yX7_tiesOf yX7_tiesOf ∈ TB := TB_in (List.mem_of_getElem? (i := 23) (by decide +kernel)) rfl
theorem wd_24 : Cond.selects RX7 yX7_tied yX7_tied ∈ TB := TB_in (List.mem_of_getElem? (i := 24) (by decide +kernel)) rfl
theorem wd_25 : Cond.selects RX3 yX3_readNumber yX3_readNumber ∈ TB := TB_in (List.mem_of_getElem? (i := 25) (by decide +kernel)) rfl
theorem wd_26 : Cond.selects RX3 yX3_of yX3_of ∈ TB := TB_in (List.mem_of_getElem? (i := 26) (by decide +kernel)) rfl
theorem wd_27 : Cond.selects RX4 yX4_firstUnlike yX4_firstUnlike ∈ TB := TB_in (List.mem_of_getElem? (i := 27) (by decide +kernel)) rfl
theorem wd_28 : Cond.selects RX4 yX4_look yX4_look ∈ TB := TB_in (List.mem_of_getElem? (i := 28) (by decide +kernel)) rfl
theorem wd_29 : Cond.selects RX4 yX4_note yX4_note ∈ TB := TB_in (List.mem_of_getElem? (i := 29) (by decide +kernel)) rfl
theorem wd_30 : Cond.selects RX3 yX3_together yX3_together ∈ TB := TB_in (List.mem_of_getElem? (i := 30) (by decide +kernel)) rfl
theorem wd_31 : Cond.selects RX4 yX4_alike yX4_alike ∈ TB := TB_in (List.mem_of_getElem? (i := 31) (by decide +kernel)) rfl
theorem wd_32 : Cond.selects RX7 yX7_sameMark yX7_sameMark ∈ TB := TB_in (List.mem_of_getElem? (i := 32) (by decide +kernel)) rfl
theorem wd_33 : Cond.selects RX4 yX4_sameView yX4_sameView ∈ TB := TB_in (List.mem_of_getElem? (i := 33) (by decide +kernel)) rfl
theorem wd_34 : Cond.selects RX4 yX4_refine yX4_refine ∈ TB := TB_in (List.mem_of_getElem? (i := 34) (by decide +kernel)) rfl
theorem wd_35 : Cond.selects RX4 yX4_split yX4_split ∈ TB := TB_in (List.mem_of_getElem? (i := 35) (by decide +kernel)) rfl
theorem wd_36 : Cond.selects RX3 yX3_begin yX3_begin ∈ TB := TB_in (List.mem_of_getElem? (i := 36) (by decide +kernel)) rfl
theorem wd_37 : Cond.selects RX3 yX3_place yX3_place ∈ TB := TB_in (List.mem_of_getElem? (i := 37) (by decide +kernel)) rfl
theorem wd_38 : Cond.selects RX3 yX3_copy yX3_copy ∈ TB := TB_in (List.mem_of_getElem? (i := 38) (by decide +kernel)) rfl
theorem wd_39 : Cond.selects RX3 yX3_number yX3_number ∈ TB := TB_in (List.mem_of_getElem? (i := 39) (by decide +kernel)) rfl
theorem wd_40 : Cond.selects RX8 yX8_howMany yX8_howMany ∈ TB := TB_in (List.mem_of_getElem? (i := 40) (by decide +kernel)) rfl
theorem wd_41 : Cond.selects RX8 yX8_brings yX8_brings ∈ TB := TB_in (List.mem_of_getElem? (i := 41) (by decide +kernel)) rfl
theorem wd_42 : Cond.selects RX8 yX8_begin yX8_begin ∈ TB := TB_in (List.mem_of_getElem? (i := 42) (by decide +kernel)) rfl
theorem wd_43 : Cond.selects RX8 yX8_nextKeeping yX8_nextKeeping ∈ TB := TB_in (List.mem_of_getElem? (i := 43) (by decide +kernel)) rfl
theorem wd_44 : Cond.selects RX8 yX8_lift yX8_lift ∈ TB := TB_in (List.mem_of_getElem? (i := 44) (by decide +kernel)) rfl
theorem wd_45 : Cond.selects RX8 yX8_keepsAhead yX8_keepsAhead ∈ TB := TB_in (List.mem_of_getElem? (i := 45) (by decide +kernel)) rfl
theorem wd_46 : Cond.selects RX8 yX8_step yX8_step ∈ TB := TB_in (List.mem_of_getElem? (i := 46) (by decide +kernel)) rfl
theorem wd_47 : Cond.selects RX8 yX8_partByOrbit yX8_partByOrbit ∈ TB := TB_in (List.mem_of_getElem? (i := 47) (by decide +kernel)) rfl
theorem wd_48 : Cond.selects RX8 yX8_leastRow yX8_leastRow ∈ TB := TB_in (List.mem_of_getElem? (i := 48) (by decide +kernel)) rfl
theorem wd_49 : Cond.selects RX8 yX8_findTwins yX8_findTwins ∈ TB := TB_in (List.mem_of_getElem? (i := 49) (by decide +kernel)) rfl
theorem wd_50 : Cond.selects RX7 yX7_tiesOfKind yX7_tiesOfKind ∈ TB := TB_in (List.mem_of_getElem? (i := 50) (by decide +kernel)) rfl
theorem wd_51 : Cond.selects RX8 yX8_nextInRow yX8_nextInRow ∈ TB := TB_in (List.mem_of_getElem? (i := 51) (by decide +kernel)) rfl
theorem wd_52 : Cond.selects RX8 yX8_hasLeastMark yX8_hasLeastMark ∈ TB := TB_in (List.mem_of_getElem? (i := 52) (by decide +kernel)) rfl
theorem wd_53 : Cond.selects RX8 yX8_behindBest yX8_behindBest ∈ TB := TB_in (List.mem_of_getElem? (i := 53) (by decide +kernel)) rfl
theorem wd_54 : Cond.selects RX8 yX8_lessThanBest yX8_lessThanBest ∈ TB := TB_in (List.mem_of_getElem? (i := 54) (by decide +kernel)) rfl
theorem wd_55 : Cond.selects RX8 yX8_keepBest yX8_keepBest ∈ TB := TB_in (List.mem_of_getElem? (i := 55) (by decide +kernel)) rfl
theorem wd_56 : Cond.selects RX8 yX8_bestAsNumber yX8_bestAsNumber ∈ TB := TB_in (List.mem_of_getElem? (i := 56) (by decide +kernel)) rfl
theorem wd_57 : Cond.selects RX3 yX3_allInOne yX3_allInOne ∈ TB := TB_in (List.mem_of_getElem? (i := 57) (by decide +kernel)) rfl
theorem wd_58 : Cond.selects RX3 yX3_forward yX3_forward ∈ TB := TB_in (List.mem_of_getElem? (i := 58) (by decide +kernel)) rfl
theorem wd_59 : Cond.selects RX3 yX3_topAhead yX3_topAhead ∈ TB := TB_in (List.mem_of_getElem? (i := 59) (by decide +kernel)) rfl
theorem wd_60 : Cond.selects RX3 yX3_mergeBy yX3_mergeBy ∈ TB := TB_in (List.mem_of_getElem? (i := 60) (by decide +kernel)) rfl
theorem wd_61 : Cond.selects RX3 yX3_rename yX3_rename ∈ TB := TB_in (List.mem_of_getElem? (i := 61) (by decide +kernel)) rfl
theorem wd_62 : Cond.selects RX3 yX3_copyRenumbered yX3_copyRenumbered ∈ TB := TB_in (List.mem_of_getElem? (i := 62) (by decide +kernel)) rfl
theorem wd_63 : Cond.selects RX3 yX3_cross yX3_cross ∈ TB := TB_in (List.mem_of_getElem? (i := 63) (by decide +kernel)) rfl
theorem wd_64 : Cond.selects RX3 yX3_has yX3_has ∈ TB := TB_in (List.mem_of_getElem? (i := 64) (by decide +kernel)) rfl
theorem wd_65 : Cond.selects RX0 yX0_image yX0_image ∈ TB := TB_in (List.mem_of_getElem? (i := 65) (by decide +kernel)) rfl
theorem wd_66 : Cond.selects RX3 yX3_sizeOf yX3_sizeOf ∈ TB := TB_in (List.mem_of_getElem? (i := 66) (by decide +kernel)) rfl
theorem wd_67 : Cond.selects RX0 yX0_tiesTo yX0_tiesTo ∈ TB := TB_in (List.mem_of_getElem? (i := 67) (by decide +kernel)) rfl
theorem wd_68 : Cond.selects RX0 yX0_misfits yX0_misfits ∈ TB := TB_in (List.mem_of_getElem? (i := 68) (by decide +kernel)) rfl
theorem wd_69 : Cond.selects RX0 yX0_tallyTies yX0_tallyTies ∈ TB := TB_in (List.mem_of_getElem? (i := 69) (by decide +kernel)) rfl
theorem wd_70 : Cond.selects RX0 yX0_misfit yX0_misfit ∈ TB := TB_in (List.mem_of_getElem? (i := 70) (by decide +kernel)) rfl
theorem wd_71 : Cond.selects RX0 yX0_bestWith yX0_bestWith ∈ TB := TB_in (List.mem_of_getElem? (i := 71) (by decide +kernel)) rfl
theorem wd_72 : Cond.selects RX0 yX0_worstTie yX0_worstTie ∈ TB := TB_in (List.mem_of_getElem? (i := 72) (by decide +kernel)) rfl
theorem wd_73 : Cond.selects RX0 yX0_gainOf yX0_gainOf ∈ TB := TB_in (List.mem_of_getElem? (i := 73) (by decide +kernel)) rfl
theorem wd_74 : Cond.selects RX2 yX2_append yX2_append ∈ TB := TB_in (List.mem_of_getElem? (i := 74) (by decide +kernel)) rfl
theorem wd_75 : Cond.selects RX2 yX2_suitingParts yX2_suitingParts ∈ TB := TB_in (List.mem_of_getElem? (i := 75) (by decide +kernel)) rfl
theorem wd_76 : Cond.selects RX2 yX2_hasSuchTie yX2_hasSuchTie ∈ TB := TB_in (List.mem_of_getElem? (i := 76) (by decide +kernel)) rfl
theorem wd_77 : Cond.selects RX9 yX9_partOfYear yX9_partOfYear ∈ TB := TB_in (List.mem_of_getElem? (i := 77) (by decide +kernel)) rfl
theorem wd_78 : Cond.selects RX1 yX1_keepers yX1_keepers ∈ TB := TB_in (List.mem_of_getElem? (i := 78) (by decide +kernel)) rfl
theorem wd_79 : Cond.selects RX1 yX1_bestFor yX1_bestFor ∈ TB := TB_in (List.mem_of_getElem? (i := 79) (by decide +kernel)) rfl
theorem wd_80 : Cond.selects RX6 yX6_nextChange yX6_nextChange ∈ TB := TB_in (List.mem_of_getElem? (i := 80) (by decide +kernel)) rfl
theorem wd_81 : Cond.selects RX7 yX7_tiesInAll yX7_tiesInAll ∈ TB := TB_in (List.mem_of_getElem? (i := 81) (by decide +kernel)) rfl
theorem wd_82 : Cond.selects RX10 yX10_no yX10_no ∈ TB := TB_in (List.mem_of_getElem? (i := 82) (by decide +kernel)) rfl
theorem wd_83 : Cond.selects RX10 yX10_isPerson yX10_isPerson ∈ TB := TB_in (List.mem_of_getElem? (i := 83) (by decide +kernel)) rfl
theorem wd_84 : Cond.selects RX10 yX10_reads yX10_reads ∈ TB := TB_in (List.mem_of_getElem? (i := 84) (by decide +kernel)) rfl
theorem wd_85 : Cond.selects RX10 yX10_oneTie yX10_oneTie ∈ TB := TB_in (List.mem_of_getElem? (i := 85) (by decide +kernel)) rfl
theorem wd_86 : Cond.selects RX10 yX10_takesIn yX10_takesIn ∈ TB := TB_in (List.mem_of_getElem? (i := 86) (by decide +kernel)) rfl
theorem wd_87 : Cond.selects RX10 yX10_sign yX10_sign ∈ TB := TB_in (List.mem_of_getElem? (i := 87) (by decide +kernel)) rfl
theorem wd_88 : Cond.selects RX10 yX10_takes yX10_takes ∈ TB := TB_in (List.mem_of_getElem? (i := 88) (by decide +kernel)) rfl
theorem wd_89 : Cond.selects RX10 yX10_years yX10_years ∈ TB := TB_in (List.mem_of_getElem? (i := 89) (by decide +kernel)) rfl
theorem wd_90 : Cond.selects RX10 yX10_findTies yX10_findTies ∈ TB := TB_in (List.mem_of_getElem? (i := 90) (by decide +kernel)) rfl
theorem wd_91 : Cond.selects RX10 yX10_strong yX10_strong ∈ TB := TB_in (List.mem_of_getElem? (i := 91) (by decide +kernel)) rfl
theorem wd_92 : Cond.selects RX10 yX10_has yX10_has ∈ TB := TB_in (List.mem_of_getElem? (i := 92) (by decide +kernel)) rfl
theorem wd_93 : Cond.selects RX10 yX10_opens yX10_opens ∈ TB := TB_in (List.mem_of_getElem? (i := 93) (by decide +kernel)) rfl
theorem wd_94 : Cond.selects RX10 yX10_judged yX10_judged ∈ TB := TB_in (List.mem_of_getElem? (i := 94) (by decide +kernel)) rfl
theorem wd_95 : Cond.selects RX10 yX10_areSo yX10_areSo ∈ TB := TB_in (List.mem_of_getElem? (i := 95) (by decide +kernel)) rfl
theorem wd_96 : Cond.selects RX10 yX10_areTied yX10_areTied ∈ TB := TB_in (List.mem_of_getElem? (i := 96) (by decide +kernel)) rfl
theorem wd_97 : Cond.selects RX10 yX10_areLed yX10_areLed ∈ TB := TB_in (List.mem_of_getElem? (i := 97) (by decide +kernel)) rfl
theorem wd_98 : Cond.selects RX10 yX10_led yX10_led ∈ TB := TB_in (List.mem_of_getElem? (i := 98) (by decide +kernel)) rfl
theorem wd_99 : Cond.selects RX10 yX10_splits yX10_splits ∈ TB := TB_in (List.mem_of_getElem? (i := 99) (by decide +kernel)) rfl
theorem wd_100 : Cond.selects RX10 yX10_number yX10_number ∈ TB := TB_in (List.mem_of_getElem? (i := 100) (by decide +kernel)) rfl
theorem wd_101 : Cond.selects RX10 yX10_findTurns yX10_findTurns ∈ TB := TB_in (List.mem_of_getElem? (i := 101) (by decide +kernel)) rfl
theorem wd_102 : Cond.selects RX10 yX10_firstNames yX10_firstNames ∈ TB := TB_in (List.mem_of_getElem? (i := 102) (by decide +kernel)) rfl
theorem wd_103 : Cond.selects RX10 yX10_isTurn yX10_isTurn ∈ TB := TB_in (List.mem_of_getElem? (i := 103) (by decide +kernel)) rfl
theorem wd_104 : Cond.selects RX10 yX10_nextNames yX10_nextNames ∈ TB := TB_in (List.mem_of_getElem? (i := 104) (by decide +kernel)) rfl
theorem wd_105 : Cond.selects RX10 yX10_firstParting yX10_firstParting ∈ TB := TB_in (List.mem_of_getElem? (i := 105) (by decide +kernel)) rfl
theorem wd_106 : Cond.selects RX10 yX10_nextParting yX10_nextParting ∈ TB := TB_in (List.mem_of_getElem? (i := 106) (by decide +kernel)) rfl
theorem wd_107 : Cond.selects RX10 yX10_wrongOf yX10_wrongOf ∈ TB := TB_in (List.mem_of_getElem? (i := 107) (by decide +kernel)) rfl
theorem wd_108 : Cond.selects RX10 yX10_parts yX10_parts ∈ TB := TB_in (List.mem_of_getElem? (i := 108) (by decide +kernel)) rfl
theorem wd_109 : Cond.selects RX10 yX10_less yX10_less ∈ TB := TB_in (List.mem_of_getElem? (i := 109) (by decide +kernel)) rfl
theorem wd_110 : Cond.selects RX10 yX10_isFit yX10_isFit ∈ TB := TB_in (List.mem_of_getElem? (i := 110) (by decide +kernel)) rfl
theorem wd_111 : Cond.selects RX10 yX10_coarsestOn yX10_coarsestOn ∈ TB := TB_in (List.mem_of_getElem? (i := 111) (by decide +kernel)) rfl
theorem wd_113 : Cond.initialized RX9 ∈ TB := TB_in (List.mem_of_getElem? (i := 113) (by decide +kernel)) rfl
theorem wd_114 : Cond.initialized RX7 ∈ TB := TB_in (List.mem_of_getElem? (i := 114) (by decide +kernel)) rfl
theorem wd_115 : Cond.initialized RX6 ∈ TB := TB_in (List.mem_of_getElem? (i := 115) (by decide +kernel)) rfl
theorem wd_116 : Cond.initialized RX5 ∈ TB := TB_in (List.mem_of_getElem? (i := 116) (by decide +kernel)) rfl
theorem wd_117 : Cond.initialized RX2 ∈ TB := TB_in (List.mem_of_getElem? (i := 117) (by decide +kernel)) rfl
theorem wd_118 : Cond.initialized RX4 ∈ TB := TB_in (List.mem_of_getElem? (i := 118) (by decide +kernel)) rfl
theorem wd_119 : Cond.initialized RX8 ∈ TB := TB_in (List.mem_of_getElem? (i := 119) (by decide +kernel)) rfl
theorem wd_120 : Cond.initialized RX0 ∈ TB := TB_in (List.mem_of_getElem? (i := 120) (by decide +kernel)) rfl
theorem wd_121 : Cond.initialized RX1 ∈ TB := TB_in (List.mem_of_getElem? (i := 121) (by decide +kernel)) rfl
theorem wd_122 : Cond.initialized RX3 ∈ TB := TB_in (List.mem_of_getElem? (i := 122) (by decide +kernel)) rfl
theorem wd_123 : Cond.initialized RX10 ∈ TB := TB_in (List.mem_of_getElem? (i := 123) (by decide +kernel)) rfl
theorem wd_124 : Cond.initialized RJ9 ∈ TB := TB_in (List.mem_of_getElem? (i := 124) (by decide +kernel)) rfl
theorem wd_139 : Cond.fieldLink RX7 9 RX7 "marks" "[I" ∈ TB := TB_in (List.mem_of_getElem? (i := 139) (by decide +kernel)) rfl
theorem wn_140 : Cond.fieldLinkNest RX9 102 RX7 "marks" "[I" RX9 ∈ NW := NW_in (List.mem_of_getElem? (i := 140) (by decide +kernel)) rfl
theorem wn_141 : Cond.fieldLinkNest RX8 126 RX7 "marks" "[I" RX9 ∈ NW := NW_in (List.mem_of_getElem? (i := 141) (by decide +kernel)) rfl
theorem wd_142 : Cond.fieldLink RX7 15 RX7 "strengths" "[I" ∈ TB := TB_in (List.mem_of_getElem? (i := 142) (by decide +kernel)) rfl
theorem wn_143 : Cond.fieldLinkNest RX6 38 RX7 "strengths" "[I" RX9 ∈ NW := NW_in (List.mem_of_getElem? (i := 143) (by decide +kernel)) rfl
theorem wd_144 : Cond.fieldLink RX7 18 RX7 "size" "I" ∈ TB := TB_in (List.mem_of_getElem? (i := 144) (by decide +kernel)) rfl
theorem wn_145 : Cond.fieldLinkNest RX8 21 RX7 "size" "I" RX9 ∈ NW := NW_in (List.mem_of_getElem? (i := 145) (by decide +kernel)) rfl
theorem wn_146 : Cond.fieldLinkNest RX4 19 RX7 "size" "I" RX9 ∈ NW := NW_in (List.mem_of_getElem? (i := 146) (by decide +kernel)) rfl
theorem wn_147 : Cond.fieldLinkNest RX9 90 RX7 "size" "I" RX9 ∈ NW := NW_in (List.mem_of_getElem? (i := 147) (by decide +kernel)) rfl
theorem wn_148 : Cond.fieldLinkNest RX0 36 RX7 "size" "I" RX9 ∈ NW := NW_in (List.mem_of_getElem? (i := 148) (by decide +kernel)) rfl
theorem wn_149 : Cond.fieldLinkNest RX2 46 RX7 "size" "I" RX9 ∈ NW := NW_in (List.mem_of_getElem? (i := 149) (by decide +kernel)) rfl
theorem wd_164 : Cond.fieldLink RX6 11 RX6 "rows" "[I" ∈ TB := TB_in (List.mem_of_getElem? (i := 164) (by decide +kernel)) rfl
theorem wd_165 : Cond.fieldLink RX6 15 RX6 "size" "I" ∈ TB := TB_in (List.mem_of_getElem? (i := 165) (by decide +kernel)) rfl
theorem wn_166 : Cond.fieldLinkNest RX9 126 RX6 "size" "I" RX9 ∈ NW := NW_in (List.mem_of_getElem? (i := 166) (by decide +kernel)) rfl
theorem wn_167 : Cond.fieldLinkNest RX5 79 RX6 "size" "I" RX9 ∈ NW := NW_in (List.mem_of_getElem? (i := 167) (by decide +kernel)) rfl
theorem wd_181 : Cond.fieldLink RX5 9 RX5 "bytes" "[I" ∈ TB := TB_in (List.mem_of_getElem? (i := 181) (by decide +kernel)) rfl
theorem wd_182 : Cond.fieldLink RX5 18 RX5 "heard" "LSameParts$Told;" ∈ TB := TB_in (List.mem_of_getElem? (i := 182) (by decide +kernel)) rfl
theorem wn_183 : Cond.fieldLinkNest RX9 127 RX5 "heard" "LSameParts$Told;" RX9 ∈ NW := NW_in (List.mem_of_getElem? (i := 183) (by decide +kernel)) rfl
theorem wd_184 : Cond.fieldLink RX5 22 RX5 "size" "I" ∈ TB := TB_in (List.mem_of_getElem? (i := 184) (by decide +kernel)) rfl
theorem wn_185 : Cond.fieldLinkNest RX9 116 RX5 "size" "I" RX9 ∈ NW := NW_in (List.mem_of_getElem? (i := 185) (by decide +kernel)) rfl
theorem wd_186 : Cond.fieldLink RX5 33 RX5 "place" "I" ∈ TB := TB_in (List.mem_of_getElem? (i := 186) (by decide +kernel)) rfl
theorem wn_187 : Cond.fieldLinkNest RX9 123 RX5 "place" "I" RX9 ∈ NW := NW_in (List.mem_of_getElem? (i := 187) (by decide +kernel)) rfl
theorem wd_188 : Cond.fieldLink RX5 30 RX5 "persons" "I" ∈ TB := TB_in (List.mem_of_getElem? (i := 188) (by decide +kernel)) rfl
theorem wd_206 : Cond.fieldLink RX2 9 RX2 "kinds" "[I" ∈ TB := TB_in (List.mem_of_getElem? (i := 206) (by decide +kernel)) rfl
theorem wd_207 : Cond.fieldLink RX2 15 RX2 "persons" "[I" ∈ TB := TB_in (List.mem_of_getElem? (i := 207) (by decide +kernel)) rfl
theorem wd_208 : Cond.fieldLink RX2 18 RX2 "outgoing" "[I" ∈ TB := TB_in (List.mem_of_getElem? (i := 208) (by decide +kernel)) rfl
theorem wd_209 : Cond.fieldLink RX2 21 RX2 "size" "I" ∈ TB := TB_in (List.mem_of_getElem? (i := 209) (by decide +kernel)) rfl
theorem wn_210 : Cond.fieldLinkNest RX9 97 RX2 "size" "I" RX9 ∈ NW := NW_in (List.mem_of_getElem? (i := 210) (by decide +kernel)) rfl
theorem wd_226 : Cond.fieldLink RX4 11 RX4 "views" "[I" ∈ TB := TB_in (List.mem_of_getElem? (i := 226) (by decide +kernel)) rfl
theorem wd_236 : Cond.fieldLink RX8 9 RX8 "image" "[I" ∈ TB := TB_in (List.mem_of_getElem? (i := 236) (by decide +kernel)) rfl
theorem wd_237 : Cond.fieldLink RX8 15 RX8 "best" "[I" ∈ TB := TB_in (List.mem_of_getElem? (i := 237) (by decide +kernel)) rfl
theorem wd_238 : Cond.fieldLink RX8 18 RX8 "twinsAhead" "[I" ∈ TB := TB_in (List.mem_of_getElem? (i := 238) (by decide +kernel)) rfl
theorem wd_239 : Cond.fieldLink RX8 48 RX8 "depth" "I" ∈ TB := TB_in (List.mem_of_getElem? (i := 239) (by decide +kernel)) rfl
theorem wd_240 : Cond.fieldLink RX8 58 RX8 "used" "I" ∈ TB := TB_in (List.mem_of_getElem? (i := 240) (by decide +kernel)) rfl
theorem wd_258 : Cond.fieldLink RX0 9 RX0 "tally" "[I" ∈ TB := TB_in (List.mem_of_getElem? (i := 258) (by decide +kernel)) rfl
theorem wd_259 : Cond.fieldLink RX0 15 RX0 "sizes" "[I" ∈ TB := TB_in (List.mem_of_getElem? (i := 259) (by decide +kernel)) rfl
theorem wd_271 : Cond.fieldLink RX1 9 RX1 "shared" "[I" ∈ TB := TB_in (List.mem_of_getElem? (i := 271) (by decide +kernel)) rfl
theorem wd_272 : Cond.fieldLink RX1 15 RX1 "most" "[I" ∈ TB := TB_in (List.mem_of_getElem? (i := 272) (by decide +kernel)) rfl
theorem wd_284 : Cond.fieldLink RX3 9 RX3 "part" "[I" ∈ TB := TB_in (List.mem_of_getElem? (i := 284) (by decide +kernel)) rfl
theorem wd_285 : Cond.fieldLink RX3 15 RX3 "persons" "I" ∈ TB := TB_in (List.mem_of_getElem? (i := 285) (by decide +kernel)) rfl
theorem wn_286 : Cond.fieldLinkNest RX1 22 RX3 "persons" "I" RX9 ∈ NW := NW_in (List.mem_of_getElem? (i := 286) (by decide +kernel)) rfl
theorem wd_287 : Cond.fieldLink RX3 19 RX3 "parts" "I" ∈ TB := TB_in (List.mem_of_getElem? (i := 287) (by decide +kernel)) rfl
theorem wn_288 : Cond.fieldLinkNest RX0 22 RX3 "parts" "I" RX9 ∈ NW := NW_in (List.mem_of_getElem? (i := 288) (by decide +kernel)) rfl
theorem wn_289 : Cond.fieldLinkNest RX1 36 RX3 "parts" "I" RX9 ∈ NW := NW_in (List.mem_of_getElem? (i := 289) (by decide +kernel)) rfl
theorem wn_290 : Cond.fieldLinkNest RX2 29 RX3 "parts" "I" RX9 ∈ NW := NW_in (List.mem_of_getElem? (i := 290) (by decide +kernel)) rfl
theorem wn_291 : Cond.fieldLinkNest RX4 39 RX3 "parts" "I" RX9 ∈ NW := NW_in (List.mem_of_getElem? (i := 291) (by decide +kernel)) rfl
theorem wn_292 : Cond.fieldLinkNest RX9 155 RX3 "parts" "I" RX9 ∈ NW := NW_in (List.mem_of_getElem? (i := 292) (by decide +kernel)) rfl
theorem wn_300 : Cond.methodLinkNest RX9 82 yX7_settle RX9 ∈ NW := NW_in (List.mem_of_getElem? (i := 300) (by decide +kernel)) rfl
theorem wd_302 : Cond.instanceMethod yX7_settle ∈ TB := TB_in (List.mem_of_getElem? (i := 302) (by decide +kernel)) rfl
theorem wd_303 : Cond.code yX7_settle cX7_settle 2 none ∈ TB := TB_in (List.mem_of_getElem? (i := 303) (by decide +kernel)) rfl
theorem wn_304 : Cond.methodLinkNest RX7 22 yX9_wipe RX9 ∈ NW := NW_in (List.mem_of_getElem? (i := 304) (by decide +kernel)) rfl
theorem wd_305 : Cond.static yX9_wipe ∈ TB := TB_in (List.mem_of_getElem? (i := 305) (by decide +kernel)) rfl
theorem wd_306 : Cond.code yX9_wipe cX9_wipe 2 none ∈ TB := TB_in (List.mem_of_getElem? (i := 306) (by decide +kernel)) rfl
theorem wd_307 : Cond.fieldLink RX9 12 RX9 "town" "LSameParts$Town;" ∈ TB := TB_in (List.mem_of_getElem? (i := 307) (by decide +kernel)) rfl
theorem wd_308 : Cond.fieldLink RX9 19 RX9 "told" "LSameParts$Told;" ∈ TB := TB_in (List.mem_of_getElem? (i := 308) (by decide +kernel)) rfl
theorem wd_309 : Cond.fieldLink RX9 26 RX9 "tape" "LSameParts$Tape;" ∈ TB := TB_in (List.mem_of_getElem? (i := 309) (by decide +kernel)) rfl
theorem wd_310 : Cond.fieldLink RX9 33 RX9 "guest" "LSameParts$Newcomer;" ∈ TB := TB_in (List.mem_of_getElem? (i := 310) (by decide +kernel)) rfl
theorem wd_311 : Cond.fieldLink RX9 40 RX9 "sameness" "LSameParts$Sameness;" ∈ TB := TB_in (List.mem_of_getElem? (i := 311) (by decide +kernel)) rfl
theorem wd_312 : Cond.fieldLink RX9 47 RX9 "turns" "LSameParts$Turns;" ∈ TB := TB_in (List.mem_of_getElem? (i := 312) (by decide +kernel)) rfl
theorem wd_313 : Cond.fieldLink RX9 54 RX9 "blocks" "LSameParts$Blocks;" ∈ TB := TB_in (List.mem_of_getElem? (i := 313) (by decide +kernel)) rfl
theorem wd_314 : Cond.fieldLink RX9 61 RX9 "matching" "LSameParts$Matching;" ∈ TB := TB_in (List.mem_of_getElem? (i := 314) (by decide +kernel)) rfl
theorem wd_315 : Cond.fieldLink RX9 68 RX9 "first" "LSameParts$Parting;" ∈ TB := TB_in (List.mem_of_getElem? (i := 315) (by decide +kernel)) rfl
theorem wd_316 : Cond.fieldLink RX9 72 RX9 "second" "LSameParts$Parting;" ∈ TB := TB_in (List.mem_of_getElem? (i := 316) (by decide +kernel)) rfl
theorem wd_317 : Cond.fieldLink RX9 75 RX9 "result" "LSameParts$Parting;" ∈ TB := TB_in (List.mem_of_getElem? (i := 317) (by decide +kernel)) rfl
theorem wd_318 : Cond.fieldLink RX9 78 RX9 "refusals" "[I" ∈ TB := TB_in (List.mem_of_getElem? (i := 318) (by decide +kernel)) rfl
theorem wd_319 : Cond.fieldLink RX9 113 RX9 "now" "I" ∈ TB := TB_in (List.mem_of_getElem? (i := 319) (by decide +kernel)) rfl
theorem wd_348 : Cond.instanceMethod yX9_persons ∈ TB := TB_in (List.mem_of_getElem? (i := 348) (by decide +kernel)) rfl
theorem wd_349 : Cond.selects RX9 yX9_persons yX9_persons ∈ TB := TB_in (List.mem_of_getElem? (i := 349) (by decide +kernel)) rfl
theorem wd_350 : Cond.code yX9_persons cX9_persons 3 (some .int) ∈ TB := TB_in (List.mem_of_getElem? (i := 350) (by decide +kernel)) rfl
theorem wd_351 : Cond.methodLink RX9 86 yX9_refuse ∈ TB := TB_in (List.mem_of_getElem? (i := 351) (by decide +kernel)) rfl
theorem wd_353 : Cond.instanceMethod yX9_refuse ∈ TB := TB_in (List.mem_of_getElem? (i := 353) (by decide +kernel)) rfl
theorem wd_354 : Cond.code yX9_refuse cX9_refuse 2 (some .int) ∈ TB := TB_in (List.mem_of_getElem? (i := 354) (by decide +kernel)) rfl
theorem wd_355 : Cond.methodLink RX9 105 yX9_at ∈ TB := TB_in (List.mem_of_getElem? (i := 355) (by decide +kernel)) rfl
theorem wd_356 : Cond.static yX9_at ∈ TB := TB_in (List.mem_of_getElem? (i := 356) (by decide +kernel)) rfl
theorem wd_357 : Cond.code yX9_at cX9_at 2 (some .int) ∈ TB := TB_in (List.mem_of_getElem? (i := 357) (by decide +kernel)) rfl
theorem wd_358 : Cond.methodLink RX9 109 yX9_put ∈ TB := TB_in (List.mem_of_getElem? (i := 358) (by decide +kernel)) rfl
theorem wd_359 : Cond.static yX9_put ∈ TB := TB_in (List.mem_of_getElem? (i := 359) (by decide +kernel)) rfl
theorem wd_360 : Cond.code yX9_put cX9_put 3 none ∈ TB := TB_in (List.mem_of_getElem? (i := 360) (by decide +kernel)) rfl
theorem wn_361 : Cond.methodLinkNest RX9 94 yX6_drain RX9 ∈ NW := NW_in (List.mem_of_getElem? (i := 361) (by decide +kernel)) rfl
theorem wd_363 : Cond.instanceMethod yX6_drain ∈ TB := TB_in (List.mem_of_getElem? (i := 363) (by decide +kernel)) rfl
theorem wd_364 : Cond.code yX6_drain cX6_drain 1 none ∈ TB := TB_in (List.mem_of_getElem? (i := 364) (by decide +kernel)) rfl
theorem wd_366 : Cond.instanceMethod yX9_mark ∈ TB := TB_in (List.mem_of_getElem? (i := 366) (by decide +kernel)) rfl
theorem wd_367 : Cond.selects RX9 yX9_mark yX9_mark ∈ TB := TB_in (List.mem_of_getElem? (i := 367) (by decide +kernel)) rfl
theorem wd_368 : Cond.code yX9_mark cX9_mark 4 (some .int) ∈ TB := TB_in (List.mem_of_getElem? (i := 368) (by decide +kernel)) rfl
theorem wn_369 : Cond.methodLinkNest RX9 98 yX7_lives RX9 ∈ NW := NW_in (List.mem_of_getElem? (i := 369) (by decide +kernel)) rfl
theorem wd_371 : Cond.instanceMethod yX7_lives ∈ TB := TB_in (List.mem_of_getElem? (i := 371) (by decide +kernel)) rfl
theorem wd_372 : Cond.code yX7_lives cX7_lives 2 (some .boolean) ∈ TB := TB_in (List.mem_of_getElem? (i := 372) (by decide +kernel)) rfl
theorem wd_374 : Cond.instanceMethod yX9_year ∈ TB := TB_in (List.mem_of_getElem? (i := 374) (by decide +kernel)) rfl
theorem wd_375 : Cond.selects RX9 yX9_year yX9_year ∈ TB := TB_in (List.mem_of_getElem? (i := 375) (by decide +kernel)) rfl
theorem wd_376 : Cond.code yX9_year cX9_year 3 (some .int) ∈ TB := TB_in (List.mem_of_getElem? (i := 376) (by decide +kernel)) rfl
theorem wd_378 : Cond.instanceMethod yX9_feed ∈ TB := TB_in (List.mem_of_getElem? (i := 378) (by decide +kernel)) rfl
theorem wd_379 : Cond.selects RX9 yX9_feed yX9_feed ∈ TB := TB_in (List.mem_of_getElem? (i := 379) (by decide +kernel)) rfl
theorem wd_380 : Cond.code yX9_feed cX9_feed 5 (some .int) ∈ TB := TB_in (List.mem_of_getElem? (i := 380) (by decide +kernel)) rfl
theorem wn_381 : Cond.methodLinkNest RX9 117 yX5_append RX9 ∈ NW := NW_in (List.mem_of_getElem? (i := 381) (by decide +kernel)) rfl
theorem wd_383 : Cond.instanceMethod yX5_append ∈ TB := TB_in (List.mem_of_getElem? (i := 383) (by decide +kernel)) rfl
theorem wd_384 : Cond.code yX5_append cX5_append 2 none ∈ TB := TB_in (List.mem_of_getElem? (i := 384) (by decide +kernel)) rfl
theorem wn_385 : Cond.methodLinkNest RX5 26 yX9_put RX9 ∈ NW := NW_in (List.mem_of_getElem? (i := 385) (by decide +kernel)) rfl
theorem wd_387 : Cond.instanceMethod yX9_ties ∈ TB := TB_in (List.mem_of_getElem? (i := 387) (by decide +kernel)) rfl
theorem wd_388 : Cond.selects RX9 yX9_ties yX9_ties ∈ TB := TB_in (List.mem_of_getElem? (i := 388) (by decide +kernel)) rfl
theorem wd_389 : Cond.code yX9_ties cX9_ties 2 (some .int) ∈ TB := TB_in (List.mem_of_getElem? (i := 389) (by decide +kernel)) rfl
theorem wn_390 : Cond.methodLinkNest RX9 120 yX5_readAll RX9 ∈ NW := NW_in (List.mem_of_getElem? (i := 390) (by decide +kernel)) rfl
theorem wd_392 : Cond.instanceMethod yX5_readAll ∈ TB := TB_in (List.mem_of_getElem? (i := 392) (by decide +kernel)) rfl
theorem wd_393 : Cond.code yX5_readAll cX5_readAll 4 (some .boolean) ∈ TB := TB_in (List.mem_of_getElem? (i := 393) (by decide +kernel)) rfl
theorem wn_394 : Cond.methodLinkNest RX5 36 yX6_drain RX9 ∈ NW := NW_in (List.mem_of_getElem? (i := 394) (by decide +kernel)) rfl
theorem wd_395 : Cond.methodLink RX5 39 yX5_readTie ∈ TB := TB_in (List.mem_of_getElem? (i := 395) (by decide +kernel)) rfl
theorem wd_397 : Cond.instanceMethod yX5_readTie ∈ TB := TB_in (List.mem_of_getElem? (i := 397) (by decide +kernel)) rfl
theorem wd_398 : Cond.code yX5_readTie cX5_readTie 1 (some .boolean) ∈ TB := TB_in (List.mem_of_getElem? (i := 398) (by decide +kernel)) rfl
theorem wn_399 : Cond.methodLinkNest RX5 50 yX6_draft RX9 ∈ NW := NW_in (List.mem_of_getElem? (i := 399) (by decide +kernel)) rfl
theorem wd_401 : Cond.instanceMethod yX6_draft ∈ TB := TB_in (List.mem_of_getElem? (i := 401) (by decide +kernel)) rfl
theorem wd_402 : Cond.code yX6_draft cX6_draft 3 none ∈ TB := TB_in (List.mem_of_getElem? (i := 402) (by decide +kernel)) rfl
theorem wn_403 : Cond.methodLinkNest RX6 23 yX9_put RX9 ∈ NW := NW_in (List.mem_of_getElem? (i := 403) (by decide +kernel)) rfl
theorem wd_404 : Cond.methodLink RX5 54 yX5_readPerson ∈ TB := TB_in (List.mem_of_getElem? (i := 404) (by decide +kernel)) rfl
theorem wd_406 : Cond.instanceMethod yX5_readPerson ∈ TB := TB_in (List.mem_of_getElem? (i := 406) (by decide +kernel)) rfl
theorem wd_407 : Cond.code yX5_readPerson cX5_readPerson 2 (some .boolean) ∈ TB := TB_in (List.mem_of_getElem? (i := 407) (by decide +kernel)) rfl
theorem wd_408 : Cond.methodLink RX5 65 yX5_readInto ∈ TB := TB_in (List.mem_of_getElem? (i := 408) (by decide +kernel)) rfl
theorem wd_410 : Cond.instanceMethod yX5_readInto ∈ TB := TB_in (List.mem_of_getElem? (i := 410) (by decide +kernel)) rfl
theorem wd_411 : Cond.code yX5_readInto cX5_readInto 6 (some .boolean) ∈ TB := TB_in (List.mem_of_getElem? (i := 411) (by decide +kernel)) rfl
theorem wd_412 : Cond.methodLink RX5 57 yX5_here ∈ TB := TB_in (List.mem_of_getElem? (i := 412) (by decide +kernel)) rfl
theorem wd_414 : Cond.instanceMethod yX5_here ∈ TB := TB_in (List.mem_of_getElem? (i := 414) (by decide +kernel)) rfl
theorem wd_415 : Cond.code yX5_here cX5_here 1 (some .int) ∈ TB := TB_in (List.mem_of_getElem? (i := 415) (by decide +kernel)) rfl
theorem wn_416 : Cond.methodLinkNest RX5 84 yX9_at RX9 ∈ NW := NW_in (List.mem_of_getElem? (i := 416) (by decide +kernel)) rfl
theorem wd_417 : Cond.methodLink RX5 46 yX5_skip ∈ TB := TB_in (List.mem_of_getElem? (i := 417) (by decide +kernel)) rfl
theorem wd_419 : Cond.instanceMethod yX5_skip ∈ TB := TB_in (List.mem_of_getElem? (i := 419) (by decide +kernel)) rfl
theorem wd_420 : Cond.code yX5_skip cX5_skip 2 (some .boolean) ∈ TB := TB_in (List.mem_of_getElem? (i := 420) (by decide +kernel)) rfl
theorem wd_421 : Cond.methodLink RX5 61 yX5_drafted ∈ TB := TB_in (List.mem_of_getElem? (i := 421) (by decide +kernel)) rfl
theorem wd_423 : Cond.instanceMethod yX5_drafted ∈ TB := TB_in (List.mem_of_getElem? (i := 423) (by decide +kernel)) rfl
theorem wd_424 : Cond.code yX5_drafted cX5_drafted 2 (some .int) ∈ TB := TB_in (List.mem_of_getElem? (i := 424) (by decide +kernel)) rfl
theorem wn_425 : Cond.methodLinkNest RX5 80 yX6_field RX9 ∈ NW := NW_in (List.mem_of_getElem? (i := 425) (by decide +kernel)) rfl
theorem wd_427 : Cond.instanceMethod yX6_field ∈ TB := TB_in (List.mem_of_getElem? (i := 427) (by decide +kernel)) rfl
theorem wd_428 : Cond.code yX6_field cX6_field 3 (some .int) ∈ TB := TB_in (List.mem_of_getElem? (i := 428) (by decide +kernel)) rfl
theorem wn_429 : Cond.methodLinkNest RX6 19 yX9_at RX9 ∈ NW := NW_in (List.mem_of_getElem? (i := 429) (by decide +kernel)) rfl
theorem wd_430 : Cond.methodLink RX5 69 yX5_readStrength ∈ TB := TB_in (List.mem_of_getElem? (i := 430) (by decide +kernel)) rfl
theorem wd_432 : Cond.instanceMethod yX5_readStrength ∈ TB := TB_in (List.mem_of_getElem? (i := 432) (by decide +kernel)) rfl
theorem wd_433 : Cond.code yX5_readStrength cX5_readStrength 1 (some .boolean) ∈ TB := TB_in (List.mem_of_getElem? (i := 433) (by decide +kernel)) rfl
theorem wd_434 : Cond.methodLink RX5 72 yX5_readYears ∈ TB := TB_in (List.mem_of_getElem? (i := 434) (by decide +kernel)) rfl
theorem wd_436 : Cond.instanceMethod yX5_readYears ∈ TB := TB_in (List.mem_of_getElem? (i := 436) (by decide +kernel)) rfl
theorem wd_437 : Cond.code yX5_readYears cX5_readYears 1 (some .boolean) ∈ TB := TB_in (List.mem_of_getElem? (i := 437) (by decide +kernel)) rfl
theorem wd_438 : Cond.methodLink RX5 75 yX5_readYear ∈ TB := TB_in (List.mem_of_getElem? (i := 438) (by decide +kernel)) rfl
theorem wd_440 : Cond.instanceMethod yX5_readYear ∈ TB := TB_in (List.mem_of_getElem? (i := 440) (by decide +kernel)) rfl
theorem wd_441 : Cond.code yX5_readYear cX5_readYear 5 (some .boolean) ∈ TB := TB_in (List.mem_of_getElem? (i := 441) (by decide +kernel)) rfl
theorem wn_442 : Cond.methodLinkNest RX5 43 yX6_endDraft RX9 ∈ NW := NW_in (List.mem_of_getElem? (i := 442) (by decide +kernel)) rfl
theorem wd_444 : Cond.instanceMethod yX6_endDraft ∈ TB := TB_in (List.mem_of_getElem? (i := 444) (by decide +kernel)) rfl
theorem wd_445 : Cond.code yX6_endDraft cX6_endDraft 1 none ∈ TB := TB_in (List.mem_of_getElem? (i := 445) (by decide +kernel)) rfl
theorem wn_446 : Cond.methodLinkNest RX9 130 yX6_takeAll RX9 ∈ NW := NW_in (List.mem_of_getElem? (i := 446) (by decide +kernel)) rfl
theorem wd_448 : Cond.instanceMethod yX6_takeAll ∈ TB := TB_in (List.mem_of_getElem? (i := 448) (by decide +kernel)) rfl
theorem wd_449 : Cond.code yX6_takeAll cX6_takeAll 4 none ∈ TB := TB_in (List.mem_of_getElem? (i := 449) (by decide +kernel)) rfl
theorem wd_450 : Cond.methodLink RX6 27 yX6_field ∈ TB := TB_in (List.mem_of_getElem? (i := 450) (by decide +kernel)) rfl
theorem wd_451 : Cond.methodLink RX6 31 yX6_draft ∈ TB := TB_in (List.mem_of_getElem? (i := 451) (by decide +kernel)) rfl
theorem wd_452 : Cond.methodLink RX6 35 yX6_endDraft ∈ TB := TB_in (List.mem_of_getElem? (i := 452) (by decide +kernel)) rfl
theorem wd_454 : Cond.instanceMethod yX9_untie ∈ TB := TB_in (List.mem_of_getElem? (i := 454) (by decide +kernel)) rfl
theorem wd_455 : Cond.selects RX9 yX9_untie yX9_untie ∈ TB := TB_in (List.mem_of_getElem? (i := 455) (by decide +kernel)) rfl
theorem wd_456 : Cond.code yX9_untie cX9_untie 2 (some .int) ∈ TB := TB_in (List.mem_of_getElem? (i := 456) (by decide +kernel)) rfl
theorem wn_457 : Cond.methodLinkNest RX9 134 yX6_drop RX9 ∈ NW := NW_in (List.mem_of_getElem? (i := 457) (by decide +kernel)) rfl
theorem wd_459 : Cond.instanceMethod yX6_drop ∈ TB := TB_in (List.mem_of_getElem? (i := 459) (by decide +kernel)) rfl
theorem wd_460 : Cond.code yX6_drop cX6_drop 3 none ∈ TB := TB_in (List.mem_of_getElem? (i := 460) (by decide +kernel)) rfl
theorem wd_462 : Cond.instanceMethod yX9_tie ∈ TB := TB_in (List.mem_of_getElem? (i := 462) (by decide +kernel)) rfl
theorem wd_463 : Cond.selects RX9 yX9_tie yX9_tie ∈ TB := TB_in (List.mem_of_getElem? (i := 463) (by decide +kernel)) rfl
theorem wd_464 : Cond.code yX9_tie cX9_tie 4 (some .int) ∈ TB := TB_in (List.mem_of_getElem? (i := 464) (by decide +kernel)) rfl
theorem wd_465 : Cond.methodLink RX9 137 yX9_isKind ∈ TB := TB_in (List.mem_of_getElem? (i := 465) (by decide +kernel)) rfl
theorem wd_466 : Cond.static yX9_isKind ∈ TB := TB_in (List.mem_of_getElem? (i := 466) (by decide +kernel)) rfl
theorem wd_467 : Cond.code yX9_isKind cX9_isKind 1 (some .boolean) ∈ TB := TB_in (List.mem_of_getElem? (i := 467) (by decide +kernel)) rfl
theorem wd_468 : Cond.methodLink RX9 140 yX9_lookAt ∈ TB := TB_in (List.mem_of_getElem? (i := 468) (by decide +kernel)) rfl
theorem wd_470 : Cond.instanceMethod yX9_lookAt ∈ TB := TB_in (List.mem_of_getElem? (i := 470) (by decide +kernel)) rfl
theorem wd_471 : Cond.code yX9_lookAt cX9_lookAt 2 none ∈ TB := TB_in (List.mem_of_getElem? (i := 471) (by decide +kernel)) rfl
theorem wn_472 : Cond.methodLinkNest RX9 246 yX6_draw RX9 ∈ NW := NW_in (List.mem_of_getElem? (i := 472) (by decide +kernel)) rfl
theorem wd_474 : Cond.instanceMethod yX6_draw ∈ TB := TB_in (List.mem_of_getElem? (i := 474) (by decide +kernel)) rfl
theorem wd_475 : Cond.code yX6_draw cX6_draw 5 none ∈ TB := TB_in (List.mem_of_getElem? (i := 475) (by decide +kernel)) rfl
theorem wn_476 : Cond.methodLinkNest RX6 43 yX9_wipe RX9 ∈ NW := NW_in (List.mem_of_getElem? (i := 476) (by decide +kernel)) rfl
theorem wn_477 : Cond.methodLinkNest RX6 47 yX9_cell RX9 ∈ NW := NW_in (List.mem_of_getElem? (i := 477) (by decide +kernel)) rfl
theorem wd_478 : Cond.static yX9_cell ∈ TB := TB_in (List.mem_of_getElem? (i := 478) (by decide +kernel)) rfl
theorem wd_479 : Cond.code yX9_cell cX9_cell 3 (some .int) ∈ TB := TB_in (List.mem_of_getElem? (i := 479) (by decide +kernel)) rfl
theorem wn_480 : Cond.methodLinkNest RX9 143 yX7_strength RX9 ∈ NW := NW_in (List.mem_of_getElem? (i := 480) (by decide +kernel)) rfl
theorem wd_482 : Cond.instanceMethod yX7_strength ∈ TB := TB_in (List.mem_of_getElem? (i := 482) (by decide +kernel)) rfl
theorem wd_483 : Cond.code yX7_strength cX7_strength 5 (some .int) ∈ TB := TB_in (List.mem_of_getElem? (i := 483) (by decide +kernel)) rfl
theorem wd_485 : Cond.instanceMethod yX9_degree ∈ TB := TB_in (List.mem_of_getElem? (i := 485) (by decide +kernel)) rfl
theorem wd_486 : Cond.selects RX9 yX9_degree yX9_degree ∈ TB := TB_in (List.mem_of_getElem? (i := 486) (by decide +kernel)) rfl
theorem wd_487 : Cond.code yX9_degree cX9_degree 4 (some .int) ∈ TB := TB_in (List.mem_of_getElem? (i := 487) (by decide +kernel)) rfl
theorem wn_488 : Cond.methodLinkNest RX9 147 yX7_tiesOf RX9 ∈ NW := NW_in (List.mem_of_getElem? (i := 488) (by decide +kernel)) rfl
theorem wd_490 : Cond.instanceMethod yX7_tiesOf ∈ TB := TB_in (List.mem_of_getElem? (i := 490) (by decide +kernel)) rfl
theorem wd_491 : Cond.code yX7_tiesOf cX7_tiesOf 6 (some .int) ∈ TB := TB_in (List.mem_of_getElem? (i := 491) (by decide +kernel)) rfl
theorem wd_492 : Cond.methodLink RX7 34 yX7_tied ∈ TB := TB_in (List.mem_of_getElem? (i := 492) (by decide +kernel)) rfl
theorem wd_494 : Cond.instanceMethod yX7_tied ∈ TB := TB_in (List.mem_of_getElem? (i := 494) (by decide +kernel)) rfl
theorem wd_495 : Cond.code yX7_tied cX7_tied 4 (some .boolean) ∈ TB := TB_in (List.mem_of_getElem? (i := 495) (by decide +kernel)) rfl
theorem wd_496 : Cond.methodLink RX7 26 yX7_strength ∈ TB := TB_in (List.mem_of_getElem? (i := 496) (by decide +kernel)) rfl
theorem wd_498 : Cond.instanceMethod yX9_parting ∈ TB := TB_in (List.mem_of_getElem? (i := 498) (by decide +kernel)) rfl
theorem wd_499 : Cond.selects RX9 yX9_parting yX9_parting ∈ TB := TB_in (List.mem_of_getElem? (i := 499) (by decide +kernel)) rfl
theorem wd_500 : Cond.code yX9_parting cX9_parting 2 (some .int) ∈ TB := TB_in (List.mem_of_getElem? (i := 500) (by decide +kernel)) rfl
theorem wn_501 : Cond.methodLinkNest RX9 151 yX3_readNumber RX9 ∈ NW := NW_in (List.mem_of_getElem? (i := 501) (by decide +kernel)) rfl
theorem wd_503 : Cond.instanceMethod yX3_readNumber ∈ TB := TB_in (List.mem_of_getElem? (i := 503) (by decide +kernel)) rfl
theorem wd_504 : Cond.code yX3_readNumber cX3_readNumber 5 (some .boolean) ∈ TB := TB_in (List.mem_of_getElem? (i := 504) (by decide +kernel)) rfl
theorem wn_505 : Cond.methodLinkNest RX3 22 yX9_put RX9 ∈ NW := NW_in (List.mem_of_getElem? (i := 505) (by decide +kernel)) rfl
theorem wd_506 : Cond.methodLink RX3 26 yX3_of ∈ TB := TB_in (List.mem_of_getElem? (i := 506) (by decide +kernel)) rfl
theorem wd_508 : Cond.instanceMethod yX3_of ∈ TB := TB_in (List.mem_of_getElem? (i := 508) (by decide +kernel)) rfl
theorem wd_509 : Cond.code yX3_of cX3_of 2 (some .int) ∈ TB := TB_in (List.mem_of_getElem? (i := 509) (by decide +kernel)) rfl
theorem wn_510 : Cond.methodLinkNest RX3 36 yX9_at RX9 ∈ NW := NW_in (List.mem_of_getElem? (i := 510) (by decide +kernel)) rfl
theorem wd_511 : Cond.methodLink RX3 30 yJ9_max_7cf53 ∈ TB := TB_in (List.mem_of_getElem? (i := 511) (by decide +kernel)) rfl
theorem wd_515 : Cond.instanceMethod yX9_judge ∈ TB := TB_in (List.mem_of_getElem? (i := 515) (by decide +kernel)) rfl
theorem wd_516 : Cond.selects RX9 yX9_judge yX9_judge ∈ TB := TB_in (List.mem_of_getElem? (i := 516) (by decide +kernel)) rfl
theorem wd_517 : Cond.code yX9_judge cX9_judge 3 (some .int) ∈ TB := TB_in (List.mem_of_getElem? (i := 517) (by decide +kernel)) rfl
theorem wd_518 : Cond.methodLink RX9 158 yX9_isSameness ∈ TB := TB_in (List.mem_of_getElem? (i := 518) (by decide +kernel)) rfl
theorem wd_519 : Cond.static yX9_isSameness ∈ TB := TB_in (List.mem_of_getElem? (i := 519) (by decide +kernel)) rfl
theorem wd_520 : Cond.code yX9_isSameness cX9_isSameness 1 (some .boolean) ∈ TB := TB_in (List.mem_of_getElem? (i := 520) (by decide +kernel)) rfl
theorem wn_521 : Cond.methodLinkNest RX9 161 yX4_firstUnlike RX9 ∈ NW := NW_in (List.mem_of_getElem? (i := 521) (by decide +kernel)) rfl
theorem wd_523 : Cond.instanceMethod yX4_firstUnlike ∈ TB := TB_in (List.mem_of_getElem? (i := 523) (by decide +kernel)) rfl
theorem wd_524 : Cond.code yX4_firstUnlike cX4_firstUnlike 6 (some .int) ∈ TB := TB_in (List.mem_of_getElem? (i := 524) (by decide +kernel)) rfl
theorem wd_525 : Cond.methodLink RX4 15 yX4_look ∈ TB := TB_in (List.mem_of_getElem? (i := 525) (by decide +kernel)) rfl
theorem wd_527 : Cond.instanceMethod yX4_look ∈ TB := TB_in (List.mem_of_getElem? (i := 527) (by decide +kernel)) rfl
theorem wd_528 : Cond.code yX4_look cX4_look 7 none ∈ TB := TB_in (List.mem_of_getElem? (i := 528) (by decide +kernel)) rfl
theorem wn_529 : Cond.methodLinkNest RX4 68 yX9_wipe RX9 ∈ NW := NW_in (List.mem_of_getElem? (i := 529) (by decide +kernel)) rfl
theorem wn_530 : Cond.methodLinkNest RX4 72 yX7_tied RX9 ∈ NW := NW_in (List.mem_of_getElem? (i := 530) (by decide +kernel)) rfl
theorem wn_531 : Cond.methodLinkNest RX4 76 yX3_of RX9 ∈ NW := NW_in (List.mem_of_getElem? (i := 531) (by decide +kernel)) rfl
theorem wd_532 : Cond.methodLink RX4 80 yX4_note ∈ TB := TB_in (List.mem_of_getElem? (i := 532) (by decide +kernel)) rfl
theorem wd_534 : Cond.instanceMethod yX4_note ∈ TB := TB_in (List.mem_of_getElem? (i := 534) (by decide +kernel)) rfl
theorem wd_535 : Cond.code yX4_note cX4_note 5 none ∈ TB := TB_in (List.mem_of_getElem? (i := 535) (by decide +kernel)) rfl
theorem wn_536 : Cond.methodLinkNest RX4 64 yX9_at RX9 ∈ NW := NW_in (List.mem_of_getElem? (i := 536) (by decide +kernel)) rfl
theorem wn_537 : Cond.methodLinkNest RX4 84 yX9_put RX9 ∈ NW := NW_in (List.mem_of_getElem? (i := 537) (by decide +kernel)) rfl
theorem wn_538 : Cond.methodLinkNest RX4 25 yX3_together RX9 ∈ NW := NW_in (List.mem_of_getElem? (i := 538) (by decide +kernel)) rfl
theorem wd_540 : Cond.instanceMethod yX3_together ∈ TB := TB_in (List.mem_of_getElem? (i := 540) (by decide +kernel)) rfl
theorem wd_541 : Cond.code yX3_together cX3_together 3 (some .boolean) ∈ TB := TB_in (List.mem_of_getElem? (i := 541) (by decide +kernel)) rfl
theorem wd_542 : Cond.methodLink RX4 31 yX4_alike ∈ TB := TB_in (List.mem_of_getElem? (i := 542) (by decide +kernel)) rfl
theorem wd_544 : Cond.instanceMethod yX4_alike ∈ TB := TB_in (List.mem_of_getElem? (i := 544) (by decide +kernel)) rfl
theorem wd_545 : Cond.code yX4_alike cX4_alike 5 (some .boolean) ∈ TB := TB_in (List.mem_of_getElem? (i := 545) (by decide +kernel)) rfl
theorem wn_546 : Cond.methodLinkNest RX4 54 yX7_sameMark RX9 ∈ NW := NW_in (List.mem_of_getElem? (i := 546) (by decide +kernel)) rfl
theorem wd_548 : Cond.instanceMethod yX7_sameMark ∈ TB := TB_in (List.mem_of_getElem? (i := 548) (by decide +kernel)) rfl
theorem wd_549 : Cond.code yX7_sameMark cX7_sameMark 3 (some .boolean) ∈ TB := TB_in (List.mem_of_getElem? (i := 549) (by decide +kernel)) rfl
theorem wn_550 : Cond.methodLinkNest RX7 30 yX9_at RX9 ∈ NW := NW_in (List.mem_of_getElem? (i := 550) (by decide +kernel)) rfl
theorem wd_551 : Cond.methodLink RX4 57 yX4_swappable ∈ TB := TB_in (List.mem_of_getElem? (i := 551) (by decide +kernel)) rfl
theorem wd_552 : Cond.static yX4_swappable ∈ TB := TB_in (List.mem_of_getElem? (i := 552) (by decide +kernel)) rfl
theorem wd_553 : Cond.code yX4_swappable cX4_swappable 7 (some .boolean) ∈ TB := TB_in (List.mem_of_getElem? (i := 553) (by decide +kernel)) rfl
theorem wn_554 : Cond.methodLinkNest RX4 88 yX7_strength RX9 ∈ NW := NW_in (List.mem_of_getElem? (i := 554) (by decide +kernel)) rfl
theorem wd_555 : Cond.methodLink RX4 92 yX4_match ∈ TB := TB_in (List.mem_of_getElem? (i := 555) (by decide +kernel)) rfl
theorem wd_556 : Cond.static yX4_match ∈ TB := TB_in (List.mem_of_getElem? (i := 556) (by decide +kernel)) rfl
theorem wd_557 : Cond.code yX4_match cX4_match 3 (some .boolean) ∈ TB := TB_in (List.mem_of_getElem? (i := 557) (by decide +kernel)) rfl
theorem wd_558 : Cond.methodLink RX4 61 yX4_sameView ∈ TB := TB_in (List.mem_of_getElem? (i := 558) (by decide +kernel)) rfl
theorem wd_560 : Cond.instanceMethod yX4_sameView ∈ TB := TB_in (List.mem_of_getElem? (i := 560) (by decide +kernel)) rfl
theorem wd_561 : Cond.code yX4_sameView cX4_sameView 4 (some .boolean) ∈ TB := TB_in (List.mem_of_getElem? (i := 561) (by decide +kernel)) rfl
theorem wd_563 : Cond.instanceMethod yX9_coarsest ∈ TB := TB_in (List.mem_of_getElem? (i := 563) (by decide +kernel)) rfl
theorem wd_564 : Cond.selects RX9 yX9_coarsest yX9_coarsest ∈ TB := TB_in (List.mem_of_getElem? (i := 564) (by decide +kernel)) rfl
theorem wd_565 : Cond.code yX9_coarsest cX9_coarsest 3 (some .int) ∈ TB := TB_in (List.mem_of_getElem? (i := 565) (by decide +kernel)) rfl
theorem wn_566 : Cond.methodLinkNest RX9 165 yX4_refine RX9 ∈ NW := NW_in (List.mem_of_getElem? (i := 566) (by decide +kernel)) rfl
theorem wd_568 : Cond.instanceMethod yX4_refine ∈ TB := TB_in (List.mem_of_getElem? (i := 568) (by decide +kernel)) rfl
theorem wd_569 : Cond.code yX4_refine cX4_refine 6 none ∈ TB := TB_in (List.mem_of_getElem? (i := 569) (by decide +kernel)) rfl
theorem wd_570 : Cond.methodLink RX4 35 yX4_split ∈ TB := TB_in (List.mem_of_getElem? (i := 570) (by decide +kernel)) rfl
theorem wd_572 : Cond.instanceMethod yX4_split ∈ TB := TB_in (List.mem_of_getElem? (i := 572) (by decide +kernel)) rfl
theorem wd_573 : Cond.code yX4_split cX4_split 8 none ∈ TB := TB_in (List.mem_of_getElem? (i := 573) (by decide +kernel)) rfl
theorem wn_574 : Cond.methodLinkNest RX4 46 yX3_begin RX9 ∈ NW := NW_in (List.mem_of_getElem? (i := 574) (by decide +kernel)) rfl
theorem wd_576 : Cond.instanceMethod yX3_begin ∈ TB := TB_in (List.mem_of_getElem? (i := 576) (by decide +kernel)) rfl
theorem wd_577 : Cond.code yX3_begin cX3_begin 2 none ∈ TB := TB_in (List.mem_of_getElem? (i := 577) (by decide +kernel)) rfl
theorem wn_578 : Cond.methodLinkNest RX4 50 yX3_place RX9 ∈ NW := NW_in (List.mem_of_getElem? (i := 578) (by decide +kernel)) rfl
theorem wd_580 : Cond.instanceMethod yX3_place ∈ TB := TB_in (List.mem_of_getElem? (i := 580) (by decide +kernel)) rfl
theorem wd_581 : Cond.code yX3_place cX3_place 3 none ∈ TB := TB_in (List.mem_of_getElem? (i := 581) (by decide +kernel)) rfl
theorem wn_582 : Cond.methodLinkNest RX4 42 yX3_copy RX9 ∈ NW := NW_in (List.mem_of_getElem? (i := 582) (by decide +kernel)) rfl
theorem wd_584 : Cond.instanceMethod yX3_copy ∈ TB := TB_in (List.mem_of_getElem? (i := 584) (by decide +kernel)) rfl
theorem wd_585 : Cond.code yX3_copy cX3_copy 3 none ∈ TB := TB_in (List.mem_of_getElem? (i := 585) (by decide +kernel)) rfl
theorem wn_586 : Cond.methodLinkNest RX9 169 yX3_number RX9 ∈ NW := NW_in (List.mem_of_getElem? (i := 586) (by decide +kernel)) rfl
theorem wd_588 : Cond.instanceMethod yX3_number ∈ TB := TB_in (List.mem_of_getElem? (i := 588) (by decide +kernel)) rfl
theorem wd_589 : Cond.code yX3_number cX3_number 3 (some .int) ∈ TB := TB_in (List.mem_of_getElem? (i := 589) (by decide +kernel)) rfl
theorem wd_591 : Cond.instanceMethod yX9_renamings ∈ TB := TB_in (List.mem_of_getElem? (i := 591) (by decide +kernel)) rfl
theorem wd_592 : Cond.selects RX9 yX9_renamings yX9_renamings ∈ TB := TB_in (List.mem_of_getElem? (i := 592) (by decide +kernel)) rfl
theorem wd_593 : Cond.code yX9_renamings cX9_renamings 1 (some .int) ∈ TB := TB_in (List.mem_of_getElem? (i := 593) (by decide +kernel)) rfl
theorem wn_594 : Cond.methodLinkNest RX9 173 yX8_howMany RX9 ∈ NW := NW_in (List.mem_of_getElem? (i := 594) (by decide +kernel)) rfl
theorem wd_596 : Cond.instanceMethod yX8_howMany ∈ TB := TB_in (List.mem_of_getElem? (i := 596) (by decide +kernel)) rfl
theorem wd_597 : Cond.code yX8_howMany cX8_howMany 6 (some .int) ∈ TB := TB_in (List.mem_of_getElem? (i := 597) (by decide +kernel)) rfl
theorem wd_598 : Cond.methodLink RX8 27 yX8_brings ∈ TB := TB_in (List.mem_of_getElem? (i := 598) (by decide +kernel)) rfl
theorem wd_600 : Cond.instanceMethod yX8_brings ∈ TB := TB_in (List.mem_of_getElem? (i := 600) (by decide +kernel)) rfl
theorem wd_601 : Cond.code yX8_brings cX8_brings 6 (some .boolean) ∈ TB := TB_in (List.mem_of_getElem? (i := 601) (by decide +kernel)) rfl
theorem wn_602 : Cond.methodLinkNest RX8 41 yX7_sameMark RX9 ∈ NW := NW_in (List.mem_of_getElem? (i := 602) (by decide +kernel)) rfl
theorem wd_603 : Cond.methodLink RX8 45 yX8_begin ∈ TB := TB_in (List.mem_of_getElem? (i := 603) (by decide +kernel)) rfl
theorem wd_605 : Cond.instanceMethod yX8_begin ∈ TB := TB_in (List.mem_of_getElem? (i := 605) (by decide +kernel)) rfl
theorem wd_606 : Cond.code yX8_begin cX8_begin 1 none ∈ TB := TB_in (List.mem_of_getElem? (i := 606) (by decide +kernel)) rfl
theorem wn_607 : Cond.methodLinkNest RX8 61 yX9_put RX9 ∈ NW := NW_in (List.mem_of_getElem? (i := 607) (by decide +kernel)) rfl
theorem wd_608 : Cond.constant RX8 47 (1000000) ∈ TB := TB_in (List.mem_of_getElem? (i := 608) (by decide +kernel)) rfl
theorem wd_609 : Cond.methodLink RX8 51 yX8_nextKeeping ∈ TB := TB_in (List.mem_of_getElem? (i := 609) (by decide +kernel)) rfl
theorem wd_611 : Cond.instanceMethod yX8_nextKeeping ∈ TB := TB_in (List.mem_of_getElem? (i := 611) (by decide +kernel)) rfl
theorem wd_612 : Cond.code yX8_nextKeeping cX8_nextKeeping 7 (some .int) ∈ TB := TB_in (List.mem_of_getElem? (i := 612) (by decide +kernel)) rfl
theorem wd_613 : Cond.methodLink RX8 69 yX8_lift ∈ TB := TB_in (List.mem_of_getElem? (i := 613) (by decide +kernel)) rfl
theorem wd_615 : Cond.instanceMethod yX8_lift ∈ TB := TB_in (List.mem_of_getElem? (i := 615) (by decide +kernel)) rfl
theorem wd_616 : Cond.code yX8_lift cX8_lift 2 (some .int) ∈ TB := TB_in (List.mem_of_getElem? (i := 616) (by decide +kernel)) rfl
theorem wn_617 : Cond.methodLinkNest RX8 65 yX9_at RX9 ∈ NW := NW_in (List.mem_of_getElem? (i := 617) (by decide +kernel)) rfl
theorem wn_618 : Cond.methodLinkNest RX8 73 yX9_holds RX9 ∈ NW := NW_in (List.mem_of_getElem? (i := 618) (by decide +kernel)) rfl
theorem wd_619 : Cond.static yX9_holds ∈ TB := TB_in (List.mem_of_getElem? (i := 619) (by decide +kernel)) rfl
theorem wd_620 : Cond.code yX9_holds cX9_holds 2 (some .boolean) ∈ TB := TB_in (List.mem_of_getElem? (i := 620) (by decide +kernel)) rfl
theorem wd_621 : Cond.methodLink RX8 76 yX8_keepsAhead ∈ TB := TB_in (List.mem_of_getElem? (i := 621) (by decide +kernel)) rfl
theorem wd_623 : Cond.instanceMethod yX8_keepsAhead ∈ TB := TB_in (List.mem_of_getElem? (i := 623) (by decide +kernel)) rfl
theorem wd_624 : Cond.code yX8_keepsAhead cX8_keepsAhead 4 (some .boolean) ∈ TB := TB_in (List.mem_of_getElem? (i := 624) (by decide +kernel)) rfl
theorem wd_625 : Cond.methodLink RX8 80 yX8_keeps ∈ TB := TB_in (List.mem_of_getElem? (i := 625) (by decide +kernel)) rfl
theorem wd_626 : Cond.static yX8_keeps ∈ TB := TB_in (List.mem_of_getElem? (i := 626) (by decide +kernel)) rfl
theorem wd_627 : Cond.code yX8_keeps cX8_keeps 6 (some .boolean) ∈ TB := TB_in (List.mem_of_getElem? (i := 627) (by decide +kernel)) rfl
theorem wn_628 : Cond.methodLinkNest RX8 84 yX7_strength RX9 ∈ NW := NW_in (List.mem_of_getElem? (i := 628) (by decide +kernel)) rfl
theorem wd_629 : Cond.methodLink RX8 55 yX8_step ∈ TB := TB_in (List.mem_of_getElem? (i := 629) (by decide +kernel)) rfl
theorem wd_631 : Cond.instanceMethod yX8_step ∈ TB := TB_in (List.mem_of_getElem? (i := 631) (by decide +kernel)) rfl
theorem wd_632 : Cond.code yX8_step cX8_step 2 none ∈ TB := TB_in (List.mem_of_getElem? (i := 632) (by decide +kernel)) rfl
theorem wd_634 : Cond.instanceMethod yX9_moves ∈ TB := TB_in (List.mem_of_getElem? (i := 634) (by decide +kernel)) rfl
theorem wd_635 : Cond.selects RX9 yX9_moves yX9_moves ∈ TB := TB_in (List.mem_of_getElem? (i := 635) (by decide +kernel)) rfl
theorem wd_636 : Cond.code yX9_moves cX9_moves 3 (some .int) ∈ TB := TB_in (List.mem_of_getElem? (i := 636) (by decide +kernel)) rfl
theorem wn_637 : Cond.methodLinkNest RX9 177 yX8_brings RX9 ∈ NW := NW_in (List.mem_of_getElem? (i := 637) (by decide +kernel)) rfl
theorem wd_639 : Cond.instanceMethod yX9_orbits ∈ TB := TB_in (List.mem_of_getElem? (i := 639) (by decide +kernel)) rfl
theorem wd_640 : Cond.selects RX9 yX9_orbits yX9_orbits ∈ TB := TB_in (List.mem_of_getElem? (i := 640) (by decide +kernel)) rfl
theorem wd_641 : Cond.code yX9_orbits cX9_orbits 1 (some .int) ∈ TB := TB_in (List.mem_of_getElem? (i := 641) (by decide +kernel)) rfl
theorem wn_642 : Cond.methodLinkNest RX9 181 yX8_partByOrbit RX9 ∈ NW := NW_in (List.mem_of_getElem? (i := 642) (by decide +kernel)) rfl
theorem wd_644 : Cond.instanceMethod yX8_partByOrbit ∈ TB := TB_in (List.mem_of_getElem? (i := 644) (by decide +kernel)) rfl
theorem wd_645 : Cond.code yX8_partByOrbit cX8_partByOrbit 6 none ∈ TB := TB_in (List.mem_of_getElem? (i := 645) (by decide +kernel)) rfl
theorem wn_646 : Cond.methodLinkNest RX8 31 yX3_begin RX9 ∈ NW := NW_in (List.mem_of_getElem? (i := 646) (by decide +kernel)) rfl
theorem wn_647 : Cond.methodLinkNest RX8 37 yX3_place RX9 ∈ NW := NW_in (List.mem_of_getElem? (i := 647) (by decide +kernel)) rfl
theorem wd_649 : Cond.instanceMethod yX9_form ∈ TB := TB_in (List.mem_of_getElem? (i := 649) (by decide +kernel)) rfl
theorem wd_650 : Cond.selects RX9 yX9_form yX9_form ∈ TB := TB_in (List.mem_of_getElem? (i := 650) (by decide +kernel)) rfl
theorem wd_651 : Cond.code yX9_form cX9_form 1 (some .int) ∈ TB := TB_in (List.mem_of_getElem? (i := 651) (by decide +kernel)) rfl
theorem wn_652 : Cond.methodLinkNest RX9 185 yX8_leastRow RX9 ∈ NW := NW_in (List.mem_of_getElem? (i := 652) (by decide +kernel)) rfl
theorem wd_654 : Cond.instanceMethod yX8_leastRow ∈ TB := TB_in (List.mem_of_getElem? (i := 654) (by decide +kernel)) rfl
theorem wd_655 : Cond.code yX8_leastRow cX8_leastRow 5 (some .int) ∈ TB := TB_in (List.mem_of_getElem? (i := 655) (by decide +kernel)) rfl
theorem wd_656 : Cond.methodLink RX8 88 yX8_findTwins ∈ TB := TB_in (List.mem_of_getElem? (i := 656) (by decide +kernel)) rfl
theorem wd_658 : Cond.instanceMethod yX8_findTwins ∈ TB := TB_in (List.mem_of_getElem? (i := 658) (by decide +kernel)) rfl
theorem wd_659 : Cond.code yX8_findTwins cX8_findTwins 5 none ∈ TB := TB_in (List.mem_of_getElem? (i := 659) (by decide +kernel)) rfl
theorem wn_660 : Cond.methodLinkNest RX8 109 yX4_swappable RX9 ∈ NW := NW_in (List.mem_of_getElem? (i := 660) (by decide +kernel)) rfl
theorem wd_661 : Cond.methodLink RX8 92 yX8_firstKind ∈ TB := TB_in (List.mem_of_getElem? (i := 661) (by decide +kernel)) rfl
theorem wd_662 : Cond.static yX8_firstKind ∈ TB := TB_in (List.mem_of_getElem? (i := 662) (by decide +kernel)) rfl
theorem wd_663 : Cond.code yX8_firstKind cX8_firstKind 2 (some .int) ∈ TB := TB_in (List.mem_of_getElem? (i := 663) (by decide +kernel)) rfl
theorem wn_664 : Cond.methodLinkNest RX8 115 yX7_tiesOfKind RX9 ∈ NW := NW_in (List.mem_of_getElem? (i := 664) (by decide +kernel)) rfl
theorem wd_666 : Cond.instanceMethod yX7_tiesOfKind ∈ TB := TB_in (List.mem_of_getElem? (i := 666) (by decide +kernel)) rfl
theorem wd_667 : Cond.code yX7_tiesOfKind cX7_tiesOfKind 4 (some .int) ∈ TB := TB_in (List.mem_of_getElem? (i := 667) (by decide +kernel)) rfl
theorem wd_668 : Cond.methodLink RX7 38 yX7_tiesOf ∈ TB := TB_in (List.mem_of_getElem? (i := 668) (by decide +kernel)) rfl
theorem wd_669 : Cond.methodLink RX8 96 yX8_nextInRow ∈ TB := TB_in (List.mem_of_getElem? (i := 669) (by decide +kernel)) rfl
theorem wd_671 : Cond.instanceMethod yX8_nextInRow ∈ TB := TB_in (List.mem_of_getElem? (i := 671) (by decide +kernel)) rfl
theorem wd_672 : Cond.code yX8_nextInRow cX8_nextInRow 6 (some .int) ∈ TB := TB_in (List.mem_of_getElem? (i := 672) (by decide +kernel)) rfl
theorem wd_673 : Cond.methodLink RX8 119 yX8_hasLeastMark ∈ TB := TB_in (List.mem_of_getElem? (i := 673) (by decide +kernel)) rfl
theorem wd_675 : Cond.instanceMethod yX8_hasLeastMark ∈ TB := TB_in (List.mem_of_getElem? (i := 675) (by decide +kernel)) rfl
theorem wd_676 : Cond.code yX8_hasLeastMark cX8_hasLeastMark 4 (some .boolean) ∈ TB := TB_in (List.mem_of_getElem? (i := 676) (by decide +kernel)) rfl
theorem wd_677 : Cond.methodLink RX8 122 yX8_behindBest ∈ TB := TB_in (List.mem_of_getElem? (i := 677) (by decide +kernel)) rfl
theorem wd_679 : Cond.instanceMethod yX8_behindBest ∈ TB := TB_in (List.mem_of_getElem? (i := 679) (by decide +kernel)) rfl
theorem wd_680 : Cond.code yX8_behindBest cX8_behindBest 7 (some .boolean) ∈ TB := TB_in (List.mem_of_getElem? (i := 680) (by decide +kernel)) rfl
theorem wd_681 : Cond.methodLink RX8 100 yX8_lessThanBest ∈ TB := TB_in (List.mem_of_getElem? (i := 681) (by decide +kernel)) rfl
theorem wd_683 : Cond.instanceMethod yX8_lessThanBest ∈ TB := TB_in (List.mem_of_getElem? (i := 683) (by decide +kernel)) rfl
theorem wd_684 : Cond.code yX8_lessThanBest cX8_lessThanBest 8 (some .boolean) ∈ TB := TB_in (List.mem_of_getElem? (i := 684) (by decide +kernel)) rfl
theorem wd_685 : Cond.methodLink RX8 103 yX8_keepBest ∈ TB := TB_in (List.mem_of_getElem? (i := 685) (by decide +kernel)) rfl
theorem wd_687 : Cond.instanceMethod yX8_keepBest ∈ TB := TB_in (List.mem_of_getElem? (i := 687) (by decide +kernel)) rfl
theorem wd_688 : Cond.code yX8_keepBest cX8_keepBest 3 none ∈ TB := TB_in (List.mem_of_getElem? (i := 688) (by decide +kernel)) rfl
theorem wd_689 : Cond.methodLink RX8 106 yX8_bestAsNumber ∈ TB := TB_in (List.mem_of_getElem? (i := 689) (by decide +kernel)) rfl
theorem wd_691 : Cond.instanceMethod yX8_bestAsNumber ∈ TB := TB_in (List.mem_of_getElem? (i := 691) (by decide +kernel)) rfl
theorem wd_692 : Cond.code yX8_bestAsNumber cX8_bestAsNumber 7 (some .int) ∈ TB := TB_in (List.mem_of_getElem? (i := 692) (by decide +kernel)) rfl
theorem wd_693 : Cond.methodLink RX8 129 yX8_behind ∈ TB := TB_in (List.mem_of_getElem? (i := 693) (by decide +kernel)) rfl
theorem wd_694 : Cond.static yX8_behind ∈ TB := TB_in (List.mem_of_getElem? (i := 694) (by decide +kernel)) rfl
theorem wd_695 : Cond.code yX8_behind cX8_behind 3 (some .long) ∈ TB := TB_in (List.mem_of_getElem? (i := 695) (by decide +kernel)) rfl
theorem wd_696 : Cond.constantLong RX8 133 (10) ∈ TB := TB_in (List.mem_of_getElem? (i := 696) (by decide +kernel)) rfl
theorem wd_697 : Cond.constantLong RX8 135 (1000000007) ∈ TB := TB_in (List.mem_of_getElem? (i := 697) (by decide +kernel)) rfl
theorem wd_699 : Cond.instanceMethod yX9_next ∈ TB := TB_in (List.mem_of_getElem? (i := 699) (by decide +kernel)) rfl
theorem wd_700 : Cond.selects RX9 yX9_next yX9_next ∈ TB := TB_in (List.mem_of_getElem? (i := 700) (by decide +kernel)) rfl
theorem wd_701 : Cond.code yX9_next cX9_next 6 (some .int) ∈ TB := TB_in (List.mem_of_getElem? (i := 701) (by decide +kernel)) rfl
theorem wn_702 : Cond.methodLinkNest RX9 188 yX3_allInOne RX9 ∈ NW := NW_in (List.mem_of_getElem? (i := 702) (by decide +kernel)) rfl
theorem wd_704 : Cond.instanceMethod yX3_allInOne ∈ TB := TB_in (List.mem_of_getElem? (i := 704) (by decide +kernel)) rfl
theorem wd_705 : Cond.code yX3_allInOne cX3_allInOne 2 none ∈ TB := TB_in (List.mem_of_getElem? (i := 705) (by decide +kernel)) rfl
theorem wn_706 : Cond.methodLinkNest RX3 40 yX9_wipe RX9 ∈ NW := NW_in (List.mem_of_getElem? (i := 706) (by decide +kernel)) rfl
theorem wn_707 : Cond.methodLinkNest RX9 191 yX3_forward RX9 ∈ NW := NW_in (List.mem_of_getElem? (i := 707) (by decide +kernel)) rfl
theorem wd_709 : Cond.instanceMethod yX3_forward ∈ TB := TB_in (List.mem_of_getElem? (i := 709) (by decide +kernel)) rfl
theorem wd_710 : Cond.code yX3_forward cX3_forward 3 (some .boolean) ∈ TB := TB_in (List.mem_of_getElem? (i := 710) (by decide +kernel)) rfl
theorem wd_711 : Cond.methodLink RX3 44 yX3_topAhead ∈ TB := TB_in (List.mem_of_getElem? (i := 711) (by decide +kernel)) rfl
theorem wd_713 : Cond.instanceMethod yX3_topAhead ∈ TB := TB_in (List.mem_of_getElem? (i := 713) (by decide +kernel)) rfl
theorem wd_714 : Cond.code yX3_topAhead cX3_topAhead 4 (some .int) ∈ TB := TB_in (List.mem_of_getElem? (i := 714) (by decide +kernel)) rfl
theorem wn_715 : Cond.methodLinkNest RX3 47 yX9_addTo RX9 ∈ NW := NW_in (List.mem_of_getElem? (i := 715) (by decide +kernel)) rfl
theorem wd_716 : Cond.static yX9_addTo ∈ TB := TB_in (List.mem_of_getElem? (i := 716) (by decide +kernel)) rfl
theorem wd_717 : Cond.code yX9_addTo cX9_addTo 3 none ∈ TB := TB_in (List.mem_of_getElem? (i := 717) (by decide +kernel)) rfl
theorem wd_719 : Cond.instanceMethod yX9_all ∈ TB := TB_in (List.mem_of_getElem? (i := 719) (by decide +kernel)) rfl
theorem wd_720 : Cond.selects RX9 yX9_all yX9_all ∈ TB := TB_in (List.mem_of_getElem? (i := 720) (by decide +kernel)) rfl
theorem wd_721 : Cond.code yX9_all cX9_all 5 (some .int) ∈ TB := TB_in (List.mem_of_getElem? (i := 721) (by decide +kernel)) rfl
theorem wd_723 : Cond.instanceMethod yX9_join ∈ TB := TB_in (List.mem_of_getElem? (i := 723) (by decide +kernel)) rfl
theorem wd_724 : Cond.selects RX9 yX9_join yX9_join ∈ TB := TB_in (List.mem_of_getElem? (i := 724) (by decide +kernel)) rfl
theorem wd_725 : Cond.code yX9_join cX9_join 3 (some .int) ∈ TB := TB_in (List.mem_of_getElem? (i := 725) (by decide +kernel)) rfl
theorem wn_726 : Cond.methodLinkNest RX9 195 yX3_mergeBy RX9 ∈ NW := NW_in (List.mem_of_getElem? (i := 726) (by decide +kernel)) rfl
theorem wd_728 : Cond.instanceMethod yX3_mergeBy ∈ TB := TB_in (List.mem_of_getElem? (i := 728) (by decide +kernel)) rfl
theorem wd_729 : Cond.code yX3_mergeBy cX3_mergeBy 4 none ∈ TB := TB_in (List.mem_of_getElem? (i := 729) (by decide +kernel)) rfl
theorem wd_730 : Cond.methodLink RX3 50 yX3_together ∈ TB := TB_in (List.mem_of_getElem? (i := 730) (by decide +kernel)) rfl
theorem wd_731 : Cond.methodLink RX3 54 yX3_rename ∈ TB := TB_in (List.mem_of_getElem? (i := 731) (by decide +kernel)) rfl
theorem wd_733 : Cond.instanceMethod yX3_rename ∈ TB := TB_in (List.mem_of_getElem? (i := 733) (by decide +kernel)) rfl
theorem wd_734 : Cond.code yX3_rename cX3_rename 4 none ∈ TB := TB_in (List.mem_of_getElem? (i := 734) (by decide +kernel)) rfl
theorem wn_735 : Cond.methodLinkNest RX9 199 yX3_copyRenumbered RX9 ∈ NW := NW_in (List.mem_of_getElem? (i := 735) (by decide +kernel)) rfl
theorem wd_737 : Cond.instanceMethod yX3_copyRenumbered ∈ TB := TB_in (List.mem_of_getElem? (i := 737) (by decide +kernel)) rfl
theorem wd_738 : Cond.code yX3_copyRenumbered cX3_copyRenumbered 2 none ∈ TB := TB_in (List.mem_of_getElem? (i := 738) (by decide +kernel)) rfl
theorem wd_739 : Cond.methodLink RX3 58 yX3_cross ∈ TB := TB_in (List.mem_of_getElem? (i := 739) (by decide +kernel)) rfl
theorem wd_741 : Cond.instanceMethod yX3_cross ∈ TB := TB_in (List.mem_of_getElem? (i := 741) (by decide +kernel)) rfl
theorem wd_742 : Cond.code yX3_cross cX3_cross 6 none ∈ TB := TB_in (List.mem_of_getElem? (i := 742) (by decide +kernel)) rfl
theorem wd_743 : Cond.methodLink RX3 62 yX3_begin ∈ TB := TB_in (List.mem_of_getElem? (i := 743) (by decide +kernel)) rfl
theorem wd_744 : Cond.methodLink RX3 66 yX3_place ∈ TB := TB_in (List.mem_of_getElem? (i := 744) (by decide +kernel)) rfl
theorem wd_746 : Cond.instanceMethod yX9_meet ∈ TB := TB_in (List.mem_of_getElem? (i := 746) (by decide +kernel)) rfl
theorem wd_747 : Cond.selects RX9 yX9_meet yX9_meet ∈ TB := TB_in (List.mem_of_getElem? (i := 747) (by decide +kernel)) rfl
theorem wd_748 : Cond.code yX9_meet cX9_meet 3 (some .int) ∈ TB := TB_in (List.mem_of_getElem? (i := 748) (by decide +kernel)) rfl
theorem wn_749 : Cond.methodLinkNest RX9 202 yX3_cross RX9 ∈ NW := NW_in (List.mem_of_getElem? (i := 749) (by decide +kernel)) rfl
theorem wd_751 : Cond.instanceMethod yX9_picture ∈ TB := TB_in (List.mem_of_getElem? (i := 751) (by decide +kernel)) rfl
theorem wd_752 : Cond.selects RX9 yX9_picture yX9_picture ∈ TB := TB_in (List.mem_of_getElem? (i := 752) (by decide +kernel)) rfl
theorem wd_753 : Cond.code yX9_picture cX9_picture 5 (some .int) ∈ TB := TB_in (List.mem_of_getElem? (i := 753) (by decide +kernel)) rfl
theorem wn_754 : Cond.methodLinkNest RX9 206 yX3_has RX9 ∈ NW := NW_in (List.mem_of_getElem? (i := 754) (by decide +kernel)) rfl
theorem wd_756 : Cond.instanceMethod yX3_has ∈ TB := TB_in (List.mem_of_getElem? (i := 756) (by decide +kernel)) rfl
theorem wd_757 : Cond.code yX3_has cX3_has 2 (some .boolean) ∈ TB := TB_in (List.mem_of_getElem? (i := 757) (by decide +kernel)) rfl
theorem wn_758 : Cond.methodLinkNest RX9 209 yX0_image RX9 ∈ NW := NW_in (List.mem_of_getElem? (i := 758) (by decide +kernel)) rfl
theorem wd_760 : Cond.instanceMethod yX0_image ∈ TB := TB_in (List.mem_of_getElem? (i := 760) (by decide +kernel)) rfl
theorem wd_761 : Cond.code yX0_image cX0_image 11 (some .int) ∈ TB := TB_in (List.mem_of_getElem? (i := 761) (by decide +kernel)) rfl
theorem wn_762 : Cond.methodLinkNest RX0 87 yX3_sizeOf RX9 ∈ NW := NW_in (List.mem_of_getElem? (i := 762) (by decide +kernel)) rfl
theorem wd_764 : Cond.instanceMethod yX3_sizeOf ∈ TB := TB_in (List.mem_of_getElem? (i := 764) (by decide +kernel)) rfl
theorem wd_765 : Cond.code yX3_sizeOf cX3_sizeOf 4 (some .int) ∈ TB := TB_in (List.mem_of_getElem? (i := 765) (by decide +kernel)) rfl
theorem wn_766 : Cond.methodLinkNest RX0 41 yX3_of RX9 ∈ NW := NW_in (List.mem_of_getElem? (i := 766) (by decide +kernel)) rfl
theorem wd_767 : Cond.methodLink RX0 90 yX0_tiesTo ∈ TB := TB_in (List.mem_of_getElem? (i := 767) (by decide +kernel)) rfl
theorem wd_769 : Cond.instanceMethod yX0_tiesTo ∈ TB := TB_in (List.mem_of_getElem? (i := 769) (by decide +kernel)) rfl
theorem wd_770 : Cond.code yX0_tiesTo cX0_tiesTo 8 (some .int) ∈ TB := TB_in (List.mem_of_getElem? (i := 770) (by decide +kernel)) rfl
theorem wn_771 : Cond.methodLinkNest RX0 49 yX7_tied RX9 ∈ NW := NW_in (List.mem_of_getElem? (i := 771) (by decide +kernel)) rfl
theorem wd_772 : Cond.methodLink RX0 61 yJ9_min_7cf53 ∈ TB := TB_in (List.mem_of_getElem? (i := 772) (by decide +kernel)) rfl
theorem wd_775 : Cond.methodLink RX0 93 yJ9_max_7cf53 ∈ TB := TB_in (List.mem_of_getElem? (i := 775) (by decide +kernel)) rfl
theorem wd_777 : Cond.instanceMethod yX9_wrong ∈ TB := TB_in (List.mem_of_getElem? (i := 777) (by decide +kernel)) rfl
theorem wd_778 : Cond.selects RX9 yX9_wrong yX9_wrong ∈ TB := TB_in (List.mem_of_getElem? (i := 778) (by decide +kernel)) rfl
theorem wd_779 : Cond.code yX9_wrong cX9_wrong 2 (some .int) ∈ TB := TB_in (List.mem_of_getElem? (i := 779) (by decide +kernel)) rfl
theorem wn_780 : Cond.methodLinkNest RX9 213 yX0_misfits RX9 ∈ NW := NW_in (List.mem_of_getElem? (i := 780) (by decide +kernel)) rfl
theorem wd_782 : Cond.instanceMethod yX0_misfits ∈ TB := TB_in (List.mem_of_getElem? (i := 782) (by decide +kernel)) rfl
theorem wd_783 : Cond.code yX0_misfits cX0_misfits 7 (some .int) ∈ TB := TB_in (List.mem_of_getElem? (i := 783) (by decide +kernel)) rfl
theorem wd_784 : Cond.methodLink RX0 18 yX0_tallyTies ∈ TB := TB_in (List.mem_of_getElem? (i := 784) (by decide +kernel)) rfl
theorem wd_786 : Cond.instanceMethod yX0_tallyTies ∈ TB := TB_in (List.mem_of_getElem? (i := 786) (by decide +kernel)) rfl
theorem wd_787 : Cond.code yX0_tallyTies cX0_tallyTies 6 none ∈ TB := TB_in (List.mem_of_getElem? (i := 787) (by decide +kernel)) rfl
theorem wn_788 : Cond.methodLinkNest RX0 32 yX9_wipe RX9 ∈ NW := NW_in (List.mem_of_getElem? (i := 788) (by decide +kernel)) rfl
theorem wn_789 : Cond.methodLinkNest RX0 45 yX9_addTo RX9 ∈ NW := NW_in (List.mem_of_getElem? (i := 789) (by decide +kernel)) rfl
theorem wn_790 : Cond.methodLinkNest RX0 53 yX9_cell RX9 ∈ NW := NW_in (List.mem_of_getElem? (i := 790) (by decide +kernel)) rfl
theorem wd_791 : Cond.methodLink RX0 28 yX0_misfit ∈ TB := TB_in (List.mem_of_getElem? (i := 791) (by decide +kernel)) rfl
theorem wd_793 : Cond.instanceMethod yX0_misfit ∈ TB := TB_in (List.mem_of_getElem? (i := 793) (by decide +kernel)) rfl
theorem wd_794 : Cond.code yX0_misfit cX0_misfit 7 (some .int) ∈ TB := TB_in (List.mem_of_getElem? (i := 794) (by decide +kernel)) rfl
theorem wn_795 : Cond.methodLinkNest RX0 57 yX9_at RX9 ∈ NW := NW_in (List.mem_of_getElem? (i := 795) (by decide +kernel)) rfl
theorem wd_797 : Cond.instanceMethod yX9_least ∈ TB := TB_in (List.mem_of_getElem? (i := 797) (by decide +kernel)) rfl
theorem wd_798 : Cond.selects RX9 yX9_least yX9_least ∈ TB := TB_in (List.mem_of_getElem? (i := 798) (by decide +kernel)) rfl
theorem wd_799 : Cond.code yX9_least cX9_least 3 (some .int) ∈ TB := TB_in (List.mem_of_getElem? (i := 799) (by decide +kernel)) rfl
theorem wn_800 : Cond.methodLinkNest RX9 217 yX0_bestWith RX9 ∈ NW := NW_in (List.mem_of_getElem? (i := 800) (by decide +kernel)) rfl
theorem wd_802 : Cond.instanceMethod yX0_bestWith ∈ TB := TB_in (List.mem_of_getElem? (i := 802) (by decide +kernel)) rfl
theorem wd_803 : Cond.code yX0_bestWith cX0_bestWith 11 (some .int) ∈ TB := TB_in (List.mem_of_getElem? (i := 803) (by decide +kernel)) rfl
theorem wn_804 : Cond.methodLinkNest RX0 67 yX3_allInOne RX9 ∈ NW := NW_in (List.mem_of_getElem? (i := 804) (by decide +kernel)) rfl
theorem wd_805 : Cond.methodLink RX0 71 yX0_misfits ∈ TB := TB_in (List.mem_of_getElem? (i := 805) (by decide +kernel)) rfl
theorem wn_806 : Cond.methodLinkNest RX0 75 yX3_number RX9 ∈ NW := NW_in (List.mem_of_getElem? (i := 806) (by decide +kernel)) rfl
theorem wn_807 : Cond.methodLinkNest RX0 79 yX3_forward RX9 ∈ NW := NW_in (List.mem_of_getElem? (i := 807) (by decide +kernel)) rfl
theorem wd_809 : Cond.instanceMethod yX9_spoils ∈ TB := TB_in (List.mem_of_getElem? (i := 809) (by decide +kernel)) rfl
theorem wd_810 : Cond.selects RX9 yX9_spoils yX9_spoils ∈ TB := TB_in (List.mem_of_getElem? (i := 810) (by decide +kernel)) rfl
theorem wd_811 : Cond.code yX9_spoils cX9_spoils 3 (some .int) ∈ TB := TB_in (List.mem_of_getElem? (i := 811) (by decide +kernel)) rfl
theorem wd_812 : Cond.constant RX9 221 (1000000000) ∈ TB := TB_in (List.mem_of_getElem? (i := 812) (by decide +kernel)) rfl
theorem wn_813 : Cond.methodLinkNest RX9 222 yX0_worstTie RX9 ∈ NW := NW_in (List.mem_of_getElem? (i := 813) (by decide +kernel)) rfl
theorem wd_815 : Cond.instanceMethod yX0_worstTie ∈ TB := TB_in (List.mem_of_getElem? (i := 815) (by decide +kernel)) rfl
theorem wd_816 : Cond.code yX0_worstTie cX0_worstTie 10 (some .int) ∈ TB := TB_in (List.mem_of_getElem? (i := 816) (by decide +kernel)) rfl
theorem wd_817 : Cond.methodLink RX0 83 yX0_gainOf ∈ TB := TB_in (List.mem_of_getElem? (i := 817) (by decide +kernel)) rfl
theorem wd_819 : Cond.instanceMethod yX0_gainOf ∈ TB := TB_in (List.mem_of_getElem? (i := 819) (by decide +kernel)) rfl
theorem wd_820 : Cond.code yX0_gainOf cX0_gainOf 8 (some .int) ∈ TB := TB_in (List.mem_of_getElem? (i := 820) (by decide +kernel)) rfl
theorem wd_822 : Cond.instanceMethod yX9_newcomer ∈ TB := TB_in (List.mem_of_getElem? (i := 822) (by decide +kernel)) rfl
theorem wd_823 : Cond.selects RX9 yX9_newcomer yX9_newcomer ∈ TB := TB_in (List.mem_of_getElem? (i := 823) (by decide +kernel)) rfl
theorem wd_824 : Cond.code yX9_newcomer cX9_newcomer 4 (some .int) ∈ TB := TB_in (List.mem_of_getElem? (i := 824) (by decide +kernel)) rfl
theorem wn_825 : Cond.methodLinkNest RX9 226 yX2_append RX9 ∈ NW := NW_in (List.mem_of_getElem? (i := 825) (by decide +kernel)) rfl
theorem wd_827 : Cond.instanceMethod yX2_append ∈ TB := TB_in (List.mem_of_getElem? (i := 827) (by decide +kernel)) rfl
theorem wd_828 : Cond.code yX2_append cX2_append 4 none ∈ TB := TB_in (List.mem_of_getElem? (i := 828) (by decide +kernel)) rfl
theorem wn_829 : Cond.methodLinkNest RX2 25 yX9_put RX9 ∈ NW := NW_in (List.mem_of_getElem? (i := 829) (by decide +kernel)) rfl
theorem wd_831 : Cond.instanceMethod yX9_fits ∈ TB := TB_in (List.mem_of_getElem? (i := 831) (by decide +kernel)) rfl
theorem wd_832 : Cond.selects RX9 yX9_fits yX9_fits ∈ TB := TB_in (List.mem_of_getElem? (i := 832) (by decide +kernel)) rfl
theorem wd_833 : Cond.code yX9_fits cX9_fits 2 (some .int) ∈ TB := TB_in (List.mem_of_getElem? (i := 833) (by decide +kernel)) rfl
theorem wn_834 : Cond.methodLinkNest RX9 229 yX2_suitingParts RX9 ∈ NW := NW_in (List.mem_of_getElem? (i := 834) (by decide +kernel)) rfl
theorem wd_836 : Cond.instanceMethod yX2_suitingParts ∈ TB := TB_in (List.mem_of_getElem? (i := 836) (by decide +kernel)) rfl
theorem wd_837 : Cond.code yX2_suitingParts cX2_suitingParts 7 (some .int) ∈ TB := TB_in (List.mem_of_getElem? (i := 837) (by decide +kernel)) rfl
theorem wd_838 : Cond.methodLink RX2 34 yX2_hasSuchTie ∈ TB := TB_in (List.mem_of_getElem? (i := 838) (by decide +kernel)) rfl
theorem wd_840 : Cond.instanceMethod yX2_hasSuchTie ∈ TB := TB_in (List.mem_of_getElem? (i := 840) (by decide +kernel)) rfl
theorem wd_841 : Cond.code yX2_hasSuchTie cX2_hasSuchTie 10 (some .boolean) ∈ TB := TB_in (List.mem_of_getElem? (i := 841) (by decide +kernel)) rfl
theorem wn_842 : Cond.methodLinkNest RX2 38 yX9_at RX9 ∈ NW := NW_in (List.mem_of_getElem? (i := 842) (by decide +kernel)) rfl
theorem wn_843 : Cond.methodLinkNest RX2 42 yX3_of RX9 ∈ NW := NW_in (List.mem_of_getElem? (i := 843) (by decide +kernel)) rfl
theorem wn_844 : Cond.methodLinkNest RX2 49 yX7_tied RX9 ∈ NW := NW_in (List.mem_of_getElem? (i := 844) (by decide +kernel)) rfl
theorem wd_846 : Cond.instanceMethod yX9_gone ∈ TB := TB_in (List.mem_of_getElem? (i := 846) (by decide +kernel)) rfl
theorem wd_847 : Cond.selects RX9 yX9_gone yX9_gone ∈ TB := TB_in (List.mem_of_getElem? (i := 847) (by decide +kernel)) rfl
theorem wd_848 : Cond.code yX9_gone cX9_gone 2 (some .int) ∈ TB := TB_in (List.mem_of_getElem? (i := 848) (by decide +kernel)) rfl
theorem wd_850 : Cond.instanceMethod yX9_shift ∈ TB := TB_in (List.mem_of_getElem? (i := 850) (by decide +kernel)) rfl
theorem wd_851 : Cond.selects RX9 yX9_shift yX9_shift ∈ TB := TB_in (List.mem_of_getElem? (i := 851) (by decide +kernel)) rfl
theorem wd_852 : Cond.code yX9_shift cX9_shift 4 (some .int) ∈ TB := TB_in (List.mem_of_getElem? (i := 852) (by decide +kernel)) rfl
theorem wd_853 : Cond.methodLink RX9 232 yX9_partOfYear ∈ TB := TB_in (List.mem_of_getElem? (i := 853) (by decide +kernel)) rfl
theorem wd_855 : Cond.instanceMethod yX9_partOfYear ∈ TB := TB_in (List.mem_of_getElem? (i := 855) (by decide +kernel)) rfl
theorem wd_856 : Cond.code yX9_partOfYear cX9_partOfYear 4 none ∈ TB := TB_in (List.mem_of_getElem? (i := 856) (by decide +kernel)) rfl
theorem wn_857 : Cond.methodLinkNest RX9 236 yX1_keepers RX9 ∈ NW := NW_in (List.mem_of_getElem? (i := 857) (by decide +kernel)) rfl
theorem wd_859 : Cond.instanceMethod yX1_keepers ∈ TB := TB_in (List.mem_of_getElem? (i := 859) (by decide +kernel)) rfl
theorem wd_860 : Cond.code yX1_keepers cX1_keepers 6 (some .int) ∈ TB := TB_in (List.mem_of_getElem? (i := 860) (by decide +kernel)) rfl
theorem wn_861 : Cond.methodLinkNest RX1 18 yX9_wipe RX9 ∈ NW := NW_in (List.mem_of_getElem? (i := 861) (by decide +kernel)) rfl
theorem wn_862 : Cond.methodLinkNest RX1 28 yX3_of RX9 ∈ NW := NW_in (List.mem_of_getElem? (i := 862) (by decide +kernel)) rfl
theorem wn_863 : Cond.methodLinkNest RX1 32 yX9_addTo RX9 ∈ NW := NW_in (List.mem_of_getElem? (i := 863) (by decide +kernel)) rfl
theorem wd_864 : Cond.methodLink RX1 39 yX1_bestFor ∈ TB := TB_in (List.mem_of_getElem? (i := 864) (by decide +kernel)) rfl
theorem wd_866 : Cond.instanceMethod yX1_bestFor ∈ TB := TB_in (List.mem_of_getElem? (i := 866) (by decide +kernel)) rfl
theorem wd_867 : Cond.code yX1_bestFor cX1_bestFor 6 (some .int) ∈ TB := TB_in (List.mem_of_getElem? (i := 867) (by decide +kernel)) rfl
theorem wn_868 : Cond.methodLinkNest RX1 46 yX9_at RX9 ∈ NW := NW_in (List.mem_of_getElem? (i := 868) (by decide +kernel)) rfl
theorem wn_869 : Cond.methodLinkNest RX1 50 yX9_holds RX9 ∈ NW := NW_in (List.mem_of_getElem? (i := 869) (by decide +kernel)) rfl
theorem wd_870 : Cond.methodLink RX1 54 yJ9_max_7cf53 ∈ TB := TB_in (List.mem_of_getElem? (i := 870) (by decide +kernel)) rfl
theorem wn_871 : Cond.methodLinkNest RX1 43 yX9_put RX9 ∈ NW := NW_in (List.mem_of_getElem? (i := 871) (by decide +kernel)) rfl
theorem wd_873 : Cond.instanceMethod yX9_stays ∈ TB := TB_in (List.mem_of_getElem? (i := 873) (by decide +kernel)) rfl
theorem wd_874 : Cond.selects RX9 yX9_stays yX9_stays ∈ TB := TB_in (List.mem_of_getElem? (i := 874) (by decide +kernel)) rfl
theorem wd_875 : Cond.code yX9_stays cX9_stays 6 (some .int) ∈ TB := TB_in (List.mem_of_getElem? (i := 875) (by decide +kernel)) rfl
theorem wn_876 : Cond.methodLinkNest RX9 240 yX6_nextChange RX9 ∈ NW := NW_in (List.mem_of_getElem? (i := 876) (by decide +kernel)) rfl
theorem wd_878 : Cond.instanceMethod yX6_nextChange ∈ TB := TB_in (List.mem_of_getElem? (i := 878) (by decide +kernel)) rfl
theorem wd_879 : Cond.code yX6_nextChange cX6_nextChange 4 (some .int) ∈ TB := TB_in (List.mem_of_getElem? (i := 879) (by decide +kernel)) rfl
theorem wd_880 : Cond.methodLink RX6 51 yJ9_min_7cf53 ∈ TB := TB_in (List.mem_of_getElem? (i := 880) (by decide +kernel)) rfl
theorem wd_882 : Cond.instanceMethod yX9_count ∈ TB := TB_in (List.mem_of_getElem? (i := 882) (by decide +kernel)) rfl
theorem wd_883 : Cond.selects RX9 yX9_count yX9_count ∈ TB := TB_in (List.mem_of_getElem? (i := 883) (by decide +kernel)) rfl
theorem wd_884 : Cond.code yX9_count cX9_count 2 (some .int) ∈ TB := TB_in (List.mem_of_getElem? (i := 884) (by decide +kernel)) rfl
theorem wn_885 : Cond.methodLinkNest RX9 243 yX7_tiesInAll RX9 ∈ NW := NW_in (List.mem_of_getElem? (i := 885) (by decide +kernel)) rfl
theorem wd_887 : Cond.instanceMethod yX7_tiesInAll ∈ TB := TB_in (List.mem_of_getElem? (i := 887) (by decide +kernel)) rfl
theorem wd_888 : Cond.code yX7_tiesInAll cX7_tiesInAll 3 (some .int) ∈ TB := TB_in (List.mem_of_getElem? (i := 888) (by decide +kernel)) rfl
theorem wd_889 : Cond.methodLink RX7 42 yX7_tiesOfKind ∈ TB := TB_in (List.mem_of_getElem? (i := 889) (by decide +kernel)) rfl
theorem wd_896 : Cond.fieldLink RX10 7 RX10 "refused" "[I" ∈ TB := TB_in (List.mem_of_getElem? (i := 896) (by decide +kernel)) rfl
theorem wd_897 : Cond.fieldLink RX10 13 RX10 "mark" "[I" ∈ TB := TB_in (List.mem_of_getElem? (i := 897) (by decide +kernel)) rfl
theorem wd_898 : Cond.fieldLink RX10 16 RX10 "tieX" "[I" ∈ TB := TB_in (List.mem_of_getElem? (i := 898) (by decide +kernel)) rfl
theorem wd_899 : Cond.fieldLink RX10 19 RX10 "tieZ" "[I" ∈ TB := TB_in (List.mem_of_getElem? (i := 899) (by decide +kernel)) rfl
theorem wd_900 : Cond.fieldLink RX10 22 RX10 "tieKind" "[I" ∈ TB := TB_in (List.mem_of_getElem? (i := 900) (by decide +kernel)) rfl
theorem wd_901 : Cond.fieldLink RX10 25 RX10 "tieAs" "[I" ∈ TB := TB_in (List.mem_of_getElem? (i := 901) (by decide +kernel)) rfl
theorem wd_902 : Cond.fieldLink RX10 28 RX10 "tieFrom" "[I" ∈ TB := TB_in (List.mem_of_getElem? (i := 902) (by decide +kernel)) rfl
theorem wd_903 : Cond.fieldLink RX10 31 RX10 "tieTo" "[I" ∈ TB := TB_in (List.mem_of_getElem? (i := 903) (by decide +kernel)) rfl
theorem wd_904 : Cond.fieldLink RX10 34 RX10 "persons" "I" ∈ TB := TB_in (List.mem_of_getElem? (i := 904) (by decide +kernel)) rfl
theorem wd_905 : Cond.fieldLink RX10 107 RX10 "ties" "I" ∈ TB := TB_in (List.mem_of_getElem? (i := 905) (by decide +kernel)) rfl
theorem wd_906 : Cond.fieldLink RX10 121 RX10 "year" "I" ∈ TB := TB_in (List.mem_of_getElem? (i := 906) (by decide +kernel)) rfl
theorem wd_907 : Cond.fieldLink RX10 38 RX10 "tape" "[I" ∈ TB := TB_in (List.mem_of_getElem? (i := 907) (by decide +kernel)) rfl
theorem wd_908 : Cond.fieldLink RX10 126 RX10 "taped" "I" ∈ TB := TB_in (List.mem_of_getElem? (i := 908) (by decide +kernel)) rfl
theorem wd_909 : Cond.fieldLink RX10 131 RX10 "at" "I" ∈ TB := TB_in (List.mem_of_getElem? (i := 909) (by decide +kernel)) rfl
theorem wd_910 : Cond.fieldLink RX10 153 RX10 "read" "I" ∈ TB := TB_in (List.mem_of_getElem? (i := 910) (by decide +kernel)) rfl
theorem wd_911 : Cond.fieldLink RX10 41 RX10 "readX" "[I" ∈ TB := TB_in (List.mem_of_getElem? (i := 911) (by decide +kernel)) rfl
theorem wd_912 : Cond.fieldLink RX10 44 RX10 "readZ" "[I" ∈ TB := TB_in (List.mem_of_getElem? (i := 912) (by decide +kernel)) rfl
theorem wd_913 : Cond.fieldLink RX10 47 RX10 "readKind" "[I" ∈ TB := TB_in (List.mem_of_getElem? (i := 913) (by decide +kernel)) rfl
theorem wd_914 : Cond.fieldLink RX10 50 RX10 "readAs" "[I" ∈ TB := TB_in (List.mem_of_getElem? (i := 914) (by decide +kernel)) rfl
theorem wd_915 : Cond.fieldLink RX10 53 RX10 "readFrom" "[I" ∈ TB := TB_in (List.mem_of_getElem? (i := 915) (by decide +kernel)) rfl
theorem wd_916 : Cond.fieldLink RX10 56 RX10 "readTo" "[I" ∈ TB := TB_in (List.mem_of_getElem? (i := 916) (by decide +kernel)) rfl
theorem wd_917 : Cond.fieldLink RX10 59 RX10 "tie" "[I" ∈ TB := TB_in (List.mem_of_getElem? (i := 917) (by decide +kernel)) rfl
theorem wd_918 : Cond.fieldLink RX10 62 RX10 "part" "[I" ∈ TB := TB_in (List.mem_of_getElem? (i := 918) (by decide +kernel)) rfl
theorem wd_919 : Cond.fieldLink RX10 65 RX10 "other" "[I" ∈ TB := TB_in (List.mem_of_getElem? (i := 919) (by decide +kernel)) rfl
theorem wd_920 : Cond.fieldLink RX10 68 RX10 "made" "[I" ∈ TB := TB_in (List.mem_of_getElem? (i := 920) (by decide +kernel)) rfl
theorem wd_921 : Cond.fieldLink RX10 71 RX10 "names" "[I" ∈ TB := TB_in (List.mem_of_getElem? (i := 921) (by decide +kernel)) rfl
theorem wd_922 : Cond.fieldLink RX10 74 RX10 "to" "[I" ∈ TB := TB_in (List.mem_of_getElem? (i := 922) (by decide +kernel)) rfl
theorem wd_923 : Cond.fieldLink RX10 77 RX10 "least" "[I" ∈ TB := TB_in (List.mem_of_getElem? (i := 923) (by decide +kernel)) rfl
theorem wd_924 : Cond.fieldLink RX10 80 RX10 "row" "[I" ∈ TB := TB_in (List.mem_of_getElem? (i := 924) (by decide +kernel)) rfl
theorem wd_925 : Cond.fieldLink RX10 83 RX10 "moved" "[Z" ∈ TB := TB_in (List.mem_of_getElem? (i := 925) (by decide +kernel)) rfl
theorem wd_926 : Cond.fieldLink RX10 87 RX10 "comingKind" "[I" ∈ TB := TB_in (List.mem_of_getElem? (i := 926) (by decide +kernel)) rfl
theorem wd_927 : Cond.fieldLink RX10 90 RX10 "comingOf" "[I" ∈ TB := TB_in (List.mem_of_getElem? (i := 927) (by decide +kernel)) rfl
theorem wd_928 : Cond.fieldLink RX10 93 RX10 "comingTo" "[Z" ∈ TB := TB_in (List.mem_of_getElem? (i := 928) (by decide +kernel)) rfl
theorem wd_929 : Cond.fieldLink RX10 110 RX10 "coming" "I" ∈ TB := TB_in (List.mem_of_getElem? (i := 929) (by decide +kernel)) rfl
theorem wd_1001 : Cond.instanceMethod yX10_persons ∈ TB := TB_in (List.mem_of_getElem? (i := 1001) (by decide +kernel)) rfl
theorem wd_1002 : Cond.selects RX10 yX10_persons yX10_persons ∈ TB := TB_in (List.mem_of_getElem? (i := 1002) (by decide +kernel)) rfl
theorem wd_1003 : Cond.code yX10_persons cX10_persons 5 (some .int) ∈ TB := TB_in (List.mem_of_getElem? (i := 1003) (by decide +kernel)) rfl
theorem wd_1004 : Cond.constantLong RX10 97 (7) ∈ TB := TB_in (List.mem_of_getElem? (i := 1004) (by decide +kernel)) rfl
theorem wd_1005 : Cond.methodLink RX10 99 yX10_out ∈ TB := TB_in (List.mem_of_getElem? (i := 1005) (by decide +kernel)) rfl
theorem wd_1006 : Cond.static yX10_out ∈ TB := TB_in (List.mem_of_getElem? (i := 1006) (by decide +kernel)) rfl
theorem wd_1007 : Cond.code yX10_out cX10_out 6 (some .int) ∈ TB := TB_in (List.mem_of_getElem? (i := 1007) (by decide +kernel)) rfl
theorem wd_1008 : Cond.methodLink RX10 103 yX10_no ∈ TB := TB_in (List.mem_of_getElem? (i := 1008) (by decide +kernel)) rfl
theorem wd_1010 : Cond.instanceMethod yX10_no ∈ TB := TB_in (List.mem_of_getElem? (i := 1010) (by decide +kernel)) rfl
theorem wd_1011 : Cond.code yX10_no cX10_no 2 (some .int) ∈ TB := TB_in (List.mem_of_getElem? (i := 1011) (by decide +kernel)) rfl
theorem wd_1013 : Cond.instanceMethod yX10_mark ∈ TB := TB_in (List.mem_of_getElem? (i := 1013) (by decide +kernel)) rfl
theorem wd_1014 : Cond.selects RX10 yX10_mark yX10_mark ∈ TB := TB_in (List.mem_of_getElem? (i := 1014) (by decide +kernel)) rfl
theorem wd_1015 : Cond.code yX10_mark cX10_mark 5 (some .int) ∈ TB := TB_in (List.mem_of_getElem? (i := 1015) (by decide +kernel)) rfl
theorem wd_1016 : Cond.methodLink RX10 113 yX10_isPerson ∈ TB := TB_in (List.mem_of_getElem? (i := 1016) (by decide +kernel)) rfl
theorem wd_1018 : Cond.instanceMethod yX10_isPerson ∈ TB := TB_in (List.mem_of_getElem? (i := 1018) (by decide +kernel)) rfl
theorem wd_1019 : Cond.code yX10_isPerson cX10_isPerson 2 (some .boolean) ∈ TB := TB_in (List.mem_of_getElem? (i := 1019) (by decide +kernel)) rfl
theorem wd_1020 : Cond.constantLong RX10 117 (3) ∈ TB := TB_in (List.mem_of_getElem? (i := 1020) (by decide +kernel)) rfl
theorem wd_1022 : Cond.instanceMethod yX10_year ∈ TB := TB_in (List.mem_of_getElem? (i := 1022) (by decide +kernel)) rfl
theorem wd_1023 : Cond.selects RX10 yX10_year yX10_year ∈ TB := TB_in (List.mem_of_getElem? (i := 1023) (by decide +kernel)) rfl
theorem wd_1024 : Cond.code yX10_year cX10_year 4 (some .int) ∈ TB := TB_in (List.mem_of_getElem? (i := 1024) (by decide +kernel)) rfl
theorem wd_1025 : Cond.constantLong RX10 119 (100) ∈ TB := TB_in (List.mem_of_getElem? (i := 1025) (by decide +kernel)) rfl
theorem wd_1027 : Cond.instanceMethod yX10_feed ∈ TB := TB_in (List.mem_of_getElem? (i := 1027) (by decide +kernel)) rfl
theorem wd_1028 : Cond.selects RX10 yX10_feed yX10_feed ∈ TB := TB_in (List.mem_of_getElem? (i := 1028) (by decide +kernel)) rfl
theorem wd_1029 : Cond.code yX10_feed cX10_feed 6 (some .int) ∈ TB := TB_in (List.mem_of_getElem? (i := 1029) (by decide +kernel)) rfl
theorem wd_1030 : Cond.constantLong RX10 124 (8) ∈ TB := TB_in (List.mem_of_getElem? (i := 1030) (by decide +kernel)) rfl
theorem wd_1031 : Cond.constantLong RX10 129 (255) ∈ TB := TB_in (List.mem_of_getElem? (i := 1031) (by decide +kernel)) rfl
theorem wd_1033 : Cond.instanceMethod yX10_ties ∈ TB := TB_in (List.mem_of_getElem? (i := 1033) (by decide +kernel)) rfl
theorem wd_1034 : Cond.selects RX10 yX10_ties yX10_ties ∈ TB := TB_in (List.mem_of_getElem? (i := 1034) (by decide +kernel)) rfl
theorem wd_1035 : Cond.code yX10_ties cX10_ties 3 (some .int) ∈ TB := TB_in (List.mem_of_getElem? (i := 1035) (by decide +kernel)) rfl
theorem wd_1036 : Cond.methodLink RX10 163 yX10_reads ∈ TB := TB_in (List.mem_of_getElem? (i := 1036) (by decide +kernel)) rfl
theorem wd_1038 : Cond.instanceMethod yX10_reads ∈ TB := TB_in (List.mem_of_getElem? (i := 1038) (by decide +kernel)) rfl
theorem wd_1039 : Cond.code yX10_reads cX10_reads 1 (some .boolean) ∈ TB := TB_in (List.mem_of_getElem? (i := 1039) (by decide +kernel)) rfl
theorem wd_1040 : Cond.methodLink RX10 159 yX10_oneTie ∈ TB := TB_in (List.mem_of_getElem? (i := 1040) (by decide +kernel)) rfl
theorem wd_1042 : Cond.instanceMethod yX10_oneTie ∈ TB := TB_in (List.mem_of_getElem? (i := 1042) (by decide +kernel)) rfl
theorem wd_1043 : Cond.code yX10_oneTie cX10_oneTie 4 (some .boolean) ∈ TB := TB_in (List.mem_of_getElem? (i := 1043) (by decide +kernel)) rfl
theorem wd_1044 : Cond.methodLink RX10 142 yX10_takesIn ∈ TB := TB_in (List.mem_of_getElem? (i := 1044) (by decide +kernel)) rfl
theorem wd_1046 : Cond.instanceMethod yX10_takesIn ∈ TB := TB_in (List.mem_of_getElem? (i := 1046) (by decide +kernel)) rfl
theorem wd_1047 : Cond.code yX10_takesIn cX10_takesIn 5 (some .int) ∈ TB := TB_in (List.mem_of_getElem? (i := 1047) (by decide +kernel)) rfl
theorem wd_1048 : Cond.methodLink RX10 134 yX10_sign ∈ TB := TB_in (List.mem_of_getElem? (i := 1048) (by decide +kernel)) rfl
theorem wd_1050 : Cond.instanceMethod yX10_sign ∈ TB := TB_in (List.mem_of_getElem? (i := 1050) (by decide +kernel)) rfl
theorem wd_1051 : Cond.code yX10_sign cX10_sign 1 (some .int) ∈ TB := TB_in (List.mem_of_getElem? (i := 1051) (by decide +kernel)) rfl
theorem wd_1052 : Cond.methodLink RX10 138 yX10_isIn ∈ TB := TB_in (List.mem_of_getElem? (i := 1052) (by decide +kernel)) rfl
theorem wd_1053 : Cond.static yX10_isIn ∈ TB := TB_in (List.mem_of_getElem? (i := 1053) (by decide +kernel)) rfl
theorem wd_1054 : Cond.code yX10_isIn cX10_isIn 6 (some .boolean) ∈ TB := TB_in (List.mem_of_getElem? (i := 1054) (by decide +kernel)) rfl
theorem wd_1055 : Cond.methodLink RX10 150 yX10_takes ∈ TB := TB_in (List.mem_of_getElem? (i := 1055) (by decide +kernel)) rfl
theorem wd_1057 : Cond.instanceMethod yX10_takes ∈ TB := TB_in (List.mem_of_getElem? (i := 1057) (by decide +kernel)) rfl
theorem wd_1058 : Cond.code yX10_takes cX10_takes 2 (some .boolean) ∈ TB := TB_in (List.mem_of_getElem? (i := 1058) (by decide +kernel)) rfl
theorem wd_1059 : Cond.methodLink RX10 156 yX10_years ∈ TB := TB_in (List.mem_of_getElem? (i := 1059) (by decide +kernel)) rfl
theorem wd_1061 : Cond.instanceMethod yX10_years ∈ TB := TB_in (List.mem_of_getElem? (i := 1061) (by decide +kernel)) rfl
theorem wd_1062 : Cond.code yX10_years cX10_years 5 (some .int) ∈ TB := TB_in (List.mem_of_getElem? (i := 1062) (by decide +kernel)) rfl
theorem wd_1063 : Cond.constantLong RX10 146 (48) ∈ TB := TB_in (List.mem_of_getElem? (i := 1063) (by decide +kernel)) rfl
theorem wd_1064 : Cond.constantLong RX10 148 (57) ∈ TB := TB_in (List.mem_of_getElem? (i := 1064) (by decide +kernel)) rfl
theorem wd_1066 : Cond.instanceMethod yX10_untie ∈ TB := TB_in (List.mem_of_getElem? (i := 1066) (by decide +kernel)) rfl
theorem wd_1067 : Cond.selects RX10 yX10_untie yX10_untie ∈ TB := TB_in (List.mem_of_getElem? (i := 1067) (by decide +kernel)) rfl
theorem wd_1068 : Cond.code yX10_untie cX10_untie 3 (some .int) ∈ TB := TB_in (List.mem_of_getElem? (i := 1068) (by decide +kernel)) rfl
theorem wd_1070 : Cond.instanceMethod yX10_tie ∈ TB := TB_in (List.mem_of_getElem? (i := 1070) (by decide +kernel)) rfl
theorem wd_1071 : Cond.selects RX10 yX10_tie yX10_tie ∈ TB := TB_in (List.mem_of_getElem? (i := 1071) (by decide +kernel)) rfl
theorem wd_1072 : Cond.code yX10_tie cX10_tie 4 (some .int) ∈ TB := TB_in (List.mem_of_getElem? (i := 1072) (by decide +kernel)) rfl
theorem wd_1073 : Cond.methodLink RX10 169 yX10_isKind ∈ TB := TB_in (List.mem_of_getElem? (i := 1073) (by decide +kernel)) rfl
theorem wd_1074 : Cond.static yX10_isKind ∈ TB := TB_in (List.mem_of_getElem? (i := 1074) (by decide +kernel)) rfl
theorem wd_1075 : Cond.code yX10_isKind cX10_isKind 1 (some .boolean) ∈ TB := TB_in (List.mem_of_getElem? (i := 1075) (by decide +kernel)) rfl
theorem wd_1076 : Cond.methodLink RX10 172 yX10_findTies ∈ TB := TB_in (List.mem_of_getElem? (i := 1076) (by decide +kernel)) rfl
theorem wd_1078 : Cond.instanceMethod yX10_findTies ∈ TB := TB_in (List.mem_of_getElem? (i := 1078) (by decide +kernel)) rfl
theorem wd_1079 : Cond.code yX10_findTies cX10_findTies 3 none ∈ TB := TB_in (List.mem_of_getElem? (i := 1079) (by decide +kernel)) rfl
theorem wd_1080 : Cond.methodLink RX10 166 yX10_strong ∈ TB := TB_in (List.mem_of_getElem? (i := 1080) (by decide +kernel)) rfl
theorem wd_1082 : Cond.instanceMethod yX10_strong ∈ TB := TB_in (List.mem_of_getElem? (i := 1082) (by decide +kernel)) rfl
theorem wd_1083 : Cond.code yX10_strong cX10_strong 4 (some .int) ∈ TB := TB_in (List.mem_of_getElem? (i := 1083) (by decide +kernel)) rfl
theorem wd_1085 : Cond.instanceMethod yX10_degree ∈ TB := TB_in (List.mem_of_getElem? (i := 1085) (by decide +kernel)) rfl
theorem wd_1086 : Cond.selects RX10 yX10_degree yX10_degree ∈ TB := TB_in (List.mem_of_getElem? (i := 1086) (by decide +kernel)) rfl
theorem wd_1087 : Cond.code yX10_degree cX10_degree 6 (some .int) ∈ TB := TB_in (List.mem_of_getElem? (i := 1087) (by decide +kernel)) rfl
theorem wd_1088 : Cond.methodLink RX10 176 yX10_has ∈ TB := TB_in (List.mem_of_getElem? (i := 1088) (by decide +kernel)) rfl
theorem wd_1090 : Cond.instanceMethod yX10_has ∈ TB := TB_in (List.mem_of_getElem? (i := 1090) (by decide +kernel)) rfl
theorem wd_1091 : Cond.code yX10_has cX10_has 4 (some .boolean) ∈ TB := TB_in (List.mem_of_getElem? (i := 1091) (by decide +kernel)) rfl
theorem wd_1093 : Cond.instanceMethod yX10_parting ∈ TB := TB_in (List.mem_of_getElem? (i := 1093) (by decide +kernel)) rfl
theorem wd_1094 : Cond.selects RX10 yX10_parting yX10_parting ∈ TB := TB_in (List.mem_of_getElem? (i := 1094) (by decide +kernel)) rfl
theorem wd_1095 : Cond.code yX10_parting cX10_parting 3 (some .int) ∈ TB := TB_in (List.mem_of_getElem? (i := 1095) (by decide +kernel)) rfl
theorem wd_1096 : Cond.methodLink RX10 180 yX10_opens ∈ TB := TB_in (List.mem_of_getElem? (i := 1096) (by decide +kernel)) rfl
theorem wd_1098 : Cond.instanceMethod yX10_opens ∈ TB := TB_in (List.mem_of_getElem? (i := 1098) (by decide +kernel)) rfl
theorem wd_1099 : Cond.code yX10_opens cX10_opens 6 (some .int) ∈ TB := TB_in (List.mem_of_getElem? (i := 1099) (by decide +kernel)) rfl
theorem wd_1101 : Cond.instanceMethod yX10_judge ∈ TB := TB_in (List.mem_of_getElem? (i := 1101) (by decide +kernel)) rfl
theorem wd_1102 : Cond.selects RX10 yX10_judge yX10_judge ∈ TB := TB_in (List.mem_of_getElem? (i := 1102) (by decide +kernel)) rfl
theorem wd_1103 : Cond.code yX10_judge cX10_judge 3 (some .int) ∈ TB := TB_in (List.mem_of_getElem? (i := 1103) (by decide +kernel)) rfl
theorem wd_1104 : Cond.methodLink RX10 202 yX10_isSameness ∈ TB := TB_in (List.mem_of_getElem? (i := 1104) (by decide +kernel)) rfl
theorem wd_1105 : Cond.static yX10_isSameness ∈ TB := TB_in (List.mem_of_getElem? (i := 1105) (by decide +kernel)) rfl
theorem wd_1106 : Cond.code yX10_isSameness cX10_isSameness 1 (some .boolean) ∈ TB := TB_in (List.mem_of_getElem? (i := 1106) (by decide +kernel)) rfl
theorem wd_1107 : Cond.methodLink RX10 205 yX10_judged ∈ TB := TB_in (List.mem_of_getElem? (i := 1107) (by decide +kernel)) rfl
theorem wd_1109 : Cond.instanceMethod yX10_judged ∈ TB := TB_in (List.mem_of_getElem? (i := 1109) (by decide +kernel)) rfl
theorem wd_1110 : Cond.code yX10_judged cX10_judged 4 (some .int) ∈ TB := TB_in (List.mem_of_getElem? (i := 1110) (by decide +kernel)) rfl
theorem wd_1111 : Cond.methodLink RX10 199 yX10_areSo ∈ TB := TB_in (List.mem_of_getElem? (i := 1111) (by decide +kernel)) rfl
theorem wd_1113 : Cond.instanceMethod yX10_areSo ∈ TB := TB_in (List.mem_of_getElem? (i := 1113) (by decide +kernel)) rfl
theorem wd_1114 : Cond.code yX10_areSo cX10_areSo 4 (some .boolean) ∈ TB := TB_in (List.mem_of_getElem? (i := 1114) (by decide +kernel)) rfl
theorem wd_1115 : Cond.methodLink RX10 184 yX10_areTied ∈ TB := TB_in (List.mem_of_getElem? (i := 1115) (by decide +kernel)) rfl
theorem wd_1117 : Cond.instanceMethod yX10_areTied ∈ TB := TB_in (List.mem_of_getElem? (i := 1117) (by decide +kernel)) rfl
theorem wd_1118 : Cond.code yX10_areTied cX10_areTied 6 (some .boolean) ∈ TB := TB_in (List.mem_of_getElem? (i := 1118) (by decide +kernel)) rfl
theorem wd_1119 : Cond.methodLink RX10 191 yX10_seen ∈ TB := TB_in (List.mem_of_getElem? (i := 1119) (by decide +kernel)) rfl
theorem wd_1120 : Cond.static yX10_seen ∈ TB := TB_in (List.mem_of_getElem? (i := 1120) (by decide +kernel)) rfl
theorem wd_1121 : Cond.code yX10_seen cX10_seen 2 (some .int) ∈ TB := TB_in (List.mem_of_getElem? (i := 1121) (by decide +kernel)) rfl
theorem wd_1122 : Cond.methodLink RX10 188 yX10_areLed ∈ TB := TB_in (List.mem_of_getElem? (i := 1122) (by decide +kernel)) rfl
theorem wd_1124 : Cond.instanceMethod yX10_areLed ∈ TB := TB_in (List.mem_of_getElem? (i := 1124) (by decide +kernel)) rfl
theorem wd_1125 : Cond.code yX10_areLed cX10_areLed 6 (some .boolean) ∈ TB := TB_in (List.mem_of_getElem? (i := 1125) (by decide +kernel)) rfl
theorem wd_1126 : Cond.methodLink RX10 195 yX10_led ∈ TB := TB_in (List.mem_of_getElem? (i := 1126) (by decide +kernel)) rfl
theorem wd_1128 : Cond.instanceMethod yX10_led ∈ TB := TB_in (List.mem_of_getElem? (i := 1128) (by decide +kernel)) rfl
theorem wd_1129 : Cond.code yX10_led cX10_led 7 (some .int) ∈ TB := TB_in (List.mem_of_getElem? (i := 1129) (by decide +kernel)) rfl
theorem wd_1131 : Cond.instanceMethod yX10_coarsest ∈ TB := TB_in (List.mem_of_getElem? (i := 1131) (by decide +kernel)) rfl
theorem wd_1132 : Cond.selects RX10 yX10_coarsest yX10_coarsest ∈ TB := TB_in (List.mem_of_getElem? (i := 1132) (by decide +kernel)) rfl
theorem wd_1133 : Cond.code yX10_coarsest cX10_coarsest 3 (some .int) ∈ TB := TB_in (List.mem_of_getElem? (i := 1133) (by decide +kernel)) rfl
theorem wd_1134 : Cond.methodLink RX10 212 yX10_splits ∈ TB := TB_in (List.mem_of_getElem? (i := 1134) (by decide +kernel)) rfl
theorem wd_1136 : Cond.instanceMethod yX10_splits ∈ TB := TB_in (List.mem_of_getElem? (i := 1136) (by decide +kernel)) rfl
theorem wd_1137 : Cond.code yX10_splits cX10_splits 5 (some .int) ∈ TB := TB_in (List.mem_of_getElem? (i := 1137) (by decide +kernel)) rfl
theorem wd_1138 : Cond.methodLink RX10 208 yX10_number ∈ TB := TB_in (List.mem_of_getElem? (i := 1138) (by decide +kernel)) rfl
theorem wd_1140 : Cond.instanceMethod yX10_number ∈ TB := TB_in (List.mem_of_getElem? (i := 1140) (by decide +kernel)) rfl
theorem wd_1141 : Cond.code yX10_number cX10_number 7 (some .int) ∈ TB := TB_in (List.mem_of_getElem? (i := 1141) (by decide +kernel)) rfl
theorem wd_1143 : Cond.instanceMethod yX10_renamings ∈ TB := TB_in (List.mem_of_getElem? (i := 1143) (by decide +kernel)) rfl
theorem wd_1144 : Cond.selects RX10 yX10_renamings yX10_renamings ∈ TB := TB_in (List.mem_of_getElem? (i := 1144) (by decide +kernel)) rfl
theorem wd_1145 : Cond.code yX10_renamings cX10_renamings 1 (some .int) ∈ TB := TB_in (List.mem_of_getElem? (i := 1145) (by decide +kernel)) rfl
theorem wd_1146 : Cond.methodLink RX10 224 yX10_findTurns ∈ TB := TB_in (List.mem_of_getElem? (i := 1146) (by decide +kernel)) rfl
theorem wd_1148 : Cond.instanceMethod yX10_findTurns ∈ TB := TB_in (List.mem_of_getElem? (i := 1148) (by decide +kernel)) rfl
theorem wd_1149 : Cond.code yX10_findTurns cX10_findTurns 4 (some .int) ∈ TB := TB_in (List.mem_of_getElem? (i := 1149) (by decide +kernel)) rfl
theorem wd_1150 : Cond.methodLink RX10 215 yX10_firstNames ∈ TB := TB_in (List.mem_of_getElem? (i := 1150) (by decide +kernel)) rfl
theorem wd_1152 : Cond.instanceMethod yX10_firstNames ∈ TB := TB_in (List.mem_of_getElem? (i := 1152) (by decide +kernel)) rfl
theorem wd_1153 : Cond.code yX10_firstNames cX10_firstNames 2 none ∈ TB := TB_in (List.mem_of_getElem? (i := 1153) (by decide +kernel)) rfl
theorem wd_1154 : Cond.methodLink RX10 218 yX10_isTurn ∈ TB := TB_in (List.mem_of_getElem? (i := 1154) (by decide +kernel)) rfl
theorem wd_1156 : Cond.instanceMethod yX10_isTurn ∈ TB := TB_in (List.mem_of_getElem? (i := 1156) (by decide +kernel)) rfl
theorem wd_1157 : Cond.code yX10_isTurn cX10_isTurn 4 (some .boolean) ∈ TB := TB_in (List.mem_of_getElem? (i := 1157) (by decide +kernel)) rfl
theorem wd_1158 : Cond.methodLink RX10 221 yX10_nextNames ∈ TB := TB_in (List.mem_of_getElem? (i := 1158) (by decide +kernel)) rfl
theorem wd_1160 : Cond.instanceMethod yX10_nextNames ∈ TB := TB_in (List.mem_of_getElem? (i := 1160) (by decide +kernel)) rfl
theorem wd_1161 : Cond.code yX10_nextNames cX10_nextNames 7 (some .boolean) ∈ TB := TB_in (List.mem_of_getElem? (i := 1161) (by decide +kernel)) rfl
theorem wd_1163 : Cond.instanceMethod yX10_moves ∈ TB := TB_in (List.mem_of_getElem? (i := 1163) (by decide +kernel)) rfl
theorem wd_1164 : Cond.selects RX10 yX10_moves yX10_moves ∈ TB := TB_in (List.mem_of_getElem? (i := 1164) (by decide +kernel)) rfl
theorem wd_1165 : Cond.code yX10_moves cX10_moves 3 (some .int) ∈ TB := TB_in (List.mem_of_getElem? (i := 1165) (by decide +kernel)) rfl
theorem wd_1167 : Cond.instanceMethod yX10_orbits ∈ TB := TB_in (List.mem_of_getElem? (i := 1167) (by decide +kernel)) rfl
theorem wd_1168 : Cond.selects RX10 yX10_orbits yX10_orbits ∈ TB := TB_in (List.mem_of_getElem? (i := 1168) (by decide +kernel)) rfl
theorem wd_1169 : Cond.code yX10_orbits cX10_orbits 3 (some .int) ∈ TB := TB_in (List.mem_of_getElem? (i := 1169) (by decide +kernel)) rfl
theorem wd_1171 : Cond.instanceMethod yX10_form ∈ TB := TB_in (List.mem_of_getElem? (i := 1171) (by decide +kernel)) rfl
theorem wd_1172 : Cond.selects RX10 yX10_form yX10_form ∈ TB := TB_in (List.mem_of_getElem? (i := 1172) (by decide +kernel)) rfl
theorem wd_1173 : Cond.code yX10_form cX10_form 8 (some .int) ∈ TB := TB_in (List.mem_of_getElem? (i := 1173) (by decide +kernel)) rfl
theorem wd_1174 : Cond.constantLong RX10 227 (10) ∈ TB := TB_in (List.mem_of_getElem? (i := 1174) (by decide +kernel)) rfl
theorem wd_1175 : Cond.constantLong RX10 229 (1000000007) ∈ TB := TB_in (List.mem_of_getElem? (i := 1175) (by decide +kernel)) rfl
theorem wd_1177 : Cond.instanceMethod yX10_next ∈ TB := TB_in (List.mem_of_getElem? (i := 1177) (by decide +kernel)) rfl
theorem wd_1178 : Cond.selects RX10 yX10_next yX10_next ∈ TB := TB_in (List.mem_of_getElem? (i := 1178) (by decide +kernel)) rfl
theorem wd_1179 : Cond.code yX10_next cX10_next 5 (some .int) ∈ TB := TB_in (List.mem_of_getElem? (i := 1179) (by decide +kernel)) rfl
theorem wd_1180 : Cond.methodLink RX10 231 yX10_firstParting ∈ TB := TB_in (List.mem_of_getElem? (i := 1180) (by decide +kernel)) rfl
theorem wd_1182 : Cond.instanceMethod yX10_firstParting ∈ TB := TB_in (List.mem_of_getElem? (i := 1182) (by decide +kernel)) rfl
theorem wd_1183 : Cond.code yX10_firstParting cX10_firstParting 2 none ∈ TB := TB_in (List.mem_of_getElem? (i := 1183) (by decide +kernel)) rfl
theorem wd_1184 : Cond.methodLink RX10 234 yX10_nextParting ∈ TB := TB_in (List.mem_of_getElem? (i := 1184) (by decide +kernel)) rfl
theorem wd_1186 : Cond.instanceMethod yX10_nextParting ∈ TB := TB_in (List.mem_of_getElem? (i := 1186) (by decide +kernel)) rfl
theorem wd_1187 : Cond.code yX10_nextParting cX10_nextParting 4 (some .boolean) ∈ TB := TB_in (List.mem_of_getElem? (i := 1187) (by decide +kernel)) rfl
theorem wd_1189 : Cond.instanceMethod yX10_all ∈ TB := TB_in (List.mem_of_getElem? (i := 1189) (by decide +kernel)) rfl
theorem wd_1190 : Cond.selects RX10 yX10_all yX10_all ∈ TB := TB_in (List.mem_of_getElem? (i := 1190) (by decide +kernel)) rfl
theorem wd_1191 : Cond.code yX10_all cX10_all 4 (some .int) ∈ TB := TB_in (List.mem_of_getElem? (i := 1191) (by decide +kernel)) rfl
theorem wd_1193 : Cond.instanceMethod yX10_join ∈ TB := TB_in (List.mem_of_getElem? (i := 1193) (by decide +kernel)) rfl
theorem wd_1194 : Cond.selects RX10 yX10_join yX10_join ∈ TB := TB_in (List.mem_of_getElem? (i := 1194) (by decide +kernel)) rfl
theorem wd_1195 : Cond.code yX10_join cX10_join 6 (some .int) ∈ TB := TB_in (List.mem_of_getElem? (i := 1195) (by decide +kernel)) rfl
theorem wd_1197 : Cond.instanceMethod yX10_meet ∈ TB := TB_in (List.mem_of_getElem? (i := 1197) (by decide +kernel)) rfl
theorem wd_1198 : Cond.selects RX10 yX10_meet yX10_meet ∈ TB := TB_in (List.mem_of_getElem? (i := 1198) (by decide +kernel)) rfl
theorem wd_1199 : Cond.code yX10_meet cX10_meet 4 (some .int) ∈ TB := TB_in (List.mem_of_getElem? (i := 1199) (by decide +kernel)) rfl
theorem wd_1201 : Cond.instanceMethod yX10_picture ∈ TB := TB_in (List.mem_of_getElem? (i := 1201) (by decide +kernel)) rfl
theorem wd_1202 : Cond.selects RX10 yX10_picture yX10_picture ∈ TB := TB_in (List.mem_of_getElem? (i := 1202) (by decide +kernel)) rfl
theorem wd_1203 : Cond.code yX10_picture cX10_picture 13 (some .int) ∈ TB := TB_in (List.mem_of_getElem? (i := 1203) (by decide +kernel)) rfl
theorem wd_1205 : Cond.instanceMethod yX10_wrong ∈ TB := TB_in (List.mem_of_getElem? (i := 1205) (by decide +kernel)) rfl
theorem wd_1206 : Cond.selects RX10 yX10_wrong yX10_wrong ∈ TB := TB_in (List.mem_of_getElem? (i := 1206) (by decide +kernel)) rfl
theorem wd_1207 : Cond.code yX10_wrong cX10_wrong 2 (some .int) ∈ TB := TB_in (List.mem_of_getElem? (i := 1207) (by decide +kernel)) rfl
theorem wd_1208 : Cond.methodLink RX10 237 yX10_wrongOf ∈ TB := TB_in (List.mem_of_getElem? (i := 1208) (by decide +kernel)) rfl
theorem wd_1210 : Cond.instanceMethod yX10_wrongOf ∈ TB := TB_in (List.mem_of_getElem? (i := 1210) (by decide +kernel)) rfl
theorem wd_1211 : Cond.code yX10_wrongOf cX10_wrongOf 9 (some .int) ∈ TB := TB_in (List.mem_of_getElem? (i := 1211) (by decide +kernel)) rfl
theorem wd_1213 : Cond.instanceMethod yX10_least ∈ TB := TB_in (List.mem_of_getElem? (i := 1213) (by decide +kernel)) rfl
theorem wd_1214 : Cond.selects RX10 yX10_least yX10_least ∈ TB := TB_in (List.mem_of_getElem? (i := 1214) (by decide +kernel)) rfl
theorem wd_1215 : Cond.code yX10_least cX10_least 9 (some .int) ∈ TB := TB_in (List.mem_of_getElem? (i := 1215) (by decide +kernel)) rfl
theorem wd_1216 : Cond.constantLong RX10 240 (2) ∈ TB := TB_in (List.mem_of_getElem? (i := 1216) (by decide +kernel)) rfl
theorem wd_1217 : Cond.methodLink RX10 242 yX10_parts ∈ TB := TB_in (List.mem_of_getElem? (i := 1217) (by decide +kernel)) rfl
theorem wd_1219 : Cond.instanceMethod yX10_parts ∈ TB := TB_in (List.mem_of_getElem? (i := 1219) (by decide +kernel)) rfl
theorem wd_1220 : Cond.code yX10_parts cX10_parts 3 (some .int) ∈ TB := TB_in (List.mem_of_getElem? (i := 1220) (by decide +kernel)) rfl
theorem wd_1222 : Cond.instanceMethod yX10_spoils ∈ TB := TB_in (List.mem_of_getElem? (i := 1222) (by decide +kernel)) rfl
theorem wd_1223 : Cond.selects RX10 yX10_spoils yX10_spoils ∈ TB := TB_in (List.mem_of_getElem? (i := 1223) (by decide +kernel)) rfl
theorem wd_1224 : Cond.code yX10_spoils cX10_spoils 12 (some .int) ∈ TB := TB_in (List.mem_of_getElem? (i := 1224) (by decide +kernel)) rfl
theorem wd_1225 : Cond.methodLink RX10 245 yX10_less ∈ TB := TB_in (List.mem_of_getElem? (i := 1225) (by decide +kernel)) rfl
theorem wd_1227 : Cond.instanceMethod yX10_less ∈ TB := TB_in (List.mem_of_getElem? (i := 1227) (by decide +kernel)) rfl
theorem wd_1228 : Cond.code yX10_less cX10_less 2 (some .int) ∈ TB := TB_in (List.mem_of_getElem? (i := 1228) (by decide +kernel)) rfl
theorem wd_1229 : Cond.constant RX10 96 (1000000000) ∈ TB := TB_in (List.mem_of_getElem? (i := 1229) (by decide +kernel)) rfl
theorem wd_1231 : Cond.instanceMethod yX10_newcomer ∈ TB := TB_in (List.mem_of_getElem? (i := 1231) (by decide +kernel)) rfl
theorem wd_1232 : Cond.selects RX10 yX10_newcomer yX10_newcomer ∈ TB := TB_in (List.mem_of_getElem? (i := 1232) (by decide +kernel)) rfl
theorem wd_1233 : Cond.code yX10_newcomer cX10_newcomer 4 (some .int) ∈ TB := TB_in (List.mem_of_getElem? (i := 1233) (by decide +kernel)) rfl
theorem wd_1235 : Cond.instanceMethod yX10_fits ∈ TB := TB_in (List.mem_of_getElem? (i := 1235) (by decide +kernel)) rfl
theorem wd_1236 : Cond.selects RX10 yX10_fits yX10_fits ∈ TB := TB_in (List.mem_of_getElem? (i := 1236) (by decide +kernel)) rfl
theorem wd_1237 : Cond.code yX10_fits cX10_fits 7 (some .int) ∈ TB := TB_in (List.mem_of_getElem? (i := 1237) (by decide +kernel)) rfl
theorem wd_1238 : Cond.methodLink RX10 248 yX10_isFit ∈ TB := TB_in (List.mem_of_getElem? (i := 1238) (by decide +kernel)) rfl
theorem wd_1240 : Cond.instanceMethod yX10_isFit ∈ TB := TB_in (List.mem_of_getElem? (i := 1240) (by decide +kernel)) rfl
theorem wd_1241 : Cond.code yX10_isFit cX10_isFit 5 (some .boolean) ∈ TB := TB_in (List.mem_of_getElem? (i := 1241) (by decide +kernel)) rfl
theorem wd_1243 : Cond.instanceMethod yX10_gone ∈ TB := TB_in (List.mem_of_getElem? (i := 1243) (by decide +kernel)) rfl
theorem wd_1244 : Cond.selects RX10 yX10_gone yX10_gone ∈ TB := TB_in (List.mem_of_getElem? (i := 1244) (by decide +kernel)) rfl
theorem wd_1245 : Cond.code yX10_gone cX10_gone 2 (some .int) ∈ TB := TB_in (List.mem_of_getElem? (i := 1245) (by decide +kernel)) rfl
theorem wd_1247 : Cond.instanceMethod yX10_shift ∈ TB := TB_in (List.mem_of_getElem? (i := 1247) (by decide +kernel)) rfl
theorem wd_1248 : Cond.selects RX10 yX10_shift yX10_shift ∈ TB := TB_in (List.mem_of_getElem? (i := 1248) (by decide +kernel)) rfl
theorem wd_1249 : Cond.code yX10_shift cX10_shift 11 (some .int) ∈ TB := TB_in (List.mem_of_getElem? (i := 1249) (by decide +kernel)) rfl
theorem wd_1250 : Cond.methodLink RX10 252 yX10_coarsestOn ∈ TB := TB_in (List.mem_of_getElem? (i := 1250) (by decide +kernel)) rfl
theorem wd_1252 : Cond.instanceMethod yX10_coarsestOn ∈ TB := TB_in (List.mem_of_getElem? (i := 1252) (by decide +kernel)) rfl
theorem wd_1253 : Cond.code yX10_coarsestOn cX10_coarsestOn 3 (some .int) ∈ TB := TB_in (List.mem_of_getElem? (i := 1253) (by decide +kernel)) rfl
theorem wd_1255 : Cond.instanceMethod yX10_stays ∈ TB := TB_in (List.mem_of_getElem? (i := 1255) (by decide +kernel)) rfl
theorem wd_1256 : Cond.selects RX10 yX10_stays yX10_stays ∈ TB := TB_in (List.mem_of_getElem? (i := 1256) (by decide +kernel)) rfl
theorem wd_1257 : Cond.code yX10_stays cX10_stays 6 (some .int) ∈ TB := TB_in (List.mem_of_getElem? (i := 1257) (by decide +kernel)) rfl
theorem wd_1259 : Cond.instanceMethod yX10_count ∈ TB := TB_in (List.mem_of_getElem? (i := 1259) (by decide +kernel)) rfl
theorem wd_1260 : Cond.selects RX10 yX10_count yX10_count ∈ TB := TB_in (List.mem_of_getElem? (i := 1260) (by decide +kernel)) rfl
theorem wd_1261 : Cond.code yX10_count cX10_count 4 (some .int) ∈ TB := TB_in (List.mem_of_getElem? (i := 1261) (by decide +kernel)) rfl
theorem wd_1262 : Cond.constantLong RX10 256 (11) ∈ TB := TB_in (List.mem_of_getElem? (i := 1262) (by decide +kernel)) rfl
theorem wd_1263 : Cond.constantLong RX10 258 (16) ∈ TB := TB_in (List.mem_of_getElem? (i := 1263) (by decide +kernel)) rfl
section CALLS
variable {β : Type} {X : Cx} {ad : Nat → Nat} {mi mj : Mi} {φ : β → Option Value × Mem} {pc n index : Nat} {L : List (Nat × Value)} {st stk : List Value} {M : Mem} {as : (Nat → Nat) → List Value} {T : u_T} {N ci k : Nat} {fs : List (Option Nat)} {host : String}
theorem G_callV_I {o' : Option (Int32)} {f : Int32 → Option β} (hM : MC mj (φI M) as M o') (hc : CalV mj n) (hr : RoomOk mi mj) (hl : Cond.methodLink (my mi).cls index (my mj) ∈ TB) (hcl : ClOk ci (my mj).cls T N) (hk : k < 61) (ho : ob k = .inl (ci, fs)) (As : List Value) (has : as ad = .ref (ad k) :: As) (hn : As.length = n) (hst : stk = As.reverse ++ .ref (ad k) :: st) (hcat : (st.map fun v => v.category).sum ≤ 8) (hd : decode (mcc mi) pc = .ok (.invokevirtual index, 3)) (K : ∀ r : Int32, G X ad mi φ (pc + 3) L (.int r :: st) M (f r)) : G X ad mi φ pc L stk M (Option.bind o' f) := G_callV hM hc hr hl hcl hk ho As has hn hst hcat hd K
theorem G_callV_L {o' : Option (Int64)} {f : Int64 → Option β} (hM : MC mj (φL M) as M o') (hc : CalV mj n) (hr : RoomOk mi mj) (hl : Cond.methodLink (my mi).cls index (my mj) ∈ TB) (hcl : ClOk ci (my mj).cls T N) (hk : k < 61) (ho : ob k = .inl (ci, fs)) (As : List Value) (has : as ad = .ref (ad k) :: As) (hn : As.length = n) (hst : stk = As.reverse ++ .ref (ad k) :: st) (hcat : (st.map fun v => v.category).sum ≤ 8) (hd : decode (mcc mi) pc = .ok (.invokevirtual index, 3)) (K : ∀ r : Int64, G X ad mi φ (pc + 3) L (.long r :: st) M (f r)) : G X ad mi φ pc L stk M (Option.bind o' f) := G_callV hM hc hr hl hcl hk ho As has hn hst hcat hd K
theorem G_callV_V {o' : Option (Mem)} {f : Mem → Option β} (hM : MC mj (φV) as M o') (hc : CalV mj n) (hr : RoomOk mi mj) (hl : Cond.methodLink (my mi).cls index (my mj) ∈ TB) (hcl : ClOk ci (my mj).cls T N) (hk : k < 61) (ho : ob k = .inl (ci, fs)) (As : List Value) (has : as ad = .ref (ad k) :: As) (hn : As.length = n) (hst : stk = As.reverse ++ .ref (ad k) :: st) (hcat : (st.map fun v => v.category).sum ≤ 8) (hd : decode (mcc mi) pc = .ok (.invokevirtual index, 3)) (K : ∀ M' : Mem, G X ad mi φ (pc + 3) L st M' (f M')) : G X ad mi φ pc L stk M (Option.bind o' f) := G_callV hM hc hr hl hcl hk ho As has hn hst hcat hd K
theorem G_callV_IM {o' : Option (Int32 × Mem)} {f : Int32 → Mem → Option β} (hM : MC mj (φIM) as M o') (hc : CalV mj n) (hr : RoomOk mi mj) (hl : Cond.methodLink (my mi).cls index (my mj) ∈ TB) (hcl : ClOk ci (my mj).cls T N) (hk : k < 61) (ho : ob k = .inl (ci, fs)) (As : List Value) (has : as ad = .ref (ad k) :: As) (hn : As.length = n) (hst : stk = As.reverse ++ .ref (ad k) :: st) (hcat : (st.map fun v => v.category).sum ≤ 8) (hd : decode (mcc mi) pc = .ok (.invokevirtual index, 3)) (K : ∀ (r : Int32) (M' : Mem), G X ad mi φ (pc + 3) L (.int r :: st) M' (f r M')) : G X ad mi φ pc L stk M (bnd2 o' f) := G_callV hM hc hr hl hcl hk ho As has hn hst hcat hd (fun r => K r.1 r.2)
theorem G_callVN_I {o' : Option (Int32)} {f : Int32 → Option β} (hM : MC mj (φI M) as M o') (hc : CalV mj n) (hr : RoomOk mi mj) (hl : Cond.methodLinkNest (my mi).cls index (my mj) host ∈ NW) (hcl : ClOk ci (my mj).cls T N) (hk : k < 61) (ho : ob k = .inl (ci, fs)) (As : List Value) (has : as ad = .ref (ad k) :: As) (hn : As.length = n) (hst : stk = As.reverse ++ .ref (ad k) :: st) (hcat : (st.map fun v => v.category).sum ≤ 8) (hd : decode (mcc mi) pc = .ok (.invokevirtual index, 3)) (K : ∀ r : Int32, G X ad mi φ (pc + 3) L (.int r :: st) M (f r)) : G X ad mi φ pc L stk M (Option.bind o' f) := G_callVN hM hc hr hl hcl hk ho As has hn hst hcat hd K
theorem G_callVN_L {o' : Option (Int64)} {f : Int64 → Option β} (hM : MC mj (φL M) as M o') (hc : CalV mj n) (hr : RoomOk mi mj) (hl : Cond.methodLinkNest (my mi).cls index (my mj) host ∈ NW) (hcl : ClOk ci (my mj).cls T N) (hk : k < 61) (ho : ob k = .inl (ci, fs)) (As : List Value) (has : as ad = .ref (ad k) :: As) (hn : As.length = n) (hst : stk = As.reverse ++ .ref (ad k) :: st) (hcat : (st.map fun v => v.category).sum ≤ 8) (hd : decode (mcc mi) pc = .ok (.invokevirtual index, 3)) (K : ∀ r : Int64, G X ad mi φ (pc + 3) L (.long r :: st) M (f r)) : G X ad mi φ pc L stk M (Option.bind o' f) := G_callVN hM hc hr hl hcl hk ho As has hn hst hcat hd K
theorem G_callVN_V {o' : Option (Mem)} {f : Mem → Option β} (hM : MC mj (φV) as M o') (hc : CalV mj n) (hr : RoomOk mi mj) (hl : Cond.methodLinkNest (my mi).cls index (my mj) host ∈ NW) (hcl : ClOk ci (my mj).cls T N) (hk : k < 61) (ho : ob k = .inl (ci, fs)) (As : List Value) (has : as ad = .ref (ad k) :: As) (hn : As.length = n) (hst : stk = As.reverse ++ .ref (ad k) :: st) (hcat : (st.map fun v => v.category).sum ≤ 8) (hd : decode (mcc mi) pc = .ok (.invokevirtual index, 3)) (K : ∀ M' : Mem, G X ad mi φ (pc + 3) L st M' (f M')) : G X ad mi φ pc L stk M (Option.bind o' f) := G_callVN hM hc hr hl hcl hk ho As has hn hst hcat hd K
theorem G_callVN_IM {o' : Option (Int32 × Mem)} {f : Int32 → Mem → Option β} (hM : MC mj (φIM) as M o') (hc : CalV mj n) (hr : RoomOk mi mj) (hl : Cond.methodLinkNest (my mi).cls index (my mj) host ∈ NW) (hcl : ClOk ci (my mj).cls T N) (hk : k < 61) (ho : ob k = .inl (ci, fs)) (As : List Value) (has : as ad = .ref (ad k) :: As) (hn : As.length = n) (hst : stk = As.reverse ++ .ref (ad k) :: st) (hcat : (st.map fun v => v.category).sum ≤ 8) (hd : decode (mcc mi) pc = .ok (.invokevirtual index, 3)) (K : ∀ (r : Int32) (M' : Mem), G X ad mi φ (pc + 3) L (.int r :: st) M' (f r M')) : G X ad mi φ pc L stk M (bnd2 o' f) := G_callVN hM hc hr hl hcl hk ho As has hn hst hcat hd (fun r => K r.1 r.2)
theorem G_callS_I {o' : Option (Int32)} {f : Int32 → Option β} (hM : MC mj (φI M) as M o') (hc : CalS mj n) (hr : RoomOk mi mj) (hl : Cond.methodLink (my mi).cls index (my mj) ∈ TB) (hn : (as ad).length = n) (hst : stk = (as ad).reverse ++ st) (hcat : (st.map fun v => v.category).sum ≤ 8) (hd : decode (mcc mi) pc = .ok (.invokestatic index, 3)) (K : ∀ r : Int32, G X ad mi φ (pc + 3) L (.int r :: st) M (f r)) : G X ad mi φ pc L stk M (Option.bind o' f) := G_callS hM hc hr hl hn hst hcat hd K
theorem G_callS_L {o' : Option (Int64)} {f : Int64 → Option β} (hM : MC mj (φL M) as M o') (hc : CalS mj n) (hr : RoomOk mi mj) (hl : Cond.methodLink (my mi).cls index (my mj) ∈ TB) (hn : (as ad).length = n) (hst : stk = (as ad).reverse ++ st) (hcat : (st.map fun v => v.category).sum ≤ 8) (hd : decode (mcc mi) pc = .ok (.invokestatic index, 3)) (K : ∀ r : Int64, G X ad mi φ (pc + 3) L (.long r :: st) M (f r)) : G X ad mi φ pc L stk M (Option.bind o' f) := G_callS hM hc hr hl hn hst hcat hd K
theorem G_callS_V {o' : Option (Mem)} {f : Mem → Option β} (hM : MC mj (φV) as M o') (hc : CalS mj n) (hr : RoomOk mi mj) (hl : Cond.methodLink (my mi).cls index (my mj) ∈ TB) (hn : (as ad).length = n) (hst : stk = (as ad).reverse ++ st) (hcat : (st.map fun v => v.category).sum ≤ 8) (hd : decode (mcc mi) pc = .ok (.invokestatic index, 3)) (K : ∀ M' : Mem, G X ad mi φ (pc + 3) L st M' (f M')) : G X ad mi φ pc L stk M (Option.bind o' f) := G_callS hM hc hr hl hn hst hcat hd K
theorem G_callS_IM {o' : Option (Int32 × Mem)} {f : Int32 → Mem → Option β} (hM : MC mj (φIM) as M o') (hc : CalS mj n) (hr : RoomOk mi mj) (hl : Cond.methodLink (my mi).cls index (my mj) ∈ TB) (hn : (as ad).length = n) (hst : stk = (as ad).reverse ++ st) (hcat : (st.map fun v => v.category).sum ≤ 8) (hd : decode (mcc mi) pc = .ok (.invokestatic index, 3)) (K : ∀ (r : Int32) (M' : Mem), G X ad mi φ (pc + 3) L (.int r :: st) M' (f r M')) : G X ad mi φ pc L stk M (bnd2 o' f) := G_callS hM hc hr hl hn hst hcat hd (fun r => K r.1 r.2)
theorem G_callSN_I {o' : Option (Int32)} {f : Int32 → Option β} (hM : MC mj (φI M) as M o') (hc : CalS mj n) (hr : RoomOk mi mj) (hl : Cond.methodLinkNest (my mi).cls index (my mj) host ∈ NW) (hn : (as ad).length = n) (hst : stk = (as ad).reverse ++ st) (hcat : (st.map fun v => v.category).sum ≤ 8) (hd : decode (mcc mi) pc = .ok (.invokestatic index, 3)) (K : ∀ r : Int32, G X ad mi φ (pc + 3) L (.int r :: st) M (f r)) : G X ad mi φ pc L stk M (Option.bind o' f) := G_callSN hM hc hr hl hn hst hcat hd K
theorem G_callSN_L {o' : Option (Int64)} {f : Int64 → Option β} (hM : MC mj (φL M) as M o') (hc : CalS mj n) (hr : RoomOk mi mj) (hl : Cond.methodLinkNest (my mi).cls index (my mj) host ∈ NW) (hn : (as ad).length = n) (hst : stk = (as ad).reverse ++ st) (hcat : (st.map fun v => v.category).sum ≤ 8) (hd : decode (mcc mi) pc = .ok (.invokestatic index, 3)) (K : ∀ r : Int64, G X ad mi φ (pc + 3) L (.long r :: st) M (f r)) : G X ad mi φ pc L stk M (Option.bind o' f) := G_callSN hM hc hr hl hn hst hcat hd K
theorem G_callSN_V {o' : Option (Mem)} {f : Mem → Option β} (hM : MC mj (φV) as M o') (hc : CalS mj n) (hr : RoomOk mi mj) (hl : Cond.methodLinkNest (my mi).cls index (my mj) host ∈ NW) (hn : (as ad).length = n) (hst : stk = (as ad).reverse ++ st) (hcat : (st.map fun v => v.category).sum ≤ 8) (hd : decode (mcc mi) pc = .ok (.invokestatic index, 3)) (K : ∀ M' : Mem, G X ad mi φ (pc + 3) L st M' (f M')) : G X ad mi φ pc L stk M (Option.bind o' f) := G_callSN hM hc hr hl hn hst hcat hd K
theorem G_callSN_IM {o' : Option (Int32 × Mem)} {f : Int32 → Mem → Option β} (hM : MC mj (φIM) as M o') (hc : CalS mj n) (hr : RoomOk mi mj) (hl : Cond.methodLinkNest (my mi).cls index (my mj) host ∈ NW) (hn : (as ad).length = n) (hst : stk = (as ad).reverse ++ st) (hcat : (st.map fun v => v.category).sum ≤ 8) (hd : decode (mcc mi) pc = .ok (.invokestatic index, 3)) (K : ∀ (r : Int32) (M' : Mem), G X ad mi φ (pc + 3) L (.int r :: st) M' (f r M')) : G X ad mi φ pc L stk M (bnd2 o' f) := G_callSN hM hc hr hl hn hst hcat hd (fun r => K r.1 r.2)
theorem ms_max : Cond.static Lib.Math.max.name ∈ TB := TB_in (List.mem_of_getElem? (i := 512) (by decide +kernel)) rfl
theorem mc_max : Cond.code Lib.Math.max.name Lib.Math.max.code 2 (some .int) ∈ TB := TB_in (List.mem_of_getElem? (i := 513) (by decide +kernel)) rfl
theorem G_mmax {o : Option β} {x y : Int32} (hl : Cond.methodLink (my mi).cls index Lib.Math.max.name ∈ TB) (hf : 1 ≤ mfr mi) (hlo : (st.map fun v => v.category).sum + 13 ≤ mlo mi) (hd : decode (mcc mi) pc = .ok (.invokestatic index, 3)) (K : G X ad mi φ (pc + 3) L (.int (jmax x y) :: st) M o) : G X ad mi φ pc L (.int y :: .int x :: st) M o :=
  fun ok r hr H locs ls h1 h2 h3 => va_mmax ok.hx ok.hb (ok.hml.trans h1.1.symm) ok.hown (ok.hts _ hl) (ok.hts _ ms_max) (ok.hts _ wd_124) (ok.hts _ mc_max) (by rw [ok.hR.1]; exact hf) (by rw [ok.hR.2.1]; exact hlo) ok.hR.2.2.1 ok.hR.2.2.2 hd (K ok r hr H locs ls h1 h2 h3)
theorem ms_min : Cond.static Lib.Math.min.name ∈ TB := TB_in (List.mem_of_getElem? (i := 773) (by decide +kernel)) rfl
theorem mc_min : Cond.code Lib.Math.min.name Lib.Math.min.code 2 (some .int) ∈ TB := TB_in (List.mem_of_getElem? (i := 774) (by decide +kernel)) rfl
theorem G_mmin {o : Option β} {x y : Int32} (hl : Cond.methodLink (my mi).cls index Lib.Math.min.name ∈ TB) (hf : 1 ≤ mfr mi) (hlo : (st.map fun v => v.category).sum + 13 ≤ mlo mi) (hd : decode (mcc mi) pc = .ok (.invokestatic index, 3)) (K : G X ad mi φ (pc + 3) L (.int (jmin x y) :: st) M o) : G X ad mi φ pc L (.int y :: .int x :: st) M o :=
  fun ok r hr H locs ls h1 h2 h3 => va_mmin ok.hx ok.hb (ok.hml.trans h1.1.symm) ok.hown (ok.hts _ hl) (ok.hts _ ms_min) (ok.hts _ wd_124) (ok.hts _ mc_min) (by rw [ok.hR.1]; exact hf) (by rw [ok.hR.2.1]; exact hlo) ok.hR.2.2.1 ok.hR.2.2.2 hd (K ok r hr H locs ls h1 h2 h3)
end CALLS
abbrev mi_SP_at : Mi := (true, yX9_at, cX9_at, 2, (some .int), 0, 0)
abbrev mi_SP_put : Mi := (true, yX9_put, cX9_put, 3, none, 0, 0)
abbrev mi_SP_refuse : Mi := (true, yX9_refuse, cX9_refuse, 2, (some .int), 1, 22)
abbrev mi_Td_drain : Mi := (true, yX6_drain, cX6_drain, 1, none, 0, 0)
abbrev mi_SP_wipe : Mi := (true, yX9_wipe, cX9_wipe, 2, none, 0, 0)
abbrev mi_To_settle : Mi := (true, yX7_settle, cX7_settle, 2, none, 1, 21)
abbrev mi_SP_persons : Mi := (true, yX9_persons, cX9_persons, 3, (some .int), 2, 43)
abbrev mi_To_lives : Mi := (true, yX7_lives, cX7_lives, 2, (some .boolean), 0, 0)
abbrev mi_SP_mark : Mi := (true, yX9_mark, cX9_mark, 4, (some .int), 2, 43)
abbrev mi_SP_year : Mi := (true, yX9_year, cX9_year, 3, (some .int), 2, 43)
abbrev mi_Ta_append : Mi := (true, yX5_append, cX5_append, 2, none, 1, 22)
abbrev mi_SP_feed : Mi := (true, yX9_feed, cX9_feed, 5, (some .int), 2, 43)
abbrev mi_Td_field : Mi := (true, yX6_field, cX6_field, 3, (some .int), 1, 21)
abbrev mi_Ta_drafted : Mi := (true, yX5_drafted, cX5_drafted, 2, (some .int), 2, 43)
abbrev mi_Ta_here : Mi := (true, yX5_here, cX5_here, 1, (some .int), 1, 21)
abbrev mi_Td_draft : Mi := (true, yX6_draft, cX6_draft, 3, none, 1, 22)
abbrev mi_Ta_readInto : Mi := (true, yX5_readInto, cX5_readInto, 6, (some .boolean), 2, 44)
abbrev mi_Ta_readPerson : Mi := (true, yX5_readPerson, cX5_readPerson, 2, (some .boolean), 3, 69)
abbrev mi_Ta_skip : Mi := (true, yX5_skip, cX5_skip, 2, (some .boolean), 2, 41)
abbrev mi_Ta_readStrength : Mi := (true, yX5_readStrength, cX5_readStrength, 1, (some .boolean), 3, 69)
abbrev mi_Ta_readYear : Mi := (true, yX5_readYear, cX5_readYear, 5, (some .boolean), 2, 44)
abbrev mi_Ta_readYears : Mi := (true, yX5_readYears, cX5_readYears, 1, (some .boolean), 3, 68)
abbrev mi_Ta_readTie : Mi := (true, yX5_readTie, cX5_readTie, 1, (some .boolean), 4, 90)
abbrev mi_Td_endDraft : Mi := (true, yX6_endDraft, cX6_endDraft, 1, none, 0, 0)
abbrev mi_Ta_readAll : Mi := (true, yX5_readAll, cX5_readAll, 4, (some .boolean), 5, 110)
abbrev mi_Td_takeAll : Mi := (true, yX6_takeAll, cX6_takeAll, 4, none, 2, 44)
abbrev mi_SP_ties : Mi := (true, yX9_ties, cX9_ties, 2, (some .int), 6, 133)
abbrev mi_Td_drop : Mi := (true, yX6_drop, cX6_drop, 3, none, 1, 22)
abbrev mi_SP_untie : Mi := (true, yX9_untie, cX9_untie, 2, (some .int), 2, 44)
abbrev mi_SP_isKind : Mi := (true, yX9_isKind, cX9_isKind, 1, (some .boolean), 0, 0)
abbrev mi_SP_cell : Mi := (true, yX9_cell, cX9_cell, 3, (some .int), 0, 0)
abbrev mi_Td_draw : Mi := (true, yX6_draw, cX6_draw, 5, none, 2, 43)
abbrev mi_SP_lookAt : Mi := (true, yX9_lookAt, cX9_lookAt, 2, none, 3, 67)
abbrev mi_To_strength : Mi := (true, yX7_strength, cX7_strength, 5, (some .int), 0, 0)
abbrev mi_SP_tie : Mi := (true, yX9_tie, cX9_tie, 4, (some .int), 4, 88)
abbrev mi_To_tied : Mi := (true, yX7_tied, cX7_tied, 4, (some .boolean), 1, 24)
abbrev mi_To_tiesOf : Mi := (true, yX7_tiesOf, cX7_tiesOf, 6, (some .int), 2, 47)
abbrev mi_SP_degree : Mi := (true, yX9_degree, cX9_degree, 4, (some .int), 4, 88)
abbrev mi_Pa_of : Mi := (true, yX3_of, cX3_of, 2, (some .int), 1, 21)
abbrev mi_Pa_readNumber : Mi := (true, yX3_readNumber, cX3_readNumber, 5, (some .boolean), 2, 42)
abbrev mi_SP_parting : Mi := (true, yX9_parting, cX9_parting, 2, (some .int), 3, 66)
abbrev mi_SP_isSameness : Mi := (true, yX9_isSameness, cX9_isSameness, 1, (some .boolean), 0, 0)
abbrev mi_Pa_together : Mi := (true, yX3_together, cX3_together, 3, (some .boolean), 2, 42)
abbrev mi_Sa_sameView : Mi := (true, yX4_sameView, cX4_sameView, 4, (some .boolean), 1, 21)
abbrev mi_Sa_match : Mi := (true, yX4_match, cX4_match, 3, (some .boolean), 0, 0)
abbrev mi_Sa_swappable : Mi := (true, yX4_swappable, cX4_swappable, 7, (some .boolean), 1, 24)
abbrev mi_To_sameMark : Mi := (true, yX7_sameMark, cX7_sameMark, 3, (some .boolean), 1, 21)
abbrev mi_Sa_alike : Mi := (true, yX4_alike, cX4_alike, 5, (some .boolean), 2, 50)
abbrev mi_Sa_note : Mi := (true, yX4_note, cX4_note, 5, none, 1, 22)
abbrev mi_Sa_look : Mi := (true, yX4_look, cX4_look, 7, none, 2, 47)
abbrev mi_Sa_firstUnlike : Mi := (true, yX4_firstUnlike, cX4_firstUnlike, 6, (some .int), 3, 74)
abbrev mi_SP_judge : Mi := (true, yX9_judge, cX9_judge, 3, (some .int), 4, 99)
abbrev mi_Pa_number : Mi := (true, yX3_number, cX3_number, 3, (some .int), 2, 42)
abbrev mi_Pa_copy : Mi := (true, yX3_copy, cX3_copy, 3, none, 2, 42)
abbrev mi_Pa_begin : Mi := (true, yX3_begin, cX3_begin, 2, none, 0, 0)
abbrev mi_Pa_place : Mi := (true, yX3_place, cX3_place, 3, none, 2, 42)
abbrev mi_Sa_split : Mi := (true, yX4_split, cX4_split, 8, none, 3, 74)
abbrev mi_Sa_refine : Mi := (true, yX4_refine, cX4_refine, 6, none, 4, 101)
abbrev mi_SP_coarsest : Mi := (true, yX9_coarsest, cX9_coarsest, 3, (some .int), 5, 126)
abbrev mi_Tu_begin : Mi := (true, yX8_begin, cX8_begin, 1, none, 1, 22)
abbrev mi_SP_holds : Mi := (true, yX9_holds, cX9_holds, 2, (some .boolean), 0, 0)
abbrev mi_Tu_keeps : Mi := (true, yX8_keeps, cX8_keeps, 6, (some .boolean), 1, 24)
abbrev mi_Tu_keepsAhead : Mi := (true, yX8_keepsAhead, cX8_keepsAhead, 4, (some .boolean), 2, 49)
abbrev mi_Tu_lift : Mi := (true, yX8_lift, cX8_lift, 2, (some .int), 1, 21)
abbrev mi_Tu_nextKeeping : Mi := (true, yX8_nextKeeping, cX8_nextKeeping, 7, (some .int), 3, 72)
abbrev mi_Tu_step : Mi := (true, yX8_step, cX8_step, 2, none, 1, 22)
abbrev mi_Tu_brings : Mi := (true, yX8_brings, cX8_brings, 6, (some .boolean), 4, 98)
abbrev mi_Tu_howMany : Mi := (true, yX8_howMany, cX8_howMany, 6, (some .int), 5, 123)
abbrev mi_SP_renamings : Mi := (true, yX9_renamings, cX9_renamings, 1, (some .int), 6, 148)
abbrev mi_SP_moves : Mi := (true, yX9_moves, cX9_moves, 3, (some .int), 5, 123)
abbrev mi_Tu_partByOrbit : Mi := (true, yX8_partByOrbit, cX8_partByOrbit, 6, none, 5, 123)
abbrev mi_SP_orbits : Mi := (true, yX9_orbits, cX9_orbits, 1, (some .int), 6, 148)
abbrev mi_Tu_behind : Mi := (true, yX8_behind, cX8_behind, 3, (some .long), 0, 0)
abbrev mi_Tu_bestAsNumber : Mi := (true, yX8_bestAsNumber, cX8_bestAsNumber, 7, (some .int), 1, 24)
abbrev mi_Tu_findTwins : Mi := (true, yX8_findTwins, cX8_findTwins, 5, none, 2, 50)
abbrev mi_To_tiesOfKind : Mi := (true, yX7_tiesOfKind, cX7_tiesOfKind, 4, (some .int), 3, 72)
abbrev mi_Tu_firstKind : Mi := (true, yX8_firstKind, cX8_firstKind, 2, (some .int), 4, 95)
abbrev mi_Tu_keepBest : Mi := (true, yX8_keepBest, cX8_keepBest, 3, none, 1, 22)
abbrev mi_Tu_lessThanBest : Mi := (true, yX8_lessThanBest, cX8_lessThanBest, 8, (some .boolean), 1, 24)
abbrev mi_Tu_behindBest : Mi := (true, yX8_behindBest, cX8_behindBest, 7, (some .boolean), 1, 24)
abbrev mi_Tu_hasLeastMark : Mi := (true, yX8_hasLeastMark, cX8_hasLeastMark, 4, (some .boolean), 1, 21)
abbrev mi_Tu_nextInRow : Mi := (true, yX8_nextInRow, cX8_nextInRow, 6, (some .int), 2, 50)
abbrev mi_Tu_leastRow : Mi := (true, yX8_leastRow, cX8_leastRow, 5, (some .int), 5, 116)
abbrev mi_SP_form : Mi := (true, yX9_form, cX9_form, 1, (some .int), 6, 140)
abbrev mi_Pa_allInOne : Mi := (true, yX3_allInOne, cX3_allInOne, 2, none, 1, 21)
abbrev mi_SP_addTo : Mi := (true, yX9_addTo, cX9_addTo, 3, none, 1, 22)
abbrev mi_Pa_topAhead : Mi := (true, yX3_topAhead, cX3_topAhead, 4, (some .int), 2, 42)
abbrev mi_Pa_forward : Mi := (true, yX3_forward, cX3_forward, 3, (some .boolean), 3, 65)
abbrev mi_SP_next : Mi := (true, yX9_next, cX9_next, 6, (some .int), 4, 99)
abbrev mi_SP_all : Mi := (true, yX9_all, cX9_all, 5, (some .int), 4, 99)
abbrev mi_Pa_cross : Mi := (true, yX3_cross, cX3_cross, 6, none, 3, 64)
abbrev mi_Pa_copyRenumbered : Mi := (true, yX3_copyRenumbered, cX3_copyRenumbered, 2, none, 4, 89)
abbrev mi_Pa_rename : Mi := (true, yX3_rename, cX3_rename, 4, none, 2, 42)
abbrev mi_Pa_mergeBy : Mi := (true, yX3_mergeBy, cX3_mergeBy, 4, none, 3, 65)
abbrev mi_SP_join : Mi := (true, yX9_join, cX9_join, 3, (some .int), 5, 110)
abbrev mi_SP_meet : Mi := (true, yX9_meet, cX9_meet, 3, (some .int), 4, 89)
abbrev mi_Bl_tiesTo : Mi := (true, yX0_tiesTo, cX0_tiesTo, 8, (some .int), 2, 47)
abbrev mi_Pa_sizeOf : Mi := (true, yX3_sizeOf, cX3_sizeOf, 4, (some .int), 2, 42)
abbrev mi_Bl_image : Mi := (true, yX0_image, cX0_image, 11, (some .int), 3, 74)
abbrev mi_Pa_has : Mi := (true, yX3_has, cX3_has, 2, (some .boolean), 0, 0)
abbrev mi_SP_picture : Mi := (true, yX9_picture, cX9_picture, 5, (some .int), 4, 104)
abbrev mi_Bl_misfit : Mi := (true, yX0_misfit, cX0_misfit, 7, (some .int), 1, 22)
abbrev mi_Bl_tallyTies : Mi := (true, yX0_tallyTies, cX0_tallyTies, 6, none, 2, 47)
abbrev mi_Bl_misfits : Mi := (true, yX0_misfits, cX0_misfits, 7, (some .int), 3, 72)
abbrev mi_SP_wrong : Mi := (true, yX9_wrong, cX9_wrong, 2, (some .int), 4, 98)
abbrev mi_Bl_bestWith : Mi := (true, yX0_bestWith, cX0_bestWith, 11, (some .int), 4, 98)
abbrev mi_SP_least : Mi := (true, yX9_least, cX9_least, 3, (some .int), 5, 128)
abbrev mi_Bl_gainOf : Mi := (true, yX0_gainOf, cX0_gainOf, 8, (some .int), 2, 48)
abbrev mi_Bl_worstTie : Mi := (true, yX0_worstTie, cX0_worstTie, 10, (some .int), 3, 75)
abbrev mi_SP_spoils : Mi := (true, yX9_spoils, cX9_spoils, 3, (some .int), 4, 104)
abbrev mi_Nc_append : Mi := (true, yX2_append, cX2_append, 4, none, 1, 22)
abbrev mi_SP_newcomer : Mi := (true, yX9_newcomer, cX9_newcomer, 4, (some .int), 2, 45)
abbrev mi_Nc_hasSuchTie : Mi := (true, yX2_hasSuchTie, cX2_hasSuchTie, 10, (some .boolean), 2, 47)
abbrev mi_Nc_suitingParts : Mi := (true, yX2_suitingParts, cX2_suitingParts, 7, (some .int), 3, 76)
abbrev mi_SP_fits : Mi := (true, yX9_fits, cX9_fits, 2, (some .int), 4, 102)
abbrev mi_SP_gone : Mi := (true, yX9_gone, cX9_gone, 2, (some .int), 0, 0)
abbrev mi_SP_partOfYear : Mi := (true, yX9_partOfYear, cX9_partOfYear, 4, none, 5, 126)
abbrev mi_Ma_bestFor : Mi := (true, yX1_bestFor, cX1_bestFor, 6, (some .int), 1, 21)
abbrev mi_Ma_keepers : Mi := (true, yX1_keepers, cX1_keepers, 6, (some .int), 2, 46)
abbrev mi_SP_shift : Mi := (true, yX9_shift, cX9_shift, 4, (some .int), 6, 149)
abbrev mi_Td_nextChange : Mi := (true, yX6_nextChange, cX6_nextChange, 4, (some .int), 2, 43)
abbrev mi_SP_stays : Mi := (true, yX9_stays, cX9_stays, 6, (some .int), 6, 149)
abbrev mi_To_tiesInAll : Mi := (true, yX7_tiesInAll, cX7_tiesInAll, 3, (some .int), 4, 95)
abbrev mi_SP_count : Mi := (true, yX9_count, cX9_count, 2, (some .int), 5, 117)
abbrev mi_MD_no : Mi := (true, yX10_no, cX10_no, 2, (some .int), 0, 0)
abbrev mi_MD_less : Mi := (true, yX10_less, cX10_less, 2, (some .int), 0, 0)
abbrev mi_MD_isIn : Mi := (true, yX10_isIn, cX10_isIn, 6, (some .boolean), 0, 0)
abbrev mi_MD_out : Mi := (true, yX10_out, cX10_out, 6, (some .int), 0, 0)
abbrev mi_MD_isPerson : Mi := (true, yX10_isPerson, cX10_isPerson, 2, (some .boolean), 0, 0)
abbrev mi_MD_isKind : Mi := (true, yX10_isKind, cX10_isKind, 1, (some .boolean), 0, 0)
abbrev mi_MD_isSameness : Mi := (true, yX10_isSameness, cX10_isSameness, 1, (some .boolean), 0, 0)
abbrev mi_MD_persons : Mi := (true, yX10_persons, cX10_persons, 5, (some .int), 1, 25)
abbrev mi_MD_mark : Mi := (true, yX10_mark, cX10_mark, 5, (some .int), 1, 25)
abbrev mi_MD_year : Mi := (true, yX10_year, cX10_year, 4, (some .int), 1, 25)
abbrev mi_MD_feed : Mi := (true, yX10_feed, cX10_feed, 6, (some .int), 1, 25)
abbrev mi_MD_sign : Mi := (true, yX10_sign, cX10_sign, 1, (some .int), 0, 0)
abbrev mi_MD_takes : Mi := (true, yX10_takes, cX10_takes, 2, (some .boolean), 1, 20)
abbrev mi_MD_takesIn : Mi := (true, yX10_takesIn, cX10_takesIn, 5, (some .int), 1, 25)
abbrev mi_MD_years : Mi := (true, yX10_years, cX10_years, 5, (some .int), 2, 49)
abbrev mi_MD_oneTie : Mi := (true, yX10_oneTie, cX10_oneTie, 4, (some .boolean), 3, 73)
abbrev mi_MD_reads : Mi := (true, yX10_reads, cX10_reads, 1, (some .boolean), 4, 96)
abbrev mi_MD_ties : Mi := (true, yX10_ties, cX10_ties, 3, (some .int), 5, 116)
abbrev mi_MD_untie : Mi := (true, yX10_untie, cX10_untie, 3, (some .int), 1, 25)
abbrev mi_MD_findTies : Mi := (true, yX10_findTies, cX10_findTies, 3, none, 0, 0)
abbrev mi_MD_strong : Mi := (true, yX10_strong, cX10_strong, 4, (some .int), 0, 0)
abbrev mi_MD_has : Mi := (true, yX10_has, cX10_has, 4, (some .boolean), 1, 23)
abbrev mi_MD_tie : Mi := (true, yX10_tie, cX10_tie, 4, (some .int), 1, 23)
abbrev mi_MD_degree : Mi := (true, yX10_degree, cX10_degree, 6, (some .int), 2, 46)
abbrev mi_MD_opens : Mi := (true, yX10_opens, cX10_opens, 6, (some .int), 0, 0)
abbrev mi_MD_number : Mi := (true, yX10_number, cX10_number, 7, (some .int), 0, 0)
abbrev mi_MD_parting : Mi := (true, yX10_parting, cX10_parting, 3, (some .int), 1, 25)
abbrev mi_MD_led : Mi := (true, yX10_led, cX10_led, 7, (some .int), 2, 46)
abbrev mi_MD_seen : Mi := (true, yX10_seen, cX10_seen, 2, (some .int), 0, 0)
abbrev mi_MD_areLed : Mi := (true, yX10_areLed, cX10_areLed, 6, (some .boolean), 3, 72)
abbrev mi_MD_areTied : Mi := (true, yX10_areTied, cX10_areTied, 6, (some .boolean), 1, 23)
abbrev mi_MD_areSo : Mi := (true, yX10_areSo, cX10_areSo, 4, (some .boolean), 4, 97)
abbrev mi_MD_judged : Mi := (true, yX10_judged, cX10_judged, 4, (some .int), 5, 120)
abbrev mi_MD_judge : Mi := (true, yX10_judge, cX10_judge, 3, (some .int), 6, 143)
abbrev mi_MD_splits : Mi := (true, yX10_splits, cX10_splits, 5, (some .int), 5, 120)
abbrev mi_MD_coarsest : Mi := (true, yX10_coarsest, cX10_coarsest, 3, (some .int), 6, 144)
abbrev mi_MD_firstNames : Mi := (true, yX10_firstNames, cX10_firstNames, 2, none, 0, 0)
abbrev mi_MD_nextNames : Mi := (true, yX10_nextNames, cX10_nextNames, 7, (some .boolean), 0, 0)
abbrev mi_MD_isTurn : Mi := (true, yX10_isTurn, cX10_isTurn, 4, (some .boolean), 1, 23)
abbrev mi_MD_findTurns : Mi := (true, yX10_findTurns, cX10_findTurns, 4, (some .int), 2, 46)
abbrev mi_MD_renamings : Mi := (true, yX10_renamings, cX10_renamings, 1, (some .int), 3, 69)
abbrev mi_MD_moves : Mi := (true, yX10_moves, cX10_moves, 3, (some .int), 3, 69)
abbrev mi_MD_orbits : Mi := (true, yX10_orbits, cX10_orbits, 3, (some .int), 3, 69)
abbrev mi_MD_form : Mi := (true, yX10_form, cX10_form, 8, (some .int), 1, 26)
abbrev mi_MD_firstParting : Mi := (true, yX10_firstParting, cX10_firstParting, 2, none, 0, 0)
abbrev mi_MD_nextParting : Mi := (true, yX10_nextParting, cX10_nextParting, 4, (some .boolean), 0, 0)
abbrev mi_MD_parts : Mi := (true, yX10_parts, cX10_parts, 3, (some .int), 0, 0)
abbrev mi_MD_next : Mi := (true, yX10_next, cX10_next, 5, (some .int), 6, 143)
abbrev mi_MD_all : Mi := (true, yX10_all, cX10_all, 4, (some .int), 6, 143)
abbrev mi_MD_join : Mi := (true, yX10_join, cX10_join, 6, (some .int), 1, 26)
abbrev mi_MD_meet : Mi := (true, yX10_meet, cX10_meet, 4, (some .int), 1, 26)
abbrev mi_MD_picture : Mi := (true, yX10_picture, cX10_picture, 13, (some .int), 2, 46)
abbrev mi_MD_wrongOf : Mi := (true, yX10_wrongOf, cX10_wrongOf, 9, (some .int), 2, 46)
abbrev mi_MD_wrong : Mi := (true, yX10_wrong, cX10_wrong, 2, (some .int), 3, 74)
abbrev mi_MD_least : Mi := (true, yX10_least, cX10_least, 9, (some .int), 3, 74)
abbrev mi_MD_spoils : Mi := (true, yX10_spoils, cX10_spoils, 12, (some .int), 3, 74)
abbrev mi_MD_newcomer : Mi := (true, yX10_newcomer, cX10_newcomer, 4, (some .int), 1, 21)
abbrev mi_MD_isFit : Mi := (true, yX10_isFit, cX10_isFit, 5, (some .boolean), 2, 46)
abbrev mi_MD_fits : Mi := (true, yX10_fits, cX10_fits, 7, (some .int), 3, 70)
abbrev mi_MD_gone : Mi := (true, yX10_gone, cX10_gone, 2, (some .int), 0, 0)
abbrev mi_MD_coarsestOn : Mi := (true, yX10_coarsestOn, cX10_coarsestOn, 3, (some .int), 6, 144)
abbrev mi_MD_shift : Mi := (true, yX10_shift, cX10_shift, 11, (some .int), 7, 166)
abbrev mi_MD_stays : Mi := (true, yX10_stays, cX10_stays, 6, (some .int), 7, 166)
abbrev mi_MD_count : Mi := (true, yX10_count, cX10_count, 4, (some .int), 1, 25)
theorem cal_SP_at : CalS mi_SP_at 2 := ⟨⟨wd_357, wd_113, ⟨by decide +kernel, by decide +kernel⟩, by decide +kernel⟩, wd_356⟩
theorem cal_SP_put : CalS mi_SP_put 3 := ⟨⟨wd_360, wd_113, ⟨by decide +kernel, by decide +kernel⟩, by decide +kernel⟩, wd_359⟩
theorem cal_SP_refuse : CalV mi_SP_refuse 1 := ⟨⟨wd_354, wd_113, ⟨by decide +kernel, by decide +kernel⟩, by decide +kernel⟩, wd_353, wd_1⟩
theorem cal_Td_drain : CalV mi_Td_drain 0 := ⟨⟨wd_364, wd_115, ⟨by decide +kernel, by decide +kernel⟩, by decide +kernel⟩, wd_363, wd_2⟩
theorem cal_SP_wipe : CalS mi_SP_wipe 1 := ⟨⟨wd_306, wd_113, ⟨by decide +kernel, by decide +kernel⟩, by decide +kernel⟩, wd_305⟩
theorem cal_To_settle : CalV mi_To_settle 1 := ⟨⟨wd_303, wd_114, ⟨by decide +kernel, by decide +kernel⟩, by decide +kernel⟩, wd_302, wd_0⟩
theorem cal_SP_persons : CalV mi_SP_persons 1 := ⟨⟨wd_350, wd_113, ⟨by decide +kernel, by decide +kernel⟩, by decide +kernel⟩, wd_348, wd_349⟩
theorem cal_To_lives : CalV mi_To_lives 1 := ⟨⟨wd_372, wd_114, ⟨by decide +kernel, by decide +kernel⟩, by decide +kernel⟩, wd_371, wd_3⟩
theorem cal_SP_mark : CalV mi_SP_mark 2 := ⟨⟨wd_368, wd_113, ⟨by decide +kernel, by decide +kernel⟩, by decide +kernel⟩, wd_366, wd_367⟩
theorem cal_SP_year : CalV mi_SP_year 1 := ⟨⟨wd_376, wd_113, ⟨by decide +kernel, by decide +kernel⟩, by decide +kernel⟩, wd_374, wd_375⟩
theorem cal_Ta_append : CalV mi_Ta_append 1 := ⟨⟨wd_384, wd_116, ⟨by decide +kernel, by decide +kernel⟩, by decide +kernel⟩, wd_383, wd_4⟩
theorem cal_SP_feed : CalV mi_SP_feed 2 := ⟨⟨wd_380, wd_113, ⟨by decide +kernel, by decide +kernel⟩, by decide +kernel⟩, wd_378, wd_379⟩
theorem cal_Td_field : CalV mi_Td_field 2 := ⟨⟨wd_428, wd_115, ⟨by decide +kernel, by decide +kernel⟩, by decide +kernel⟩, wd_427, wd_13⟩
theorem cal_Ta_drafted : CalV mi_Ta_drafted 1 := ⟨⟨wd_424, wd_116, ⟨by decide +kernel, by decide +kernel⟩, by decide +kernel⟩, wd_423, wd_12⟩
theorem cal_Ta_here : CalV mi_Ta_here 0 := ⟨⟨wd_415, wd_116, ⟨by decide +kernel, by decide +kernel⟩, by decide +kernel⟩, wd_414, wd_10⟩
theorem cal_Td_draft : CalV mi_Td_draft 2 := ⟨⟨wd_402, wd_115, ⟨by decide +kernel, by decide +kernel⟩, by decide +kernel⟩, wd_401, wd_7⟩
theorem cal_Ta_readInto : CalV mi_Ta_readInto 4 := ⟨⟨wd_411, wd_116, ⟨by decide +kernel, by decide +kernel⟩, by decide +kernel⟩, wd_410, wd_9⟩
theorem cal_Ta_readPerson : CalV mi_Ta_readPerson 1 := ⟨⟨wd_407, wd_116, ⟨by decide +kernel, by decide +kernel⟩, by decide +kernel⟩, wd_406, wd_8⟩
theorem cal_Ta_skip : CalV mi_Ta_skip 1 := ⟨⟨wd_420, wd_116, ⟨by decide +kernel, by decide +kernel⟩, by decide +kernel⟩, wd_419, wd_11⟩
theorem cal_Ta_readStrength : CalV mi_Ta_readStrength 0 := ⟨⟨wd_433, wd_116, ⟨by decide +kernel, by decide +kernel⟩, by decide +kernel⟩, wd_432, wd_14⟩
theorem cal_Ta_readYear : CalV mi_Ta_readYear 2 := ⟨⟨wd_441, wd_116, ⟨by decide +kernel, by decide +kernel⟩, by decide +kernel⟩, wd_440, wd_16⟩
theorem cal_Ta_readYears : CalV mi_Ta_readYears 0 := ⟨⟨wd_437, wd_116, ⟨by decide +kernel, by decide +kernel⟩, by decide +kernel⟩, wd_436, wd_15⟩
theorem cal_Ta_readTie : CalV mi_Ta_readTie 0 := ⟨⟨wd_398, wd_116, ⟨by decide +kernel, by decide +kernel⟩, by decide +kernel⟩, wd_397, wd_6⟩
theorem cal_Td_endDraft : CalV mi_Td_endDraft 0 := ⟨⟨wd_445, wd_115, ⟨by decide +kernel, by decide +kernel⟩, by decide +kernel⟩, wd_444, wd_17⟩
theorem cal_Ta_readAll : CalV mi_Ta_readAll 1 := ⟨⟨wd_393, wd_116, ⟨by decide +kernel, by decide +kernel⟩, by decide +kernel⟩, wd_392, wd_5⟩
theorem cal_Td_takeAll : CalV mi_Td_takeAll 1 := ⟨⟨wd_449, wd_115, ⟨by decide +kernel, by decide +kernel⟩, by decide +kernel⟩, wd_448, wd_18⟩
theorem cal_SP_ties : CalV mi_SP_ties 0 := ⟨⟨wd_389, wd_113, ⟨by decide +kernel, by decide +kernel⟩, by decide +kernel⟩, wd_387, wd_388⟩
theorem cal_Td_drop : CalV mi_Td_drop 1 := ⟨⟨wd_460, wd_115, ⟨by decide +kernel, by decide +kernel⟩, by decide +kernel⟩, wd_459, wd_19⟩
theorem cal_SP_untie : CalV mi_SP_untie 1 := ⟨⟨wd_456, wd_113, ⟨by decide +kernel, by decide +kernel⟩, by decide +kernel⟩, wd_454, wd_455⟩
theorem cal_SP_isKind : CalS mi_SP_isKind 1 := ⟨⟨wd_467, wd_113, ⟨by decide +kernel, by decide +kernel⟩, by decide +kernel⟩, wd_466⟩
theorem cal_SP_cell : CalS mi_SP_cell 3 := ⟨⟨wd_479, wd_113, ⟨by decide +kernel, by decide +kernel⟩, by decide +kernel⟩, wd_478⟩
theorem cal_Td_draw : CalV mi_Td_draw 2 := ⟨⟨wd_475, wd_115, ⟨by decide +kernel, by decide +kernel⟩, by decide +kernel⟩, wd_474, wd_21⟩
theorem cal_SP_lookAt : CalV mi_SP_lookAt 1 := ⟨⟨wd_471, wd_113, ⟨by decide +kernel, by decide +kernel⟩, by decide +kernel⟩, wd_470, wd_20⟩
theorem cal_To_strength : CalV mi_To_strength 3 := ⟨⟨wd_483, wd_114, ⟨by decide +kernel, by decide +kernel⟩, by decide +kernel⟩, wd_482, wd_22⟩
theorem cal_SP_tie : CalV mi_SP_tie 3 := ⟨⟨wd_464, wd_113, ⟨by decide +kernel, by decide +kernel⟩, by decide +kernel⟩, wd_462, wd_463⟩
theorem cal_To_tied : CalV mi_To_tied 3 := ⟨⟨wd_495, wd_114, ⟨by decide +kernel, by decide +kernel⟩, by decide +kernel⟩, wd_494, wd_24⟩
theorem cal_To_tiesOf : CalV mi_To_tiesOf 3 := ⟨⟨wd_491, wd_114, ⟨by decide +kernel, by decide +kernel⟩, by decide +kernel⟩, wd_490, wd_23⟩
theorem cal_SP_degree : CalV mi_SP_degree 3 := ⟨⟨wd_487, wd_113, ⟨by decide +kernel, by decide +kernel⟩, by decide +kernel⟩, wd_485, wd_486⟩
theorem cal_Pa_of : CalV mi_Pa_of 1 := ⟨⟨wd_509, wd_122, ⟨by decide +kernel, by decide +kernel⟩, by decide +kernel⟩, wd_508, wd_26⟩
theorem cal_Pa_readNumber : CalV mi_Pa_readNumber 2 := ⟨⟨wd_504, wd_122, ⟨by decide +kernel, by decide +kernel⟩, by decide +kernel⟩, wd_503, wd_25⟩
theorem cal_SP_parting : CalV mi_SP_parting 1 := ⟨⟨wd_500, wd_113, ⟨by decide +kernel, by decide +kernel⟩, by decide +kernel⟩, wd_498, wd_499⟩
theorem cal_SP_isSameness : CalS mi_SP_isSameness 1 := ⟨⟨wd_520, wd_113, ⟨by decide +kernel, by decide +kernel⟩, by decide +kernel⟩, wd_519⟩
theorem cal_Pa_together : CalV mi_Pa_together 2 := ⟨⟨wd_541, wd_122, ⟨by decide +kernel, by decide +kernel⟩, by decide +kernel⟩, wd_540, wd_30⟩
theorem cal_Sa_sameView : CalV mi_Sa_sameView 2 := ⟨⟨wd_561, wd_118, ⟨by decide +kernel, by decide +kernel⟩, by decide +kernel⟩, wd_560, wd_33⟩
theorem cal_Sa_match : CalS mi_Sa_match 3 := ⟨⟨wd_557, wd_118, ⟨by decide +kernel, by decide +kernel⟩, by decide +kernel⟩, wd_556⟩
theorem cal_Sa_swappable : CalS mi_Sa_swappable 4 := ⟨⟨wd_553, wd_118, ⟨by decide +kernel, by decide +kernel⟩, by decide +kernel⟩, wd_552⟩
theorem cal_To_sameMark : CalV mi_To_sameMark 2 := ⟨⟨wd_549, wd_114, ⟨by decide +kernel, by decide +kernel⟩, by decide +kernel⟩, wd_548, wd_32⟩
theorem cal_Sa_alike : CalV mi_Sa_alike 4 := ⟨⟨wd_545, wd_118, ⟨by decide +kernel, by decide +kernel⟩, by decide +kernel⟩, wd_544, wd_31⟩
theorem cal_Sa_note : CalV mi_Sa_note 3 := ⟨⟨wd_535, wd_118, ⟨by decide +kernel, by decide +kernel⟩, by decide +kernel⟩, wd_534, wd_29⟩
theorem cal_Sa_look : CalV mi_Sa_look 3 := ⟨⟨wd_528, wd_118, ⟨by decide +kernel, by decide +kernel⟩, by decide +kernel⟩, wd_527, wd_28⟩
theorem cal_Sa_firstUnlike : CalV mi_Sa_firstUnlike 3 := ⟨⟨wd_524, wd_118, ⟨by decide +kernel, by decide +kernel⟩, by decide +kernel⟩, wd_523, wd_27⟩
theorem cal_SP_judge : CalV mi_SP_judge 2 := ⟨⟨wd_517, wd_113, ⟨by decide +kernel, by decide +kernel⟩, by decide +kernel⟩, wd_515, wd_516⟩
theorem cal_Pa_number : CalV mi_Pa_number 0 := ⟨⟨wd_589, wd_122, ⟨by decide +kernel, by decide +kernel⟩, by decide +kernel⟩, wd_588, wd_39⟩
theorem cal_Pa_copy : CalV mi_Pa_copy 1 := ⟨⟨wd_585, wd_122, ⟨by decide +kernel, by decide +kernel⟩, by decide +kernel⟩, wd_584, wd_38⟩
theorem cal_Pa_begin : CalV mi_Pa_begin 1 := ⟨⟨wd_577, wd_122, ⟨by decide +kernel, by decide +kernel⟩, by decide +kernel⟩, wd_576, wd_36⟩
theorem cal_Pa_place : CalV mi_Pa_place 2 := ⟨⟨wd_581, wd_122, ⟨by decide +kernel, by decide +kernel⟩, by decide +kernel⟩, wd_580, wd_37⟩
theorem cal_Sa_split : CalV mi_Sa_split 4 := ⟨⟨wd_573, wd_118, ⟨by decide +kernel, by decide +kernel⟩, by decide +kernel⟩, wd_572, wd_35⟩
theorem cal_Sa_refine : CalV mi_Sa_refine 4 := ⟨⟨wd_569, wd_118, ⟨by decide +kernel, by decide +kernel⟩, by decide +kernel⟩, wd_568, wd_34⟩
theorem cal_SP_coarsest : CalV mi_SP_coarsest 2 := ⟨⟨wd_565, wd_113, ⟨by decide +kernel, by decide +kernel⟩, by decide +kernel⟩, wd_563, wd_564⟩
theorem cal_Tu_begin : CalV mi_Tu_begin 0 := ⟨⟨wd_606, wd_119, ⟨by decide +kernel, by decide +kernel⟩, by decide +kernel⟩, wd_605, wd_42⟩
theorem cal_SP_holds : CalS mi_SP_holds 2 := ⟨⟨wd_620, wd_113, ⟨by decide +kernel, by decide +kernel⟩, by decide +kernel⟩, wd_619⟩
theorem cal_Tu_keeps : CalS mi_Tu_keeps 5 := ⟨⟨wd_627, wd_119, ⟨by decide +kernel, by decide +kernel⟩, by decide +kernel⟩, wd_626⟩
theorem cal_Tu_keepsAhead : CalV mi_Tu_keepsAhead 2 := ⟨⟨wd_624, wd_119, ⟨by decide +kernel, by decide +kernel⟩, by decide +kernel⟩, wd_623, wd_45⟩
theorem cal_Tu_lift : CalV mi_Tu_lift 0 := ⟨⟨wd_616, wd_119, ⟨by decide +kernel, by decide +kernel⟩, by decide +kernel⟩, wd_615, wd_44⟩
theorem cal_Tu_nextKeeping : CalV mi_Tu_nextKeeping 4 := ⟨⟨wd_612, wd_119, ⟨by decide +kernel, by decide +kernel⟩, by decide +kernel⟩, wd_611, wd_43⟩
theorem cal_Tu_step : CalV mi_Tu_step 1 := ⟨⟨wd_632, wd_119, ⟨by decide +kernel, by decide +kernel⟩, by decide +kernel⟩, wd_631, wd_46⟩
theorem cal_Tu_brings : CalV mi_Tu_brings 4 := ⟨⟨wd_601, wd_119, ⟨by decide +kernel, by decide +kernel⟩, by decide +kernel⟩, wd_600, wd_41⟩
theorem cal_Tu_howMany : CalV mi_Tu_howMany 1 := ⟨⟨wd_597, wd_119, ⟨by decide +kernel, by decide +kernel⟩, by decide +kernel⟩, wd_596, wd_40⟩
theorem cal_SP_renamings : CalV mi_SP_renamings 0 := ⟨⟨wd_593, wd_113, ⟨by decide +kernel, by decide +kernel⟩, by decide +kernel⟩, wd_591, wd_592⟩
theorem cal_SP_moves : CalV mi_SP_moves 2 := ⟨⟨wd_636, wd_113, ⟨by decide +kernel, by decide +kernel⟩, by decide +kernel⟩, wd_634, wd_635⟩
theorem cal_Tu_partByOrbit : CalV mi_Tu_partByOrbit 2 := ⟨⟨wd_645, wd_119, ⟨by decide +kernel, by decide +kernel⟩, by decide +kernel⟩, wd_644, wd_47⟩
theorem cal_SP_orbits : CalV mi_SP_orbits 0 := ⟨⟨wd_641, wd_113, ⟨by decide +kernel, by decide +kernel⟩, by decide +kernel⟩, wd_639, wd_640⟩
theorem cal_Tu_behind : CalS mi_Tu_behind 2 := ⟨⟨wd_695, wd_119, ⟨by decide +kernel, by decide +kernel⟩, by decide +kernel⟩, wd_694⟩
theorem cal_Tu_bestAsNumber : CalV mi_Tu_bestAsNumber 1 := ⟨⟨wd_692, wd_119, ⟨by decide +kernel, by decide +kernel⟩, by decide +kernel⟩, wd_691, wd_56⟩
theorem cal_Tu_findTwins : CalV mi_Tu_findTwins 1 := ⟨⟨wd_659, wd_119, ⟨by decide +kernel, by decide +kernel⟩, by decide +kernel⟩, wd_658, wd_49⟩
theorem cal_To_tiesOfKind : CalV mi_To_tiesOfKind 1 := ⟨⟨wd_667, wd_114, ⟨by decide +kernel, by decide +kernel⟩, by decide +kernel⟩, wd_666, wd_50⟩
theorem cal_Tu_firstKind : CalS mi_Tu_firstKind 1 := ⟨⟨wd_663, wd_119, ⟨by decide +kernel, by decide +kernel⟩, by decide +kernel⟩, wd_662⟩
theorem cal_Tu_keepBest : CalV mi_Tu_keepBest 1 := ⟨⟨wd_688, wd_119, ⟨by decide +kernel, by decide +kernel⟩, by decide +kernel⟩, wd_687, wd_55⟩
theorem cal_Tu_lessThanBest : CalV mi_Tu_lessThanBest 2 := ⟨⟨wd_684, wd_119, ⟨by decide +kernel, by decide +kernel⟩, by decide +kernel⟩, wd_683, wd_54⟩
theorem cal_Tu_behindBest : CalV mi_Tu_behindBest 3 := ⟨⟨wd_680, wd_119, ⟨by decide +kernel, by decide +kernel⟩, by decide +kernel⟩, wd_679, wd_53⟩
theorem cal_Tu_hasLeastMark : CalV mi_Tu_hasLeastMark 2 := ⟨⟨wd_676, wd_119, ⟨by decide +kernel, by decide +kernel⟩, by decide +kernel⟩, wd_675, wd_52⟩
theorem cal_Tu_nextInRow : CalV mi_Tu_nextInRow 3 := ⟨⟨wd_672, wd_119, ⟨by decide +kernel, by decide +kernel⟩, by decide +kernel⟩, wd_671, wd_51⟩
theorem cal_Tu_leastRow : CalV mi_Tu_leastRow 1 := ⟨⟨wd_655, wd_119, ⟨by decide +kernel, by decide +kernel⟩, by decide +kernel⟩, wd_654, wd_48⟩
theorem cal_SP_form : CalV mi_SP_form 0 := ⟨⟨wd_651, wd_113, ⟨by decide +kernel, by decide +kernel⟩, by decide +kernel⟩, wd_649, wd_650⟩
theorem cal_Pa_allInOne : CalV mi_Pa_allInOne 1 := ⟨⟨wd_705, wd_122, ⟨by decide +kernel, by decide +kernel⟩, by decide +kernel⟩, wd_704, wd_57⟩
theorem cal_SP_addTo : CalS mi_SP_addTo 3 := ⟨⟨wd_717, wd_113, ⟨by decide +kernel, by decide +kernel⟩, by decide +kernel⟩, wd_716⟩
theorem cal_Pa_topAhead : CalV mi_Pa_topAhead 1 := ⟨⟨wd_714, wd_122, ⟨by decide +kernel, by decide +kernel⟩, by decide +kernel⟩, wd_713, wd_59⟩
theorem cal_Pa_forward : CalV mi_Pa_forward 0 := ⟨⟨wd_710, wd_122, ⟨by decide +kernel, by decide +kernel⟩, by decide +kernel⟩, wd_709, wd_58⟩
theorem cal_SP_next : CalV mi_SP_next 2 := ⟨⟨wd_701, wd_113, ⟨by decide +kernel, by decide +kernel⟩, by decide +kernel⟩, wd_699, wd_700⟩
theorem cal_SP_all : CalV mi_SP_all 1 := ⟨⟨wd_721, wd_113, ⟨by decide +kernel, by decide +kernel⟩, by decide +kernel⟩, wd_719, wd_720⟩
theorem cal_Pa_cross : CalV mi_Pa_cross 2 := ⟨⟨wd_742, wd_122, ⟨by decide +kernel, by decide +kernel⟩, by decide +kernel⟩, wd_741, wd_63⟩
theorem cal_Pa_copyRenumbered : CalV mi_Pa_copyRenumbered 1 := ⟨⟨wd_738, wd_122, ⟨by decide +kernel, by decide +kernel⟩, by decide +kernel⟩, wd_737, wd_62⟩
theorem cal_Pa_rename : CalV mi_Pa_rename 2 := ⟨⟨wd_734, wd_122, ⟨by decide +kernel, by decide +kernel⟩, by decide +kernel⟩, wd_733, wd_61⟩
theorem cal_Pa_mergeBy : CalV mi_Pa_mergeBy 1 := ⟨⟨wd_729, wd_122, ⟨by decide +kernel, by decide +kernel⟩, by decide +kernel⟩, wd_728, wd_60⟩
theorem cal_SP_join : CalV mi_SP_join 2 := ⟨⟨wd_725, wd_113, ⟨by decide +kernel, by decide +kernel⟩, by decide +kernel⟩, wd_723, wd_724⟩
theorem cal_SP_meet : CalV mi_SP_meet 2 := ⟨⟨wd_748, wd_113, ⟨by decide +kernel, by decide +kernel⟩, by decide +kernel⟩, wd_746, wd_747⟩
theorem cal_Bl_tiesTo : CalV mi_Bl_tiesTo 5 := ⟨⟨wd_770, wd_120, ⟨by decide +kernel, by decide +kernel⟩, by decide +kernel⟩, wd_769, wd_67⟩
theorem cal_Pa_sizeOf : CalV mi_Pa_sizeOf 1 := ⟨⟨wd_765, wd_122, ⟨by decide +kernel, by decide +kernel⟩, by decide +kernel⟩, wd_764, wd_66⟩
theorem cal_Bl_image : CalV mi_Bl_image 5 := ⟨⟨wd_761, wd_120, ⟨by decide +kernel, by decide +kernel⟩, by decide +kernel⟩, wd_760, wd_65⟩
theorem cal_Pa_has : CalV mi_Pa_has 1 := ⟨⟨wd_757, wd_122, ⟨by decide +kernel, by decide +kernel⟩, by decide +kernel⟩, wd_756, wd_64⟩
theorem cal_SP_picture : CalV mi_SP_picture 4 := ⟨⟨wd_753, wd_113, ⟨by decide +kernel, by decide +kernel⟩, by decide +kernel⟩, wd_751, wd_752⟩
theorem cal_Bl_misfit : CalV mi_Bl_misfit 4 := ⟨⟨wd_794, wd_120, ⟨by decide +kernel, by decide +kernel⟩, by decide +kernel⟩, wd_793, wd_70⟩
theorem cal_Bl_tallyTies : CalV mi_Bl_tallyTies 2 := ⟨⟨wd_787, wd_120, ⟨by decide +kernel, by decide +kernel⟩, by decide +kernel⟩, wd_786, wd_69⟩
theorem cal_Bl_misfits : CalV mi_Bl_misfits 2 := ⟨⟨wd_783, wd_120, ⟨by decide +kernel, by decide +kernel⟩, by decide +kernel⟩, wd_782, wd_68⟩
theorem cal_SP_wrong : CalV mi_SP_wrong 1 := ⟨⟨wd_779, wd_113, ⟨by decide +kernel, by decide +kernel⟩, by decide +kernel⟩, wd_777, wd_778⟩
theorem cal_Bl_bestWith : CalV mi_Bl_bestWith 4 := ⟨⟨wd_803, wd_120, ⟨by decide +kernel, by decide +kernel⟩, by decide +kernel⟩, wd_802, wd_71⟩
theorem cal_SP_least : CalV mi_SP_least 2 := ⟨⟨wd_799, wd_113, ⟨by decide +kernel, by decide +kernel⟩, by decide +kernel⟩, wd_797, wd_798⟩
theorem cal_Bl_gainOf : CalV mi_Bl_gainOf 5 := ⟨⟨wd_820, wd_120, ⟨by decide +kernel, by decide +kernel⟩, by decide +kernel⟩, wd_819, wd_73⟩
theorem cal_Bl_worstTie : CalV mi_Bl_worstTie 3 := ⟨⟨wd_816, wd_120, ⟨by decide +kernel, by decide +kernel⟩, by decide +kernel⟩, wd_815, wd_72⟩
theorem cal_SP_spoils : CalV mi_SP_spoils 2 := ⟨⟨wd_811, wd_113, ⟨by decide +kernel, by decide +kernel⟩, by decide +kernel⟩, wd_809, wd_810⟩
theorem cal_Nc_append : CalV mi_Nc_append 3 := ⟨⟨wd_828, wd_117, ⟨by decide +kernel, by decide +kernel⟩, by decide +kernel⟩, wd_827, wd_74⟩
theorem cal_SP_newcomer : CalV mi_SP_newcomer 3 := ⟨⟨wd_824, wd_113, ⟨by decide +kernel, by decide +kernel⟩, by decide +kernel⟩, wd_822, wd_823⟩
theorem cal_Nc_hasSuchTie : CalV mi_Nc_hasSuchTie 4 := ⟨⟨wd_841, wd_117, ⟨by decide +kernel, by decide +kernel⟩, by decide +kernel⟩, wd_840, wd_76⟩
theorem cal_Nc_suitingParts : CalV mi_Nc_suitingParts 2 := ⟨⟨wd_837, wd_117, ⟨by decide +kernel, by decide +kernel⟩, by decide +kernel⟩, wd_836, wd_75⟩
theorem cal_SP_fits : CalV mi_SP_fits 1 := ⟨⟨wd_833, wd_113, ⟨by decide +kernel, by decide +kernel⟩, by decide +kernel⟩, wd_831, wd_832⟩
theorem cal_SP_gone : CalV mi_SP_gone 0 := ⟨⟨wd_848, wd_113, ⟨by decide +kernel, by decide +kernel⟩, by decide +kernel⟩, wd_846, wd_847⟩
theorem cal_SP_partOfYear : CalV mi_SP_partOfYear 3 := ⟨⟨wd_856, wd_113, ⟨by decide +kernel, by decide +kernel⟩, by decide +kernel⟩, wd_855, wd_77⟩
theorem cal_Ma_bestFor : CalV mi_Ma_bestFor 3 := ⟨⟨wd_867, wd_121, ⟨by decide +kernel, by decide +kernel⟩, by decide +kernel⟩, wd_866, wd_79⟩
theorem cal_Ma_keepers : CalV mi_Ma_keepers 2 := ⟨⟨wd_860, wd_121, ⟨by decide +kernel, by decide +kernel⟩, by decide +kernel⟩, wd_859, wd_78⟩
theorem cal_SP_shift : CalV mi_SP_shift 3 := ⟨⟨wd_852, wd_113, ⟨by decide +kernel, by decide +kernel⟩, by decide +kernel⟩, wd_850, wd_851⟩
theorem cal_Td_nextChange : CalV mi_Td_nextChange 1 := ⟨⟨wd_879, wd_115, ⟨by decide +kernel, by decide +kernel⟩, by decide +kernel⟩, wd_878, wd_80⟩
theorem cal_SP_stays : CalV mi_SP_stays 2 := ⟨⟨wd_875, wd_113, ⟨by decide +kernel, by decide +kernel⟩, by decide +kernel⟩, wd_873, wd_874⟩
theorem cal_To_tiesInAll : CalV mi_To_tiesInAll 0 := ⟨⟨wd_888, wd_114, ⟨by decide +kernel, by decide +kernel⟩, by decide +kernel⟩, wd_887, wd_81⟩
theorem cal_SP_count : CalV mi_SP_count 1 := ⟨⟨wd_884, wd_113, ⟨by decide +kernel, by decide +kernel⟩, by decide +kernel⟩, wd_882, wd_883⟩
theorem cal_MD_no : CalV mi_MD_no 1 := ⟨⟨wd_1011, wd_123, ⟨by decide +kernel, by decide +kernel⟩, by decide +kernel⟩, wd_1010, wd_82⟩
theorem cal_MD_less : CalV mi_MD_less 1 := ⟨⟨wd_1228, wd_123, ⟨by decide +kernel, by decide +kernel⟩, by decide +kernel⟩, wd_1227, wd_109⟩
theorem cal_MD_isIn : CalS mi_MD_isIn 3 := ⟨⟨wd_1054, wd_123, ⟨by decide +kernel, by decide +kernel⟩, by decide +kernel⟩, wd_1053⟩
theorem cal_MD_out : CalS mi_MD_out 3 := ⟨⟨wd_1007, wd_123, ⟨by decide +kernel, by decide +kernel⟩, by decide +kernel⟩, wd_1006⟩
theorem cal_MD_isPerson : CalV mi_MD_isPerson 1 := ⟨⟨wd_1019, wd_123, ⟨by decide +kernel, by decide +kernel⟩, by decide +kernel⟩, wd_1018, wd_83⟩
theorem cal_MD_isKind : CalS mi_MD_isKind 1 := ⟨⟨wd_1075, wd_123, ⟨by decide +kernel, by decide +kernel⟩, by decide +kernel⟩, wd_1074⟩
theorem cal_MD_isSameness : CalS mi_MD_isSameness 1 := ⟨⟨wd_1106, wd_123, ⟨by decide +kernel, by decide +kernel⟩, by decide +kernel⟩, wd_1105⟩
theorem cal_MD_persons : CalV mi_MD_persons 1 := ⟨⟨wd_1003, wd_123, ⟨by decide +kernel, by decide +kernel⟩, by decide +kernel⟩, wd_1001, wd_1002⟩
theorem cal_MD_mark : CalV mi_MD_mark 2 := ⟨⟨wd_1015, wd_123, ⟨by decide +kernel, by decide +kernel⟩, by decide +kernel⟩, wd_1013, wd_1014⟩
theorem cal_MD_year : CalV mi_MD_year 1 := ⟨⟨wd_1024, wd_123, ⟨by decide +kernel, by decide +kernel⟩, by decide +kernel⟩, wd_1022, wd_1023⟩
theorem cal_MD_feed : CalV mi_MD_feed 2 := ⟨⟨wd_1029, wd_123, ⟨by decide +kernel, by decide +kernel⟩, by decide +kernel⟩, wd_1027, wd_1028⟩
theorem cal_MD_sign : CalV mi_MD_sign 0 := ⟨⟨wd_1051, wd_123, ⟨by decide +kernel, by decide +kernel⟩, by decide +kernel⟩, wd_1050, wd_87⟩
theorem cal_MD_takes : CalV mi_MD_takes 1 := ⟨⟨wd_1058, wd_123, ⟨by decide +kernel, by decide +kernel⟩, by decide +kernel⟩, wd_1057, wd_88⟩
theorem cal_MD_takesIn : CalV mi_MD_takesIn 3 := ⟨⟨wd_1047, wd_123, ⟨by decide +kernel, by decide +kernel⟩, by decide +kernel⟩, wd_1046, wd_86⟩
theorem cal_MD_years : CalV mi_MD_years 1 := ⟨⟨wd_1062, wd_123, ⟨by decide +kernel, by decide +kernel⟩, by decide +kernel⟩, wd_1061, wd_89⟩
theorem cal_MD_oneTie : CalV mi_MD_oneTie 0 := ⟨⟨wd_1043, wd_123, ⟨by decide +kernel, by decide +kernel⟩, by decide +kernel⟩, wd_1042, wd_85⟩
theorem cal_MD_reads : CalV mi_MD_reads 0 := ⟨⟨wd_1039, wd_123, ⟨by decide +kernel, by decide +kernel⟩, by decide +kernel⟩, wd_1038, wd_84⟩
theorem cal_MD_ties : CalV mi_MD_ties 0 := ⟨⟨wd_1035, wd_123, ⟨by decide +kernel, by decide +kernel⟩, by decide +kernel⟩, wd_1033, wd_1034⟩
theorem cal_MD_untie : CalV mi_MD_untie 1 := ⟨⟨wd_1068, wd_123, ⟨by decide +kernel, by decide +kernel⟩, by decide +kernel⟩, wd_1066, wd_1067⟩
theorem cal_MD_findTies : CalV mi_MD_findTies 1 := ⟨⟨wd_1079, wd_123, ⟨by decide +kernel, by decide +kernel⟩, by decide +kernel⟩, wd_1078, wd_90⟩
theorem cal_MD_strong : CalV mi_MD_strong 3 := ⟨⟨wd_1083, wd_123, ⟨by decide +kernel, by decide +kernel⟩, by decide +kernel⟩, wd_1082, wd_91⟩
theorem cal_MD_has : CalV mi_MD_has 3 := ⟨⟨wd_1091, wd_123, ⟨by decide +kernel, by decide +kernel⟩, by decide +kernel⟩, wd_1090, wd_92⟩
theorem cal_MD_tie : CalV mi_MD_tie 3 := ⟨⟨wd_1072, wd_123, ⟨by decide +kernel, by decide +kernel⟩, by decide +kernel⟩, wd_1070, wd_1071⟩
theorem cal_MD_degree : CalV mi_MD_degree 3 := ⟨⟨wd_1087, wd_123, ⟨by decide +kernel, by decide +kernel⟩, by decide +kernel⟩, wd_1085, wd_1086⟩
theorem cal_MD_opens : CalV mi_MD_opens 2 := ⟨⟨wd_1099, wd_123, ⟨by decide +kernel, by decide +kernel⟩, by decide +kernel⟩, wd_1098, wd_93⟩
theorem cal_MD_number : CalV mi_MD_number 1 := ⟨⟨wd_1141, wd_123, ⟨by decide +kernel, by decide +kernel⟩, by decide +kernel⟩, wd_1140, wd_100⟩
theorem cal_MD_parting : CalV mi_MD_parting 1 := ⟨⟨wd_1095, wd_123, ⟨by decide +kernel, by decide +kernel⟩, by decide +kernel⟩, wd_1093, wd_1094⟩
theorem cal_MD_led : CalV mi_MD_led 4 := ⟨⟨wd_1129, wd_123, ⟨by decide +kernel, by decide +kernel⟩, by decide +kernel⟩, wd_1128, wd_98⟩
theorem cal_MD_seen : CalS mi_MD_seen 2 := ⟨⟨wd_1121, wd_123, ⟨by decide +kernel, by decide +kernel⟩, by decide +kernel⟩, wd_1120⟩
theorem cal_MD_areLed : CalV mi_MD_areLed 3 := ⟨⟨wd_1125, wd_123, ⟨by decide +kernel, by decide +kernel⟩, by decide +kernel⟩, wd_1124, wd_97⟩
theorem cal_MD_areTied : CalV mi_MD_areTied 3 := ⟨⟨wd_1118, wd_123, ⟨by decide +kernel, by decide +kernel⟩, by decide +kernel⟩, wd_1117, wd_96⟩
theorem cal_MD_areSo : CalV mi_MD_areSo 3 := ⟨⟨wd_1114, wd_123, ⟨by decide +kernel, by decide +kernel⟩, by decide +kernel⟩, wd_1113, wd_95⟩
theorem cal_MD_judged : CalV mi_MD_judged 1 := ⟨⟨wd_1110, wd_123, ⟨by decide +kernel, by decide +kernel⟩, by decide +kernel⟩, wd_1109, wd_94⟩
theorem cal_MD_judge : CalV mi_MD_judge 2 := ⟨⟨wd_1103, wd_123, ⟨by decide +kernel, by decide +kernel⟩, by decide +kernel⟩, wd_1101, wd_1102⟩
theorem cal_MD_splits : CalV mi_MD_splits 1 := ⟨⟨wd_1137, wd_123, ⟨by decide +kernel, by decide +kernel⟩, by decide +kernel⟩, wd_1136, wd_99⟩
theorem cal_MD_coarsest : CalV mi_MD_coarsest 2 := ⟨⟨wd_1133, wd_123, ⟨by decide +kernel, by decide +kernel⟩, by decide +kernel⟩, wd_1131, wd_1132⟩
theorem cal_MD_firstNames : CalV mi_MD_firstNames 0 := ⟨⟨wd_1153, wd_123, ⟨by decide +kernel, by decide +kernel⟩, by decide +kernel⟩, wd_1152, wd_102⟩
theorem cal_MD_nextNames : CalV mi_MD_nextNames 1 := ⟨⟨wd_1161, wd_123, ⟨by decide +kernel, by decide +kernel⟩, by decide +kernel⟩, wd_1160, wd_104⟩
theorem cal_MD_isTurn : CalV mi_MD_isTurn 0 := ⟨⟨wd_1157, wd_123, ⟨by decide +kernel, by decide +kernel⟩, by decide +kernel⟩, wd_1156, wd_103⟩
theorem cal_MD_findTurns : CalV mi_MD_findTurns 0 := ⟨⟨wd_1149, wd_123, ⟨by decide +kernel, by decide +kernel⟩, by decide +kernel⟩, wd_1148, wd_101⟩
theorem cal_MD_renamings : CalV mi_MD_renamings 0 := ⟨⟨wd_1145, wd_123, ⟨by decide +kernel, by decide +kernel⟩, by decide +kernel⟩, wd_1143, wd_1144⟩
theorem cal_MD_moves : CalV mi_MD_moves 2 := ⟨⟨wd_1165, wd_123, ⟨by decide +kernel, by decide +kernel⟩, by decide +kernel⟩, wd_1163, wd_1164⟩
theorem cal_MD_orbits : CalV mi_MD_orbits 0 := ⟨⟨wd_1169, wd_123, ⟨by decide +kernel, by decide +kernel⟩, by decide +kernel⟩, wd_1167, wd_1168⟩
theorem cal_MD_form : CalV mi_MD_form 0 := ⟨⟨wd_1173, wd_123, ⟨by decide +kernel, by decide +kernel⟩, by decide +kernel⟩, wd_1171, wd_1172⟩
theorem cal_MD_firstParting : CalV mi_MD_firstParting 0 := ⟨⟨wd_1183, wd_123, ⟨by decide +kernel, by decide +kernel⟩, by decide +kernel⟩, wd_1182, wd_105⟩
theorem cal_MD_nextParting : CalV mi_MD_nextParting 0 := ⟨⟨wd_1187, wd_123, ⟨by decide +kernel, by decide +kernel⟩, by decide +kernel⟩, wd_1186, wd_106⟩
theorem cal_MD_parts : CalV mi_MD_parts 0 := ⟨⟨wd_1220, wd_123, ⟨by decide +kernel, by decide +kernel⟩, by decide +kernel⟩, wd_1219, wd_108⟩
theorem cal_MD_next : CalV mi_MD_next 2 := ⟨⟨wd_1179, wd_123, ⟨by decide +kernel, by decide +kernel⟩, by decide +kernel⟩, wd_1177, wd_1178⟩
theorem cal_MD_all : CalV mi_MD_all 1 := ⟨⟨wd_1191, wd_123, ⟨by decide +kernel, by decide +kernel⟩, by decide +kernel⟩, wd_1189, wd_1190⟩
theorem cal_MD_join : CalV mi_MD_join 2 := ⟨⟨wd_1195, wd_123, ⟨by decide +kernel, by decide +kernel⟩, by decide +kernel⟩, wd_1193, wd_1194⟩
theorem cal_MD_meet : CalV mi_MD_meet 2 := ⟨⟨wd_1199, wd_123, ⟨by decide +kernel, by decide +kernel⟩, by decide +kernel⟩, wd_1197, wd_1198⟩
theorem cal_MD_picture : CalV mi_MD_picture 4 := ⟨⟨wd_1203, wd_123, ⟨by decide +kernel, by decide +kernel⟩, by decide +kernel⟩, wd_1201, wd_1202⟩
theorem cal_MD_wrongOf : CalV mi_MD_wrongOf 0 := ⟨⟨wd_1211, wd_123, ⟨by decide +kernel, by decide +kernel⟩, by decide +kernel⟩, wd_1210, wd_107⟩
theorem cal_MD_wrong : CalV mi_MD_wrong 1 := ⟨⟨wd_1207, wd_123, ⟨by decide +kernel, by decide +kernel⟩, by decide +kernel⟩, wd_1205, wd_1206⟩
theorem cal_MD_least : CalV mi_MD_least 2 := ⟨⟨wd_1215, wd_123, ⟨by decide +kernel, by decide +kernel⟩, by decide +kernel⟩, wd_1213, wd_1214⟩
theorem cal_MD_spoils : CalV mi_MD_spoils 2 := ⟨⟨wd_1224, wd_123, ⟨by decide +kernel, by decide +kernel⟩, by decide +kernel⟩, wd_1222, wd_1223⟩
theorem cal_MD_newcomer : CalV mi_MD_newcomer 3 := ⟨⟨wd_1233, wd_123, ⟨by decide +kernel, by decide +kernel⟩, by decide +kernel⟩, wd_1231, wd_1232⟩
theorem cal_MD_isFit : CalV mi_MD_isFit 2 := ⟨⟨wd_1241, wd_123, ⟨by decide +kernel, by decide +kernel⟩, by decide +kernel⟩, wd_1240, wd_110⟩
theorem cal_MD_fits : CalV mi_MD_fits 1 := ⟨⟨wd_1237, wd_123, ⟨by decide +kernel, by decide +kernel⟩, by decide +kernel⟩, wd_1235, wd_1236⟩
theorem cal_MD_gone : CalV mi_MD_gone 0 := ⟨⟨wd_1245, wd_123, ⟨by decide +kernel, by decide +kernel⟩, by decide +kernel⟩, wd_1243, wd_1244⟩
theorem cal_MD_coarsestOn : CalV mi_MD_coarsestOn 2 := ⟨⟨wd_1253, wd_123, ⟨by decide +kernel, by decide +kernel⟩, by decide +kernel⟩, wd_1252, wd_111⟩
theorem cal_MD_shift : CalV mi_MD_shift 3 := ⟨⟨wd_1249, wd_123, ⟨by decide +kernel, by decide +kernel⟩, by decide +kernel⟩, wd_1247, wd_1248⟩
theorem cal_MD_stays : CalV mi_MD_stays 2 := ⟨⟨wd_1257, wd_123, ⟨by decide +kernel, by decide +kernel⟩, by decide +kernel⟩, wd_1255, wd_1256⟩
theorem cal_MD_count : CalV mi_MD_count 1 := ⟨⟨wd_1261, wd_123, ⟨by decide +kernel, by decide +kernel⟩, by decide +kernel⟩, wd_1259, wd_1260⟩
