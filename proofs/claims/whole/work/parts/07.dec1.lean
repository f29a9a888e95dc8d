theorem dX3_mergeBy_33 : decode cX3_mergeBy 33 = .ok (.iload_n 3, 1) := by decide +kernel
theorem dX3_mergeBy_34 : decode cX3_mergeBy 34 = .ok (.invokevirtual 26, 3) := by decide +kernel
theorem dX3_mergeBy_37 : decode cX3_mergeBy 37 = .ok (.aload_n 0, 1) := by decide +kernel
theorem dX3_mergeBy_38 : decode cX3_mergeBy 38 = .ok (.iload_n 2, 1) := by decide +kernel
theorem dX3_mergeBy_39 : decode cX3_mergeBy 39 = .ok (.invokevirtual 26, 3) := by decide +kernel
theorem dX3_mergeBy_42 : decode cX3_mergeBy 42 = .ok (.invokevirtual 54, 3) := by decide +kernel
theorem dX3_mergeBy_45 : decode cX3_mergeBy 45 = .ok (.iinc 3 1, 3) := by decide +kernel
theorem dX3_mergeBy_48 : decode cX3_mergeBy 48 = .ok (.goto (-34), 3) := by decide +kernel
theorem dX3_mergeBy_51 : decode cX3_mergeBy 51 = .ok (.iinc 2 1, 3) := by decide +kernel
theorem dX3_mergeBy_54 : decode cX3_mergeBy 54 = .ok (.goto (-52), 3) := by decide +kernel
theorem dX3_mergeBy_57 : decode cX3_mergeBy 57 = .ok (.return_, 1) := by decide +kernel
theorem dX9_join_0 : decode cX9_join 0 = .ok (.aload_n 0, 1) := by decide +kernel
theorem dX9_join_1 : decode cX9_join 1 = .ok (.getfield 68, 3) := by decide +kernel
theorem dX9_join_4 : decode cX9_join 4 = .ok (.iload_n 1, 1) := by decide +kernel
theorem dX9_join_5 : decode cX9_join 5 = .ok (.aload_n 0, 1) := by decide +kernel
theorem dX9_join_6 : decode cX9_join 6 = .ok (.getfield 12, 3) := by decide +kernel
theorem dX9_join_9 : decode cX9_join 9 = .ok (.getfield 90, 3) := by decide +kernel
theorem dX9_join_12 : decode cX9_join 12 = .ok (.invokevirtual 151, 3) := by decide +kernel
theorem dX9_join_15 : decode cX9_join 15 = .ok (.ifCond .eq 21, 3) := by decide +kernel
theorem dX9_join_18 : decode cX9_join 18 = .ok (.aload_n 0, 1) := by decide +kernel
theorem dX9_join_19 : decode cX9_join 19 = .ok (.getfield 72, 3) := by decide +kernel
theorem dX9_join_22 : decode cX9_join 22 = .ok (.iload_n 2, 1) := by decide +kernel
theorem dX9_join_23 : decode cX9_join 23 = .ok (.aload_n 0, 1) := by decide +kernel
theorem dX9_join_24 : decode cX9_join 24 = .ok (.getfield 12, 3) := by decide +kernel
theorem dX9_join_27 : decode cX9_join 27 = .ok (.getfield 90, 3) := by decide +kernel
theorem dX9_join_30 : decode cX9_join 30 = .ok (.invokevirtual 151, 3) := by decide +kernel
theorem dX9_join_33 : decode cX9_join 33 = .ok (.ifCond .ne 9, 3) := by decide +kernel
theorem dX9_join_36 : decode cX9_join 36 = .ok (.aload_n 0, 1) := by decide +kernel
theorem dX9_join_37 : decode cX9_join 37 = .ok (.iconst (-1), 1) := by decide +kernel
theorem dX9_join_38 : decode cX9_join 38 = .ok (.invokevirtual 86, 3) := by decide +kernel
theorem dX9_join_41 : decode cX9_join 41 = .ok (.ireturn, 1) := by decide +kernel
theorem dX9_join_42 : decode cX9_join 42 = .ok (.aload_n 0, 1) := by decide +kernel
theorem dX9_join_43 : decode cX9_join 43 = .ok (.getfield 68, 3) := by decide +kernel
theorem dX9_join_46 : decode cX9_join 46 = .ok (.aload_n 0, 1) := by decide +kernel
theorem dX9_join_47 : decode cX9_join 47 = .ok (.getfield 72, 3) := by decide +kernel
theorem dX9_join_50 : decode cX9_join 50 = .ok (.invokevirtual 195, 3) := by decide +kernel
theorem dX9_join_53 : decode cX9_join 53 = .ok (.aload_n 0, 1) := by decide +kernel
theorem dX9_join_54 : decode cX9_join 54 = .ok (.getfield 75, 3) := by decide +kernel
theorem dX9_join_57 : decode cX9_join 57 = .ok (.aload_n 0, 1) := by decide +kernel
theorem dX9_join_58 : decode cX9_join 58 = .ok (.getfield 68, 3) := by decide +kernel
theorem dX9_join_61 : decode cX9_join 61 = .ok (.invokevirtual 199, 3) := by decide +kernel
theorem dX9_join_64 : decode cX9_join 64 = .ok (.aload_n 0, 1) := by decide +kernel
theorem dX9_join_65 : decode cX9_join 65 = .ok (.getfield 75, 3) := by decide +kernel
theorem dX9_join_68 : decode cX9_join 68 = .ok (.invokevirtual 169, 3) := by decide +kernel
theorem dX9_join_71 : decode cX9_join 71 = .ok (.ireturn, 1) := by decide +kernel
theorem dX9_meet_0 : decode cX9_meet 0 = .ok (.aload_n 0, 1) := by decide +kernel
theorem dX9_meet_1 : decode cX9_meet 1 = .ok (.getfield 68, 3) := by decide +kernel
theorem dX9_meet_4 : decode cX9_meet 4 = .ok (.iload_n 1, 1) := by decide +kernel
theorem dX9_meet_5 : decode cX9_meet 5 = .ok (.aload_n 0, 1) := by decide +kernel
theorem dX9_meet_6 : decode cX9_meet 6 = .ok (.getfield 12, 3) := by decide +kernel
theorem dX9_meet_9 : decode cX9_meet 9 = .ok (.getfield 90, 3) := by decide +kernel
theorem dX9_meet_12 : decode cX9_meet 12 = .ok (.invokevirtual 151, 3) := by decide +kernel
theorem dX9_meet_15 : decode cX9_meet 15 = .ok (.ifCond .eq 21, 3) := by decide +kernel
theorem dX9_meet_18 : decode cX9_meet 18 = .ok (.aload_n 0, 1) := by decide +kernel
theorem dX9_meet_19 : decode cX9_meet 19 = .ok (.getfield 72, 3) := by decide +kernel
theorem dX9_meet_22 : decode cX9_meet 22 = .ok (.iload_n 2, 1) := by decide +kernel
theorem dX9_meet_23 : decode cX9_meet 23 = .ok (.aload_n 0, 1) := by decide +kernel
theorem dX9_meet_24 : decode cX9_meet 24 = .ok (.getfield 12, 3) := by decide +kernel
theorem dX9_meet_27 : decode cX9_meet 27 = .ok (.getfield 90, 3) := by decide +kernel
theorem dX9_meet_30 : decode cX9_meet 30 = .ok (.invokevirtual 151, 3) := by decide +kernel
theorem dX9_meet_33 : decode cX9_meet 33 = .ok (.ifCond .ne 9, 3) := by decide +kernel
theorem dX9_meet_36 : decode cX9_meet 36 = .ok (.aload_n 0, 1) := by decide +kernel
theorem dX9_meet_37 : decode cX9_meet 37 = .ok (.iconst (-1), 1) := by decide +kernel
theorem dX9_meet_38 : decode cX9_meet 38 = .ok (.invokevirtual 86, 3) := by decide +kernel
theorem dX9_meet_41 : decode cX9_meet 41 = .ok (.ireturn, 1) := by decide +kernel
theorem dX9_meet_42 : decode cX9_meet 42 = .ok (.aload_n 0, 1) := by decide +kernel
theorem dX9_meet_43 : decode cX9_meet 43 = .ok (.getfield 75, 3) := by decide +kernel
theorem dX9_meet_46 : decode cX9_meet 46 = .ok (.aload_n 0, 1) := by decide +kernel
theorem dX9_meet_47 : decode cX9_meet 47 = .ok (.getfield 68, 3) := by decide +kernel
theorem dX9_meet_50 : decode cX9_meet 50 = .ok (.aload_n 0, 1) := by decide +kernel
theorem dX9_meet_51 : decode cX9_meet 51 = .ok (.getfield 72, 3) := by decide +kernel
theorem dX9_meet_54 : decode cX9_meet 54 = .ok (.invokevirtual 202, 3) := by decide +kernel
theorem dX9_meet_57 : decode cX9_meet 57 = .ok (.aload_n 0, 1) := by decide +kernel
theorem dX9_meet_58 : decode cX9_meet 58 = .ok (.getfield 75, 3) := by decide +kernel
theorem dX9_meet_61 : decode cX9_meet 61 = .ok (.invokevirtual 169, 3) := by decide +kernel
theorem dX9_meet_64 : decode cX9_meet 64 = .ok (.ireturn, 1) := by decide +kernel
theorem dX0_tiesTo_0 : decode cX0_tiesTo 0 = .ok (.iconst 0, 1) := by decide +kernel
theorem dX0_tiesTo_1 : decode cX0_tiesTo 1 = .ok (.istore 6, 2) := by decide +kernel
theorem dX0_tiesTo_3 : decode cX0_tiesTo 3 = .ok (.iconst 0, 1) := by decide +kernel
theorem dX0_tiesTo_4 : decode cX0_tiesTo 4 = .ok (.istore 7, 2) := by decide +kernel
theorem dX0_tiesTo_6 : decode cX0_tiesTo 6 = .ok (.iload 7, 2) := by decide +kernel
theorem dX0_tiesTo_8 : decode cX0_tiesTo 8 = .ok (.aload_n 1, 1) := by decide +kernel
theorem dX0_tiesTo_9 : decode cX0_tiesTo 9 = .ok (.getfield 36, 3) := by decide +kernel
theorem dX0_tiesTo_12 : decode cX0_tiesTo 12 = .ok (.if_icmp .ge 35, 3) := by decide +kernel
theorem dX0_tiesTo_15 : decode cX0_tiesTo 15 = .ok (.aload_n 2, 1) := by decide +kernel
theorem dX0_tiesTo_16 : decode cX0_tiesTo 16 = .ok (.iload 7, 2) := by decide +kernel
theorem dX0_tiesTo_18 : decode cX0_tiesTo 18 = .ok (.invokevirtual 41, 3) := by decide +kernel
theorem dX0_tiesTo_21 : decode cX0_tiesTo 21 = .ok (.iload 4, 2) := by decide +kernel
theorem dX0_tiesTo_23 : decode cX0_tiesTo 23 = .ok (.if_icmp .ne 18, 3) := by decide +kernel
theorem dX0_tiesTo_26 : decode cX0_tiesTo 26 = .ok (.aload_n 1, 1) := by decide +kernel
theorem dX0_tiesTo_27 : decode cX0_tiesTo 27 = .ok (.iload 5, 2) := by decide +kernel
theorem dX0_tiesTo_29 : decode cX0_tiesTo 29 = .ok (.iload_n 3, 1) := by decide +kernel
theorem dX0_tiesTo_30 : decode cX0_tiesTo 30 = .ok (.iload 7, 2) := by decide +kernel
theorem dX0_tiesTo_32 : decode cX0_tiesTo 32 = .ok (.invokevirtual 49, 3) := by decide +kernel
theorem dX0_tiesTo_35 : decode cX0_tiesTo 35 = .ok (.ifCond .eq 6, 3) := by decide +kernel
theorem dX0_tiesTo_38 : decode cX0_tiesTo 38 = .ok (.iinc 6 1, 3) := by decide +kernel
theorem dX0_tiesTo_41 : decode cX0_tiesTo 41 = .ok (.iinc 7 1, 3) := by decide +kernel
theorem dX0_tiesTo_44 : decode cX0_tiesTo 44 = .ok (.goto (-38), 3) := by decide +kernel
theorem dX0_tiesTo_47 : decode cX0_tiesTo 47 = .ok (.iload 6, 2) := by decide +kernel
theorem dX0_tiesTo_49 : decode cX0_tiesTo 49 = .ok (.ireturn, 1) := by decide +kernel
theorem dX3_sizeOf_0 : decode cX3_sizeOf 0 = .ok (.iconst 0, 1) := by decide +kernel
theorem dX3_sizeOf_1 : decode cX3_sizeOf 1 = .ok (.istore_n 2, 1) := by decide +kernel
theorem dX3_sizeOf_2 : decode cX3_sizeOf 2 = .ok (.iconst 0, 1) := by decide +kernel
theorem dX3_sizeOf_3 : decode cX3_sizeOf 3 = .ok (.istore_n 3, 1) := by decide +kernel
theorem dX3_sizeOf_4 : decode cX3_sizeOf 4 = .ok (.iload_n 3, 1) := by decide +kernel
theorem dX3_sizeOf_5 : decode cX3_sizeOf 5 = .ok (.aload_n 0, 1) := by decide +kernel
theorem dX3_sizeOf_6 : decode cX3_sizeOf 6 = .ok (.getfield 15, 3) := by decide +kernel
theorem dX3_sizeOf_9 : decode cX3_sizeOf 9 = .ok (.if_icmp .ge 21, 3) := by decide +kernel
theorem dX3_sizeOf_12 : decode cX3_sizeOf 12 = .ok (.aload_n 0, 1) := by decide +kernel
theorem dX3_sizeOf_13 : decode cX3_sizeOf 13 = .ok (.iload_n 3, 1) := by decide +kernel
theorem dX3_sizeOf_14 : decode cX3_sizeOf 14 = .ok (.invokevirtual 26, 3) := by decide +kernel
theorem dX3_sizeOf_17 : decode cX3_sizeOf 17 = .ok (.iload_n 1, 1) := by decide +kernel
theorem dX3_sizeOf_18 : decode cX3_sizeOf 18 = .ok (.if_icmp .ne 6, 3) := by decide +kernel
theorem dX3_sizeOf_21 : decode cX3_sizeOf 21 = .ok (.iinc 2 1, 3) := by decide +kernel
theorem dX3_sizeOf_24 : decode cX3_sizeOf 24 = .ok (.iinc 3 1, 3) := by decide +kernel
theorem dX3_sizeOf_27 : decode cX3_sizeOf 27 = .ok (.goto (-23), 3) := by decide +kernel
theorem dX3_sizeOf_30 : decode cX3_sizeOf 30 = .ok (.iload_n 2, 1) := by decide +kernel
theorem dX3_sizeOf_31 : decode cX3_sizeOf 31 = .ok (.ireturn, 1) := by decide +kernel
theorem dX0_image_0 : decode cX0_image 0 = .ok (.aload_n 2, 1) := by decide +kernel
theorem dX0_image_1 : decode cX0_image 1 = .ok (.iload 4, 2) := by decide +kernel
theorem dX0_image_3 : decode cX0_image 3 = .ok (.invokevirtual 87, 3) := by decide +kernel
theorem dX0_image_6 : decode cX0_image 6 = .ok (.iload_n 3, 1) := by decide +kernel
theorem dX0_image_7 : decode cX0_image 7 = .ok (.iload 4, 2) := by decide +kernel
theorem dX0_image_9 : decode cX0_image 9 = .ok (.if_icmp .ne 7, 3) := by decide +kernel
theorem dX0_image_12 : decode cX0_image 12 = .ok (.iconst 1, 1) := by decide +kernel
theorem dX0_image_13 : decode cX0_image 13 = .ok (.goto 4, 3) := by decide +kernel
theorem dX0_image_16 : decode cX0_image 16 = .ok (.iconst 0, 1) := by decide +kernel
theorem dX0_image_17 : decode cX0_image 17 = .ok (.isub, 1) := by decide +kernel
theorem dX0_image_18 : decode cX0_image 18 = .ok (.istore 6, 2) := by decide +kernel
theorem dX0_image_20 : decode cX0_image 20 = .ok (.iload 6, 2) := by decide +kernel
theorem dX0_image_22 : decode cX0_image 22 = .ok (.istore 7, 2) := by decide +kernel
theorem dX0_image_24 : decode cX0_image 24 = .ok (.iconst 0, 1) := by decide +kernel
theorem dX0_image_25 : decode cX0_image 25 = .ok (.istore 8, 2) := by decide +kernel
theorem dX0_image_27 : decode cX0_image 27 = .ok (.iconst 0, 1) := by decide +kernel
theorem dX0_image_28 : decode cX0_image 28 = .ok (.istore 9, 2) := by decide +kernel
theorem dX0_image_30 : decode cX0_image 30 = .ok (.iload 9, 2) := by decide +kernel
theorem dX0_image_32 : decode cX0_image 32 = .ok (.aload_n 1, 1) := by decide +kernel
theorem dX0_image_33 : decode cX0_image 33 = .ok (.getfield 36, 3) := by decide +kernel
theorem dX0_image_36 : decode cX0_image 36 = .ok (.if_icmp .ge 51, 3) := by decide +kernel
theorem dX0_image_39 : decode cX0_image 39 = .ok (.aload_n 2, 1) := by decide +kernel
theorem dX0_image_40 : decode cX0_image 40 = .ok (.iload 9, 2) := by decide +kernel
theorem dX0_image_42 : decode cX0_image 42 = .ok (.invokevirtual 41, 3) := by decide +kernel
theorem dX0_image_45 : decode cX0_image 45 = .ok (.iload_n 3, 1) := by decide +kernel
theorem dX0_image_46 : decode cX0_image 46 = .ok (.if_icmp .ne 35, 3) := by decide +kernel
theorem dX0_image_49 : decode cX0_image 49 = .ok (.aload_n 0, 1) := by decide +kernel
theorem dX0_image_50 : decode cX0_image 50 = .ok (.aload_n 1, 1) := by decide +kernel
theorem dX0_image_51 : decode cX0_image 51 = .ok (.aload_n 2, 1) := by decide +kernel
theorem dX0_image_52 : decode cX0_image 52 = .ok (.iload 9, 2) := by decide +kernel
theorem dX0_image_54 : decode cX0_image 54 = .ok (.iload 4, 2) := by decide +kernel
theorem dX0_image_56 : decode cX0_image 56 = .ok (.iload 5, 2) := by decide +kernel
theorem dX0_image_58 : decode cX0_image 58 = .ok (.invokevirtual 90, 3) := by decide +kernel
theorem dX0_image_61 : decode cX0_image 61 = .ok (.istore 10, 2) := by decide +kernel
theorem dX0_image_63 : decode cX0_image 63 = .ok (.iload 7, 2) := by decide +kernel
theorem dX0_image_65 : decode cX0_image 65 = .ok (.iload 10, 2) := by decide +kernel
theorem dX0_image_67 : decode cX0_image 67 = .ok (.invokestatic 61, 3) := by decide +kernel
theorem dX0_image_70 : decode cX0_image 70 = .ok (.istore 7, 2) := by decide +kernel
theorem dX0_image_72 : decode cX0_image 72 = .ok (.iload 8, 2) := by decide +kernel
theorem dX0_image_74 : decode cX0_image 74 = .ok (.iload 10, 2) := by decide +kernel
theorem dX0_image_76 : decode cX0_image 76 = .ok (.invokestatic 93, 3) := by decide +kernel
theorem dX0_image_79 : decode cX0_image 79 = .ok (.istore 8, 2) := by decide +kernel
theorem dX0_image_81 : decode cX0_image 81 = .ok (.iinc 9 1, 3) := by decide +kernel
theorem dX0_image_84 : decode cX0_image 84 = .ok (.goto (-54), 3) := by decide +kernel
theorem dX0_image_87 : decode cX0_image 87 = .ok (.iload 8, 2) := by decide +kernel
theorem dX0_image_89 : decode cX0_image 89 = .ok (.ifCond .ne 5, 3) := by decide +kernel
theorem dX0_image_92 : decode cX0_image 92 = .ok (.iconst 0, 1) := by decide +kernel
theorem dX0_image_93 : decode cX0_image 93 = .ok (.ireturn, 1) := by decide +kernel
theorem dX0_image_94 : decode cX0_image 94 = .ok (.iload 7, 2) := by decide +kernel
theorem dX0_image_96 : decode cX0_image 96 = .ok (.iload 6, 2) := by decide +kernel
theorem dX0_image_98 : decode cX0_image 98 = .ok (.if_icmp .ne 5, 3) := by decide +kernel
theorem dX0_image_101 : decode cX0_image 101 = .ok (.iconst 1, 1) := by decide +kernel
theorem dX0_image_102 : decode cX0_image 102 = .ok (.ireturn, 1) := by decide +kernel
theorem dX0_image_103 : decode cX0_image 103 = .ok (.iload 7, 2) := by decide +kernel
theorem dX0_image_105 : decode cX0_image 105 = .ok (.iload 8, 2) := by decide +kernel
theorem dX0_image_107 : decode cX0_image 107 = .ok (.if_icmp .ne 5, 3) := by decide +kernel
theorem dX0_image_110 : decode cX0_image 110 = .ok (.iconst 2, 1) := by decide +kernel
theorem dX0_image_111 : decode cX0_image 111 = .ok (.ireturn, 1) := by decide +kernel
theorem dX0_image_112 : decode cX0_image 112 = .ok (.iload 7, 2) := by decide +kernel
theorem dX0_image_114 : decode cX0_image 114 = .ok (.ifCond .le 7, 3) := by decide +kernel
theorem dX0_image_117 : decode cX0_image 117 = .ok (.iconst 3, 1) := by decide +kernel
theorem dX0_image_118 : decode cX0_image 118 = .ok (.goto 4, 3) := by decide +kernel
theorem dX0_image_121 : decode cX0_image 121 = .ok (.iconst 4, 1) := by decide +kernel
theorem dX0_image_122 : decode cX0_image 122 = .ok (.ireturn, 1) := by decide +kernel
theorem dX3_has_0 : decode cX3_has 0 = .ok (.iload_n 1, 1) := by decide +kernel
theorem dX3_has_1 : decode cX3_has 1 = .ok (.ifCond .lt 15, 3) := by decide +kernel
theorem dX3_has_4 : decode cX3_has 4 = .ok (.iload_n 1, 1) := by decide +kernel
theorem dX3_has_5 : decode cX3_has 5 = .ok (.aload_n 0, 1) := by decide +kernel
theorem dX3_has_6 : decode cX3_has 6 = .ok (.getfield 19, 3) := by decide +kernel
theorem dX3_has_9 : decode cX3_has 9 = .ok (.if_icmp .ge 7, 3) := by decide +kernel
theorem dX3_has_12 : decode cX3_has 12 = .ok (.iconst 1, 1) := by decide +kernel
theorem dX3_has_13 : decode cX3_has 13 = .ok (.goto 4, 3) := by decide +kernel
theorem dX3_has_16 : decode cX3_has 16 = .ok (.iconst 0, 1) := by decide +kernel
theorem dX3_has_17 : decode cX3_has 17 = .ok (.ireturn, 1) := by decide +kernel
theorem dX9_picture_0 : decode cX9_picture 0 = .ok (.aload_n 0, 1) := by decide +kernel
theorem dX9_picture_1 : decode cX9_picture 1 = .ok (.getfield 68, 3) := by decide +kernel
theorem dX9_picture_4 : decode cX9_picture 4 = .ok (.iload_n 1, 1) := by decide +kernel
theorem dX9_picture_5 : decode cX9_picture 5 = .ok (.aload_n 0, 1) := by decide +kernel
theorem dX9_picture_6 : decode cX9_picture 6 = .ok (.getfield 12, 3) := by decide +kernel
theorem dX9_picture_9 : decode cX9_picture 9 = .ok (.getfield 90, 3) := by decide +kernel
theorem dX9_picture_12 : decode cX9_picture 12 = .ok (.invokevirtual 151, 3) := by decide +kernel
theorem dX9_picture_15 : decode cX9_picture 15 = .ok (.ifCond .eq 33, 3) := by decide +kernel
theorem dX9_picture_18 : decode cX9_picture 18 = .ok (.aload_n 0, 1) := by decide +kernel
theorem dX9_picture_19 : decode cX9_picture 19 = .ok (.getfield 68, 3) := by decide +kernel
theorem dX9_picture_22 : decode cX9_picture 22 = .ok (.iload_n 2, 1) := by decide +kernel
theorem dX9_picture_23 : decode cX9_picture 23 = .ok (.invokevirtual 206, 3) := by decide +kernel
theorem dX9_picture_26 : decode cX9_picture 26 = .ok (.ifCond .eq 22, 3) := by decide +kernel
theorem dX9_picture_29 : decode cX9_picture 29 = .ok (.aload_n 0, 1) := by decide +kernel
theorem dX9_picture_30 : decode cX9_picture 30 = .ok (.getfield 68, 3) := by decide +kernel
theorem dX9_picture_33 : decode cX9_picture 33 = .ok (.iload_n 3, 1) := by decide +kernel
theorem dX9_picture_34 : decode cX9_picture 34 = .ok (.invokevirtual 206, 3) := by decide +kernel
theorem dX9_picture_37 : decode cX9_picture 37 = .ok (.ifCond .eq 11, 3) := by decide +kernel
theorem dX9_picture_40 : decode cX9_picture 40 = .ok (.iload 4, 2) := by decide +kernel
theorem dX9_picture_42 : decode cX9_picture 42 = .ok (.invokestatic 137, 3) := by decide +kernel
theorem dX9_picture_45 : decode cX9_picture 45 = .ok (.ifCond .ne 9, 3) := by decide +kernel
theorem dX9_picture_48 : decode cX9_picture 48 = .ok (.aload_n 0, 1) := by decide +kernel
theorem dX9_picture_49 : decode cX9_picture 49 = .ok (.iconst (-1), 1) := by decide +kernel
theorem dX9_picture_50 : decode cX9_picture 50 = .ok (.invokevirtual 86, 3) := by decide +kernel
theorem dX9_picture_53 : decode cX9_picture 53 = .ok (.ireturn, 1) := by decide +kernel
theorem dX9_picture_54 : decode cX9_picture 54 = .ok (.aload_n 0, 1) := by decide +kernel
theorem dX9_picture_55 : decode cX9_picture 55 = .ok (.aload_n 0, 1) := by decide +kernel
theorem dX9_picture_56 : decode cX9_picture 56 = .ok (.getfield 113, 3) := by decide +kernel
theorem dX9_picture_59 : decode cX9_picture 59 = .ok (.invokevirtual 140, 3) := by decide +kernel
theorem dX9_picture_62 : decode cX9_picture 62 = .ok (.aload_n 0, 1) := by decide +kernel
theorem dX9_picture_63 : decode cX9_picture 63 = .ok (.getfield 54, 3) := by decide +kernel
theorem dX9_picture_66 : decode cX9_picture 66 = .ok (.aload_n 0, 1) := by decide +kernel
theorem dX9_picture_67 : decode cX9_picture 67 = .ok (.getfield 12, 3) := by decide +kernel
theorem dX9_picture_70 : decode cX9_picture 70 = .ok (.aload_n 0, 1) := by decide +kernel
theorem dX9_picture_71 : decode cX9_picture 71 = .ok (.getfield 68, 3) := by decide +kernel
theorem dX9_picture_74 : decode cX9_picture 74 = .ok (.iload_n 2, 1) := by decide +kernel
theorem dX9_picture_75 : decode cX9_picture 75 = .ok (.iload_n 3, 1) := by decide +kernel
theorem dX9_picture_76 : decode cX9_picture 76 = .ok (.iload 4, 2) := by decide +kernel
theorem dX9_picture_78 : decode cX9_picture 78 = .ok (.invokevirtual 209, 3) := by decide +kernel
theorem dX9_picture_81 : decode cX9_picture 81 = .ok (.ireturn, 1) := by decide +kernel
theorem dX0_misfit_0 : decode cX0_misfit 0 = .ok (.aload_n 0, 1) := by decide +kernel
theorem dX0_misfit_1 : decode cX0_misfit 1 = .ok (.getfield 9, 3) := by decide +kernel
theorem dX0_misfit_4 : decode cX0_misfit 4 = .ok (.iload_n 1, 1) := by decide +kernel
theorem dX0_misfit_5 : decode cX0_misfit 5 = .ok (.iload_n 2, 1) := by decide +kernel
theorem dX0_misfit_6 : decode cX0_misfit 6 = .ok (.iload_n 3, 1) := by decide +kernel
theorem dX0_misfit_7 : decode cX0_misfit 7 = .ok (.invokestatic 53, 3) := by decide +kernel
theorem dX0_misfit_10 : decode cX0_misfit 10 = .ok (.invokestatic 57, 3) := by decide +kernel
theorem dX0_misfit_13 : decode cX0_misfit 13 = .ok (.iload 4, 2) := by decide +kernel
theorem dX0_misfit_15 : decode cX0_misfit 15 = .ok (.iadd, 1) := by decide +kernel
theorem dX0_misfit_16 : decode cX0_misfit 16 = .ok (.istore 5, 2) := by decide +kernel
theorem dX0_misfit_18 : decode cX0_misfit 18 = .ok (.aload_n 0, 1) := by decide +kernel
theorem dX0_misfit_19 : decode cX0_misfit 19 = .ok (.getfield 15, 3) := by decide +kernel
theorem dX0_misfit_22 : decode cX0_misfit 22 = .ok (.iload_n 2, 1) := by decide +kernel
theorem dX0_misfit_23 : decode cX0_misfit 23 = .ok (.invokestatic 57, 3) := by decide +kernel
theorem dX0_misfit_26 : decode cX0_misfit 26 = .ok (.aload_n 0, 1) := by decide +kernel
theorem dX0_misfit_27 : decode cX0_misfit 27 = .ok (.getfield 15, 3) := by decide +kernel
theorem dX0_misfit_30 : decode cX0_misfit 30 = .ok (.iload_n 3, 1) := by decide +kernel
theorem dX0_misfit_31 : decode cX0_misfit 31 = .ok (.invokestatic 57, 3) := by decide +kernel
theorem dX0_misfit_34 : decode cX0_misfit 34 = .ok (.iload_n 2, 1) := by decide +kernel
theorem dX0_misfit_35 : decode cX0_misfit 35 = .ok (.iload_n 3, 1) := by decide +kernel
theorem dX0_misfit_36 : decode cX0_misfit 36 = .ok (.if_icmp .ne 7, 3) := by decide +kernel
theorem dX0_misfit_39 : decode cX0_misfit 39 = .ok (.iconst 1, 1) := by decide +kernel
theorem dX0_misfit_40 : decode cX0_misfit 40 = .ok (.goto 4, 3) := by decide +kernel
theorem dX0_misfit_43 : decode cX0_misfit 43 = .ok (.iconst 0, 1) := by decide +kernel
theorem dX0_misfit_44 : decode cX0_misfit 44 = .ok (.isub, 1) := by decide +kernel
theorem dX0_misfit_45 : decode cX0_misfit 45 = .ok (.imul, 1) := by decide +kernel
theorem dX0_misfit_46 : decode cX0_misfit 46 = .ok (.istore 6, 2) := by decide +kernel
theorem dX0_misfit_48 : decode cX0_misfit 48 = .ok (.iload 5, 2) := by decide +kernel
theorem dX0_misfit_50 : decode cX0_misfit 50 = .ok (.iload 6, 2) := by decide +kernel
theorem dX0_misfit_52 : decode cX0_misfit 52 = .ok (.iload 5, 2) := by decide +kernel
theorem dX0_misfit_54 : decode cX0_misfit 54 = .ok (.isub, 1) := by decide +kernel
theorem dX0_misfit_55 : decode cX0_misfit 55 = .ok (.invokestatic 61, 3) := by decide +kernel
theorem dX0_misfit_58 : decode cX0_misfit 58 = .ok (.ireturn, 1) := by decide +kernel
theorem dX0_tallyTies_0 : decode cX0_tallyTies 0 = .ok (.aload_n 0, 1) := by decide +kernel
theorem dX0_tallyTies_1 : decode cX0_tallyTies 1 = .ok (.getfield 9, 3) := by decide +kernel
theorem dX0_tallyTies_4 : decode cX0_tallyTies 4 = .ok (.invokestatic 32, 3) := by decide +kernel
theorem dX0_tallyTies_7 : decode cX0_tallyTies 7 = .ok (.aload_n 0, 1) := by decide +kernel
theorem dX0_tallyTies_8 : decode cX0_tallyTies 8 = .ok (.getfield 15, 3) := by decide +kernel
theorem dX0_tallyTies_11 : decode cX0_tallyTies 11 = .ok (.invokestatic 32, 3) := by decide +kernel
theorem dX0_tallyTies_14 : decode cX0_tallyTies 14 = .ok (.iconst 0, 1) := by decide +kernel
theorem dX0_tallyTies_15 : decode cX0_tallyTies 15 = .ok (.istore_n 3, 1) := by decide +kernel
theorem dX0_tallyTies_16 : decode cX0_tallyTies 16 = .ok (.iload_n 3, 1) := by decide +kernel
theorem dX0_tallyTies_17 : decode cX0_tallyTies 17 = .ok (.aload_n 1, 1) := by decide +kernel
theorem dX0_tallyTies_18 : decode cX0_tallyTies 18 = .ok (.getfield 36, 3) := by decide +kernel
theorem dX0_tallyTies_21 : decode cX0_tallyTies 21 = .ok (.if_icmp .ge 91, 3) := by decide +kernel
theorem dX0_tallyTies_24 : decode cX0_tallyTies 24 = .ok (.aload_n 0, 1) := by decide +kernel
theorem dX0_tallyTies_25 : decode cX0_tallyTies 25 = .ok (.getfield 15, 3) := by decide +kernel
theorem dX0_tallyTies_28 : decode cX0_tallyTies 28 = .ok (.aload_n 2, 1) := by decide +kernel
theorem dX0_tallyTies_29 : decode cX0_tallyTies 29 = .ok (.iload_n 3, 1) := by decide +kernel
theorem dX0_tallyTies_30 : decode cX0_tallyTies 30 = .ok (.invokevirtual 41, 3) := by decide +kernel
theorem dX0_tallyTies_33 : decode cX0_tallyTies 33 = .ok (.iconst 1, 1) := by decide +kernel
theorem dX0_tallyTies_34 : decode cX0_tallyTies 34 = .ok (.invokestatic 45, 3) := by decide +kernel
theorem dX0_tallyTies_37 : decode cX0_tallyTies 37 = .ok (.iconst 0, 1) := by decide +kernel
theorem dX0_tallyTies_38 : decode cX0_tallyTies 38 = .ok (.istore 4, 2) := by decide +kernel
theorem dX0_tallyTies_40 : decode cX0_tallyTies 40 = .ok (.iload 4, 2) := by decide +kernel
theorem dX0_tallyTies_42 : decode cX0_tallyTies 42 = .ok (.aload_n 1, 1) := by decide +kernel
theorem dX0_tallyTies_43 : decode cX0_tallyTies 43 = .ok (.getfield 36, 3) := by decide +kernel
theorem dX0_tallyTies_46 : decode cX0_tallyTies 46 = .ok (.if_icmp .ge 60, 3) := by decide +kernel
theorem dX0_tallyTies_49 : decode cX0_tallyTies 49 = .ok (.iconst 0, 1) := by decide +kernel
theorem dX0_tallyTies_50 : decode cX0_tallyTies 50 = .ok (.istore 5, 2) := by decide +kernel
theorem dX0_tallyTies_52 : decode cX0_tallyTies 52 = .ok (.iload 5, 2) := by decide +kernel
theorem dX0_tallyTies_54 : decode cX0_tallyTies 54 = .ok (.iconst 3, 1) := by decide +kernel
theorem dX0_tallyTies_55 : decode cX0_tallyTies 55 = .ok (.if_icmp .ge 45, 3) := by decide +kernel
theorem dX0_tallyTies_58 : decode cX0_tallyTies 58 = .ok (.aload_n 1, 1) := by decide +kernel
theorem dX0_tallyTies_59 : decode cX0_tallyTies 59 = .ok (.iload 5, 2) := by decide +kernel
theorem dX0_tallyTies_61 : decode cX0_tallyTies 61 = .ok (.iload_n 3, 1) := by decide +kernel
theorem dX0_tallyTies_62 : decode cX0_tallyTies 62 = .ok (.iload 4, 2) := by decide +kernel
theorem dX0_tallyTies_64 : decode cX0_tallyTies 64 = .ok (.invokevirtual 49, 3) := by decide +kernel
theorem dX0_tallyTies_67 : decode cX0_tallyTies 67 = .ok (.ifCond .eq 27, 3) := by decide +kernel
theorem dX0_tallyTies_70 : decode cX0_tallyTies 70 = .ok (.aload_n 0, 1) := by decide +kernel
theorem dX0_tallyTies_71 : decode cX0_tallyTies 71 = .ok (.getfield 9, 3) := by decide +kernel
theorem dX0_tallyTies_74 : decode cX0_tallyTies 74 = .ok (.iload 5, 2) := by decide +kernel
theorem dX0_tallyTies_76 : decode cX0_tallyTies 76 = .ok (.aload_n 2, 1) := by decide +kernel
theorem dX0_tallyTies_77 : decode cX0_tallyTies 77 = .ok (.iload_n 3, 1) := by decide +kernel
theorem dX0_tallyTies_78 : decode cX0_tallyTies 78 = .ok (.invokevirtual 41, 3) := by decide +kernel
theorem dX0_tallyTies_81 : decode cX0_tallyTies 81 = .ok (.aload_n 2, 1) := by decide +kernel
theorem dX0_tallyTies_82 : decode cX0_tallyTies 82 = .ok (.iload 4, 2) := by decide +kernel
theorem dX0_tallyTies_84 : decode cX0_tallyTies 84 = .ok (.invokevirtual 41, 3) := by decide +kernel
theorem dX0_tallyTies_87 : decode cX0_tallyTies 87 = .ok (.invokestatic 53, 3) := by decide +kernel
theorem dX0_tallyTies_90 : decode cX0_tallyTies 90 = .ok (.iconst 1, 1) := by decide +kernel
theorem dX0_tallyTies_91 : decode cX0_tallyTies 91 = .ok (.invokestatic 45, 3) := by decide +kernel
theorem dX0_tallyTies_94 : decode cX0_tallyTies 94 = .ok (.iinc 5 1, 3) := by decide +kernel
theorem dX0_tallyTies_97 : decode cX0_tallyTies 97 = .ok (.goto (-45), 3) := by decide +kernel
theorem dX0_tallyTies_100 : decode cX0_tallyTies 100 = .ok (.iinc 4 1, 3) := by decide +kernel
theorem dX0_tallyTies_103 : decode cX0_tallyTies 103 = .ok (.goto (-63), 3) := by decide +kernel
theorem dX0_tallyTies_106 : decode cX0_tallyTies 106 = .ok (.iinc 3 1, 3) := by decide +kernel
theorem dX0_tallyTies_109 : decode cX0_tallyTies 109 = .ok (.goto (-93), 3) := by decide +kernel
theorem dX0_tallyTies_112 : decode cX0_tallyTies 112 = .ok (.return_, 1) := by decide +kernel
theorem dX0_misfits_0 : decode cX0_misfits 0 = .ok (.aload_n 0, 1) := by decide +kernel
theorem dX0_misfits_1 : decode cX0_misfits 1 = .ok (.aload_n 1, 1) := by decide +kernel
theorem dX0_misfits_2 : decode cX0_misfits 2 = .ok (.aload_n 2, 1) := by decide +kernel
theorem dX0_misfits_3 : decode cX0_misfits 3 = .ok (.invokevirtual 18, 3) := by decide +kernel
theorem dX0_misfits_6 : decode cX0_misfits 6 = .ok (.iconst 0, 1) := by decide +kernel
theorem dX0_misfits_7 : decode cX0_misfits 7 = .ok (.istore_n 3, 1) := by decide +kernel
theorem dX0_misfits_8 : decode cX0_misfits 8 = .ok (.iconst 0, 1) := by decide +kernel
theorem dX0_misfits_9 : decode cX0_misfits 9 = .ok (.istore 4, 2) := by decide +kernel
theorem dX0_misfits_11 : decode cX0_misfits 11 = .ok (.iload 4, 2) := by decide +kernel
theorem dX0_misfits_13 : decode cX0_misfits 13 = .ok (.iconst 3, 1) := by decide +kernel
theorem dX0_misfits_14 : decode cX0_misfits 14 = .ok (.if_icmp .ge 59, 3) := by decide +kernel
theorem dX0_misfits_17 : decode cX0_misfits 17 = .ok (.iconst 0, 1) := by decide +kernel
theorem dX0_misfits_18 : decode cX0_misfits 18 = .ok (.istore 5, 2) := by decide +kernel
theorem dX0_misfits_20 : decode cX0_misfits 20 = .ok (.iload 5, 2) := by decide +kernel
theorem dX0_misfits_22 : decode cX0_misfits 22 = .ok (.aload_n 2, 1) := by decide +kernel
theorem dX0_misfits_23 : decode cX0_misfits 23 = .ok (.getfield 22, 3) := by decide +kernel
theorem dX0_misfits_26 : decode cX0_misfits 26 = .ok (.if_icmp .ge 41, 3) := by decide +kernel
theorem dX0_misfits_29 : decode cX0_misfits 29 = .ok (.iconst 0, 1) := by decide +kernel
theorem dX0_misfits_30 : decode cX0_misfits 30 = .ok (.istore 6, 2) := by decide +kernel
theorem dX0_misfits_32 : decode cX0_misfits 32 = .ok (.iload 6, 2) := by decide +kernel
theorem dX0_misfits_34 : decode cX0_misfits 34 = .ok (.aload_n 2, 1) := by decide +kernel
theorem dX0_misfits_35 : decode cX0_misfits 35 = .ok (.getfield 22, 3) := by decide +kernel
theorem dX0_misfits_38 : decode cX0_misfits 38 = .ok (.if_icmp .ge 23, 3) := by decide +kernel
theorem dX0_misfits_41 : decode cX0_misfits 41 = .ok (.iload_n 3, 1) := by decide +kernel
theorem dX0_misfits_42 : decode cX0_misfits 42 = .ok (.aload_n 0, 1) := by decide +kernel
theorem dX0_misfits_43 : decode cX0_misfits 43 = .ok (.iload 4, 2) := by decide +kernel
theorem dX0_misfits_45 : decode cX0_misfits 45 = .ok (.iload 5, 2) := by decide +kernel
theorem dX0_misfits_47 : decode cX0_misfits 47 = .ok (.iload 6, 2) := by decide +kernel
theorem dX0_misfits_49 : decode cX0_misfits 49 = .ok (.iconst 0, 1) := by decide +kernel
theorem dX0_misfits_50 : decode cX0_misfits 50 = .ok (.invokevirtual 28, 3) := by decide +kernel
theorem dX0_misfits_53 : decode cX0_misfits 53 = .ok (.iadd, 1) := by decide +kernel
theorem dX0_misfits_54 : decode cX0_misfits 54 = .ok (.istore_n 3, 1) := by decide +kernel
theorem dX0_misfits_55 : decode cX0_misfits 55 = .ok (.iinc 6 1, 3) := by decide +kernel
theorem dX0_misfits_58 : decode cX0_misfits 58 = .ok (.goto (-26), 3) := by decide +kernel
theorem dX0_misfits_61 : decode cX0_misfits 61 = .ok (.iinc 5 1, 3) := by decide +kernel
theorem dX0_misfits_64 : decode cX0_misfits 64 = .ok (.goto (-44), 3) := by decide +kernel
theorem dX0_misfits_67 : decode cX0_misfits 67 = .ok (.iinc 4 1, 3) := by decide +kernel
theorem dX0_misfits_70 : decode cX0_misfits 70 = .ok (.goto (-59), 3) := by decide +kernel
theorem dX0_misfits_73 : decode cX0_misfits 73 = .ok (.iload_n 3, 1) := by decide +kernel
theorem dX0_misfits_74 : decode cX0_misfits 74 = .ok (.ireturn, 1) := by decide +kernel
theorem dX9_wrong_0 : decode cX9_wrong 0 = .ok (.aload_n 0, 1) := by decide +kernel
theorem dX9_wrong_1 : decode cX9_wrong 1 = .ok (.getfield 68, 3) := by decide +kernel
theorem dX9_wrong_4 : decode cX9_wrong 4 = .ok (.iload_n 1, 1) := by decide +kernel
theorem dX9_wrong_5 : decode cX9_wrong 5 = .ok (.aload_n 0, 1) := by decide +kernel
theorem dX9_wrong_6 : decode cX9_wrong 6 = .ok (.getfield 12, 3) := by decide +kernel
theorem dX9_wrong_9 : decode cX9_wrong 9 = .ok (.getfield 90, 3) := by decide +kernel
theorem dX9_wrong_12 : decode cX9_wrong 12 = .ok (.invokevirtual 151, 3) := by decide +kernel
theorem dX9_wrong_15 : decode cX9_wrong 15 = .ok (.ifCond .ne 9, 3) := by decide +kernel
theorem dX9_wrong_18 : decode cX9_wrong 18 = .ok (.aload_n 0, 1) := by decide +kernel
theorem dX9_wrong_19 : decode cX9_wrong 19 = .ok (.iconst (-1), 1) := by decide +kernel
theorem dX9_wrong_20 : decode cX9_wrong 20 = .ok (.invokevirtual 86, 3) := by decide +kernel
theorem dX9_wrong_23 : decode cX9_wrong 23 = .ok (.ireturn, 1) := by decide +kernel
theorem dX9_wrong_24 : decode cX9_wrong 24 = .ok (.aload_n 0, 1) := by decide +kernel
theorem dX9_wrong_25 : decode cX9_wrong 25 = .ok (.aload_n 0, 1) := by decide +kernel
theorem dX9_wrong_26 : decode cX9_wrong 26 = .ok (.getfield 113, 3) := by decide +kernel
theorem dX9_wrong_29 : decode cX9_wrong 29 = .ok (.invokevirtual 140, 3) := by decide +kernel
theorem dX9_wrong_32 : decode cX9_wrong 32 = .ok (.aload_n 0, 1) := by decide +kernel
theorem dX9_wrong_33 : decode cX9_wrong 33 = .ok (.getfield 54, 3) := by decide +kernel
theorem dX9_wrong_36 : decode cX9_wrong 36 = .ok (.aload_n 0, 1) := by decide +kernel
theorem dX9_wrong_37 : decode cX9_wrong 37 = .ok (.getfield 12, 3) := by decide +kernel
theorem dX9_wrong_40 : decode cX9_wrong 40 = .ok (.aload_n 0, 1) := by decide +kernel
theorem dX9_wrong_41 : decode cX9_wrong 41 = .ok (.getfield 68, 3) := by decide +kernel
theorem dX9_wrong_44 : decode cX9_wrong 44 = .ok (.invokevirtual 213, 3) := by decide +kernel
theorem dX9_wrong_47 : decode cX9_wrong 47 = .ok (.ireturn, 1) := by decide +kernel
theorem dX0_bestWith_0 : decode cX0_bestWith 0 = .ok (.iconst 0, 1) := by decide +kernel
theorem dX0_bestWith_1 : decode cX0_bestWith 1 = .ok (.istore 5, 2) := by decide +kernel
theorem dX0_bestWith_3 : decode cX0_bestWith 3 = .ok (.iconst (-1), 1) := by decide +kernel
theorem dX0_bestWith_4 : decode cX0_bestWith 4 = .ok (.istore 6, 2) := by decide +kernel
theorem dX0_bestWith_6 : decode cX0_bestWith 6 = .ok (.iconst (-1), 1) := by decide +kernel
theorem dX0_bestWith_7 : decode cX0_bestWith 7 = .ok (.istore 7, 2) := by decide +kernel
theorem dX0_bestWith_9 : decode cX0_bestWith 9 = .ok (.aload_n 2, 1) := by decide +kernel
theorem dX0_bestWith_10 : decode cX0_bestWith 10 = .ok (.aload_n 1, 1) := by decide +kernel
theorem dX0_bestWith_11 : decode cX0_bestWith 11 = .ok (.getfield 36, 3) := by decide +kernel
theorem dX0_bestWith_14 : decode cX0_bestWith 14 = .ok (.invokevirtual 67, 3) := by decide +kernel
theorem dX0_bestWith_17 : decode cX0_bestWith 17 = .ok (.iconst 1, 1) := by decide +kernel
theorem dX0_bestWith_18 : decode cX0_bestWith 18 = .ok (.istore 8, 2) := by decide +kernel
theorem dX0_bestWith_20 : decode cX0_bestWith 20 = .ok (.iconst 0, 1) := by decide +kernel
theorem dX0_bestWith_21 : decode cX0_bestWith 21 = .ok (.istore 9, 2) := by decide +kernel
theorem dX0_bestWith_23 : decode cX0_bestWith 23 = .ok (.iload 9, 2) := by decide +kernel
theorem dX0_bestWith_25 : decode cX0_bestWith 25 = .ok (.sipush 877, 3) := by decide +kernel
theorem dX0_bestWith_28 : decode cX0_bestWith 28 = .ok (.if_icmp .ge 95, 3) := by decide +kernel
theorem dX0_bestWith_31 : decode cX0_bestWith 31 = .ok (.iload 8, 2) := by decide +kernel
theorem dX0_bestWith_33 : decode cX0_bestWith 33 = .ok (.ifCond .eq 90, 3) := by decide +kernel
theorem dX0_bestWith_36 : decode cX0_bestWith 36 = .ok (.aload_n 2, 1) := by decide +kernel
theorem dX0_bestWith_37 : decode cX0_bestWith 37 = .ok (.getfield 22, 3) := by decide +kernel
theorem dX0_bestWith_40 : decode cX0_bestWith 40 = .ok (.iload_n 3, 1) := by decide +kernel
theorem dX0_bestWith_41 : decode cX0_bestWith 41 = .ok (.if_icmp .ne 12, 3) := by decide +kernel
theorem dX0_bestWith_44 : decode cX0_bestWith 44 = .ok (.aload_n 0, 1) := by decide +kernel
theorem dX0_bestWith_45 : decode cX0_bestWith 45 = .ok (.aload_n 1, 1) := by decide +kernel
theorem dX0_bestWith_46 : decode cX0_bestWith 46 = .ok (.aload_n 2, 1) := by decide +kernel
theorem dX0_bestWith_47 : decode cX0_bestWith 47 = .ok (.invokevirtual 71, 3) := by decide +kernel
theorem dX0_bestWith_50 : decode cX0_bestWith 50 = .ok (.goto 4, 3) := by decide +kernel
theorem dX0_bestWith_53 : decode cX0_bestWith 53 = .ok (.iconst (-1), 1) := by decide +kernel
theorem dX0_bestWith_54 : decode cX0_bestWith 54 = .ok (.istore 10, 2) := by decide +kernel
theorem dX0_bestWith_56 : decode cX0_bestWith 56 = .ok (.iload 10, 2) := by decide +kernel
theorem dX0_bestWith_58 : decode cX0_bestWith 58 = .ok (.ifCond .lt 32, 3) := by decide +kernel
theorem dX0_bestWith_61 : decode cX0_bestWith 61 = .ok (.iload 6, 2) := by decide +kernel
theorem dX0_bestWith_63 : decode cX0_bestWith 63 = .ok (.ifCond .lt 10, 3) := by decide +kernel
theorem dX0_bestWith_66 : decode cX0_bestWith 66 = .ok (.iload 10, 2) := by decide +kernel
theorem dX0_bestWith_68 : decode cX0_bestWith 68 = .ok (.iload 6, 2) := by decide +kernel
theorem dX0_bestWith_70 : decode cX0_bestWith 70 = .ok (.if_icmp .ge 20, 3) := by decide +kernel
theorem dX0_bestWith_73 : decode cX0_bestWith 73 = .ok (.iload 6, 2) := by decide +kernel
theorem dX0_bestWith_75 : decode cX0_bestWith 75 = .ok (.istore 7, 2) := by decide +kernel
theorem dX0_bestWith_77 : decode cX0_bestWith 77 = .ok (.iload 10, 2) := by decide +kernel
theorem dX0_bestWith_79 : decode cX0_bestWith 79 = .ok (.istore 6, 2) := by decide +kernel
theorem dX0_bestWith_81 : decode cX0_bestWith 81 = .ok (.aload_n 2, 1) := by decide +kernel
theorem dX0_bestWith_82 : decode cX0_bestWith 82 = .ok (.invokevirtual 75, 3) := by decide +kernel
theorem dX0_bestWith_85 : decode cX0_bestWith 85 = .ok (.istore 5, 2) := by decide +kernel
theorem dX0_bestWith_87 : decode cX0_bestWith 87 = .ok (.goto 24, 3) := by decide +kernel
theorem dX0_bestWith_90 : decode cX0_bestWith 90 = .ok (.iload 10, 2) := by decide +kernel
theorem dX0_bestWith_92 : decode cX0_bestWith 92 = .ok (.ifCond .lt 19, 3) := by decide +kernel
theorem dX0_bestWith_95 : decode cX0_bestWith 95 = .ok (.iload 7, 2) := by decide +kernel
theorem dX0_bestWith_97 : decode cX0_bestWith 97 = .ok (.ifCond .lt 10, 3) := by decide +kernel
theorem dX0_bestWith_100 : decode cX0_bestWith 100 = .ok (.iload 10, 2) := by decide +kernel
theorem dX0_bestWith_102 : decode cX0_bestWith 102 = .ok (.iload 7, 2) := by decide +kernel
theorem dX0_bestWith_104 : decode cX0_bestWith 104 = .ok (.if_icmp .ge 7, 3) := by decide +kernel
theorem dX0_bestWith_107 : decode cX0_bestWith 107 = .ok (.iload 10, 2) := by decide +kernel
theorem dX0_bestWith_109 : decode cX0_bestWith 109 = .ok (.istore 7, 2) := by decide +kernel
theorem dX0_bestWith_111 : decode cX0_bestWith 111 = .ok (.aload_n 2, 1) := by decide +kernel
theorem dX0_bestWith_112 : decode cX0_bestWith 112 = .ok (.invokevirtual 79, 3) := by decide +kernel
theorem dX0_bestWith_115 : decode cX0_bestWith 115 = .ok (.istore 8, 2) := by decide +kernel
theorem dX0_bestWith_117 : decode cX0_bestWith 117 = .ok (.iinc 9 1, 3) := by decide +kernel
theorem dX0_bestWith_120 : decode cX0_bestWith 120 = .ok (.goto (-97), 3) := by decide +kernel
theorem dX0_bestWith_123 : decode cX0_bestWith 123 = .ok (.iload 4, 2) := by decide +kernel
theorem dX0_bestWith_125 : decode cX0_bestWith 125 = .ok (.ifCond .ne 6, 3) := by decide +kernel
theorem dX0_bestWith_128 : decode cX0_bestWith 128 = .ok (.iload 5, 2) := by decide +kernel
theorem dX0_bestWith_130 : decode cX0_bestWith 130 = .ok (.ireturn, 1) := by decide +kernel
theorem dX0_bestWith_131 : decode cX0_bestWith 131 = .ok (.iload 4, 2) := by decide +kernel
theorem dX0_bestWith_133 : decode cX0_bestWith 133 = .ok (.iconst 1, 1) := by decide +kernel
theorem dX0_bestWith_134 : decode cX0_bestWith 134 = .ok (.if_icmp .ne 6, 3) := by decide +kernel
theorem dX0_bestWith_137 : decode cX0_bestWith 137 = .ok (.iload 6, 2) := by decide +kernel
theorem dX0_bestWith_139 : decode cX0_bestWith 139 = .ok (.ireturn, 1) := by decide +kernel
theorem dX0_bestWith_140 : decode cX0_bestWith 140 = .ok (.iload 7, 2) := by decide +kernel
theorem dX0_bestWith_142 : decode cX0_bestWith 142 = .ok (.ifCond .ge 8, 3) := by decide +kernel
theorem dX0_bestWith_145 : decode cX0_bestWith 145 = .ok (.bipush (-9), 2) := by decide +kernel
theorem dX0_bestWith_147 : decode cX0_bestWith 147 = .ok (.goto 8, 3) := by decide +kernel
theorem dX0_bestWith_150 : decode cX0_bestWith 150 = .ok (.iload 7, 2) := by decide +kernel
theorem dX0_bestWith_152 : decode cX0_bestWith 152 = .ok (.iload 6, 2) := by decide +kernel
theorem dX0_bestWith_154 : decode cX0_bestWith 154 = .ok (.isub, 1) := by decide +kernel
theorem dX0_bestWith_155 : decode cX0_bestWith 155 = .ok (.ireturn, 1) := by decide +kernel
theorem dX9_least_0 : decode cX9_least 0 = .ok (.iload_n 1, 1) := by decide +kernel
theorem dX9_least_1 : decode cX9_least 1 = .ok (.iconst 1, 1) := by decide +kernel
theorem dX9_least_2 : decode cX9_least 2 = .ok (.if_icmp .ge 10, 3) := by decide +kernel
theorem dX9_least_5 : decode cX9_least 5 = .ok (.aload_n 0, 1) := by decide +kernel
theorem dX9_least_6 : decode cX9_least 6 = .ok (.bipush (-4), 2) := by decide +kernel
theorem dX9_least_8 : decode cX9_least 8 = .ok (.invokevirtual 86, 3) := by decide +kernel
theorem dX9_least_11 : decode cX9_least 11 = .ok (.ireturn, 1) := by decide +kernel
theorem dX9_least_12 : decode cX9_least 12 = .ok (.iload_n 1, 1) := by decide +kernel
theorem dX9_least_13 : decode cX9_least 13 = .ok (.aload_n 0, 1) := by decide +kernel
theorem dX9_least_14 : decode cX9_least 14 = .ok (.getfield 12, 3) := by decide +kernel
theorem dX9_least_17 : decode cX9_least 17 = .ok (.getfield 90, 3) := by decide +kernel
theorem dX9_least_20 : decode cX9_least 20 = .ok (.if_icmp .le 10, 3) := by decide +kernel
theorem dX9_least_23 : decode cX9_least 23 = .ok (.aload_n 0, 1) := by decide +kernel
theorem dX9_least_24 : decode cX9_least 24 = .ok (.bipush (-6), 2) := by decide +kernel
theorem dX9_least_26 : decode cX9_least 26 = .ok (.invokevirtual 86, 3) := by decide +kernel
theorem dX9_least_29 : decode cX9_least 29 = .ok (.ireturn, 1) := by decide +kernel
theorem dX9_least_30 : decode cX9_least 30 = .ok (.iload_n 2, 1) := by decide +kernel
theorem dX9_least_31 : decode cX9_least 31 = .ok (.ifCond .lt 8, 3) := by decide +kernel
theorem dX9_least_34 : decode cX9_least 34 = .ok (.iload_n 2, 1) := by decide +kernel
theorem dX9_least_35 : decode cX9_least 35 = .ok (.iconst 2, 1) := by decide +kernel
theorem dX9_least_36 : decode cX9_least 36 = .ok (.if_icmp .le 10, 3) := by decide +kernel
theorem dX9_least_39 : decode cX9_least 39 = .ok (.aload_n 0, 1) := by decide +kernel
theorem dX9_least_40 : decode cX9_least 40 = .ok (.bipush (-2), 2) := by decide +kernel
theorem dX9_least_42 : decode cX9_least 42 = .ok (.invokevirtual 86, 3) := by decide +kernel
theorem dX9_least_45 : decode cX9_least 45 = .ok (.ireturn, 1) := by decide +kernel
theorem dX9_least_46 : decode cX9_least 46 = .ok (.aload_n 0, 1) := by decide +kernel
theorem dX9_least_47 : decode cX9_least 47 = .ok (.aload_n 0, 1) := by decide +kernel
theorem dX9_least_48 : decode cX9_least 48 = .ok (.getfield 113, 3) := by decide +kernel
theorem dX9_least_51 : decode cX9_least 51 = .ok (.invokevirtual 140, 3) := by decide +kernel
theorem dX9_least_54 : decode cX9_least 54 = .ok (.aload_n 0, 1) := by decide +kernel
theorem dX9_least_55 : decode cX9_least 55 = .ok (.getfield 54, 3) := by decide +kernel
theorem dX9_least_58 : decode cX9_least 58 = .ok (.aload_n 0, 1) := by decide +kernel
theorem dX9_least_59 : decode cX9_least 59 = .ok (.getfield 12, 3) := by decide +kernel
theorem dX9_least_62 : decode cX9_least 62 = .ok (.aload_n 0, 1) := by decide +kernel
theorem dX9_least_63 : decode cX9_least 63 = .ok (.getfield 68, 3) := by decide +kernel
theorem dX9_least_66 : decode cX9_least 66 = .ok (.iload_n 1, 1) := by decide +kernel
theorem dX9_least_67 : decode cX9_least 67 = .ok (.iload_n 2, 1) := by decide +kernel
theorem dX9_least_68 : decode cX9_least 68 = .ok (.invokevirtual 217, 3) := by decide +kernel
theorem dX9_least_71 : decode cX9_least 71 = .ok (.ireturn, 1) := by decide +kernel
theorem dX0_gainOf_0 : decode cX0_gainOf 0 = .ok (.aload_n 2, 1) := by decide +kernel
theorem dX0_gainOf_1 : decode cX0_gainOf 1 = .ok (.iload_n 3, 1) := by decide +kernel
theorem dX0_gainOf_2 : decode cX0_gainOf 2 = .ok (.invokevirtual 41, 3) := by decide +kernel
theorem dX0_gainOf_5 : decode cX0_gainOf 5 = .ok (.istore 6, 2) := by decide +kernel
theorem dX0_gainOf_7 : decode cX0_gainOf 7 = .ok (.aload_n 2, 1) := by decide +kernel
theorem dX0_gainOf_8 : decode cX0_gainOf 8 = .ok (.iload 4, 2) := by decide +kernel
theorem dX0_gainOf_10 : decode cX0_gainOf 10 = .ok (.invokevirtual 41, 3) := by decide +kernel
theorem dX0_gainOf_13 : decode cX0_gainOf 13 = .ok (.istore 7, 2) := by decide +kernel
theorem dX0_gainOf_15 : decode cX0_gainOf 15 = .ok (.aload_n 0, 1) := by decide +kernel
theorem dX0_gainOf_16 : decode cX0_gainOf 16 = .ok (.iload 5, 2) := by decide +kernel
theorem dX0_gainOf_18 : decode cX0_gainOf 18 = .ok (.iload 6, 2) := by decide +kernel
theorem dX0_gainOf_20 : decode cX0_gainOf 20 = .ok (.iload 7, 2) := by decide +kernel
theorem dX0_gainOf_22 : decode cX0_gainOf 22 = .ok (.iconst 0, 1) := by decide +kernel
theorem dX0_gainOf_23 : decode cX0_gainOf 23 = .ok (.invokevirtual 28, 3) := by decide +kernel
theorem dX0_gainOf_26 : decode cX0_gainOf 26 = .ok (.aload_n 0, 1) := by decide +kernel
theorem dX0_gainOf_27 : decode cX0_gainOf 27 = .ok (.iload 5, 2) := by decide +kernel
theorem dX0_gainOf_29 : decode cX0_gainOf 29 = .ok (.iload 6, 2) := by decide +kernel
theorem dX0_gainOf_31 : decode cX0_gainOf 31 = .ok (.iload 7, 2) := by decide +kernel
theorem dX0_gainOf_33 : decode cX0_gainOf 33 = .ok (.aload_n 1, 1) := by decide +kernel
theorem dX0_gainOf_34 : decode cX0_gainOf 34 = .ok (.iload 5, 2) := by decide +kernel
theorem dX0_gainOf_36 : decode cX0_gainOf 36 = .ok (.iload_n 3, 1) := by decide +kernel
theorem dX0_gainOf_37 : decode cX0_gainOf 37 = .ok (.iload 4, 2) := by decide +kernel
theorem dX0_gainOf_39 : decode cX0_gainOf 39 = .ok (.invokevirtual 49, 3) := by decide +kernel
theorem dX0_gainOf_42 : decode cX0_gainOf 42 = .ok (.ifCond .eq 7, 3) := by decide +kernel
theorem dX0_gainOf_45 : decode cX0_gainOf 45 = .ok (.iconst (-1), 1) := by decide +kernel
theorem dX0_gainOf_46 : decode cX0_gainOf 46 = .ok (.goto 4, 3) := by decide +kernel
theorem dX0_gainOf_49 : decode cX0_gainOf 49 = .ok (.iconst 1, 1) := by decide +kernel
theorem dX0_gainOf_50 : decode cX0_gainOf 50 = .ok (.invokevirtual 28, 3) := by decide +kernel
theorem dX0_gainOf_53 : decode cX0_gainOf 53 = .ok (.isub, 1) := by decide +kernel
theorem dX0_gainOf_54 : decode cX0_gainOf 54 = .ok (.ireturn, 1) := by decide +kernel
theorem dX0_worstTie_0 : decode cX0_worstTie 0 = .ok (.aload_n 0, 1) := by decide +kernel
theorem dX0_worstTie_1 : decode cX0_worstTie 1 = .ok (.aload_n 1, 1) := by decide +kernel
theorem dX0_worstTie_2 : decode cX0_worstTie 2 = .ok (.aload_n 2, 1) := by decide +kernel
theorem dX0_worstTie_3 : decode cX0_worstTie 3 = .ok (.invokevirtual 18, 3) := by decide +kernel
theorem dX0_worstTie_6 : decode cX0_worstTie 6 = .ok (.bipush (-9), 2) := by decide +kernel
theorem dX0_worstTie_8 : decode cX0_worstTie 8 = .ok (.istore 4, 2) := by decide +kernel
theorem dX0_worstTie_10 : decode cX0_worstTie 10 = .ok (.iconst 0, 1) := by decide +kernel
theorem dX0_worstTie_11 : decode cX0_worstTie 11 = .ok (.istore 5, 2) := by decide +kernel
theorem dX0_worstTie_13 : decode cX0_worstTie 13 = .ok (.iconst 0, 1) := by decide +kernel
theorem dX0_worstTie_14 : decode cX0_worstTie 14 = .ok (.istore 6, 2) := by decide +kernel
theorem dX0_worstTie_16 : decode cX0_worstTie 16 = .ok (.iload 6, 2) := by decide +kernel
theorem dX0_worstTie_18 : decode cX0_worstTie 18 = .ok (.aload_n 1, 1) := by decide +kernel
theorem dX0_worstTie_19 : decode cX0_worstTie 19 = .ok (.getfield 36, 3) := by decide +kernel
theorem dX0_worstTie_22 : decode cX0_worstTie 22 = .ok (.if_icmp .ge 95, 3) := by decide +kernel
theorem dX0_worstTie_25 : decode cX0_worstTie 25 = .ok (.iconst 0, 1) := by decide +kernel
theorem dX0_worstTie_26 : decode cX0_worstTie 26 = .ok (.istore 7, 2) := by decide +kernel
theorem dX0_worstTie_28 : decode cX0_worstTie 28 = .ok (.iload 7, 2) := by decide +kernel
theorem dX0_worstTie_30 : decode cX0_worstTie 30 = .ok (.aload_n 1, 1) := by decide +kernel
theorem dX0_worstTie_31 : decode cX0_worstTie 31 = .ok (.getfield 36, 3) := by decide +kernel
theorem dX0_worstTie_34 : decode cX0_worstTie 34 = .ok (.if_icmp .ge 77, 3) := by decide +kernel
theorem dX0_worstTie_37 : decode cX0_worstTie 37 = .ok (.iconst 0, 1) := by decide +kernel
theorem dX0_worstTie_38 : decode cX0_worstTie 38 = .ok (.istore 8, 2) := by decide +kernel
theorem dX0_worstTie_40 : decode cX0_worstTie 40 = .ok (.iload 6, 2) := by decide +kernel
theorem dX0_worstTie_42 : decode cX0_worstTie 42 = .ok (.iload 7, 2) := by decide +kernel
theorem dX0_worstTie_44 : decode cX0_worstTie 44 = .ok (.if_icmp .eq 61, 3) := by decide +kernel
theorem dX0_worstTie_47 : decode cX0_worstTie 47 = .ok (.iload 8, 2) := by decide +kernel
theorem dX0_worstTie_49 : decode cX0_worstTie 49 = .ok (.iconst 3, 1) := by decide +kernel
theorem dX0_worstTie_50 : decode cX0_worstTie 50 = .ok (.if_icmp .ge 55, 3) := by decide +kernel
theorem dX0_worstTie_53 : decode cX0_worstTie 53 = .ok (.aload_n 0, 1) := by decide +kernel
theorem dX0_worstTie_54 : decode cX0_worstTie 54 = .ok (.aload_n 1, 1) := by decide +kernel
theorem dX0_worstTie_55 : decode cX0_worstTie 55 = .ok (.aload_n 2, 1) := by decide +kernel
theorem dX0_worstTie_56 : decode cX0_worstTie 56 = .ok (.iload 6, 2) := by decide +kernel
theorem dX0_worstTie_58 : decode cX0_worstTie 58 = .ok (.iload 7, 2) := by decide +kernel
theorem dX0_worstTie_60 : decode cX0_worstTie 60 = .ok (.iload 8, 2) := by decide +kernel
theorem dX0_worstTie_62 : decode cX0_worstTie 62 = .ok (.invokevirtual 83, 3) := by decide +kernel
theorem dX0_worstTie_65 : decode cX0_worstTie 65 = .ok (.istore 9, 2) := by decide +kernel
theorem dX0_worstTie_67 : decode cX0_worstTie 67 = .ok (.iload 4, 2) := by decide +kernel
theorem dX0_worstTie_69 : decode cX0_worstTie 69 = .ok (.ifCond .lt 10, 3) := by decide +kernel
theorem dX0_worstTie_72 : decode cX0_worstTie 72 = .ok (.iload 9, 2) := by decide +kernel
theorem dX0_worstTie_74 : decode cX0_worstTie 74 = .ok (.iload 5, 2) := by decide +kernel
theorem dX0_worstTie_76 : decode cX0_worstTie 76 = .ok (.if_icmp .le 23, 3) := by decide +kernel
theorem dX0_worstTie_79 : decode cX0_worstTie 79 = .ok (.bipush 100, 2) := by decide +kernel
theorem dX0_worstTie_81 : decode cX0_worstTie 81 = .ok (.iload 6, 2) := by decide +kernel
theorem dX0_worstTie_83 : decode cX0_worstTie 83 = .ok (.imul, 1) := by decide +kernel
theorem dX0_worstTie_84 : decode cX0_worstTie 84 = .ok (.bipush 10, 2) := by decide +kernel
theorem dX0_worstTie_86 : decode cX0_worstTie 86 = .ok (.iload 7, 2) := by decide +kernel
theorem dX0_worstTie_88 : decode cX0_worstTie 88 = .ok (.imul, 1) := by decide +kernel
theorem dX0_worstTie_89 : decode cX0_worstTie 89 = .ok (.iadd, 1) := by decide +kernel
theorem dX0_worstTie_90 : decode cX0_worstTie 90 = .ok (.iload 8, 2) := by decide +kernel
theorem dX0_worstTie_92 : decode cX0_worstTie 92 = .ok (.iadd, 1) := by decide +kernel
theorem dX0_worstTie_93 : decode cX0_worstTie 93 = .ok (.istore 4, 2) := by decide +kernel
theorem dX0_worstTie_95 : decode cX0_worstTie 95 = .ok (.iload 9, 2) := by decide +kernel
theorem dX0_worstTie_97 : decode cX0_worstTie 97 = .ok (.istore 5, 2) := by decide +kernel
theorem dX0_worstTie_99 : decode cX0_worstTie 99 = .ok (.iinc 8 1, 3) := by decide +kernel
theorem dX0_worstTie_102 : decode cX0_worstTie 102 = .ok (.goto (-62), 3) := by decide +kernel
theorem dX0_worstTie_105 : decode cX0_worstTie 105 = .ok (.iinc 7 1, 3) := by decide +kernel
theorem dX0_worstTie_108 : decode cX0_worstTie 108 = .ok (.goto (-80), 3) := by decide +kernel
theorem dX0_worstTie_111 : decode cX0_worstTie 111 = .ok (.iinc 6 1, 3) := by decide +kernel
theorem dX0_worstTie_114 : decode cX0_worstTie 114 = .ok (.goto (-98), 3) := by decide +kernel
theorem dX0_worstTie_117 : decode cX0_worstTie 117 = .ok (.iload_n 3, 1) := by decide +kernel
theorem dX0_worstTie_118 : decode cX0_worstTie 118 = .ok (.ifCond .eq 8, 3) := by decide +kernel
theorem dX0_worstTie_121 : decode cX0_worstTie 121 = .ok (.iload 4, 2) := by decide +kernel
theorem dX0_worstTie_123 : decode cX0_worstTie 123 = .ok (.goto 5, 3) := by decide +kernel
theorem dX0_worstTie_126 : decode cX0_worstTie 126 = .ok (.iload 5, 2) := by decide +kernel
theorem dX0_worstTie_128 : decode cX0_worstTie 128 = .ok (.ireturn, 1) := by decide +kernel
theorem dX9_spoils_0 : decode cX9_spoils 0 = .ok (.aload_n 0, 1) := by decide +kernel
theorem dX9_spoils_1 : decode cX9_spoils 1 = .ok (.getfield 68, 3) := by decide +kernel
theorem dX9_spoils_4 : decode cX9_spoils 4 = .ok (.iload_n 1, 1) := by decide +kernel
theorem dX9_spoils_5 : decode cX9_spoils 5 = .ok (.aload_n 0, 1) := by decide +kernel
theorem dX9_spoils_6 : decode cX9_spoils 6 = .ok (.getfield 12, 3) := by decide +kernel
theorem dX9_spoils_9 : decode cX9_spoils 9 = .ok (.getfield 90, 3) := by decide +kernel
theorem dX9_spoils_12 : decode cX9_spoils 12 = .ok (.invokevirtual 151, 3) := by decide +kernel
theorem dX9_spoils_15 : decode cX9_spoils 15 = .ok (.ifCond .ne 12, 3) := by decide +kernel
theorem dX9_spoils_18 : decode cX9_spoils 18 = .ok (.ldc 221, 2) := by decide +kernel
theorem dX9_spoils_20 : decode cX9_spoils 20 = .ok (.aload_n 0, 1) := by decide +kernel
theorem dX9_spoils_21 : decode cX9_spoils 21 = .ok (.iconst (-1), 1) := by decide +kernel
theorem dX9_spoils_22 : decode cX9_spoils 22 = .ok (.invokevirtual 86, 3) := by decide +kernel
theorem dX9_spoils_25 : decode cX9_spoils 25 = .ok (.isub, 1) := by decide +kernel
theorem dX9_spoils_26 : decode cX9_spoils 26 = .ok (.ireturn, 1) := by decide +kernel
theorem dX9_spoils_27 : decode cX9_spoils 27 = .ok (.iload_n 2, 1) := by decide +kernel
theorem dX9_spoils_28 : decode cX9_spoils 28 = .ok (.ifCond .lt 8, 3) := by decide +kernel
theorem dX9_spoils_31 : decode cX9_spoils 31 = .ok (.iload_n 2, 1) := by decide +kernel
theorem dX9_spoils_32 : decode cX9_spoils 32 = .ok (.iconst 1, 1) := by decide +kernel
theorem dX9_spoils_33 : decode cX9_spoils 33 = .ok (.if_icmp .le 13, 3) := by decide +kernel
theorem dX9_spoils_36 : decode cX9_spoils 36 = .ok (.ldc 221, 2) := by decide +kernel
theorem dX9_spoils_38 : decode cX9_spoils 38 = .ok (.aload_n 0, 1) := by decide +kernel
theorem dX9_spoils_39 : decode cX9_spoils 39 = .ok (.bipush (-2), 2) := by decide +kernel
theorem dX9_spoils_41 : decode cX9_spoils 41 = .ok (.invokevirtual 86, 3) := by decide +kernel
theorem dX9_spoils_44 : decode cX9_spoils 44 = .ok (.isub, 1) := by decide +kernel
theorem dX9_spoils_45 : decode cX9_spoils 45 = .ok (.ireturn, 1) := by decide +kernel
theorem dX9_spoils_46 : decode cX9_spoils 46 = .ok (.aload_n 0, 1) := by decide +kernel
theorem dX9_spoils_47 : decode cX9_spoils 47 = .ok (.getfield 12, 3) := by decide +kernel
theorem dX9_spoils_50 : decode cX9_spoils 50 = .ok (.getfield 90, 3) := by decide +kernel
theorem dX9_spoils_53 : decode cX9_spoils 53 = .ok (.iconst 2, 1) := by decide +kernel
theorem dX9_spoils_54 : decode cX9_spoils 54 = .ok (.if_icmp .ge 22, 3) := by decide +kernel
theorem dX9_spoils_57 : decode cX9_spoils 57 = .ok (.iload_n 2, 1) := by decide +kernel
theorem dX9_spoils_58 : decode cX9_spoils 58 = .ok (.ifCond .ne 8, 3) := by decide +kernel
theorem dX9_spoils_61 : decode cX9_spoils 61 = .ok (.bipush (-9), 2) := by decide +kernel
theorem dX9_spoils_63 : decode cX9_spoils 63 = .ok (.goto 12, 3) := by decide +kernel
theorem dX9_spoils_66 : decode cX9_spoils 66 = .ok (.ldc 221, 2) := by decide +kernel
theorem dX9_spoils_68 : decode cX9_spoils 68 = .ok (.aload_n 0, 1) := by decide +kernel
theorem dX9_spoils_69 : decode cX9_spoils 69 = .ok (.bipush (-3), 2) := by decide +kernel
theorem dX9_spoils_71 : decode cX9_spoils 71 = .ok (.invokevirtual 86, 3) := by decide +kernel
theorem dX9_spoils_74 : decode cX9_spoils 74 = .ok (.isub, 1) := by decide +kernel
theorem dX9_spoils_75 : decode cX9_spoils 75 = .ok (.ireturn, 1) := by decide +kernel
theorem dX9_spoils_76 : decode cX9_spoils 76 = .ok (.aload_n 0, 1) := by decide +kernel
theorem dX9_spoils_77 : decode cX9_spoils 77 = .ok (.aload_n 0, 1) := by decide +kernel
theorem dX9_spoils_78 : decode cX9_spoils 78 = .ok (.getfield 113, 3) := by decide +kernel
theorem dX9_spoils_81 : decode cX9_spoils 81 = .ok (.invokevirtual 140, 3) := by decide +kernel
theorem dX9_spoils_84 : decode cX9_spoils 84 = .ok (.aload_n 0, 1) := by decide +kernel
theorem dX9_spoils_85 : decode cX9_spoils 85 = .ok (.getfield 54, 3) := by decide +kernel
theorem dX9_spoils_88 : decode cX9_spoils 88 = .ok (.aload_n 0, 1) := by decide +kernel
theorem dX9_spoils_89 : decode cX9_spoils 89 = .ok (.getfield 12, 3) := by decide +kernel
theorem dX9_spoils_92 : decode cX9_spoils 92 = .ok (.aload_n 0, 1) := by decide +kernel
theorem dX9_spoils_93 : decode cX9_spoils 93 = .ok (.getfield 68, 3) := by decide +kernel
theorem dX9_spoils_96 : decode cX9_spoils 96 = .ok (.iload_n 2, 1) := by decide +kernel
theorem dX9_spoils_97 : decode cX9_spoils 97 = .ok (.ifCond .ne 7, 3) := by decide +kernel
theorem dX9_spoils_100 : decode cX9_spoils 100 = .ok (.iconst 1, 1) := by decide +kernel
theorem dX9_spoils_101 : decode cX9_spoils 101 = .ok (.goto 4, 3) := by decide +kernel
theorem dX9_spoils_104 : decode cX9_spoils 104 = .ok (.iconst 0, 1) := by decide +kernel
theorem dX9_spoils_105 : decode cX9_spoils 105 = .ok (.invokevirtual 222, 3) := by decide +kernel
theorem dX9_spoils_108 : decode cX9_spoils 108 = .ok (.ireturn, 1) := by decide +kernel
theorem dX2_append_0 : decode cX2_append 0 = .ok (.aload_n 0, 1) := by decide +kernel
theorem dX2_append_1 : decode cX2_append 1 = .ok (.getfield 9, 3) := by decide +kernel
theorem dX2_append_4 : decode cX2_append 4 = .ok (.aload_n 0, 1) := by decide +kernel
theorem dX2_append_5 : decode cX2_append 5 = .ok (.getfield 21, 3) := by decide +kernel
theorem dX2_append_8 : decode cX2_append 8 = .ok (.iload_n 1, 1) := by decide +kernel
theorem dX2_append_9 : decode cX2_append 9 = .ok (.invokestatic 25, 3) := by decide +kernel
theorem dX2_append_12 : decode cX2_append 12 = .ok (.aload_n 0, 1) := by decide +kernel
theorem dX2_append_13 : decode cX2_append 13 = .ok (.getfield 15, 3) := by decide +kernel
theorem dX2_append_16 : decode cX2_append 16 = .ok (.aload_n 0, 1) := by decide +kernel
theorem dX2_append_17 : decode cX2_append 17 = .ok (.getfield 21, 3) := by decide +kernel
theorem dX2_append_20 : decode cX2_append 20 = .ok (.iload_n 2, 1) := by decide +kernel
theorem dX2_append_21 : decode cX2_append 21 = .ok (.invokestatic 25, 3) := by decide +kernel
theorem dX2_append_24 : decode cX2_append 24 = .ok (.aload_n 0, 1) := by decide +kernel
theorem dX2_append_25 : decode cX2_append 25 = .ok (.getfield 18, 3) := by decide +kernel
theorem dX2_append_28 : decode cX2_append 28 = .ok (.aload_n 0, 1) := by decide +kernel
theorem dX2_append_29 : decode cX2_append 29 = .ok (.getfield 21, 3) := by decide +kernel
theorem dX2_append_32 : decode cX2_append 32 = .ok (.iload_n 3, 1) := by decide +kernel
theorem dX2_append_33 : decode cX2_append 33 = .ok (.ifCond .eq 7, 3) := by decide +kernel
theorem dX2_append_36 : decode cX2_append 36 = .ok (.iconst 1, 1) := by decide +kernel
theorem dX2_append_37 : decode cX2_append 37 = .ok (.goto 4, 3) := by decide +kernel
theorem dX2_append_40 : decode cX2_append 40 = .ok (.iconst 0, 1) := by decide +kernel
theorem dX2_append_41 : decode cX2_append 41 = .ok (.invokestatic 25, 3) := by decide +kernel
theorem dX2_append_44 : decode cX2_append 44 = .ok (.aload_n 0, 1) := by decide +kernel
theorem dX2_append_45 : decode cX2_append 45 = .ok (.dup, 1) := by decide +kernel
theorem dX2_append_46 : decode cX2_append 46 = .ok (.getfield 21, 3) := by decide +kernel
theorem dX2_append_49 : decode cX2_append 49 = .ok (.iconst 1, 1) := by decide +kernel
theorem dX2_append_50 : decode cX2_append 50 = .ok (.iadd, 1) := by decide +kernel
theorem dX2_append_51 : decode cX2_append 51 = .ok (.putfield 21, 3) := by decide +kernel
theorem dX2_append_54 : decode cX2_append 54 = .ok (.return_, 1) := by decide +kernel
theorem dX9_newcomer_0 : decode cX9_newcomer 0 = .ok (.iload_n 1, 1) := by decide +kernel
theorem dX9_newcomer_1 : decode cX9_newcomer 1 = .ok (.invokestatic 137, 3) := by decide +kernel
theorem dX9_newcomer_4 : decode cX9_newcomer 4 = .ok (.ifCond .eq 14, 3) := by decide +kernel
theorem dX9_newcomer_7 : decode cX9_newcomer 7 = .ok (.aload_n 0, 1) := by decide +kernel
theorem dX9_newcomer_8 : decode cX9_newcomer 8 = .ok (.getfield 12, 3) := by decide +kernel
theorem dX9_newcomer_11 : decode cX9_newcomer 11 = .ok (.iload_n 2, 1) := by decide +kernel
theorem dX9_newcomer_12 : decode cX9_newcomer 12 = .ok (.invokevirtual 98, 3) := by decide +kernel
theorem dX9_newcomer_15 : decode cX9_newcomer 15 = .ok (.ifCond .ne 9, 3) := by decide +kernel
theorem dX9_newcomer_18 : decode cX9_newcomer 18 = .ok (.aload_n 0, 1) := by decide +kernel
theorem dX9_newcomer_19 : decode cX9_newcomer 19 = .ok (.iconst (-1), 1) := by decide +kernel
theorem dX9_newcomer_20 : decode cX9_newcomer 20 = .ok (.invokevirtual 86, 3) := by decide +kernel
theorem dX9_newcomer_23 : decode cX9_newcomer 23 = .ok (.ireturn, 1) := by decide +kernel
theorem dX9_newcomer_24 : decode cX9_newcomer 24 = .ok (.aload_n 0, 1) := by decide +kernel
theorem dX9_newcomer_25 : decode cX9_newcomer 25 = .ok (.getfield 33, 3) := by decide +kernel
theorem dX9_newcomer_28 : decode cX9_newcomer 28 = .ok (.getfield 97, 3) := by decide +kernel
theorem dX9_newcomer_31 : decode cX9_newcomer 31 = .ok (.bipush 6, 2) := by decide +kernel
theorem dX9_newcomer_33 : decode cX9_newcomer 33 = .ok (.if_icmp .lt 10, 3) := by decide +kernel
theorem dX9_newcomer_36 : decode cX9_newcomer 36 = .ok (.aload_n 0, 1) := by decide +kernel
theorem dX9_newcomer_37 : decode cX9_newcomer 37 = .ok (.bipush (-6), 2) := by decide +kernel
theorem dX9_newcomer_39 : decode cX9_newcomer 39 = .ok (.invokevirtual 86, 3) := by decide +kernel
theorem dX9_newcomer_42 : decode cX9_newcomer 42 = .ok (.ireturn, 1) := by decide +kernel
theorem dX9_newcomer_43 : decode cX9_newcomer 43 = .ok (.aload_n 0, 1) := by decide +kernel
theorem dX9_newcomer_44 : decode cX9_newcomer 44 = .ok (.getfield 33, 3) := by decide +kernel
theorem dX9_newcomer_47 : decode cX9_newcomer 47 = .ok (.iload_n 1, 1) := by decide +kernel
theorem dX9_newcomer_48 : decode cX9_newcomer 48 = .ok (.iload_n 2, 1) := by decide +kernel
theorem dX9_newcomer_49 : decode cX9_newcomer 49 = .ok (.iload_n 3, 1) := by decide +kernel
theorem dX9_newcomer_50 : decode cX9_newcomer 50 = .ok (.invokevirtual 226, 3) := by decide +kernel
theorem dX9_newcomer_53 : decode cX9_newcomer 53 = .ok (.aload_n 0, 1) := by decide +kernel
theorem dX9_newcomer_54 : decode cX9_newcomer 54 = .ok (.getfield 33, 3) := by decide +kernel
theorem dX9_newcomer_57 : decode cX9_newcomer 57 = .ok (.getfield 97, 3) := by decide +kernel
theorem dX9_newcomer_60 : decode cX9_newcomer 60 = .ok (.ireturn, 1) := by decide +kernel
theorem dX2_hasSuchTie_0 : decode cX2_hasSuchTie 0 = .ok (.aload_n 2, 1) := by decide +kernel
theorem dX2_hasSuchTie_1 : decode cX2_hasSuchTie 1 = .ok (.aload_n 0, 1) := by decide +kernel
theorem dX2_hasSuchTie_2 : decode cX2_hasSuchTie 2 = .ok (.getfield 15, 3) := by decide +kernel
theorem dX2_hasSuchTie_5 : decode cX2_hasSuchTie 5 = .ok (.iload 4, 2) := by decide +kernel
theorem dX2_hasSuchTie_7 : decode cX2_hasSuchTie 7 = .ok (.invokestatic 38, 3) := by decide +kernel
theorem dX2_hasSuchTie_10 : decode cX2_hasSuchTie 10 = .ok (.invokevirtual 42, 3) := by decide +kernel
theorem dX2_hasSuchTie_13 : decode cX2_hasSuchTie 13 = .ok (.istore 5, 2) := by decide +kernel
theorem dX2_hasSuchTie_15 : decode cX2_hasSuchTie 15 = .ok (.aload_n 0, 1) := by decide +kernel
theorem dX2_hasSuchTie_16 : decode cX2_hasSuchTie 16 = .ok (.getfield 18, 3) := by decide +kernel
theorem dX2_hasSuchTie_19 : decode cX2_hasSuchTie 19 = .ok (.iload 4, 2) := by decide +kernel
theorem dX2_hasSuchTie_21 : decode cX2_hasSuchTie 21 = .ok (.invokestatic 38, 3) := by decide +kernel
theorem dX2_hasSuchTie_24 : decode cX2_hasSuchTie 24 = .ok (.iconst 1, 1) := by decide +kernel
theorem dX2_hasSuchTie_25 : decode cX2_hasSuchTie 25 = .ok (.if_icmp .ne 7, 3) := by decide +kernel
theorem dX2_hasSuchTie_28 : decode cX2_hasSuchTie 28 = .ok (.iconst 1, 1) := by decide +kernel
theorem dX2_hasSuchTie_29 : decode cX2_hasSuchTie 29 = .ok (.goto 4, 3) := by decide +kernel
theorem dX2_hasSuchTie_32 : decode cX2_hasSuchTie 32 = .ok (.iconst 0, 1) := by decide +kernel
theorem dX2_hasSuchTie_33 : decode cX2_hasSuchTie 33 = .ok (.istore 6, 2) := by decide +kernel
theorem dX2_hasSuchTie_35 : decode cX2_hasSuchTie 35 = .ok (.iconst 0, 1) := by decide +kernel
theorem dX2_hasSuchTie_36 : decode cX2_hasSuchTie 36 = .ok (.istore 7, 2) := by decide +kernel
theorem dX2_hasSuchTie_38 : decode cX2_hasSuchTie 38 = .ok (.iload 7, 2) := by decide +kernel
theorem dX2_hasSuchTie_40 : decode cX2_hasSuchTie 40 = .ok (.aload_n 1, 1) := by decide +kernel
theorem dX2_hasSuchTie_41 : decode cX2_hasSuchTie 41 = .ok (.getfield 46, 3) := by decide +kernel
theorem dX2_hasSuchTie_44 : decode cX2_hasSuchTie 44 = .ok (.if_icmp .ge 110, 3) := by decide +kernel
theorem dX2_hasSuchTie_47 : decode cX2_hasSuchTie 47 = .ok (.iconst 0, 1) := by decide +kernel
theorem dX2_hasSuchTie_48 : decode cX2_hasSuchTie 48 = .ok (.istore 8, 2) := by decide +kernel
theorem dX2_hasSuchTie_50 : decode cX2_hasSuchTie 50 = .ok (.iload 8, 2) := by decide +kernel
theorem dX2_hasSuchTie_52 : decode cX2_hasSuchTie 52 = .ok (.aload_n 1, 1) := by decide +kernel
theorem dX2_hasSuchTie_53 : decode cX2_hasSuchTie 53 = .ok (.getfield 46, 3) := by decide +kernel
theorem dX2_hasSuchTie_56 : decode cX2_hasSuchTie 56 = .ok (.if_icmp .ge 92, 3) := by decide +kernel
theorem dX2_hasSuchTie_59 : decode cX2_hasSuchTie 59 = .ok (.aload_n 2, 1) := by decide +kernel
theorem dX2_hasSuchTie_60 : decode cX2_hasSuchTie 60 = .ok (.iload 7, 2) := by decide +kernel
theorem dX2_hasSuchTie_62 : decode cX2_hasSuchTie 62 = .ok (.invokevirtual 42, 3) := by decide +kernel
theorem dX2_hasSuchTie_65 : decode cX2_hasSuchTie 65 = .ok (.iload_n 3, 1) := by decide +kernel
theorem dX2_hasSuchTie_66 : decode cX2_hasSuchTie 66 = .ok (.if_icmp .ne 18, 3) := by decide +kernel
theorem dX2_hasSuchTie_69 : decode cX2_hasSuchTie 69 = .ok (.aload_n 2, 1) := by decide +kernel
theorem dX2_hasSuchTie_70 : decode cX2_hasSuchTie 70 = .ok (.iload 8, 2) := by decide +kernel
theorem dX2_hasSuchTie_72 : decode cX2_hasSuchTie 72 = .ok (.invokevirtual 42, 3) := by decide +kernel
theorem dX2_hasSuchTie_75 : decode cX2_hasSuchTie 75 = .ok (.iload 5, 2) := by decide +kernel
theorem dX2_hasSuchTie_77 : decode cX2_hasSuchTie 77 = .ok (.if_icmp .ne 7, 3) := by decide +kernel
theorem dX2_hasSuchTie_80 : decode cX2_hasSuchTie 80 = .ok (.iconst 1, 1) := by decide +kernel
theorem dX2_hasSuchTie_81 : decode cX2_hasSuchTie 81 = .ok (.goto 4, 3) := by decide +kernel
theorem dX2_hasSuchTie_84 : decode cX2_hasSuchTie 84 = .ok (.iconst 0, 1) := by decide +kernel
theorem dX2_hasSuchTie_85 : decode cX2_hasSuchTie 85 = .ok (.istore 9, 2) := by decide +kernel
theorem dX2_hasSuchTie_87 : decode cX2_hasSuchTie 87 = .ok (.iload 9, 2) := by decide +kernel
theorem dX2_hasSuchTie_89 : decode cX2_hasSuchTie 89 = .ok (.ifCond .eq 53, 3) := by decide +kernel
theorem dX2_hasSuchTie_92 : decode cX2_hasSuchTie 92 = .ok (.iload 6, 2) := by decide +kernel
theorem dX2_hasSuchTie_94 : decode cX2_hasSuchTie 94 = .ok (.ifCond .eq 26, 3) := by decide +kernel
theorem dX2_hasSuchTie_97 : decode cX2_hasSuchTie 97 = .ok (.aload_n 1, 1) := by decide +kernel
theorem dX2_hasSuchTie_98 : decode cX2_hasSuchTie 98 = .ok (.aload_n 0, 1) := by decide +kernel
theorem dX2_hasSuchTie_99 : decode cX2_hasSuchTie 99 = .ok (.getfield 9, 3) := by decide +kernel
theorem dX2_hasSuchTie_102 : decode cX2_hasSuchTie 102 = .ok (.iload 4, 2) := by decide +kernel
theorem dX2_hasSuchTie_104 : decode cX2_hasSuchTie 104 = .ok (.invokestatic 38, 3) := by decide +kernel
theorem dX2_hasSuchTie_107 : decode cX2_hasSuchTie 107 = .ok (.iload 7, 2) := by decide +kernel
theorem dX2_hasSuchTie_109 : decode cX2_hasSuchTie 109 = .ok (.iload 8, 2) := by decide +kernel
theorem dX2_hasSuchTie_111 : decode cX2_hasSuchTie 111 = .ok (.invokevirtual 49, 3) := by decide +kernel
theorem dX2_hasSuchTie_114 : decode cX2_hasSuchTie 114 = .ok (.ifCond .eq 28, 3) := by decide +kernel
theorem dX2_hasSuchTie_117 : decode cX2_hasSuchTie 117 = .ok (.goto 23, 3) := by decide +kernel
theorem dX2_hasSuchTie_120 : decode cX2_hasSuchTie 120 = .ok (.aload_n 1, 1) := by decide +kernel
theorem dX2_hasSuchTie_121 : decode cX2_hasSuchTie 121 = .ok (.aload_n 0, 1) := by decide +kernel
theorem dX2_hasSuchTie_122 : decode cX2_hasSuchTie 122 = .ok (.getfield 9, 3) := by decide +kernel
theorem dX2_hasSuchTie_125 : decode cX2_hasSuchTie 125 = .ok (.iload 4, 2) := by decide +kernel
theorem dX2_hasSuchTie_127 : decode cX2_hasSuchTie 127 = .ok (.invokestatic 38, 3) := by decide +kernel
theorem dX2_hasSuchTie_130 : decode cX2_hasSuchTie 130 = .ok (.iload 8, 2) := by decide +kernel
theorem dX2_hasSuchTie_132 : decode cX2_hasSuchTie 132 = .ok (.iload 7, 2) := by decide +kernel
theorem dX2_hasSuchTie_134 : decode cX2_hasSuchTie 134 = .ok (.invokevirtual 49, 3) := by decide +kernel
theorem dX2_hasSuchTie_137 : decode cX2_hasSuchTie 137 = .ok (.ifCond .eq 5, 3) := by decide +kernel
theorem dX2_hasSuchTie_140 : decode cX2_hasSuchTie 140 = .ok (.iconst 1, 1) := by decide +kernel
theorem dX2_hasSuchTie_141 : decode cX2_hasSuchTie 141 = .ok (.ireturn, 1) := by decide +kernel
theorem dX2_hasSuchTie_142 : decode cX2_hasSuchTie 142 = .ok (.iinc 8 1, 3) := by decide +kernel
theorem dX2_hasSuchTie_145 : decode cX2_hasSuchTie 145 = .ok (.goto (-95), 3) := by decide +kernel
theorem dX2_hasSuchTie_148 : decode cX2_hasSuchTie 148 = .ok (.iinc 7 1, 3) := by decide +kernel
theorem dX2_hasSuchTie_151 : decode cX2_hasSuchTie 151 = .ok (.goto (-113), 3) := by decide +kernel
theorem dX2_hasSuchTie_154 : decode cX2_hasSuchTie 154 = .ok (.iconst 0, 1) := by decide +kernel
theorem dX2_hasSuchTie_155 : decode cX2_hasSuchTie 155 = .ok (.ireturn, 1) := by decide +kernel
theorem dX2_suitingParts_0 : decode cX2_suitingParts 0 = .ok (.iconst 0, 1) := by decide +kernel
theorem dX2_suitingParts_1 : decode cX2_suitingParts 1 = .ok (.istore_n 3, 1) := by decide +kernel
theorem dX2_suitingParts_2 : decode cX2_suitingParts 2 = .ok (.iconst 0, 1) := by decide +kernel
theorem dX2_suitingParts_3 : decode cX2_suitingParts 3 = .ok (.istore 4, 2) := by decide +kernel
theorem dX2_suitingParts_5 : decode cX2_suitingParts 5 = .ok (.iload 4, 2) := by decide +kernel
theorem dX2_suitingParts_7 : decode cX2_suitingParts 7 = .ok (.aload_n 2, 1) := by decide +kernel
theorem dX2_suitingParts_8 : decode cX2_suitingParts 8 = .ok (.getfield 29, 3) := by decide +kernel
theorem dX2_suitingParts_11 : decode cX2_suitingParts 11 = .ok (.if_icmp .ge 59, 3) := by decide +kernel
theorem dX2_suitingParts_14 : decode cX2_suitingParts 14 = .ok (.iconst 1, 1) := by decide +kernel
theorem dX2_suitingParts_15 : decode cX2_suitingParts 15 = .ok (.istore 5, 2) := by decide +kernel
theorem dX2_suitingParts_17 : decode cX2_suitingParts 17 = .ok (.iconst 0, 1) := by decide +kernel
theorem dX2_suitingParts_18 : decode cX2_suitingParts 18 = .ok (.istore 6, 2) := by decide +kernel
theorem dX2_suitingParts_20 : decode cX2_suitingParts 20 = .ok (.iload 6, 2) := by decide +kernel
theorem dX2_suitingParts_22 : decode cX2_suitingParts 22 = .ok (.aload_n 0, 1) := by decide +kernel
theorem dX2_suitingParts_23 : decode cX2_suitingParts 23 = .ok (.getfield 21, 3) := by decide +kernel
theorem dX2_suitingParts_26 : decode cX2_suitingParts 26 = .ok (.if_icmp .ge 26, 3) := by decide +kernel
theorem dX2_suitingParts_29 : decode cX2_suitingParts 29 = .ok (.iload 5, 2) := by decide +kernel
theorem dX2_suitingParts_31 : decode cX2_suitingParts 31 = .ok (.ifCond .eq 21, 3) := by decide +kernel
theorem dX2_suitingParts_34 : decode cX2_suitingParts 34 = .ok (.aload_n 0, 1) := by decide +kernel
theorem dX2_suitingParts_35 : decode cX2_suitingParts 35 = .ok (.aload_n 1, 1) := by decide +kernel
theorem dX2_suitingParts_36 : decode cX2_suitingParts 36 = .ok (.aload_n 2, 1) := by decide +kernel
theorem dX2_suitingParts_37 : decode cX2_suitingParts 37 = .ok (.iload 4, 2) := by decide +kernel
theorem dX2_suitingParts_39 : decode cX2_suitingParts 39 = .ok (.iload 6, 2) := by decide +kernel
theorem dX2_suitingParts_41 : decode cX2_suitingParts 41 = .ok (.invokevirtual 34, 3) := by decide +kernel
theorem dX2_suitingParts_44 : decode cX2_suitingParts 44 = .ok (.istore 5, 2) := by decide +kernel
theorem dX2_suitingParts_46 : decode cX2_suitingParts 46 = .ok (.iinc 6 1, 3) := by decide +kernel
theorem dX2_suitingParts_49 : decode cX2_suitingParts 49 = .ok (.goto (-29), 3) := by decide +kernel
theorem dX2_suitingParts_52 : decode cX2_suitingParts 52 = .ok (.iload 5, 2) := by decide +kernel
theorem dX2_suitingParts_54 : decode cX2_suitingParts 54 = .ok (.ifCond .eq 10, 3) := by decide +kernel
theorem dX2_suitingParts_57 : decode cX2_suitingParts 57 = .ok (.iload_n 3, 1) := by decide +kernel
theorem dX2_suitingParts_58 : decode cX2_suitingParts 58 = .ok (.iconst 1, 1) := by decide +kernel
theorem dX2_suitingParts_59 : decode cX2_suitingParts 59 = .ok (.iload 4, 2) := by decide +kernel
theorem dX2_suitingParts_61 : decode cX2_suitingParts 61 = .ok (.ishl, 1) := by decide +kernel
theorem dX2_suitingParts_62 : decode cX2_suitingParts 62 = .ok (.ior, 1) := by decide +kernel
theorem dX2_suitingParts_63 : decode cX2_suitingParts 63 = .ok (.istore_n 3, 1) := by decide +kernel
theorem dX2_suitingParts_64 : decode cX2_suitingParts 64 = .ok (.iinc 4 1, 3) := by decide +kernel
theorem dX2_suitingParts_67 : decode cX2_suitingParts 67 = .ok (.goto (-62), 3) := by decide +kernel
theorem dX2_suitingParts_70 : decode cX2_suitingParts 70 = .ok (.iload_n 3, 1) := by decide +kernel
theorem dX2_suitingParts_71 : decode cX2_suitingParts 71 = .ok (.ireturn, 1) := by decide +kernel
theorem dX9_fits_0 : decode cX9_fits 0 = .ok (.aload_n 0, 1) := by decide +kernel
theorem dX9_fits_1 : decode cX9_fits 1 = .ok (.getfield 68, 3) := by decide +kernel
theorem dX9_fits_4 : decode cX9_fits 4 = .ok (.iload_n 1, 1) := by decide +kernel
theorem dX9_fits_5 : decode cX9_fits 5 = .ok (.aload_n 0, 1) := by decide +kernel
theorem dX9_fits_6 : decode cX9_fits 6 = .ok (.getfield 12, 3) := by decide +kernel
theorem dX9_fits_9 : decode cX9_fits 9 = .ok (.getfield 90, 3) := by decide +kernel
theorem dX9_fits_12 : decode cX9_fits 12 = .ok (.invokevirtual 151, 3) := by decide +kernel
theorem dX9_fits_15 : decode cX9_fits 15 = .ok (.ifCond .ne 9, 3) := by decide +kernel
theorem dX9_fits_18 : decode cX9_fits 18 = .ok (.aload_n 0, 1) := by decide +kernel
theorem dX9_fits_19 : decode cX9_fits 19 = .ok (.iconst (-1), 1) := by decide +kernel
theorem dX9_fits_20 : decode cX9_fits 20 = .ok (.invokevirtual 86, 3) := by decide +kernel
theorem dX9_fits_23 : decode cX9_fits 23 = .ok (.ireturn, 1) := by decide +kernel
theorem dX9_fits_24 : decode cX9_fits 24 = .ok (.aload_n 0, 1) := by decide +kernel
theorem dX9_fits_25 : decode cX9_fits 25 = .ok (.aload_n 0, 1) := by decide +kernel
theorem dX9_fits_26 : decode cX9_fits 26 = .ok (.getfield 113, 3) := by decide +kernel
theorem dX9_fits_29 : decode cX9_fits 29 = .ok (.invokevirtual 140, 3) := by decide +kernel
theorem dX9_fits_32 : decode cX9_fits 32 = .ok (.aload_n 0, 1) := by decide +kernel
theorem dX9_fits_33 : decode cX9_fits 33 = .ok (.getfield 33, 3) := by decide +kernel
theorem dX9_fits_36 : decode cX9_fits 36 = .ok (.aload_n 0, 1) := by decide +kernel
theorem dX9_fits_37 : decode cX9_fits 37 = .ok (.getfield 12, 3) := by decide +kernel
theorem dX9_fits_40 : decode cX9_fits 40 = .ok (.aload_n 0, 1) := by decide +kernel
theorem dX9_fits_41 : decode cX9_fits 41 = .ok (.getfield 68, 3) := by decide +kernel
theorem dX9_fits_44 : decode cX9_fits 44 = .ok (.invokevirtual 229, 3) := by decide +kernel
theorem dX9_fits_47 : decode cX9_fits 47 = .ok (.ireturn, 1) := by decide +kernel
theorem dX9_gone_0 : decode cX9_gone 0 = .ok (.aload_n 0, 1) := by decide +kernel
theorem dX9_gone_1 : decode cX9_gone 1 = .ok (.getfield 33, 3) := by decide +kernel
theorem dX9_gone_4 : decode cX9_gone 4 = .ok (.getfield 97, 3) := by decide +kernel
theorem dX9_gone_7 : decode cX9_gone 7 = .ok (.istore_n 1, 1) := by decide +kernel
theorem dX9_gone_8 : decode cX9_gone 8 = .ok (.aload_n 0, 1) := by decide +kernel
theorem dX9_gone_9 : decode cX9_gone 9 = .ok (.getfield 33, 3) := by decide +kernel
theorem dX9_gone_12 : decode cX9_gone 12 = .ok (.iconst 0, 1) := by decide +kernel
theorem dX9_gone_13 : decode cX9_gone 13 = .ok (.putfield 97, 3) := by decide +kernel
theorem dX9_gone_16 : decode cX9_gone 16 = .ok (.iload_n 1, 1) := by decide +kernel
theorem dX9_gone_17 : decode cX9_gone 17 = .ok (.ireturn, 1) := by decide +kernel
theorem dX9_partOfYear_0 : decode cX9_partOfYear 0 = .ok (.aload_n 0, 1) := by decide +kernel
theorem dX9_partOfYear_1 : decode cX9_partOfYear 1 = .ok (.iload_n 1, 1) := by decide +kernel
theorem dX9_partOfYear_2 : decode cX9_partOfYear 2 = .ok (.invokevirtual 140, 3) := by decide +kernel
theorem dX9_partOfYear_5 : decode cX9_partOfYear 5 = .ok (.aload_n 3, 1) := by decide +kernel
theorem dX9_partOfYear_6 : decode cX9_partOfYear 6 = .ok (.aload_n 0, 1) := by decide +kernel
theorem dX9_partOfYear_7 : decode cX9_partOfYear 7 = .ok (.getfield 12, 3) := by decide +kernel
theorem dX9_partOfYear_10 : decode cX9_partOfYear 10 = .ok (.getfield 90, 3) := by decide +kernel
theorem dX9_partOfYear_13 : decode cX9_partOfYear 13 = .ok (.invokevirtual 188, 3) := by decide +kernel
theorem dX9_partOfYear_16 : decode cX9_partOfYear 16 = .ok (.aload_n 0, 1) := by decide +kernel
theorem dX9_partOfYear_17 : decode cX9_partOfYear 17 = .ok (.getfield 40, 3) := by decide +kernel
theorem dX9_partOfYear_20 : decode cX9_partOfYear 20 = .ok (.aload_n 0, 1) := by decide +kernel
theorem dX9_partOfYear_21 : decode cX9_partOfYear 21 = .ok (.getfield 12, 3) := by decide +kernel
theorem dX9_partOfYear_24 : decode cX9_partOfYear 24 = .ok (.aload_n 3, 1) := by decide +kernel
theorem dX9_partOfYear_25 : decode cX9_partOfYear 25 = .ok (.aload_n 0, 1) := by decide +kernel
theorem dX9_partOfYear_26 : decode cX9_partOfYear 26 = .ok (.getfield 75, 3) := by decide +kernel
theorem dX9_partOfYear_29 : decode cX9_partOfYear 29 = .ok (.iload_n 2, 1) := by decide +kernel
theorem dX9_partOfYear_30 : decode cX9_partOfYear 30 = .ok (.invokevirtual 165, 3) := by decide +kernel
theorem dX9_partOfYear_33 : decode cX9_partOfYear 33 = .ok (.return_, 1) := by decide +kernel
theorem dX1_bestFor_0 : decode cX1_bestFor 0 = .ok (.aload_n 0, 1) := by decide +kernel
theorem dX1_bestFor_1 : decode cX1_bestFor 1 = .ok (.getfield 15, 3) := by decide +kernel
theorem dX1_bestFor_4 : decode cX1_bestFor 4 = .ok (.iload_n 2, 1) := by decide +kernel
theorem dX1_bestFor_5 : decode cX1_bestFor 5 = .ok (.invokestatic 46, 3) := by decide +kernel
theorem dX1_bestFor_8 : decode cX1_bestFor 8 = .ok (.istore 4, 2) := by decide +kernel
theorem dX1_bestFor_10 : decode cX1_bestFor 10 = .ok (.iconst 0, 1) := by decide +kernel
theorem dX1_bestFor_11 : decode cX1_bestFor 11 = .ok (.istore 5, 2) := by decide +kernel
theorem dX1_bestFor_13 : decode cX1_bestFor 13 = .ok (.iload 5, 2) := by decide +kernel
theorem dX1_bestFor_15 : decode cX1_bestFor 15 = .ok (.iload_n 3, 1) := by decide +kernel
theorem dX1_bestFor_16 : decode cX1_bestFor 16 = .ok (.if_icmp .ge 55, 3) := by decide +kernel
theorem dX1_bestFor_19 : decode cX1_bestFor 19 = .ok (.iload_n 2, 1) := by decide +kernel
theorem dX1_bestFor_20 : decode cX1_bestFor 20 = .ok (.iload 5, 2) := by decide +kernel
theorem dX1_bestFor_22 : decode cX1_bestFor 22 = .ok (.invokestatic 50, 3) := by decide +kernel
theorem dX1_bestFor_25 : decode cX1_bestFor 25 = .ok (.ifCond .eq 40, 3) := by decide +kernel
theorem dX1_bestFor_28 : decode cX1_bestFor 28 = .ok (.iload 4, 2) := by decide +kernel
theorem dX1_bestFor_30 : decode cX1_bestFor 30 = .ok (.aload_n 0, 1) := by decide +kernel
theorem dX1_bestFor_31 : decode cX1_bestFor 31 = .ok (.getfield 15, 3) := by decide +kernel
theorem dX1_bestFor_34 : decode cX1_bestFor 34 = .ok (.iload_n 2, 1) := by decide +kernel
theorem dX1_bestFor_35 : decode cX1_bestFor 35 = .ok (.iconst 1, 1) := by decide +kernel
theorem dX1_bestFor_36 : decode cX1_bestFor 36 = .ok (.iload 5, 2) := by decide +kernel
theorem dX1_bestFor_38 : decode cX1_bestFor 38 = .ok (.ishl, 1) := by decide +kernel
theorem dX1_bestFor_39 : decode cX1_bestFor 39 = .ok (.iconst (-1), 1) := by decide +kernel
theorem dX1_bestFor_40 : decode cX1_bestFor 40 = .ok (.ixor, 1) := by decide +kernel
theorem dX1_bestFor_41 : decode cX1_bestFor 41 = .ok (.iand, 1) := by decide +kernel
theorem dX1_bestFor_42 : decode cX1_bestFor 42 = .ok (.invokestatic 46, 3) := by decide +kernel
theorem dX1_bestFor_45 : decode cX1_bestFor 45 = .ok (.aload_n 0, 1) := by decide +kernel
theorem dX1_bestFor_46 : decode cX1_bestFor 46 = .ok (.getfield 9, 3) := by decide +kernel
theorem dX1_bestFor_49 : decode cX1_bestFor 49 = .ok (.iload_n 1, 1) := by decide +kernel
theorem dX1_bestFor_50 : decode cX1_bestFor 50 = .ok (.bipush 7, 2) := by decide +kernel
theorem dX1_bestFor_52 : decode cX1_bestFor 52 = .ok (.imul, 1) := by decide +kernel
theorem dX1_bestFor_53 : decode cX1_bestFor 53 = .ok (.iload 5, 2) := by decide +kernel
theorem dX1_bestFor_55 : decode cX1_bestFor 55 = .ok (.iadd, 1) := by decide +kernel
theorem dX1_bestFor_56 : decode cX1_bestFor 56 = .ok (.invokestatic 46, 3) := by decide +kernel
theorem dX1_bestFor_59 : decode cX1_bestFor 59 = .ok (.iadd, 1) := by decide +kernel
theorem dX1_bestFor_60 : decode cX1_bestFor 60 = .ok (.invokestatic 54, 3) := by decide +kernel
theorem dX1_bestFor_63 : decode cX1_bestFor 63 = .ok (.istore 4, 2) := by decide +kernel
theorem dX1_bestFor_65 : decode cX1_bestFor 65 = .ok (.iinc 5 1, 3) := by decide +kernel
theorem dX1_bestFor_68 : decode cX1_bestFor 68 = .ok (.goto (-55), 3) := by decide +kernel
theorem dX1_bestFor_71 : decode cX1_bestFor 71 = .ok (.iload 4, 2) := by decide +kernel
theorem dX1_bestFor_73 : decode cX1_bestFor 73 = .ok (.ireturn, 1) := by decide +kernel
theorem dX1_keepers_0 : decode cX1_keepers 0 = .ok (.aload_n 0, 1) := by decide +kernel
theorem dX1_keepers_1 : decode cX1_keepers 1 = .ok (.getfield 9, 3) := by decide +kernel
theorem dX1_keepers_4 : decode cX1_keepers 4 = .ok (.invokestatic 18, 3) := by decide +kernel
theorem dX1_keepers_7 : decode cX1_keepers 7 = .ok (.iconst 0, 1) := by decide +kernel
theorem dX1_keepers_8 : decode cX1_keepers 8 = .ok (.istore_n 3, 1) := by decide +kernel
theorem dX1_keepers_9 : decode cX1_keepers 9 = .ok (.iload_n 3, 1) := by decide +kernel
theorem dX1_keepers_10 : decode cX1_keepers 10 = .ok (.aload_n 1, 1) := by decide +kernel
theorem dX1_keepers_11 : decode cX1_keepers 11 = .ok (.getfield 22, 3) := by decide +kernel
theorem dX1_keepers_14 : decode cX1_keepers 14 = .ok (.if_icmp .ge 31, 3) := by decide +kernel
theorem dX1_keepers_17 : decode cX1_keepers 17 = .ok (.aload_n 0, 1) := by decide +kernel
theorem dX1_keepers_18 : decode cX1_keepers 18 = .ok (.getfield 9, 3) := by decide +kernel
theorem dX1_keepers_21 : decode cX1_keepers 21 = .ok (.aload_n 1, 1) := by decide +kernel
theorem dX1_keepers_22 : decode cX1_keepers 22 = .ok (.iload_n 3, 1) := by decide +kernel
theorem dX1_keepers_23 : decode cX1_keepers 23 = .ok (.invokevirtual 28, 3) := by decide +kernel
theorem dX1_keepers_26 : decode cX1_keepers 26 = .ok (.bipush 7, 2) := by decide +kernel
theorem dX1_keepers_28 : decode cX1_keepers 28 = .ok (.imul, 1) := by decide +kernel
theorem dX1_keepers_29 : decode cX1_keepers 29 = .ok (.aload_n 2, 1) := by decide +kernel
theorem dX1_keepers_30 : decode cX1_keepers 30 = .ok (.iload_n 3, 1) := by decide +kernel
theorem dX1_keepers_31 : decode cX1_keepers 31 = .ok (.invokevirtual 28, 3) := by decide +kernel
theorem dX1_keepers_34 : decode cX1_keepers 34 = .ok (.iadd, 1) := by decide +kernel
theorem dX1_keepers_35 : decode cX1_keepers 35 = .ok (.iconst 1, 1) := by decide +kernel
theorem dX1_keepers_36 : decode cX1_keepers 36 = .ok (.invokestatic 32, 3) := by decide +kernel
theorem dX1_keepers_39 : decode cX1_keepers 39 = .ok (.iinc 3 1, 3) := by decide +kernel
theorem dX1_keepers_42 : decode cX1_keepers 42 = .ok (.goto (-33), 3) := by decide +kernel
theorem dX1_keepers_45 : decode cX1_keepers 45 = .ok (.aload_n 0, 1) := by decide +kernel
theorem dX1_keepers_46 : decode cX1_keepers 46 = .ok (.getfield 15, 3) := by decide +kernel
theorem dX1_keepers_49 : decode cX1_keepers 49 = .ok (.invokestatic 18, 3) := by decide +kernel
theorem dX1_keepers_52 : decode cX1_keepers 52 = .ok (.iconst 1, 1) := by decide +kernel
theorem dX1_keepers_53 : decode cX1_keepers 53 = .ok (.aload_n 2, 1) := by decide +kernel
theorem dX1_keepers_54 : decode cX1_keepers 54 = .ok (.getfield 36, 3) := by decide +kernel
theorem dX1_keepers_57 : decode cX1_keepers 57 = .ok (.ishl, 1) := by decide +kernel
theorem dX1_keepers_58 : decode cX1_keepers 58 = .ok (.iconst 1, 1) := by decide +kernel
theorem dX1_keepers_59 : decode cX1_keepers 59 = .ok (.isub, 1) := by decide +kernel
theorem dX1_keepers_60 : decode cX1_keepers 60 = .ok (.istore_n 3, 1) := by decide +kernel
theorem dX1_keepers_61 : decode cX1_keepers 61 = .ok (.iconst 0, 1) := by decide +kernel
theorem dX1_keepers_62 : decode cX1_keepers 62 = .ok (.istore 4, 2) := by decide +kernel
theorem dX1_keepers_64 : decode cX1_keepers 64 = .ok (.iload 4, 2) := by decide +kernel
theorem dX1_keepers_66 : decode cX1_keepers 66 = .ok (.aload_n 1, 1) := by decide +kernel
theorem dX1_keepers_67 : decode cX1_keepers 67 = .ok (.getfield 36, 3) := by decide +kernel
theorem dX1_keepers_70 : decode cX1_keepers 70 = .ok (.if_icmp .ge 44, 3) := by decide +kernel
theorem dX1_keepers_73 : decode cX1_keepers 73 = .ok (.iload_n 3, 1) := by decide +kernel
theorem dX1_keepers_74 : decode cX1_keepers 74 = .ok (.istore 5, 2) := by decide +kernel
theorem dX1_keepers_76 : decode cX1_keepers 76 = .ok (.iload 5, 2) := by decide +kernel
theorem dX1_keepers_78 : decode cX1_keepers 78 = .ok (.ifCond .le 30, 3) := by decide +kernel
theorem dX1_keepers_81 : decode cX1_keepers 81 = .ok (.aload_n 0, 1) := by decide +kernel
theorem dX1_keepers_82 : decode cX1_keepers 82 = .ok (.getfield 15, 3) := by decide +kernel
theorem dX1_keepers_85 : decode cX1_keepers 85 = .ok (.iload 5, 2) := by decide +kernel
theorem dX1_keepers_87 : decode cX1_keepers 87 = .ok (.aload_n 0, 1) := by decide +kernel
theorem dX1_keepers_88 : decode cX1_keepers 88 = .ok (.iload 4, 2) := by decide +kernel
theorem dX1_keepers_90 : decode cX1_keepers 90 = .ok (.iload 5, 2) := by decide +kernel
theorem dX1_keepers_92 : decode cX1_keepers 92 = .ok (.aload_n 2, 1) := by decide +kernel
theorem dX1_keepers_93 : decode cX1_keepers 93 = .ok (.getfield 36, 3) := by decide +kernel
theorem dX1_keepers_96 : decode cX1_keepers 96 = .ok (.invokevirtual 39, 3) := by decide +kernel
theorem dX1_keepers_99 : decode cX1_keepers 99 = .ok (.invokestatic 43, 3) := by decide +kernel
theorem dX1_keepers_102 : decode cX1_keepers 102 = .ok (.iinc 5 (-1), 3) := by decide +kernel
theorem dX1_keepers_105 : decode cX1_keepers 105 = .ok (.goto (-29), 3) := by decide +kernel
theorem dX1_keepers_108 : decode cX1_keepers 108 = .ok (.iinc 4 1, 3) := by decide +kernel
theorem dX1_keepers_111 : decode cX1_keepers 111 = .ok (.goto (-47), 3) := by decide +kernel
theorem dX1_keepers_114 : decode cX1_keepers 114 = .ok (.aload_n 0, 1) := by decide +kernel
theorem dX1_keepers_115 : decode cX1_keepers 115 = .ok (.getfield 15, 3) := by decide +kernel
theorem dX1_keepers_118 : decode cX1_keepers 118 = .ok (.iload_n 3, 1) := by decide +kernel
theorem dX1_keepers_119 : decode cX1_keepers 119 = .ok (.invokestatic 46, 3) := by decide +kernel
theorem dX1_keepers_122 : decode cX1_keepers 122 = .ok (.ireturn, 1) := by decide +kernel
theorem dX9_shift_0 : decode cX9_shift 0 = .ok (.iload_n 3, 1) := by decide +kernel
theorem dX9_shift_1 : decode cX9_shift 1 = .ok (.invokestatic 158, 3) := by decide +kernel
theorem dX9_shift_4 : decode cX9_shift 4 = .ok (.ifCond .ne 9, 3) := by decide +kernel
theorem dX9_shift_7 : decode cX9_shift 7 = .ok (.aload_n 0, 1) := by decide +kernel
theorem dX9_shift_8 : decode cX9_shift 8 = .ok (.iconst (-1), 1) := by decide +kernel
theorem dX9_shift_9 : decode cX9_shift 9 = .ok (.invokevirtual 86, 3) := by decide +kernel
theorem dX9_shift_12 : decode cX9_shift 12 = .ok (.ireturn, 1) := by decide +kernel
theorem dX9_shift_13 : decode cX9_shift 13 = .ok (.iload_n 1, 1) := by decide +kernel
theorem dX9_shift_14 : decode cX9_shift 14 = .ok (.ifCond .lt 7, 3) := by decide +kernel
theorem dX9_shift_17 : decode cX9_shift 17 = .ok (.iload_n 2, 1) := by decide +kernel
theorem dX9_shift_18 : decode cX9_shift 18 = .ok (.ifCond .ge 10, 3) := by decide +kernel
theorem dX9_shift_21 : decode cX9_shift 21 = .ok (.aload_n 0, 1) := by decide +kernel
theorem dX9_shift_22 : decode cX9_shift 22 = .ok (.bipush (-4), 2) := by decide +kernel
theorem dX9_shift_24 : decode cX9_shift 24 = .ok (.invokevirtual 86, 3) := by decide +kernel
theorem dX9_shift_27 : decode cX9_shift 27 = .ok (.ireturn, 1) := by decide +kernel
theorem dX9_shift_28 : decode cX9_shift 28 = .ok (.iload_n 1, 1) := by decide +kernel
theorem dX9_shift_29 : decode cX9_shift 29 = .ok (.bipush 100, 2) := by decide +kernel
theorem dX9_shift_31 : decode cX9_shift 31 = .ok (.if_icmp .gt 9, 3) := by decide +kernel
theorem dX9_shift_34 : decode cX9_shift 34 = .ok (.iload_n 2, 1) := by decide +kernel
theorem dX9_shift_35 : decode cX9_shift 35 = .ok (.bipush 100, 2) := by decide +kernel
theorem dX9_shift_37 : decode cX9_shift 37 = .ok (.if_icmp .le 10, 3) := by decide +kernel
theorem dX9_shift_40 : decode cX9_shift 40 = .ok (.aload_n 0, 1) := by decide +kernel
theorem dX9_shift_41 : decode cX9_shift 41 = .ok (.bipush (-6), 2) := by decide +kernel
theorem dX9_shift_43 : decode cX9_shift 43 = .ok (.invokevirtual 86, 3) := by decide +kernel
theorem dX9_shift_46 : decode cX9_shift 46 = .ok (.ireturn, 1) := by decide +kernel
theorem dX9_shift_47 : decode cX9_shift 47 = .ok (.aload_n 0, 1) := by decide +kernel
theorem dX9_shift_48 : decode cX9_shift 48 = .ok (.iload_n 1, 1) := by decide +kernel
theorem dX9_shift_49 : decode cX9_shift 49 = .ok (.iload_n 3, 1) := by decide +kernel
theorem dX9_shift_50 : decode cX9_shift 50 = .ok (.aload_n 0, 1) := by decide +kernel
theorem dX9_shift_51 : decode cX9_shift 51 = .ok (.getfield 68, 3) := by decide +kernel
theorem dX9_shift_54 : decode cX9_shift 54 = .ok (.invokevirtual 232, 3) := by decide +kernel
theorem dX9_shift_57 : decode cX9_shift 57 = .ok (.aload_n 0, 1) := by decide +kernel
theorem dX9_shift_58 : decode cX9_shift 58 = .ok (.iload_n 2, 1) := by decide +kernel
theorem dX9_shift_59 : decode cX9_shift 59 = .ok (.iload_n 3, 1) := by decide +kernel
theorem dX9_shift_60 : decode cX9_shift 60 = .ok (.aload_n 0, 1) := by decide +kernel
theorem dX9_shift_61 : decode cX9_shift 61 = .ok (.getfield 72, 3) := by decide +kernel
theorem dX9_shift_64 : decode cX9_shift 64 = .ok (.invokevirtual 232, 3) := by decide +kernel
theorem dX9_shift_67 : decode cX9_shift 67 = .ok (.aload_n 0, 1) := by decide +kernel
theorem dX9_shift_68 : decode cX9_shift 68 = .ok (.getfield 12, 3) := by decide +kernel
theorem dX9_shift_71 : decode cX9_shift 71 = .ok (.getfield 90, 3) := by decide +kernel
theorem dX9_shift_74 : decode cX9_shift 74 = .ok (.aload_n 0, 1) := by decide +kernel
theorem dX9_shift_75 : decode cX9_shift 75 = .ok (.getfield 61, 3) := by decide +kernel
theorem dX9_shift_78 : decode cX9_shift 78 = .ok (.aload_n 0, 1) := by decide +kernel
theorem dX9_shift_79 : decode cX9_shift 79 = .ok (.getfield 68, 3) := by decide +kernel
theorem dX9_shift_82 : decode cX9_shift 82 = .ok (.aload_n 0, 1) := by decide +kernel
theorem dX9_shift_83 : decode cX9_shift 83 = .ok (.getfield 72, 3) := by decide +kernel
theorem dX9_shift_86 : decode cX9_shift 86 = .ok (.invokevirtual 236, 3) := by decide +kernel
theorem dX9_shift_89 : decode cX9_shift 89 = .ok (.isub, 1) := by decide +kernel
theorem dX9_shift_90 : decode cX9_shift 90 = .ok (.ireturn, 1) := by decide +kernel
theorem dX6_nextChange_0 : decode cX6_nextChange 0 = .ok (.bipush 101, 2) := by decide +kernel
theorem dX6_nextChange_2 : decode cX6_nextChange 2 = .ok (.istore_n 2, 1) := by decide +kernel
theorem dX6_nextChange_3 : decode cX6_nextChange 3 = .ok (.iconst 0, 1) := by decide +kernel
theorem dX6_nextChange_4 : decode cX6_nextChange 4 = .ok (.istore_n 3, 1) := by decide +kernel
theorem dX6_nextChange_5 : decode cX6_nextChange 5 = .ok (.iload_n 3, 1) := by decide +kernel
theorem dX6_nextChange_6 : decode cX6_nextChange 6 = .ok (.aload_n 0, 1) := by decide +kernel
theorem dX6_nextChange_7 : decode cX6_nextChange 7 = .ok (.getfield 15, 3) := by decide +kernel
theorem dX6_nextChange_10 : decode cX6_nextChange 10 = .ok (.if_icmp .ge 51, 3) := by decide +kernel
theorem dX6_nextChange_13 : decode cX6_nextChange 13 = .ok (.aload_n 0, 1) := by decide +kernel
theorem dX6_nextChange_14 : decode cX6_nextChange 14 = .ok (.iload_n 3, 1) := by decide +kernel
theorem dX6_nextChange_15 : decode cX6_nextChange 15 = .ok (.iconst 4, 1) := by decide +kernel
theorem dX6_nextChange_16 : decode cX6_nextChange 16 = .ok (.invokevirtual 27, 3) := by decide +kernel
theorem dX6_nextChange_19 : decode cX6_nextChange 19 = .ok (.iload_n 1, 1) := by decide +kernel
theorem dX6_nextChange_20 : decode cX6_nextChange 20 = .ok (.if_icmp .le 14, 3) := by decide +kernel
theorem dX6_nextChange_23 : decode cX6_nextChange 23 = .ok (.iload_n 2, 1) := by decide +kernel
theorem dX6_nextChange_24 : decode cX6_nextChange 24 = .ok (.aload_n 0, 1) := by decide +kernel
theorem dX6_nextChange_25 : decode cX6_nextChange 25 = .ok (.iload_n 3, 1) := by decide +kernel
theorem dX6_nextChange_26 : decode cX6_nextChange 26 = .ok (.iconst 4, 1) := by decide +kernel
theorem dX6_nextChange_27 : decode cX6_nextChange 27 = .ok (.invokevirtual 27, 3) := by decide +kernel
theorem dX6_nextChange_30 : decode cX6_nextChange 30 = .ok (.invokestatic 51, 3) := by decide +kernel
theorem dX6_nextChange_33 : decode cX6_nextChange 33 = .ok (.istore_n 2, 1) := by decide +kernel
theorem dX6_nextChange_34 : decode cX6_nextChange 34 = .ok (.aload_n 0, 1) := by decide +kernel
theorem dX6_nextChange_35 : decode cX6_nextChange 35 = .ok (.iload_n 3, 1) := by decide +kernel
theorem dX6_nextChange_36 : decode cX6_nextChange 36 = .ok (.iconst 5, 1) := by decide +kernel
theorem dX6_nextChange_37 : decode cX6_nextChange 37 = .ok (.invokevirtual 27, 3) := by decide +kernel
theorem dX6_nextChange_40 : decode cX6_nextChange 40 = .ok (.iload_n 1, 1) := by decide +kernel
theorem dX6_nextChange_41 : decode cX6_nextChange 41 = .ok (.if_icmp .le 14, 3) := by decide +kernel
theorem dX6_nextChange_44 : decode cX6_nextChange 44 = .ok (.iload_n 2, 1) := by decide +kernel
theorem dX6_nextChange_45 : decode cX6_nextChange 45 = .ok (.aload_n 0, 1) := by decide +kernel
theorem dX6_nextChange_46 : decode cX6_nextChange 46 = .ok (.iload_n 3, 1) := by decide +kernel
theorem dX6_nextChange_47 : decode cX6_nextChange 47 = .ok (.iconst 5, 1) := by decide +kernel
theorem dX6_nextChange_48 : decode cX6_nextChange 48 = .ok (.invokevirtual 27, 3) := by decide +kernel
theorem dX6_nextChange_51 : decode cX6_nextChange 51 = .ok (.invokestatic 51, 3) := by decide +kernel
theorem dX6_nextChange_54 : decode cX6_nextChange 54 = .ok (.istore_n 2, 1) := by decide +kernel
theorem dX6_nextChange_55 : decode cX6_nextChange 55 = .ok (.iinc 3 1, 3) := by decide +kernel
theorem dX6_nextChange_58 : decode cX6_nextChange 58 = .ok (.goto (-53), 3) := by decide +kernel
theorem dX6_nextChange_61 : decode cX6_nextChange 61 = .ok (.iload_n 2, 1) := by decide +kernel
theorem dX6_nextChange_62 : decode cX6_nextChange 62 = .ok (.ireturn, 1) := by decide +kernel
theorem dX9_stays_0 : decode cX9_stays 0 = .ok (.iload_n 2, 1) := by decide +kernel
theorem dX9_stays_1 : decode cX9_stays 1 = .ok (.invokestatic 158, 3) := by decide +kernel
theorem dX9_stays_4 : decode cX9_stays 4 = .ok (.ifCond .ne 9, 3) := by decide +kernel
theorem dX9_stays_7 : decode cX9_stays 7 = .ok (.aload_n 0, 1) := by decide +kernel
theorem dX9_stays_8 : decode cX9_stays 8 = .ok (.iconst (-1), 1) := by decide +kernel
theorem dX9_stays_9 : decode cX9_stays 9 = .ok (.invokevirtual 86, 3) := by decide +kernel
theorem dX9_stays_12 : decode cX9_stays 12 = .ok (.ireturn, 1) := by decide +kernel
theorem dX9_stays_13 : decode cX9_stays 13 = .ok (.iload_n 1, 1) := by decide +kernel
theorem dX9_stays_14 : decode cX9_stays 14 = .ok (.ifCond .ge 10, 3) := by decide +kernel
theorem dX9_stays_17 : decode cX9_stays 17 = .ok (.aload_n 0, 1) := by decide +kernel
theorem dX9_stays_18 : decode cX9_stays 18 = .ok (.bipush (-4), 2) := by decide +kernel
theorem dX9_stays_20 : decode cX9_stays 20 = .ok (.invokevirtual 86, 3) := by decide +kernel
theorem dX9_stays_23 : decode cX9_stays 23 = .ok (.ireturn, 1) := by decide +kernel
theorem dX9_stays_24 : decode cX9_stays 24 = .ok (.iload_n 1, 1) := by decide +kernel
theorem dX9_stays_25 : decode cX9_stays 25 = .ok (.bipush 100, 2) := by decide +kernel
theorem dX9_stays_27 : decode cX9_stays 27 = .ok (.if_icmp .le 10, 3) := by decide +kernel
theorem dX9_stays_30 : decode cX9_stays 30 = .ok (.aload_n 0, 1) := by decide +kernel
theorem dX9_stays_31 : decode cX9_stays 31 = .ok (.bipush (-6), 2) := by decide +kernel
theorem dX9_stays_33 : decode cX9_stays 33 = .ok (.invokevirtual 86, 3) := by decide +kernel
theorem dX9_stays_36 : decode cX9_stays 36 = .ok (.ireturn, 1) := by decide +kernel
theorem dX9_stays_37 : decode cX9_stays 37 = .ok (.aload_n 0, 1) := by decide +kernel
theorem dX9_stays_38 : decode cX9_stays 38 = .ok (.iload_n 1, 1) := by decide +kernel
theorem dX9_stays_39 : decode cX9_stays 39 = .ok (.iload_n 2, 1) := by decide +kernel
theorem dX9_stays_40 : decode cX9_stays 40 = .ok (.aload_n 0, 1) := by decide +kernel
theorem dX9_stays_41 : decode cX9_stays 41 = .ok (.getfield 68, 3) := by decide +kernel
theorem dX9_stays_44 : decode cX9_stays 44 = .ok (.invokevirtual 232, 3) := by decide +kernel
theorem dX9_stays_47 : decode cX9_stays 47 = .ok (.aload_n 0, 1) := by decide +kernel
theorem dX9_stays_48 : decode cX9_stays 48 = .ok (.getfield 68, 3) := by decide +kernel
theorem dX9_stays_51 : decode cX9_stays 51 = .ok (.invokevirtual 169, 3) := by decide +kernel
theorem dX9_stays_54 : decode cX9_stays 54 = .ok (.istore_n 3, 1) := by decide +kernel
theorem dX9_stays_55 : decode cX9_stays 55 = .ok (.aload_n 0, 1) := by decide +kernel
theorem dX9_stays_56 : decode cX9_stays 56 = .ok (.getfield 19, 3) := by decide +kernel
theorem dX9_stays_59 : decode cX9_stays 59 = .ok (.iload_n 1, 1) := by decide +kernel
theorem dX9_stays_60 : decode cX9_stays 60 = .ok (.invokevirtual 240, 3) := by decide +kernel
theorem dX9_stays_63 : decode cX9_stays 63 = .ok (.istore 4, 2) := by decide +kernel
theorem dX9_stays_65 : decode cX9_stays 65 = .ok (.iconst 0, 1) := by decide +kernel
theorem dX9_stays_66 : decode cX9_stays 66 = .ok (.istore 5, 2) := by decide +kernel
theorem dX9_stays_68 : decode cX9_stays 68 = .ok (.iload 5, 2) := by decide +kernel
theorem dX9_stays_70 : decode cX9_stays 70 = .ok (.bipush 100, 2) := by decide +kernel
theorem dX9_stays_72 : decode cX9_stays 72 = .ok (.if_icmp .gt 52, 3) := by decide +kernel
theorem dX9_stays_75 : decode cX9_stays 75 = .ok (.iload 4, 2) := by decide +kernel
theorem dX9_stays_77 : decode cX9_stays 77 = .ok (.bipush 100, 2) := by decide +kernel
theorem dX9_stays_79 : decode cX9_stays 79 = .ok (.if_icmp .gt 45, 3) := by decide +kernel
theorem dX9_stays_82 : decode cX9_stays 82 = .ok (.aload_n 0, 1) := by decide +kernel
theorem dX9_stays_83 : decode cX9_stays 83 = .ok (.iload 4, 2) := by decide +kernel
theorem dX9_stays_85 : decode cX9_stays 85 = .ok (.iload_n 2, 1) := by decide +kernel
theorem dX9_stays_86 : decode cX9_stays 86 = .ok (.aload_n 0, 1) := by decide +kernel
theorem dX9_stays_87 : decode cX9_stays 87 = .ok (.getfield 68, 3) := by decide +kernel
theorem dX9_stays_90 : decode cX9_stays 90 = .ok (.invokevirtual 232, 3) := by decide +kernel
theorem dX9_stays_93 : decode cX9_stays 93 = .ok (.aload_n 0, 1) := by decide +kernel
theorem dX9_stays_94 : decode cX9_stays 94 = .ok (.getfield 68, 3) := by decide +kernel
theorem dX9_stays_97 : decode cX9_stays 97 = .ok (.invokevirtual 169, 3) := by decide +kernel
theorem dX9_stays_100 : decode cX9_stays 100 = .ok (.iload_n 3, 1) := by decide +kernel
theorem dX9_stays_101 : decode cX9_stays 101 = .ok (.if_icmp .eq 6, 3) := by decide +kernel
theorem dX9_stays_104 : decode cX9_stays 104 = .ok (.goto 20, 3) := by decide +kernel
theorem dX9_stays_107 : decode cX9_stays 107 = .ok (.aload_n 0, 1) := by decide +kernel
theorem dX9_stays_108 : decode cX9_stays 108 = .ok (.getfield 19, 3) := by decide +kernel
theorem dX9_stays_111 : decode cX9_stays 111 = .ok (.iload 4, 2) := by decide +kernel
theorem dX9_stays_113 : decode cX9_stays 113 = .ok (.invokevirtual 240, 3) := by decide +kernel
theorem dX9_stays_116 : decode cX9_stays 116 = .ok (.istore 4, 2) := by decide +kernel
theorem dX9_stays_118 : decode cX9_stays 118 = .ok (.iinc 5 1, 3) := by decide +kernel
theorem dX9_stays_121 : decode cX9_stays 121 = .ok (.goto (-53), 3) := by decide +kernel
theorem dX9_stays_124 : decode cX9_stays 124 = .ok (.iload 4, 2) := by decide +kernel
theorem dX9_stays_126 : decode cX9_stays 126 = .ok (.iload_n 1, 1) := by decide +kernel
theorem dX9_stays_127 : decode cX9_stays 127 = .ok (.isub, 1) := by decide +kernel
theorem dX9_stays_128 : decode cX9_stays 128 = .ok (.ireturn, 1) := by decide +kernel
theorem dX7_tiesInAll_0 : decode cX7_tiesInAll 0 = .ok (.iconst 0, 1) := by decide +kernel
theorem dX7_tiesInAll_1 : decode cX7_tiesInAll 1 = .ok (.istore_n 1, 1) := by decide +kernel
theorem dX7_tiesInAll_2 : decode cX7_tiesInAll 2 = .ok (.iconst 0, 1) := by decide +kernel
theorem dX7_tiesInAll_3 : decode cX7_tiesInAll 3 = .ok (.istore_n 2, 1) := by decide +kernel
theorem dX7_tiesInAll_4 : decode cX7_tiesInAll 4 = .ok (.iload_n 2, 1) := by decide +kernel
theorem dX7_tiesInAll_5 : decode cX7_tiesInAll 5 = .ok (.iconst 3, 1) := by decide +kernel
theorem dX7_tiesInAll_6 : decode cX7_tiesInAll 6 = .ok (.if_icmp .ge 17, 3) := by decide +kernel
theorem dX7_tiesInAll_9 : decode cX7_tiesInAll 9 = .ok (.iload_n 1, 1) := by decide +kernel
theorem dX7_tiesInAll_10 : decode cX7_tiesInAll 10 = .ok (.aload_n 0, 1) := by decide +kernel
theorem dX7_tiesInAll_11 : decode cX7_tiesInAll 11 = .ok (.iload_n 2, 1) := by decide +kernel
theorem dX7_tiesInAll_12 : decode cX7_tiesInAll 12 = .ok (.invokevirtual 42, 3) := by decide +kernel
theorem dX7_tiesInAll_15 : decode cX7_tiesInAll 15 = .ok (.iadd, 1) := by decide +kernel
theorem dX7_tiesInAll_16 : decode cX7_tiesInAll 16 = .ok (.istore_n 1, 1) := by decide +kernel
theorem dX7_tiesInAll_17 : decode cX7_tiesInAll 17 = .ok (.iinc 2 1, 3) := by decide +kernel
theorem dX7_tiesInAll_20 : decode cX7_tiesInAll 20 = .ok (.goto (-16), 3) := by decide +kernel
theorem dX7_tiesInAll_23 : decode cX7_tiesInAll 23 = .ok (.iload_n 1, 1) := by decide +kernel
theorem dX7_tiesInAll_24 : decode cX7_tiesInAll 24 = .ok (.ireturn, 1) := by decide +kernel
theorem dX9_count_0 : decode cX9_count 0 = .ok (.iload_n 1, 1) := by decide +kernel
theorem dX9_count_1 : decode cX9_count 1 = .ok (.tableswitch 92 0 5 #[39, 47, 55, 71, 76, 84], 39) := by decide +kernel
theorem dX9_count_40 : decode cX9_count 40 = .ok (.aload_n 0, 1) := by decide +kernel
theorem dX9_count_41 : decode cX9_count 41 = .ok (.getfield 12, 3) := by decide +kernel
theorem dX9_count_44 : decode cX9_count 44 = .ok (.getfield 90, 3) := by decide +kernel
theorem dX9_count_47 : decode cX9_count 47 = .ok (.ireturn, 1) := by decide +kernel
theorem dX9_count_48 : decode cX9_count 48 = .ok (.aload_n 0, 1) := by decide +kernel
theorem dX9_count_49 : decode cX9_count 49 = .ok (.getfield 19, 3) := by decide +kernel
theorem dX9_count_52 : decode cX9_count 52 = .ok (.getfield 126, 3) := by decide +kernel
theorem dX9_count_55 : decode cX9_count 55 = .ok (.ireturn, 1) := by decide +kernel
theorem dX9_count_56 : decode cX9_count 56 = .ok (.aload_n 0, 1) := by decide +kernel
theorem dX9_count_57 : decode cX9_count 57 = .ok (.aload_n 0, 1) := by decide +kernel
theorem dX9_count_58 : decode cX9_count 58 = .ok (.getfield 113, 3) := by decide +kernel
theorem dX9_count_61 : decode cX9_count 61 = .ok (.invokevirtual 140, 3) := by decide +kernel
theorem dX9_count_64 : decode cX9_count 64 = .ok (.aload_n 0, 1) := by decide +kernel
theorem dX9_count_65 : decode cX9_count 65 = .ok (.getfield 12, 3) := by decide +kernel
theorem dX9_count_68 : decode cX9_count 68 = .ok (.invokevirtual 243, 3) := by decide +kernel
theorem dX9_count_71 : decode cX9_count 71 = .ok (.ireturn, 1) := by decide +kernel
theorem dX9_count_72 : decode cX9_count 72 = .ok (.aload_n 0, 1) := by decide +kernel
theorem dX9_count_73 : decode cX9_count 73 = .ok (.getfield 113, 3) := by decide +kernel
theorem dX9_count_76 : decode cX9_count 76 = .ok (.ireturn, 1) := by decide +kernel
theorem dX9_count_77 : decode cX9_count 77 = .ok (.aload_n 0, 1) := by decide +kernel
theorem dX9_count_78 : decode cX9_count 78 = .ok (.getfield 26, 3) := by decide +kernel
theorem dX9_count_81 : decode cX9_count 81 = .ok (.getfield 116, 3) := by decide +kernel
theorem dX9_count_84 : decode cX9_count 84 = .ok (.ireturn, 1) := by decide +kernel
theorem dX9_count_85 : decode cX9_count 85 = .ok (.aload_n 0, 1) := by decide +kernel
theorem dX9_count_86 : decode cX9_count 86 = .ok (.getfield 33, 3) := by decide +kernel
theorem dX9_count_89 : decode cX9_count 89 = .ok (.getfield 97, 3) := by decide +kernel
theorem dX9_count_92 : decode cX9_count 92 = .ok (.ireturn, 1) := by decide +kernel
theorem dX9_count_93 : decode cX9_count 93 = .ok (.iload_n 1, 1) := by decide +kernel
theorem dX9_count_94 : decode cX9_count 94 = .ok (.bipush 11, 2) := by decide +kernel
theorem dX9_count_96 : decode cX9_count 96 = .ok (.if_icmp .lt 23, 3) := by decide +kernel
theorem dX9_count_99 : decode cX9_count 99 = .ok (.iload_n 1, 1) := by decide +kernel
theorem dX9_count_100 : decode cX9_count 100 = .ok (.bipush 16, 2) := by decide +kernel
theorem dX9_count_102 : decode cX9_count 102 = .ok (.if_icmp .gt 17, 3) := by decide +kernel
theorem dX9_count_105 : decode cX9_count 105 = .ok (.aload_n 0, 1) := by decide +kernel
theorem dX9_count_106 : decode cX9_count 106 = .ok (.getfield 78, 3) := by decide +kernel
theorem dX9_count_109 : decode cX9_count 109 = .ok (.iload_n 1, 1) := by decide +kernel
theorem dX9_count_110 : decode cX9_count 110 = .ok (.bipush 10, 2) := by decide +kernel
theorem dX9_count_112 : decode cX9_count 112 = .ok (.isub, 1) := by decide +kernel
theorem dX9_count_113 : decode cX9_count 113 = .ok (.invokestatic 105, 3) := by decide +kernel
theorem dX9_count_116 : decode cX9_count 116 = .ok (.goto 5, 3) := by decide +kernel
theorem dX9_count_119 : decode cX9_count 119 = .ok (.bipush (-9), 2) := by decide +kernel
theorem dX9_count_121 : decode cX9_count 121 = .ok (.ireturn, 1) := by decide +kernel
theorem dX10_no_0 : decode cX10_no 0 = .ok (.aload_n 0, 1) := by decide +kernel
theorem dX10_no_1 : decode cX10_no 1 = .ok (.getfield 7, 3) := by decide +kernel
theorem dX10_no_4 : decode cX10_no 4 = .ok (.iload_n 1, 1) := by decide +kernel
theorem dX10_no_5 : decode cX10_no 5 = .ok (.ineg, 1) := by decide +kernel
theorem dX10_no_6 : decode cX10_no 6 = .ok (.dup2, 1) := by decide +kernel
theorem dX10_no_7 : decode cX10_no 7 = .ok (.iaload, 1) := by decide +kernel
theorem dX10_no_8 : decode cX10_no 8 = .ok (.iconst 1, 1) := by decide +kernel
theorem dX10_no_9 : decode cX10_no 9 = .ok (.iadd, 1) := by decide +kernel
theorem dX10_no_10 : decode cX10_no 10 = .ok (.iastore, 1) := by decide +kernel
theorem dX10_no_11 : decode cX10_no 11 = .ok (.iload_n 1, 1) := by decide +kernel
theorem dX10_no_12 : decode cX10_no 12 = .ok (.ireturn, 1) := by decide +kernel
theorem dX10_less_0 : decode cX10_less 0 = .ok (.aload_n 0, 1) := by decide +kernel
theorem dX10_less_1 : decode cX10_less 1 = .ok (.getfield 7, 3) := by decide +kernel
theorem dX10_less_4 : decode cX10_less 4 = .ok (.iload_n 1, 1) := by decide +kernel
theorem dX10_less_5 : decode cX10_less 5 = .ok (.ineg, 1) := by decide +kernel
theorem dX10_less_6 : decode cX10_less 6 = .ok (.dup2, 1) := by decide +kernel
theorem dX10_less_7 : decode cX10_less 7 = .ok (.iaload, 1) := by decide +kernel
theorem dX10_less_8 : decode cX10_less 8 = .ok (.iconst 1, 1) := by decide +kernel
theorem dX10_less_9 : decode cX10_less 9 = .ok (.iadd, 1) := by decide +kernel
theorem dX10_less_10 : decode cX10_less 10 = .ok (.iastore, 1) := by decide +kernel
theorem dX10_less_11 : decode cX10_less 11 = .ok (.ldc 96, 2) := by decide +kernel
theorem dX10_less_13 : decode cX10_less 13 = .ok (.iload_n 1, 1) := by decide +kernel
theorem dX10_less_14 : decode cX10_less 14 = .ok (.isub, 1) := by decide +kernel
theorem dX10_less_15 : decode cX10_less 15 = .ok (.ireturn, 1) := by decide +kernel
theorem dX10_isIn_0 : decode cX10_isIn 0 = .ok (.lload_n 0, 1) := by decide +kernel
theorem dX10_isIn_1 : decode cX10_isIn 1 = .ok (.lload_n 2, 1) := by decide +kernel
theorem dX10_isIn_2 : decode cX10_isIn 2 = .ok (.lcmp, 1) := by decide +kernel
theorem dX10_isIn_3 : decode cX10_isIn 3 = .ok (.ifCond .lt 14, 3) := by decide +kernel
theorem dX10_isIn_6 : decode cX10_isIn 6 = .ok (.lload_n 0, 1) := by decide +kernel
theorem dX10_isIn_7 : decode cX10_isIn 7 = .ok (.lload 4, 2) := by decide +kernel
theorem dX10_isIn_9 : decode cX10_isIn 9 = .ok (.lcmp, 1) := by decide +kernel
theorem dX10_isIn_10 : decode cX10_isIn 10 = .ok (.ifCond .gt 7, 3) := by decide +kernel
theorem dX10_isIn_13 : decode cX10_isIn 13 = .ok (.iconst 1, 1) := by decide +kernel
theorem dX10_isIn_14 : decode cX10_isIn 14 = .ok (.goto 4, 3) := by decide +kernel
theorem dX10_isIn_17 : decode cX10_isIn 17 = .ok (.iconst 0, 1) := by decide +kernel
theorem dX10_isIn_18 : decode cX10_isIn 18 = .ok (.ireturn, 1) := by decide +kernel
theorem dX10_out_0 : decode cX10_out 0 = .ok (.lload_n 0, 1) := by decide +kernel
theorem dX10_out_1 : decode cX10_out 1 = .ok (.lload_n 2, 1) := by decide +kernel
theorem dX10_out_2 : decode cX10_out 2 = .ok (.lcmp, 1) := by decide +kernel
theorem dX10_out_3 : decode cX10_out 3 = .ok (.ifCond .ge 8, 3) := by decide +kernel
theorem dX10_out_6 : decode cX10_out 6 = .ok (.bipush (-4), 2) := by decide +kernel
theorem dX10_out_8 : decode cX10_out 8 = .ok (.goto 16, 3) := by decide +kernel
theorem dX10_out_11 : decode cX10_out 11 = .ok (.lload_n 0, 1) := by decide +kernel
theorem dX10_out_12 : decode cX10_out 12 = .ok (.lload 4, 2) := by decide +kernel
theorem dX10_out_14 : decode cX10_out 14 = .ok (.lcmp, 1) := by decide +kernel
theorem dX10_out_15 : decode cX10_out 15 = .ok (.ifCond .le 8, 3) := by decide +kernel
theorem dX10_out_18 : decode cX10_out 18 = .ok (.bipush (-6), 2) := by decide +kernel
theorem dX10_out_20 : decode cX10_out 20 = .ok (.goto 4, 3) := by decide +kernel
theorem dX10_out_23 : decode cX10_out 23 = .ok (.iconst 0, 1) := by decide +kernel
theorem dX10_out_24 : decode cX10_out 24 = .ok (.ireturn, 1) := by decide +kernel
theorem dX10_isPerson_0 : decode cX10_isPerson 0 = .ok (.iload_n 1, 1) := by decide +kernel
theorem dX10_isPerson_1 : decode cX10_isPerson 1 = .ok (.ifCond .lt 15, 3) := by decide +kernel
theorem dX10_isPerson_4 : decode cX10_isPerson 4 = .ok (.iload_n 1, 1) := by decide +kernel
theorem dX10_isPerson_5 : decode cX10_isPerson 5 = .ok (.aload_n 0, 1) := by decide +kernel
theorem dX10_isPerson_6 : decode cX10_isPerson 6 = .ok (.getfield 34, 3) := by decide +kernel
theorem dX10_isPerson_9 : decode cX10_isPerson 9 = .ok (.if_icmp .ge 7, 3) := by decide +kernel
theorem dX10_isPerson_12 : decode cX10_isPerson 12 = .ok (.iconst 1, 1) := by decide +kernel
theorem dX10_isPerson_13 : decode cX10_isPerson 13 = .ok (.goto 4, 3) := by decide +kernel
theorem dX10_isPerson_16 : decode cX10_isPerson 16 = .ok (.iconst 0, 1) := by decide +kernel
theorem dX10_isPerson_17 : decode cX10_isPerson 17 = .ok (.ireturn, 1) := by decide +kernel
theorem dX10_isKind_0 : decode cX10_isKind 0 = .ok (.iload_n 0, 1) := by decide +kernel
theorem dX10_isKind_1 : decode cX10_isKind 1 = .ok (.ifCond .lt 12, 3) := by decide +kernel
theorem dX10_isKind_4 : decode cX10_isKind 4 = .ok (.iload_n 0, 1) := by decide +kernel
theorem dX10_isKind_5 : decode cX10_isKind 5 = .ok (.iconst 3, 1) := by decide +kernel
theorem dX10_isKind_6 : decode cX10_isKind 6 = .ok (.if_icmp .ge 7, 3) := by decide +kernel
theorem dX10_isKind_9 : decode cX10_isKind 9 = .ok (.iconst 1, 1) := by decide +kernel
theorem dX10_isKind_10 : decode cX10_isKind 10 = .ok (.goto 4, 3) := by decide +kernel
theorem dX10_isKind_13 : decode cX10_isKind 13 = .ok (.iconst 0, 1) := by decide +kernel
theorem dX10_isKind_14 : decode cX10_isKind 14 = .ok (.ireturn, 1) := by decide +kernel
theorem dX10_isSameness_0 : decode cX10_isSameness 0 = .ok (.iload_n 0, 1) := by decide +kernel
theorem dX10_isSameness_1 : decode cX10_isSameness 1 = .ok (.ifCond .lt 12, 3) := by decide +kernel
theorem dX10_isSameness_4 : decode cX10_isSameness 4 = .ok (.iload_n 0, 1) := by decide +kernel
theorem dX10_isSameness_5 : decode cX10_isSameness 5 = .ok (.iconst 5, 1) := by decide +kernel
theorem dX10_isSameness_6 : decode cX10_isSameness 6 = .ok (.if_icmp .ge 7, 3) := by decide +kernel
theorem dX10_isSameness_9 : decode cX10_isSameness 9 = .ok (.iconst 1, 1) := by decide +kernel
theorem dX10_isSameness_10 : decode cX10_isSameness 10 = .ok (.goto 4, 3) := by decide +kernel
theorem dX10_isSameness_13 : decode cX10_isSameness 13 = .ok (.iconst 0, 1) := by decide +kernel
theorem dX10_isSameness_14 : decode cX10_isSameness 14 = .ok (.ireturn, 1) := by decide +kernel
theorem dX10_persons_0 : decode cX10_persons 0 = .ok (.iload_n 1, 1) := by decide +kernel
theorem dX10_persons_1 : decode cX10_persons 1 = .ok (.i2l, 1) := by decide +kernel
theorem dX10_persons_2 : decode cX10_persons 2 = .ok (.lconst 1, 1) := by decide +kernel
theorem dX10_persons_3 : decode cX10_persons 3 = .ok (.ldc2_w 97, 3) := by decide +kernel
theorem dX10_persons_6 : decode cX10_persons 6 = .ok (.invokestatic 99, 3) := by decide +kernel
theorem dX10_persons_9 : decode cX10_persons 9 = .ok (.istore_n 2, 1) := by decide +kernel
theorem dX10_persons_10 : decode cX10_persons 10 = .ok (.iload_n 2, 1) := by decide +kernel
theorem dX10_persons_11 : decode cX10_persons 11 = .ok (.ifCond .eq 9, 3) := by decide +kernel
theorem dX10_persons_14 : decode cX10_persons 14 = .ok (.aload_n 0, 1) := by decide +kernel
theorem dX10_persons_15 : decode cX10_persons 15 = .ok (.iload_n 2, 1) := by decide +kernel
theorem dX10_persons_16 : decode cX10_persons 16 = .ok (.invokevirtual 103, 3) := by decide +kernel
theorem dX10_persons_19 : decode cX10_persons 19 = .ok (.ireturn, 1) := by decide +kernel
theorem dX10_persons_20 : decode cX10_persons 20 = .ok (.aload_n 0, 1) := by decide +kernel
theorem dX10_persons_21 : decode cX10_persons 21 = .ok (.getfield 34, 3) := by decide +kernel
theorem dX10_persons_24 : decode cX10_persons 24 = .ok (.istore_n 3, 1) := by decide +kernel
theorem dX10_persons_25 : decode cX10_persons 25 = .ok (.aload_n 0, 1) := by decide +kernel
theorem dX10_persons_26 : decode cX10_persons 26 = .ok (.iload_n 1, 1) := by decide +kernel
theorem dX10_persons_27 : decode cX10_persons 27 = .ok (.putfield 34, 3) := by decide +kernel
theorem dX10_persons_30 : decode cX10_persons 30 = .ok (.aload_n 0, 1) := by decide +kernel
theorem dX10_persons_31 : decode cX10_persons 31 = .ok (.iconst 0, 1) := by decide +kernel
theorem dX10_persons_32 : decode cX10_persons 32 = .ok (.putfield 107, 3) := by decide +kernel
theorem dX10_persons_35 : decode cX10_persons 35 = .ok (.aload_n 0, 1) := by decide +kernel
theorem dX10_persons_36 : decode cX10_persons 36 = .ok (.iconst 0, 1) := by decide +kernel
theorem dX10_persons_37 : decode cX10_persons 37 = .ok (.putfield 110, 3) := by decide +kernel
theorem dX10_persons_40 : decode cX10_persons 40 = .ok (.iconst 0, 1) := by decide +kernel
theorem dX10_persons_41 : decode cX10_persons 41 = .ok (.istore 4, 2) := by decide +kernel
theorem dX10_persons_43 : decode cX10_persons 43 = .ok (.iload 4, 2) := by decide +kernel
theorem dX10_persons_45 : decode cX10_persons 45 = .ok (.bipush 7, 2) := by decide +kernel
theorem dX10_persons_47 : decode cX10_persons 47 = .ok (.if_icmp .ge 17, 3) := by decide +kernel
theorem dX10_persons_50 : decode cX10_persons 50 = .ok (.aload_n 0, 1) := by decide +kernel
theorem dX10_persons_51 : decode cX10_persons 51 = .ok (.getfield 13, 3) := by decide +kernel
theorem dX10_persons_54 : decode cX10_persons 54 = .ok (.iload 4, 2) := by decide +kernel
theorem dX10_persons_56 : decode cX10_persons 56 = .ok (.iconst 0, 1) := by decide +kernel
theorem dX10_persons_57 : decode cX10_persons 57 = .ok (.iastore, 1) := by decide +kernel
theorem dX10_persons_58 : decode cX10_persons 58 = .ok (.iinc 4 1, 3) := by decide +kernel
theorem dX10_persons_61 : decode cX10_persons 61 = .ok (.goto (-18), 3) := by decide +kernel
theorem dX10_persons_64 : decode cX10_persons 64 = .ok (.iload_n 3, 1) := by decide +kernel
theorem dX10_persons_65 : decode cX10_persons 65 = .ok (.ireturn, 1) := by decide +kernel
theorem dX10_mark_0 : decode cX10_mark 0 = .ok (.aload_n 0, 1) := by decide +kernel
theorem dX10_mark_1 : decode cX10_mark 1 = .ok (.iload_n 1, 1) := by decide +kernel
theorem dX10_mark_2 : decode cX10_mark 2 = .ok (.invokevirtual 113, 3) := by decide +kernel
theorem dX10_mark_5 : decode cX10_mark 5 = .ok (.ifCond .ne 9, 3) := by decide +kernel
theorem dX10_mark_8 : decode cX10_mark 8 = .ok (.aload_n 0, 1) := by decide +kernel
theorem dX10_mark_9 : decode cX10_mark 9 = .ok (.iconst (-1), 1) := by decide +kernel
theorem dX10_mark_10 : decode cX10_mark 10 = .ok (.invokevirtual 103, 3) := by decide +kernel
theorem dX10_mark_13 : decode cX10_mark 13 = .ok (.ireturn, 1) := by decide +kernel
theorem dX10_mark_14 : decode cX10_mark 14 = .ok (.iload_n 2, 1) := by decide +kernel
theorem dX10_mark_15 : decode cX10_mark 15 = .ok (.i2l, 1) := by decide +kernel
theorem dX10_mark_16 : decode cX10_mark 16 = .ok (.lconst 0, 1) := by decide +kernel
theorem dX10_mark_17 : decode cX10_mark 17 = .ok (.ldc2_w 117, 3) := by decide +kernel
theorem dX10_mark_20 : decode cX10_mark 20 = .ok (.invokestatic 99, 3) := by decide +kernel
theorem dX10_mark_23 : decode cX10_mark 23 = .ok (.istore_n 3, 1) := by decide +kernel
theorem dX10_mark_24 : decode cX10_mark 24 = .ok (.iload_n 3, 1) := by decide +kernel
theorem dX10_mark_25 : decode cX10_mark 25 = .ok (.ifCond .eq 9, 3) := by decide +kernel
theorem dX10_mark_28 : decode cX10_mark 28 = .ok (.aload_n 0, 1) := by decide +kernel
theorem dX10_mark_29 : decode cX10_mark 29 = .ok (.iload_n 3, 1) := by decide +kernel
theorem dX10_mark_30 : decode cX10_mark 30 = .ok (.invokevirtual 103, 3) := by decide +kernel
theorem dX10_mark_33 : decode cX10_mark 33 = .ok (.ireturn, 1) := by decide +kernel
theorem dX10_mark_34 : decode cX10_mark 34 = .ok (.aload_n 0, 1) := by decide +kernel
theorem dX10_mark_35 : decode cX10_mark 35 = .ok (.getfield 13, 3) := by decide +kernel
theorem dX10_mark_38 : decode cX10_mark 38 = .ok (.iload_n 1, 1) := by decide +kernel
theorem dX10_mark_39 : decode cX10_mark 39 = .ok (.iaload, 1) := by decide +kernel
theorem dX10_mark_40 : decode cX10_mark 40 = .ok (.istore 4, 2) := by decide +kernel
theorem dX10_mark_42 : decode cX10_mark 42 = .ok (.aload_n 0, 1) := by decide +kernel
theorem dX10_mark_43 : decode cX10_mark 43 = .ok (.getfield 13, 3) := by decide +kernel
theorem dX10_mark_46 : decode cX10_mark 46 = .ok (.iload_n 1, 1) := by decide +kernel
theorem dX10_mark_47 : decode cX10_mark 47 = .ok (.iload_n 2, 1) := by decide +kernel
theorem dX10_mark_48 : decode cX10_mark 48 = .ok (.iastore, 1) := by decide +kernel
theorem dX10_mark_49 : decode cX10_mark 49 = .ok (.iload 4, 2) := by decide +kernel
theorem dX10_mark_51 : decode cX10_mark 51 = .ok (.ireturn, 1) := by decide +kernel
theorem dX10_year_0 : decode cX10_year 0 = .ok (.iload_n 1, 1) := by decide +kernel
theorem dX10_year_1 : decode cX10_year 1 = .ok (.i2l, 1) := by decide +kernel
theorem dX10_year_2 : decode cX10_year 2 = .ok (.lconst 0, 1) := by decide +kernel
theorem dX10_year_3 : decode cX10_year 3 = .ok (.ldc2_w 119, 3) := by decide +kernel
theorem dX10_year_6 : decode cX10_year 6 = .ok (.invokestatic 99, 3) := by decide +kernel
theorem dX10_year_9 : decode cX10_year 9 = .ok (.istore_n 2, 1) := by decide +kernel
theorem dX10_year_10 : decode cX10_year 10 = .ok (.iload_n 2, 1) := by decide +kernel
theorem dX10_year_11 : decode cX10_year 11 = .ok (.ifCond .eq 9, 3) := by decide +kernel
theorem dX10_year_14 : decode cX10_year 14 = .ok (.aload_n 0, 1) := by decide +kernel
theorem dX10_year_15 : decode cX10_year 15 = .ok (.iload_n 2, 1) := by decide +kernel
theorem dX10_year_16 : decode cX10_year 16 = .ok (.invokevirtual 103, 3) := by decide +kernel
theorem dX10_year_19 : decode cX10_year 19 = .ok (.ireturn, 1) := by decide +kernel
theorem dX10_year_20 : decode cX10_year 20 = .ok (.aload_n 0, 1) := by decide +kernel
theorem dX10_year_21 : decode cX10_year 21 = .ok (.getfield 121, 3) := by decide +kernel
theorem dX10_year_24 : decode cX10_year 24 = .ok (.istore_n 3, 1) := by decide +kernel
theorem dX10_year_25 : decode cX10_year 25 = .ok (.aload_n 0, 1) := by decide +kernel
theorem dX10_year_26 : decode cX10_year 26 = .ok (.iload_n 1, 1) := by decide +kernel
theorem dX10_year_27 : decode cX10_year 27 = .ok (.putfield 121, 3) := by decide +kernel
theorem dX10_year_30 : decode cX10_year 30 = .ok (.iload_n 3, 1) := by decide +kernel
theorem dX10_year_31 : decode cX10_year 31 = .ok (.ireturn, 1) := by decide +kernel
theorem dX10_feed_0 : decode cX10_feed 0 = .ok (.iload_n 1, 1) := by decide +kernel
theorem dX10_feed_1 : decode cX10_feed 1 = .ok (.i2l, 1) := by decide +kernel
theorem dX10_feed_2 : decode cX10_feed 2 = .ok (.lconst 1, 1) := by decide +kernel
theorem dX10_feed_3 : decode cX10_feed 3 = .ok (.ldc2_w 124, 3) := by decide +kernel
theorem dX10_feed_6 : decode cX10_feed 6 = .ok (.invokestatic 99, 3) := by decide +kernel
theorem dX10_feed_9 : decode cX10_feed 9 = .ok (.istore 4, 2) := by decide +kernel
theorem dX10_feed_11 : decode cX10_feed 11 = .ok (.iload 4, 2) := by decide +kernel
theorem dX10_feed_13 : decode cX10_feed 13 = .ok (.ifCond .ne 18, 3) := by decide +kernel
theorem dX10_feed_16 : decode cX10_feed 16 = .ok (.aload_n 0, 1) := by decide +kernel
theorem dX10_feed_17 : decode cX10_feed 17 = .ok (.getfield 126, 3) := by decide +kernel
theorem dX10_feed_20 : decode cX10_feed 20 = .ok (.iload_n 1, 1) := by decide +kernel
theorem dX10_feed_21 : decode cX10_feed 21 = .ok (.iadd, 1) := by decide +kernel
theorem dX10_feed_22 : decode cX10_feed 22 = .ok (.bipush 60, 2) := by decide +kernel
theorem dX10_feed_24 : decode cX10_feed 24 = .ok (.if_icmp .le 7, 3) := by decide +kernel
theorem dX10_feed_27 : decode cX10_feed 27 = .ok (.bipush (-6), 2) := by decide +kernel
theorem dX10_feed_29 : decode cX10_feed 29 = .ok (.istore 4, 2) := by decide +kernel
theorem dX10_feed_31 : decode cX10_feed 31 = .ok (.iload 4, 2) := by decide +kernel
theorem dX10_feed_33 : decode cX10_feed 33 = .ok (.ifCond .eq 10, 3) := by decide +kernel
theorem dX10_feed_36 : decode cX10_feed 36 = .ok (.aload_n 0, 1) := by decide +kernel
theorem dX10_feed_37 : decode cX10_feed 37 = .ok (.iload 4, 2) := by decide +kernel
theorem dX10_feed_39 : decode cX10_feed 39 = .ok (.invokevirtual 103, 3) := by decide +kernel
theorem dX10_feed_42 : decode cX10_feed 42 = .ok (.ireturn, 1) := by decide +kernel
theorem dX10_feed_43 : decode cX10_feed 43 = .ok (.iconst 0, 1) := by decide +kernel
theorem dX10_feed_44 : decode cX10_feed 44 = .ok (.istore 5, 2) := by decide +kernel
theorem dX10_feed_46 : decode cX10_feed 46 = .ok (.iload 5, 2) := by decide +kernel
theorem dX10_feed_48 : decode cX10_feed 48 = .ok (.iload_n 1, 1) := by decide +kernel
theorem dX10_feed_49 : decode cX10_feed 49 = .ok (.if_icmp .ge 40, 3) := by decide +kernel
theorem dX10_feed_52 : decode cX10_feed 52 = .ok (.aload_n 0, 1) := by decide +kernel
theorem dX10_feed_53 : decode cX10_feed 53 = .ok (.getfield 38, 3) := by decide +kernel
theorem dX10_feed_56 : decode cX10_feed 56 = .ok (.aload_n 0, 1) := by decide +kernel
theorem dX10_feed_57 : decode cX10_feed 57 = .ok (.getfield 126, 3) := by decide +kernel
theorem dX10_feed_60 : decode cX10_feed 60 = .ok (.lload_n 2, 1) := by decide +kernel
theorem dX10_feed_61 : decode cX10_feed 61 = .ok (.bipush 8, 2) := by decide +kernel
theorem dX10_feed_63 : decode cX10_feed 63 = .ok (.iload 5, 2) := by decide +kernel
theorem dX10_feed_65 : decode cX10_feed 65 = .ok (.imul, 1) := by decide +kernel
theorem dX10_feed_66 : decode cX10_feed 66 = .ok (.lshr, 1) := by decide +kernel
theorem dX10_feed_67 : decode cX10_feed 67 = .ok (.ldc2_w 129, 3) := by decide +kernel
theorem dX10_feed_70 : decode cX10_feed 70 = .ok (.land, 1) := by decide +kernel
theorem dX10_feed_71 : decode cX10_feed 71 = .ok (.l2i, 1) := by decide +kernel
theorem dX10_feed_72 : decode cX10_feed 72 = .ok (.iastore, 1) := by decide +kernel
theorem dX10_feed_73 : decode cX10_feed 73 = .ok (.aload_n 0, 1) := by decide +kernel
theorem dX10_feed_74 : decode cX10_feed 74 = .ok (.dup, 1) := by decide +kernel
theorem dX10_feed_75 : decode cX10_feed 75 = .ok (.getfield 126, 3) := by decide +kernel
theorem dX10_feed_78 : decode cX10_feed 78 = .ok (.iconst 1, 1) := by decide +kernel
theorem dX10_feed_79 : decode cX10_feed 79 = .ok (.iadd, 1) := by decide +kernel
theorem dX10_feed_80 : decode cX10_feed 80 = .ok (.putfield 126, 3) := by decide +kernel
theorem dX10_feed_83 : decode cX10_feed 83 = .ok (.iinc 5 1, 3) := by decide +kernel
theorem dX10_feed_86 : decode cX10_feed 86 = .ok (.goto (-40), 3) := by decide +kernel
theorem dX10_feed_89 : decode cX10_feed 89 = .ok (.aload_n 0, 1) := by decide +kernel
theorem dX10_feed_90 : decode cX10_feed 90 = .ok (.getfield 126, 3) := by decide +kernel
theorem dX10_feed_93 : decode cX10_feed 93 = .ok (.ireturn, 1) := by decide +kernel
theorem dX10_sign_0 : decode cX10_sign 0 = .ok (.aload_n 0, 1) := by decide +kernel
theorem dX10_sign_1 : decode cX10_sign 1 = .ok (.getfield 131, 3) := by decide +kernel
theorem dX10_sign_4 : decode cX10_sign 4 = .ok (.aload_n 0, 1) := by decide +kernel
theorem dX10_sign_5 : decode cX10_sign 5 = .ok (.getfield 126, 3) := by decide +kernel
theorem dX10_sign_8 : decode cX10_sign 8 = .ok (.if_icmp .ge 15, 3) := by decide +kernel
theorem dX10_sign_11 : decode cX10_sign 11 = .ok (.aload_n 0, 1) := by decide +kernel
theorem dX10_sign_12 : decode cX10_sign 12 = .ok (.getfield 38, 3) := by decide +kernel
theorem dX10_sign_15 : decode cX10_sign 15 = .ok (.aload_n 0, 1) := by decide +kernel
theorem dX10_sign_16 : decode cX10_sign 16 = .ok (.getfield 131, 3) := by decide +kernel
theorem dX10_sign_19 : decode cX10_sign 19 = .ok (.iaload, 1) := by decide +kernel
theorem dX10_sign_20 : decode cX10_sign 20 = .ok (.goto 4, 3) := by decide +kernel
theorem dX10_sign_23 : decode cX10_sign 23 = .ok (.iconst (-1), 1) := by decide +kernel
theorem dX10_sign_24 : decode cX10_sign 24 = .ok (.ireturn, 1) := by decide +kernel
theorem dX10_takes_0 : decode cX10_takes 0 = .ok (.aload_n 0, 1) := by decide +kernel
theorem dX10_takes_1 : decode cX10_takes 1 = .ok (.invokevirtual 134, 3) := by decide +kernel
theorem dX10_takes_4 : decode cX10_takes 4 = .ok (.iload_n 1, 1) := by decide +kernel
theorem dX10_takes_5 : decode cX10_takes 5 = .ok (.if_icmp .eq 5, 3) := by decide +kernel
theorem dX10_takes_8 : decode cX10_takes 8 = .ok (.iconst 0, 1) := by decide +kernel
theorem dX10_takes_9 : decode cX10_takes 9 = .ok (.ireturn, 1) := by decide +kernel
theorem dX10_takes_10 : decode cX10_takes 10 = .ok (.aload_n 0, 1) := by decide +kernel
theorem dX10_takes_11 : decode cX10_takes 11 = .ok (.dup, 1) := by decide +kernel
theorem dX10_takes_12 : decode cX10_takes 12 = .ok (.getfield 131, 3) := by decide +kernel
theorem dX10_takes_15 : decode cX10_takes 15 = .ok (.iconst 1, 1) := by decide +kernel
theorem dX10_takes_16 : decode cX10_takes 16 = .ok (.iadd, 1) := by decide +kernel
theorem dX10_takes_17 : decode cX10_takes 17 = .ok (.putfield 131, 3) := by decide +kernel
theorem dX10_takes_20 : decode cX10_takes 20 = .ok (.iconst 1, 1) := by decide +kernel
theorem dX10_takes_21 : decode cX10_takes 21 = .ok (.ireturn, 1) := by decide +kernel
theorem dX10_takesIn_0 : decode cX10_takesIn 0 = .ok (.aload_n 0, 1) := by decide +kernel
theorem dX10_takesIn_1 : decode cX10_takesIn 1 = .ok (.invokevirtual 134, 3) := by decide +kernel
theorem dX10_takesIn_4 : decode cX10_takesIn 4 = .ok (.iload_n 1, 1) := by decide +kernel
theorem dX10_takesIn_5 : decode cX10_takesIn 5 = .ok (.isub, 1) := by decide +kernel
theorem dX10_takesIn_6 : decode cX10_takesIn 6 = .ok (.istore 4, 2) := by decide +kernel
theorem dX10_takesIn_8 : decode cX10_takesIn 8 = .ok (.iload 4, 2) := by decide +kernel
theorem dX10_takesIn_10 : decode cX10_takesIn 10 = .ok (.i2l, 1) := by decide +kernel
theorem dX10_takesIn_11 : decode cX10_takesIn 11 = .ok (.iload_n 2, 1) := by decide +kernel
theorem dX10_takesIn_12 : decode cX10_takesIn 12 = .ok (.i2l, 1) := by decide +kernel
theorem dX10_takesIn_13 : decode cX10_takesIn 13 = .ok (.iload_n 3, 1) := by decide +kernel
theorem dX10_takesIn_14 : decode cX10_takesIn 14 = .ok (.i2l, 1) := by decide +kernel
theorem dX10_takesIn_15 : decode cX10_takesIn 15 = .ok (.invokestatic 138, 3) := by decide +kernel
theorem dX10_takesIn_18 : decode cX10_takesIn 18 = .ok (.ifCond .ne 5, 3) := by decide +kernel
theorem dX10_takesIn_21 : decode cX10_takesIn 21 = .ok (.iconst (-1), 1) := by decide +kernel
theorem dX10_takesIn_22 : decode cX10_takesIn 22 = .ok (.ireturn, 1) := by decide +kernel
theorem dX10_takesIn_23 : decode cX10_takesIn 23 = .ok (.aload_n 0, 1) := by decide +kernel
theorem dX10_takesIn_24 : decode cX10_takesIn 24 = .ok (.dup, 1) := by decide +kernel
theorem dX10_takesIn_25 : decode cX10_takesIn 25 = .ok (.getfield 131, 3) := by decide +kernel
theorem dX10_takesIn_28 : decode cX10_takesIn 28 = .ok (.iconst 1, 1) := by decide +kernel
theorem dX10_takesIn_29 : decode cX10_takesIn 29 = .ok (.iadd, 1) := by decide +kernel
theorem dX10_takesIn_30 : decode cX10_takesIn 30 = .ok (.putfield 131, 3) := by decide +kernel
theorem dX10_takesIn_33 : decode cX10_takesIn 33 = .ok (.iload 4, 2) := by decide +kernel
theorem dX10_takesIn_35 : decode cX10_takesIn 35 = .ok (.ireturn, 1) := by decide +kernel
theorem dX10_years_0 : decode cX10_years 0 = .ok (.aload_n 0, 1) := by decide +kernel
theorem dX10_years_1 : decode cX10_years 1 = .ok (.getfield 131, 3) := by decide +kernel
theorem dX10_years_4 : decode cX10_years 4 = .ok (.istore_n 2, 1) := by decide +kernel
theorem dX10_years_5 : decode cX10_years 5 = .ok (.aload_n 0, 1) := by decide +kernel
theorem dX10_years_6 : decode cX10_years 6 = .ok (.bipush 48, 2) := by decide +kernel
theorem dX10_years_8 : decode cX10_years 8 = .ok (.iconst 0, 1) := by decide +kernel
theorem dX10_years_9 : decode cX10_years 9 = .ok (.bipush 9, 2) := by decide +kernel
theorem dX10_years_11 : decode cX10_years 11 = .ok (.invokevirtual 142, 3) := by decide +kernel
theorem dX10_years_14 : decode cX10_years 14 = .ok (.istore_n 3, 1) := by decide +kernel
theorem dX10_years_15 : decode cX10_years 15 = .ok (.iload_n 3, 1) := by decide +kernel
theorem dX10_years_16 : decode cX10_years 16 = .ok (.ifCond .ge 5, 3) := by decide +kernel
theorem dX10_years_19 : decode cX10_years 19 = .ok (.iconst (-1), 1) := by decide +kernel
theorem dX10_years_20 : decode cX10_years 20 = .ok (.ireturn, 1) := by decide +kernel
theorem dX10_years_21 : decode cX10_years 21 = .ok (.iconst 1, 1) := by decide +kernel
theorem dX10_years_22 : decode cX10_years 22 = .ok (.istore 4, 2) := by decide +kernel
theorem dX10_years_24 : decode cX10_years 24 = .ok (.iload 4, 2) := by decide +kernel
theorem dX10_years_26 : decode cX10_years 26 = .ok (.iconst 3, 1) := by decide +kernel
theorem dX10_years_27 : decode cX10_years 27 = .ok (.if_icmp .ge 41, 3) := by decide +kernel
theorem dX10_years_30 : decode cX10_years 30 = .ok (.aload_n 0, 1) := by decide +kernel
theorem dX10_years_31 : decode cX10_years 31 = .ok (.invokevirtual 134, 3) := by decide +kernel
theorem dX10_years_34 : decode cX10_years 34 = .ok (.i2l, 1) := by decide +kernel
theorem dX10_years_35 : decode cX10_years 35 = .ok (.ldc2_w 146, 3) := by decide +kernel
theorem dX10_years_38 : decode cX10_years 38 = .ok (.ldc2_w 148, 3) := by decide +kernel
theorem dX10_years_41 : decode cX10_years 41 = .ok (.invokestatic 138, 3) := by decide +kernel
theorem dX10_years_44 : decode cX10_years 44 = .ok (.ifCond .eq 24, 3) := by decide +kernel
theorem dX10_years_47 : decode cX10_years 47 = .ok (.bipush 10, 2) := by decide +kernel
theorem dX10_years_49 : decode cX10_years 49 = .ok (.iload_n 3, 1) := by decide +kernel
theorem dX10_years_50 : decode cX10_years 50 = .ok (.imul, 1) := by decide +kernel
theorem dX10_years_51 : decode cX10_years 51 = .ok (.aload_n 0, 1) := by decide +kernel
theorem dX10_years_52 : decode cX10_years 52 = .ok (.bipush 48, 2) := by decide +kernel
theorem dX10_years_54 : decode cX10_years 54 = .ok (.iconst 0, 1) := by decide +kernel
theorem dX10_years_55 : decode cX10_years 55 = .ok (.bipush 9, 2) := by decide +kernel
theorem dX10_years_57 : decode cX10_years 57 = .ok (.invokevirtual 142, 3) := by decide +kernel
theorem dX10_years_60 : decode cX10_years 60 = .ok (.iadd, 1) := by decide +kernel
theorem dX10_years_61 : decode cX10_years 61 = .ok (.istore_n 3, 1) := by decide +kernel
theorem dX10_years_62 : decode cX10_years 62 = .ok (.iinc 4 1, 3) := by decide +kernel
theorem dX10_years_65 : decode cX10_years 65 = .ok (.goto (-41), 3) := by decide +kernel
theorem dX10_years_68 : decode cX10_years 68 = .ok (.iload_n 3, 1) := by decide +kernel
theorem dX10_years_69 : decode cX10_years 69 = .ok (.bipush 100, 2) := by decide +kernel
theorem dX10_years_71 : decode cX10_years 71 = .ok (.if_icmp .gt 10, 3) := by decide +kernel
theorem dX10_years_74 : decode cX10_years 74 = .ok (.iload_n 3, 1) := by decide +kernel
theorem dX10_years_75 : decode cX10_years 75 = .ok (.iload_n 1, 1) := by decide +kernel
theorem dX10_years_76 : decode cX10_years 76 = .ok (.if_icmp .le 5, 3) := by decide +kernel
theorem dX10_years_79 : decode cX10_years 79 = .ok (.iload_n 3, 1) := by decide +kernel
theorem dX10_years_80 : decode cX10_years 80 = .ok (.ireturn, 1) := by decide +kernel
theorem dX10_years_81 : decode cX10_years 81 = .ok (.aload_n 0, 1) := by decide +kernel
theorem dX10_years_82 : decode cX10_years 82 = .ok (.iload_n 2, 1) := by decide +kernel
theorem dX10_years_83 : decode cX10_years 83 = .ok (.putfield 131, 3) := by decide +kernel
theorem dX10_years_86 : decode cX10_years 86 = .ok (.iconst (-1), 1) := by decide +kernel
theorem dX10_years_87 : decode cX10_years 87 = .ok (.ireturn, 1) := by decide +kernel
theorem dX10_oneTie_0 : decode cX10_oneTie 0 = .ok (.aload_n 0, 1) := by decide +kernel
theorem dX10_oneTie_1 : decode cX10_oneTie 1 = .ok (.bipush 97, 2) := by decide +kernel
theorem dX10_oneTie_3 : decode cX10_oneTie 3 = .ok (.iconst 0, 1) := by decide +kernel
theorem dX10_oneTie_4 : decode cX10_oneTie 4 = .ok (.aload_n 0, 1) := by decide +kernel
theorem dX10_oneTie_5 : decode cX10_oneTie 5 = .ok (.getfield 34, 3) := by decide +kernel
theorem dX10_oneTie_8 : decode cX10_oneTie 8 = .ok (.iconst 1, 1) := by decide +kernel
theorem dX10_oneTie_9 : decode cX10_oneTie 9 = .ok (.isub, 1) := by decide +kernel
theorem dX10_oneTie_10 : decode cX10_oneTie 10 = .ok (.invokevirtual 142, 3) := by decide +kernel
theorem dX10_oneTie_13 : decode cX10_oneTie 13 = .ok (.istore_n 1, 1) := by decide +kernel
theorem dX10_oneTie_14 : decode cX10_oneTie 14 = .ok (.iload_n 1, 1) := by decide +kernel
theorem dX10_oneTie_15 : decode cX10_oneTie 15 = .ok (.ifCond .lt 12, 3) := by decide +kernel
theorem dX10_oneTie_18 : decode cX10_oneTie 18 = .ok (.aload_n 0, 1) := by decide +kernel
theorem dX10_oneTie_19 : decode cX10_oneTie 19 = .ok (.bipush 62, 2) := by decide +kernel
theorem dX10_oneTie_21 : decode cX10_oneTie 21 = .ok (.invokevirtual 150, 3) := by decide +kernel
theorem dX10_oneTie_24 : decode cX10_oneTie 24 = .ok (.ifCond .ne 5, 3) := by decide +kernel
theorem dX10_oneTie_27 : decode cX10_oneTie 27 = .ok (.iconst 0, 1) := by decide +kernel
theorem dX10_oneTie_28 : decode cX10_oneTie 28 = .ok (.ireturn, 1) := by decide +kernel
theorem dX10_oneTie_29 : decode cX10_oneTie 29 = .ok (.aload_n 0, 1) := by decide +kernel
theorem dX10_oneTie_30 : decode cX10_oneTie 30 = .ok (.invokevirtual 134, 3) := by decide +kernel
theorem dX10_oneTie_33 : decode cX10_oneTie 33 = .ok (.bipush 97, 2) := by decide +kernel
theorem dX10_oneTie_35 : decode cX10_oneTie 35 = .ok (.iload_n 1, 1) := by decide +kernel
theorem dX10_oneTie_36 : decode cX10_oneTie 36 = .ok (.iadd, 1) := by decide +kernel
theorem dX10_oneTie_37 : decode cX10_oneTie 37 = .ok (.if_icmp .ne 5, 3) := by decide +kernel
theorem dX10_oneTie_40 : decode cX10_oneTie 40 = .ok (.iconst 0, 1) := by decide +kernel
theorem dX10_oneTie_41 : decode cX10_oneTie 41 = .ok (.ireturn, 1) := by decide +kernel
theorem dX10_oneTie_42 : decode cX10_oneTie 42 = .ok (.aload_n 0, 1) := by decide +kernel
theorem dX10_oneTie_43 : decode cX10_oneTie 43 = .ok (.bipush 97, 2) := by decide +kernel
theorem dX10_oneTie_45 : decode cX10_oneTie 45 = .ok (.iconst 0, 1) := by decide +kernel
theorem dX10_oneTie_46 : decode cX10_oneTie 46 = .ok (.aload_n 0, 1) := by decide +kernel
theorem dX10_oneTie_47 : decode cX10_oneTie 47 = .ok (.getfield 34, 3) := by decide +kernel
theorem dX10_oneTie_50 : decode cX10_oneTie 50 = .ok (.iconst 1, 1) := by decide +kernel
theorem dX10_oneTie_51 : decode cX10_oneTie 51 = .ok (.isub, 1) := by decide +kernel
theorem dX10_oneTie_52 : decode cX10_oneTie 52 = .ok (.invokevirtual 142, 3) := by decide +kernel
theorem dX10_oneTie_55 : decode cX10_oneTie 55 = .ok (.istore_n 2, 1) := by decide +kernel
theorem dX10_oneTie_56 : decode cX10_oneTie 56 = .ok (.iload_n 2, 1) := by decide +kernel
theorem dX10_oneTie_57 : decode cX10_oneTie 57 = .ok (.ifCond .ge 5, 3) := by decide +kernel
theorem dX10_oneTie_60 : decode cX10_oneTie 60 = .ok (.iconst 0, 1) := by decide +kernel
theorem dX10_oneTie_61 : decode cX10_oneTie 61 = .ok (.ireturn, 1) := by decide +kernel
theorem dX10_oneTie_62 : decode cX10_oneTie 62 = .ok (.aload_n 0, 1) := by decide +kernel
theorem dX10_oneTie_63 : decode cX10_oneTie 63 = .ok (.bipush 48, 2) := by decide +kernel
theorem dX10_oneTie_65 : decode cX10_oneTie 65 = .ok (.iconst 0, 1) := by decide +kernel
theorem dX10_oneTie_66 : decode cX10_oneTie 66 = .ok (.iconst 2, 1) := by decide +kernel
theorem dX10_oneTie_67 : decode cX10_oneTie 67 = .ok (.invokevirtual 142, 3) := by decide +kernel
theorem dX10_oneTie_70 : decode cX10_oneTie 70 = .ok (.istore_n 3, 1) := by decide +kernel
theorem dX10_oneTie_71 : decode cX10_oneTie 71 = .ok (.iload_n 3, 1) := by decide +kernel
theorem dX10_oneTie_72 : decode cX10_oneTie 72 = .ok (.ifCond .ge 5, 3) := by decide +kernel
theorem dX10_oneTie_75 : decode cX10_oneTie 75 = .ok (.iconst 0, 1) := by decide +kernel
theorem dX10_oneTie_76 : decode cX10_oneTie 76 = .ok (.ireturn, 1) := by decide +kernel
theorem dX10_oneTie_77 : decode cX10_oneTie 77 = .ok (.aload_n 0, 1) := by decide +kernel
theorem dX10_oneTie_78 : decode cX10_oneTie 78 = .ok (.getfield 50, 3) := by decide +kernel
theorem dX10_oneTie_81 : decode cX10_oneTie 81 = .ok (.aload_n 0, 1) := by decide +kernel
theorem dX10_oneTie_82 : decode cX10_oneTie 82 = .ok (.getfield 153, 3) := by decide +kernel
theorem dX10_oneTie_85 : decode cX10_oneTie 85 = .ok (.iconst 1, 1) := by decide +kernel
theorem dX10_oneTie_86 : decode cX10_oneTie 86 = .ok (.iastore, 1) := by decide +kernel
theorem dX10_oneTie_87 : decode cX10_oneTie 87 = .ok (.aload_n 0, 1) := by decide +kernel
theorem dX10_oneTie_88 : decode cX10_oneTie 88 = .ok (.getfield 53, 3) := by decide +kernel
theorem dX10_oneTie_91 : decode cX10_oneTie 91 = .ok (.aload_n 0, 1) := by decide +kernel
theorem dX10_oneTie_92 : decode cX10_oneTie 92 = .ok (.getfield 153, 3) := by decide +kernel
theorem dX10_oneTie_95 : decode cX10_oneTie 95 = .ok (.iconst 0, 1) := by decide +kernel
theorem dX10_oneTie_96 : decode cX10_oneTie 96 = .ok (.iastore, 1) := by decide +kernel
theorem dX10_oneTie_97 : decode cX10_oneTie 97 = .ok (.aload_n 0, 1) := by decide +kernel
theorem dX10_oneTie_98 : decode cX10_oneTie 98 = .ok (.getfield 56, 3) := by decide +kernel
theorem dX10_oneTie_101 : decode cX10_oneTie 101 = .ok (.aload_n 0, 1) := by decide +kernel
theorem dX10_oneTie_102 : decode cX10_oneTie 102 = .ok (.getfield 153, 3) := by decide +kernel
theorem dX10_oneTie_105 : decode cX10_oneTie 105 = .ok (.bipush 100, 2) := by decide +kernel
theorem dX10_oneTie_107 : decode cX10_oneTie 107 = .ok (.iastore, 1) := by decide +kernel
theorem dX10_oneTie_108 : decode cX10_oneTie 108 = .ok (.aload_n 0, 1) := by decide +kernel
theorem dX10_oneTie_109 : decode cX10_oneTie 109 = .ok (.bipush 42, 2) := by decide +kernel
theorem dX10_oneTie_111 : decode cX10_oneTie 111 = .ok (.invokevirtual 150, 3) := by decide +kernel
theorem dX10_oneTie_114 : decode cX10_oneTie 114 = .ok (.ifCond .eq 35, 3) := by decide +kernel
theorem dX10_oneTie_117 : decode cX10_oneTie 117 = .ok (.aload_n 0, 1) := by decide +kernel
theorem dX10_oneTie_118 : decode cX10_oneTie 118 = .ok (.getfield 50, 3) := by decide +kernel
theorem dX10_oneTie_121 : decode cX10_oneTie 121 = .ok (.aload_n 0, 1) := by decide +kernel
theorem dX10_oneTie_122 : decode cX10_oneTie 122 = .ok (.getfield 153, 3) := by decide +kernel
theorem dX10_oneTie_125 : decode cX10_oneTie 125 = .ok (.aload_n 0, 1) := by decide +kernel
theorem dX10_oneTie_126 : decode cX10_oneTie 126 = .ok (.bipush 48, 2) := by decide +kernel
theorem dX10_oneTie_128 : decode cX10_oneTie 128 = .ok (.iconst 1, 1) := by decide +kernel
theorem dX10_oneTie_129 : decode cX10_oneTie 129 = .ok (.bipush 9, 2) := by decide +kernel
theorem dX10_oneTie_131 : decode cX10_oneTie 131 = .ok (.invokevirtual 142, 3) := by decide +kernel
theorem dX10_oneTie_134 : decode cX10_oneTie 134 = .ok (.iastore, 1) := by decide +kernel
theorem dX10_oneTie_135 : decode cX10_oneTie 135 = .ok (.aload_n 0, 1) := by decide +kernel
theorem dX10_oneTie_136 : decode cX10_oneTie 136 = .ok (.getfield 50, 3) := by decide +kernel
theorem dX10_oneTie_139 : decode cX10_oneTie 139 = .ok (.aload_n 0, 1) := by decide +kernel
theorem dX10_oneTie_140 : decode cX10_oneTie 140 = .ok (.getfield 153, 3) := by decide +kernel
theorem dX10_oneTie_143 : decode cX10_oneTie 143 = .ok (.iaload, 1) := by decide +kernel
theorem dX10_oneTie_144 : decode cX10_oneTie 144 = .ok (.ifCond .ge 5, 3) := by decide +kernel
theorem dX10_oneTie_147 : decode cX10_oneTie 147 = .ok (.iconst 0, 1) := by decide +kernel
theorem dX10_oneTie_148 : decode cX10_oneTie 148 = .ok (.ireturn, 1) := by decide +kernel
theorem dX10_oneTie_149 : decode cX10_oneTie 149 = .ok (.aload_n 0, 1) := by decide +kernel
theorem dX10_oneTie_150 : decode cX10_oneTie 150 = .ok (.bipush 64, 2) := by decide +kernel
theorem dX10_oneTie_152 : decode cX10_oneTie 152 = .ok (.invokevirtual 150, 3) := by decide +kernel
theorem dX10_oneTie_155 : decode cX10_oneTie 155 = .ok (.ifCond .eq 76, 3) := by decide +kernel
theorem dX10_oneTie_158 : decode cX10_oneTie 158 = .ok (.aload_n 0, 1) := by decide +kernel
theorem dX10_oneTie_159 : decode cX10_oneTie 159 = .ok (.getfield 53, 3) := by decide +kernel
theorem dX10_oneTie_162 : decode cX10_oneTie 162 = .ok (.aload_n 0, 1) := by decide +kernel
theorem dX10_oneTie_163 : decode cX10_oneTie 163 = .ok (.getfield 153, 3) := by decide +kernel
theorem dX10_oneTie_166 : decode cX10_oneTie 166 = .ok (.aload_n 0, 1) := by decide +kernel
theorem dX10_oneTie_167 : decode cX10_oneTie 167 = .ok (.iconst (-1), 1) := by decide +kernel
theorem dX10_oneTie_168 : decode cX10_oneTie 168 = .ok (.invokevirtual 156, 3) := by decide +kernel
theorem dX10_oneTie_171 : decode cX10_oneTie 171 = .ok (.iastore, 1) := by decide +kernel
theorem dX10_oneTie_172 : decode cX10_oneTie 172 = .ok (.aload_n 0, 1) := by decide +kernel
theorem dX10_oneTie_173 : decode cX10_oneTie 173 = .ok (.getfield 53, 3) := by decide +kernel
theorem dX10_oneTie_176 : decode cX10_oneTie 176 = .ok (.aload_n 0, 1) := by decide +kernel
theorem dX10_oneTie_177 : decode cX10_oneTie 177 = .ok (.getfield 153, 3) := by decide +kernel
theorem dX10_oneTie_180 : decode cX10_oneTie 180 = .ok (.iaload, 1) := by decide +kernel
theorem dX10_oneTie_181 : decode cX10_oneTie 181 = .ok (.ifCond .lt 12, 3) := by decide +kernel
theorem dX10_oneTie_184 : decode cX10_oneTie 184 = .ok (.aload_n 0, 1) := by decide +kernel
theorem dX10_oneTie_185 : decode cX10_oneTie 185 = .ok (.bipush 45, 2) := by decide +kernel
theorem dX10_oneTie_187 : decode cX10_oneTie 187 = .ok (.invokevirtual 150, 3) := by decide +kernel
theorem dX10_oneTie_190 : decode cX10_oneTie 190 = .ok (.ifCond .ne 5, 3) := by decide +kernel
theorem dX10_oneTie_193 : decode cX10_oneTie 193 = .ok (.iconst 0, 1) := by decide +kernel
theorem dX10_oneTie_194 : decode cX10_oneTie 194 = .ok (.ireturn, 1) := by decide +kernel
theorem dX10_oneTie_195 : decode cX10_oneTie 195 = .ok (.aload_n 0, 1) := by decide +kernel
theorem dX10_oneTie_196 : decode cX10_oneTie 196 = .ok (.getfield 56, 3) := by decide +kernel
theorem dX10_oneTie_199 : decode cX10_oneTie 199 = .ok (.aload_n 0, 1) := by decide +kernel
theorem dX10_oneTie_200 : decode cX10_oneTie 200 = .ok (.getfield 153, 3) := by decide +kernel
theorem dX10_oneTie_203 : decode cX10_oneTie 203 = .ok (.aload_n 0, 1) := by decide +kernel
theorem dX10_oneTie_204 : decode cX10_oneTie 204 = .ok (.aload_n 0, 1) := by decide +kernel
theorem dX10_oneTie_205 : decode cX10_oneTie 205 = .ok (.getfield 53, 3) := by decide +kernel
theorem dX10_oneTie_208 : decode cX10_oneTie 208 = .ok (.aload_n 0, 1) := by decide +kernel
theorem dX10_oneTie_209 : decode cX10_oneTie 209 = .ok (.getfield 153, 3) := by decide +kernel
theorem dX10_oneTie_212 : decode cX10_oneTie 212 = .ok (.iaload, 1) := by decide +kernel
theorem dX10_oneTie_213 : decode cX10_oneTie 213 = .ok (.invokevirtual 156, 3) := by decide +kernel
theorem dX10_oneTie_216 : decode cX10_oneTie 216 = .ok (.iastore, 1) := by decide +kernel
theorem dX10_oneTie_217 : decode cX10_oneTie 217 = .ok (.aload_n 0, 1) := by decide +kernel
theorem dX10_oneTie_218 : decode cX10_oneTie 218 = .ok (.getfield 56, 3) := by decide +kernel
theorem dX10_oneTie_221 : decode cX10_oneTie 221 = .ok (.aload_n 0, 1) := by decide +kernel
theorem dX10_oneTie_222 : decode cX10_oneTie 222 = .ok (.getfield 153, 3) := by decide +kernel
theorem dX10_oneTie_225 : decode cX10_oneTie 225 = .ok (.iaload, 1) := by decide +kernel
theorem dX10_oneTie_226 : decode cX10_oneTie 226 = .ok (.ifCond .ge 5, 3) := by decide +kernel
theorem dX10_oneTie_229 : decode cX10_oneTie 229 = .ok (.iconst 0, 1) := by decide +kernel
theorem dX10_oneTie_230 : decode cX10_oneTie 230 = .ok (.ireturn, 1) := by decide +kernel
theorem dX10_oneTie_231 : decode cX10_oneTie 231 = .ok (.aload_n 0, 1) := by decide +kernel
theorem dX10_oneTie_232 : decode cX10_oneTie 232 = .ok (.getfield 41, 3) := by decide +kernel
theorem dX10_oneTie_235 : decode cX10_oneTie 235 = .ok (.aload_n 0, 1) := by decide +kernel
theorem dX10_oneTie_236 : decode cX10_oneTie 236 = .ok (.getfield 153, 3) := by decide +kernel
theorem dX10_oneTie_239 : decode cX10_oneTie 239 = .ok (.iload_n 1, 1) := by decide +kernel
theorem dX10_oneTie_240 : decode cX10_oneTie 240 = .ok (.iastore, 1) := by decide +kernel
theorem dX10_oneTie_241 : decode cX10_oneTie 241 = .ok (.aload_n 0, 1) := by decide +kernel
theorem dX10_oneTie_242 : decode cX10_oneTie 242 = .ok (.getfield 44, 3) := by decide +kernel
theorem dX10_oneTie_245 : decode cX10_oneTie 245 = .ok (.aload_n 0, 1) := by decide +kernel
theorem dX10_oneTie_246 : decode cX10_oneTie 246 = .ok (.getfield 153, 3) := by decide +kernel
theorem dX10_oneTie_249 : decode cX10_oneTie 249 = .ok (.iload_n 2, 1) := by decide +kernel
theorem dX10_oneTie_250 : decode cX10_oneTie 250 = .ok (.iastore, 1) := by decide +kernel
theorem dX10_oneTie_251 : decode cX10_oneTie 251 = .ok (.aload_n 0, 1) := by decide +kernel
theorem dX10_oneTie_252 : decode cX10_oneTie 252 = .ok (.getfield 47, 3) := by decide +kernel
theorem dX10_oneTie_255 : decode cX10_oneTie 255 = .ok (.aload_n 0, 1) := by decide +kernel
theorem dX10_oneTie_256 : decode cX10_oneTie 256 = .ok (.getfield 153, 3) := by decide +kernel
theorem dX10_oneTie_259 : decode cX10_oneTie 259 = .ok (.iload_n 3, 1) := by decide +kernel
theorem dX10_oneTie_260 : decode cX10_oneTie 260 = .ok (.iastore, 1) := by decide +kernel
theorem dX10_oneTie_261 : decode cX10_oneTie 261 = .ok (.aload_n 0, 1) := by decide +kernel
theorem dX10_oneTie_262 : decode cX10_oneTie 262 = .ok (.dup, 1) := by decide +kernel
theorem dX10_oneTie_263 : decode cX10_oneTie 263 = .ok (.getfield 153, 3) := by decide +kernel
theorem dX10_oneTie_266 : decode cX10_oneTie 266 = .ok (.iconst 1, 1) := by decide +kernel
theorem dX10_oneTie_267 : decode cX10_oneTie 267 = .ok (.iadd, 1) := by decide +kernel
theorem dX10_oneTie_268 : decode cX10_oneTie 268 = .ok (.putfield 153, 3) := by decide +kernel
theorem dX10_oneTie_271 : decode cX10_oneTie 271 = .ok (.iconst 1, 1) := by decide +kernel
theorem dX10_oneTie_272 : decode cX10_oneTie 272 = .ok (.ireturn, 1) := by decide +kernel
theorem dX10_reads_0 : decode cX10_reads 0 = .ok (.aload_n 0, 1) := by decide +kernel
theorem dX10_reads_1 : decode cX10_reads 1 = .ok (.iconst 0, 1) := by decide +kernel
theorem dX10_reads_2 : decode cX10_reads 2 = .ok (.putfield 131, 3) := by decide +kernel
theorem dX10_reads_5 : decode cX10_reads 5 = .ok (.aload_n 0, 1) := by decide +kernel
theorem dX10_reads_6 : decode cX10_reads 6 = .ok (.iconst 0, 1) := by decide +kernel
theorem dX10_reads_7 : decode cX10_reads 7 = .ok (.putfield 153, 3) := by decide +kernel
theorem dX10_reads_10 : decode cX10_reads 10 = .ok (.aload_n 0, 1) := by decide +kernel
theorem dX10_reads_11 : decode cX10_reads 11 = .ok (.invokevirtual 159, 3) := by decide +kernel
theorem dX10_reads_14 : decode cX10_reads 14 = .ok (.ifCond .ne 5, 3) := by decide +kernel
theorem dX10_reads_17 : decode cX10_reads 17 = .ok (.iconst 0, 1) := by decide +kernel
theorem dX10_reads_18 : decode cX10_reads 18 = .ok (.ireturn, 1) := by decide +kernel
theorem dX10_reads_19 : decode cX10_reads 19 = .ok (.aload_n 0, 1) := by decide +kernel
theorem dX10_reads_20 : decode cX10_reads 20 = .ok (.bipush 59, 2) := by decide +kernel
theorem dX10_reads_22 : decode cX10_reads 22 = .ok (.invokevirtual 150, 3) := by decide +kernel
theorem dX10_reads_25 : decode cX10_reads 25 = .ok (.ifCond .eq 12, 3) := by decide +kernel
theorem dX10_reads_28 : decode cX10_reads 28 = .ok (.aload_n 0, 1) := by decide +kernel
theorem dX10_reads_29 : decode cX10_reads 29 = .ok (.invokevirtual 159, 3) := by decide +kernel
theorem dX10_reads_32 : decode cX10_reads 32 = .ok (.ifCond .ne (-13), 3) := by decide +kernel
theorem dX10_reads_35 : decode cX10_reads 35 = .ok (.iconst 0, 1) := by decide +kernel
theorem dX10_reads_36 : decode cX10_reads 36 = .ok (.ireturn, 1) := by decide +kernel
theorem dX10_reads_37 : decode cX10_reads 37 = .ok (.aload_n 0, 1) := by decide +kernel
theorem dX10_reads_38 : decode cX10_reads 38 = .ok (.getfield 131, 3) := by decide +kernel
theorem dX10_reads_41 : decode cX10_reads 41 = .ok (.aload_n 0, 1) := by decide +kernel
theorem dX10_reads_42 : decode cX10_reads 42 = .ok (.getfield 126, 3) := by decide +kernel
theorem dX10_reads_45 : decode cX10_reads 45 = .ok (.if_icmp .ne 7, 3) := by decide +kernel
theorem dX10_reads_48 : decode cX10_reads 48 = .ok (.iconst 1, 1) := by decide +kernel
theorem dX10_reads_49 : decode cX10_reads 49 = .ok (.goto 4, 3) := by decide +kernel
theorem dX10_reads_52 : decode cX10_reads 52 = .ok (.iconst 0, 1) := by decide +kernel
theorem dX10_reads_53 : decode cX10_reads 53 = .ok (.ireturn, 1) := by decide +kernel
theorem dX10_ties_0 : decode cX10_ties 0 = .ok (.aload_n 0, 1) := by decide +kernel
theorem dX10_ties_1 : decode cX10_ties 1 = .ok (.invokevirtual 163, 3) := by decide +kernel
theorem dX10_ties_4 : decode cX10_ties 4 = .ok (.istore_n 1, 1) := by decide +kernel
theorem dX10_ties_5 : decode cX10_ties 5 = .ok (.aload_n 0, 1) := by decide +kernel
theorem dX10_ties_6 : decode cX10_ties 6 = .ok (.iconst 0, 1) := by decide +kernel
theorem dX10_ties_7 : decode cX10_ties 7 = .ok (.putfield 126, 3) := by decide +kernel
theorem dX10_ties_10 : decode cX10_ties 10 = .ok (.iload_n 1, 1) := by decide +kernel
theorem dX10_ties_11 : decode cX10_ties 11 = .ok (.ifCond .ne 11, 3) := by decide +kernel
theorem dX10_ties_14 : decode cX10_ties 14 = .ok (.bipush (-20), 2) := by decide +kernel
theorem dX10_ties_16 : decode cX10_ties 16 = .ok (.aload_n 0, 1) := by decide +kernel
theorem dX10_ties_17 : decode cX10_ties 17 = .ok (.getfield 131, 3) := by decide +kernel
theorem dX10_ties_20 : decode cX10_ties 20 = .ok (.isub, 1) := by decide +kernel
theorem dX10_ties_21 : decode cX10_ties 21 = .ok (.ireturn, 1) := by decide +kernel
theorem dX10_ties_22 : decode cX10_ties 22 = .ok (.aload_n 0, 1) := by decide +kernel
theorem dX10_ties_23 : decode cX10_ties 23 = .ok (.getfield 107, 3) := by decide +kernel
theorem dX10_ties_26 : decode cX10_ties 26 = .ok (.aload_n 0, 1) := by decide +kernel
theorem dX10_ties_27 : decode cX10_ties 27 = .ok (.getfield 153, 3) := by decide +kernel
theorem dX10_ties_30 : decode cX10_ties 30 = .ok (.iadd, 1) := by decide +kernel
theorem dX10_ties_31 : decode cX10_ties 31 = .ok (.bipush 60, 2) := by decide +kernel
theorem dX10_ties_33 : decode cX10_ties 33 = .ok (.if_icmp .le 10, 3) := by decide +kernel
theorem dX10_ties_36 : decode cX10_ties 36 = .ok (.aload_n 0, 1) := by decide +kernel
theorem dX10_ties_37 : decode cX10_ties 37 = .ok (.bipush (-6), 2) := by decide +kernel
theorem dX10_ties_39 : decode cX10_ties 39 = .ok (.invokevirtual 103, 3) := by decide +kernel
theorem dX10_ties_42 : decode cX10_ties 42 = .ok (.ireturn, 1) := by decide +kernel
theorem dX10_ties_43 : decode cX10_ties 43 = .ok (.iconst 0, 1) := by decide +kernel
theorem dX10_ties_44 : decode cX10_ties 44 = .ok (.istore_n 2, 1) := by decide +kernel
theorem dX10_ties_45 : decode cX10_ties 45 = .ok (.iload_n 2, 1) := by decide +kernel
theorem dX10_ties_46 : decode cX10_ties 46 = .ok (.aload_n 0, 1) := by decide +kernel
theorem dX10_ties_47 : decode cX10_ties 47 = .ok (.getfield 153, 3) := by decide +kernel
theorem dX10_ties_50 : decode cX10_ties 50 = .ok (.if_icmp .ge 109, 3) := by decide +kernel
theorem dX10_ties_53 : decode cX10_ties 53 = .ok (.aload_n 0, 1) := by decide +kernel
theorem dX10_ties_54 : decode cX10_ties 54 = .ok (.getfield 16, 3) := by decide +kernel
theorem dX10_ties_57 : decode cX10_ties 57 = .ok (.aload_n 0, 1) := by decide +kernel
theorem dX10_ties_58 : decode cX10_ties 58 = .ok (.getfield 107, 3) := by decide +kernel
theorem dX10_ties_61 : decode cX10_ties 61 = .ok (.aload_n 0, 1) := by decide +kernel
theorem dX10_ties_62 : decode cX10_ties 62 = .ok (.getfield 41, 3) := by decide +kernel
theorem dX10_ties_65 : decode cX10_ties 65 = .ok (.iload_n 2, 1) := by decide +kernel
theorem dX10_ties_66 : decode cX10_ties 66 = .ok (.iaload, 1) := by decide +kernel
theorem dX10_ties_67 : decode cX10_ties 67 = .ok (.iastore, 1) := by decide +kernel
theorem dX10_ties_68 : decode cX10_ties 68 = .ok (.aload_n 0, 1) := by decide +kernel
theorem dX10_ties_69 : decode cX10_ties 69 = .ok (.getfield 19, 3) := by decide +kernel
theorem dX10_ties_72 : decode cX10_ties 72 = .ok (.aload_n 0, 1) := by decide +kernel
theorem dX10_ties_73 : decode cX10_ties 73 = .ok (.getfield 107, 3) := by decide +kernel
theorem dX10_ties_76 : decode cX10_ties 76 = .ok (.aload_n 0, 1) := by decide +kernel
theorem dX10_ties_77 : decode cX10_ties 77 = .ok (.getfield 44, 3) := by decide +kernel
theorem dX10_ties_80 : decode cX10_ties 80 = .ok (.iload_n 2, 1) := by decide +kernel
theorem dX10_ties_81 : decode cX10_ties 81 = .ok (.iaload, 1) := by decide +kernel
theorem dX10_ties_82 : decode cX10_ties 82 = .ok (.iastore, 1) := by decide +kernel
theorem dX10_ties_83 : decode cX10_ties 83 = .ok (.aload_n 0, 1) := by decide +kernel
theorem dX10_ties_84 : decode cX10_ties 84 = .ok (.getfield 22, 3) := by decide +kernel
theorem dX10_ties_87 : decode cX10_ties 87 = .ok (.aload_n 0, 1) := by decide +kernel
theorem dX10_ties_88 : decode cX10_ties 88 = .ok (.getfield 107, 3) := by decide +kernel
theorem dX10_ties_91 : decode cX10_ties 91 = .ok (.aload_n 0, 1) := by decide +kernel
theorem dX10_ties_92 : decode cX10_ties 92 = .ok (.getfield 47, 3) := by decide +kernel
theorem dX10_ties_95 : decode cX10_ties 95 = .ok (.iload_n 2, 1) := by decide +kernel
theorem dX10_ties_96 : decode cX10_ties 96 = .ok (.iaload, 1) := by decide +kernel
theorem dX10_ties_97 : decode cX10_ties 97 = .ok (.iastore, 1) := by decide +kernel
theorem dX10_ties_98 : decode cX10_ties 98 = .ok (.aload_n 0, 1) := by decide +kernel
theorem dX10_ties_99 : decode cX10_ties 99 = .ok (.getfield 25, 3) := by decide +kernel
theorem dX10_ties_102 : decode cX10_ties 102 = .ok (.aload_n 0, 1) := by decide +kernel
theorem dX10_ties_103 : decode cX10_ties 103 = .ok (.getfield 107, 3) := by decide +kernel
theorem dX10_ties_106 : decode cX10_ties 106 = .ok (.aload_n 0, 1) := by decide +kernel
theorem dX10_ties_107 : decode cX10_ties 107 = .ok (.getfield 50, 3) := by decide +kernel
theorem dX10_ties_110 : decode cX10_ties 110 = .ok (.iload_n 2, 1) := by decide +kernel
theorem dX10_ties_111 : decode cX10_ties 111 = .ok (.iaload, 1) := by decide +kernel
theorem dX10_ties_112 : decode cX10_ties 112 = .ok (.iastore, 1) := by decide +kernel
theorem dX10_ties_113 : decode cX10_ties 113 = .ok (.aload_n 0, 1) := by decide +kernel
theorem dX10_ties_114 : decode cX10_ties 114 = .ok (.getfield 28, 3) := by decide +kernel
theorem dX10_ties_117 : decode cX10_ties 117 = .ok (.aload_n 0, 1) := by decide +kernel
theorem dX10_ties_118 : decode cX10_ties 118 = .ok (.getfield 107, 3) := by decide +kernel
theorem dX10_ties_121 : decode cX10_ties 121 = .ok (.aload_n 0, 1) := by decide +kernel
theorem dX10_ties_122 : decode cX10_ties 122 = .ok (.getfield 53, 3) := by decide +kernel
theorem dX10_ties_125 : decode cX10_ties 125 = .ok (.iload_n 2, 1) := by decide +kernel
theorem dX10_ties_126 : decode cX10_ties 126 = .ok (.iaload, 1) := by decide +kernel
theorem dX10_ties_127 : decode cX10_ties 127 = .ok (.iastore, 1) := by decide +kernel
theorem dX10_ties_128 : decode cX10_ties 128 = .ok (.aload_n 0, 1) := by decide +kernel
theorem dX10_ties_129 : decode cX10_ties 129 = .ok (.getfield 31, 3) := by decide +kernel
theorem dX10_ties_132 : decode cX10_ties 132 = .ok (.aload_n 0, 1) := by decide +kernel
theorem dX10_ties_133 : decode cX10_ties 133 = .ok (.getfield 107, 3) := by decide +kernel
theorem dX10_ties_136 : decode cX10_ties 136 = .ok (.aload_n 0, 1) := by decide +kernel
theorem dX10_ties_137 : decode cX10_ties 137 = .ok (.getfield 56, 3) := by decide +kernel
theorem dX10_ties_140 : decode cX10_ties 140 = .ok (.iload_n 2, 1) := by decide +kernel
theorem dX10_ties_141 : decode cX10_ties 141 = .ok (.iaload, 1) := by decide +kernel
theorem dX10_ties_142 : decode cX10_ties 142 = .ok (.iastore, 1) := by decide +kernel
theorem dX10_ties_143 : decode cX10_ties 143 = .ok (.aload_n 0, 1) := by decide +kernel
theorem dX10_ties_144 : decode cX10_ties 144 = .ok (.dup, 1) := by decide +kernel
theorem dX10_ties_145 : decode cX10_ties 145 = .ok (.getfield 107, 3) := by decide +kernel
theorem dX10_ties_148 : decode cX10_ties 148 = .ok (.iconst 1, 1) := by decide +kernel
theorem dX10_ties_149 : decode cX10_ties 149 = .ok (.iadd, 1) := by decide +kernel
theorem dX10_ties_150 : decode cX10_ties 150 = .ok (.putfield 107, 3) := by decide +kernel
theorem dX10_ties_153 : decode cX10_ties 153 = .ok (.iinc 2 1, 3) := by decide +kernel
theorem dX10_ties_156 : decode cX10_ties 156 = .ok (.goto (-111), 3) := by decide +kernel
theorem dX10_ties_159 : decode cX10_ties 159 = .ok (.aload_n 0, 1) := by decide +kernel
theorem dX10_ties_160 : decode cX10_ties 160 = .ok (.getfield 107, 3) := by decide +kernel
theorem dX10_ties_163 : decode cX10_ties 163 = .ok (.ireturn, 1) := by decide +kernel
theorem dX10_untie_0 : decode cX10_untie 0 = .ok (.iload_n 1, 1) := by decide +kernel
theorem dX10_untie_1 : decode cX10_untie 1 = .ok (.i2l, 1) := by decide +kernel
theorem dX10_untie_2 : decode cX10_untie 2 = .ok (.lconst 0, 1) := by decide +kernel
theorem dX10_untie_3 : decode cX10_untie 3 = .ok (.aload_n 0, 1) := by decide +kernel
theorem dX10_untie_4 : decode cX10_untie 4 = .ok (.getfield 107, 3) := by decide +kernel
theorem dX10_untie_7 : decode cX10_untie 7 = .ok (.iconst 1, 1) := by decide +kernel
theorem dX10_untie_8 : decode cX10_untie 8 = .ok (.isub, 1) := by decide +kernel
theorem dX10_untie_9 : decode cX10_untie 9 = .ok (.i2l, 1) := by decide +kernel
theorem dX10_untie_10 : decode cX10_untie 10 = .ok (.invokestatic 138, 3) := by decide +kernel
theorem dX10_untie_13 : decode cX10_untie 13 = .ok (.ifCond .ne 9, 3) := by decide +kernel
theorem dX10_untie_16 : decode cX10_untie 16 = .ok (.aload_n 0, 1) := by decide +kernel
theorem dX10_untie_17 : decode cX10_untie 17 = .ok (.iconst (-1), 1) := by decide +kernel
theorem dX10_untie_18 : decode cX10_untie 18 = .ok (.invokevirtual 103, 3) := by decide +kernel
theorem dX10_untie_21 : decode cX10_untie 21 = .ok (.ireturn, 1) := by decide +kernel
theorem dX10_untie_22 : decode cX10_untie 22 = .ok (.iload_n 1, 1) := by decide +kernel
theorem dX10_untie_23 : decode cX10_untie 23 = .ok (.istore_n 2, 1) := by decide +kernel
theorem dX10_untie_24 : decode cX10_untie 24 = .ok (.iload_n 2, 1) := by decide +kernel
theorem dX10_untie_25 : decode cX10_untie 25 = .ok (.aload_n 0, 1) := by decide +kernel
theorem dX10_untie_26 : decode cX10_untie 26 = .ok (.getfield 107, 3) := by decide +kernel
theorem dX10_untie_29 : decode cX10_untie 29 = .ok (.iconst 1, 1) := by decide +kernel
theorem dX10_untie_30 : decode cX10_untie 30 = .ok (.isub, 1) := by decide +kernel
theorem dX10_untie_31 : decode cX10_untie 31 = .ok (.if_icmp .ge 93, 3) := by decide +kernel
theorem dX10_untie_34 : decode cX10_untie 34 = .ok (.aload_n 0, 1) := by decide +kernel
theorem dX10_untie_35 : decode cX10_untie 35 = .ok (.getfield 16, 3) := by decide +kernel
theorem dX10_untie_38 : decode cX10_untie 38 = .ok (.iload_n 2, 1) := by decide +kernel
theorem dX10_untie_39 : decode cX10_untie 39 = .ok (.aload_n 0, 1) := by decide +kernel
theorem dX10_untie_40 : decode cX10_untie 40 = .ok (.getfield 16, 3) := by decide +kernel
theorem dX10_untie_43 : decode cX10_untie 43 = .ok (.iload_n 2, 1) := by decide +kernel
theorem dX10_untie_44 : decode cX10_untie 44 = .ok (.iconst 1, 1) := by decide +kernel
theorem dX10_untie_45 : decode cX10_untie 45 = .ok (.iadd, 1) := by decide +kernel
theorem dX10_untie_46 : decode cX10_untie 46 = .ok (.iaload, 1) := by decide +kernel
theorem dX10_untie_47 : decode cX10_untie 47 = .ok (.iastore, 1) := by decide +kernel
theorem dX10_untie_48 : decode cX10_untie 48 = .ok (.aload_n 0, 1) := by decide +kernel
theorem dX10_untie_49 : decode cX10_untie 49 = .ok (.getfield 19, 3) := by decide +kernel
theorem dX10_untie_52 : decode cX10_untie 52 = .ok (.iload_n 2, 1) := by decide +kernel
theorem dX10_untie_53 : decode cX10_untie 53 = .ok (.aload_n 0, 1) := by decide +kernel
theorem dX10_untie_54 : decode cX10_untie 54 = .ok (.getfield 19, 3) := by decide +kernel
theorem dX10_untie_57 : decode cX10_untie 57 = .ok (.iload_n 2, 1) := by decide +kernel
theorem dX10_untie_58 : decode cX10_untie 58 = .ok (.iconst 1, 1) := by decide +kernel
theorem dX10_untie_59 : decode cX10_untie 59 = .ok (.iadd, 1) := by decide +kernel
theorem dX10_untie_60 : decode cX10_untie 60 = .ok (.iaload, 1) := by decide +kernel
theorem dX10_untie_61 : decode cX10_untie 61 = .ok (.iastore, 1) := by decide +kernel
theorem dX10_untie_62 : decode cX10_untie 62 = .ok (.aload_n 0, 1) := by decide +kernel
theorem dX10_untie_63 : decode cX10_untie 63 = .ok (.getfield 22, 3) := by decide +kernel
theorem dX10_untie_66 : decode cX10_untie 66 = .ok (.iload_n 2, 1) := by decide +kernel
theorem dX10_untie_67 : decode cX10_untie 67 = .ok (.aload_n 0, 1) := by decide +kernel
theorem dX10_untie_68 : decode cX10_untie 68 = .ok (.getfield 22, 3) := by decide +kernel
theorem dX10_untie_71 : decode cX10_untie 71 = .ok (.iload_n 2, 1) := by decide +kernel
theorem dX10_untie_72 : decode cX10_untie 72 = .ok (.iconst 1, 1) := by decide +kernel
theorem dX10_untie_73 : decode cX10_untie 73 = .ok (.iadd, 1) := by decide +kernel
theorem dX10_untie_74 : decode cX10_untie 74 = .ok (.iaload, 1) := by decide +kernel
theorem dX10_untie_75 : decode cX10_untie 75 = .ok (.iastore, 1) := by decide +kernel
theorem dX10_untie_76 : decode cX10_untie 76 = .ok (.aload_n 0, 1) := by decide +kernel
theorem dX10_untie_77 : decode cX10_untie 77 = .ok (.getfield 25, 3) := by decide +kernel
theorem dX10_untie_80 : decode cX10_untie 80 = .ok (.iload_n 2, 1) := by decide +kernel
theorem dX10_untie_81 : decode cX10_untie 81 = .ok (.aload_n 0, 1) := by decide +kernel
theorem dX10_untie_82 : decode cX10_untie 82 = .ok (.getfield 25, 3) := by decide +kernel
theorem dX10_untie_85 : decode cX10_untie 85 = .ok (.iload_n 2, 1) := by decide +kernel
theorem dX10_untie_86 : decode cX10_untie 86 = .ok (.iconst 1, 1) := by decide +kernel
theorem dX10_untie_87 : decode cX10_untie 87 = .ok (.iadd, 1) := by decide +kernel
theorem dX10_untie_88 : decode cX10_untie 88 = .ok (.iaload, 1) := by decide +kernel
theorem dX10_untie_89 : decode cX10_untie 89 = .ok (.iastore, 1) := by decide +kernel
theorem dX10_untie_90 : decode cX10_untie 90 = .ok (.aload_n 0, 1) := by decide +kernel
theorem dX10_untie_91 : decode cX10_untie 91 = .ok (.getfield 28, 3) := by decide +kernel
theorem dX10_untie_94 : decode cX10_untie 94 = .ok (.iload_n 2, 1) := by decide +kernel
theorem dX10_untie_95 : decode cX10_untie 95 = .ok (.aload_n 0, 1) := by decide +kernel
theorem dX10_untie_96 : decode cX10_untie 96 = .ok (.getfield 28, 3) := by decide +kernel
theorem dX10_untie_99 : decode cX10_untie 99 = .ok (.iload_n 2, 1) := by decide +kernel
theorem dX10_untie_100 : decode cX10_untie 100 = .ok (.iconst 1, 1) := by decide +kernel
theorem dX10_untie_101 : decode cX10_untie 101 = .ok (.iadd, 1) := by decide +kernel
theorem dX10_untie_102 : decode cX10_untie 102 = .ok (.iaload, 1) := by decide +kernel
theorem dX10_untie_103 : decode cX10_untie 103 = .ok (.iastore, 1) := by decide +kernel
theorem dX10_untie_104 : decode cX10_untie 104 = .ok (.aload_n 0, 1) := by decide +kernel
theorem dX10_untie_105 : decode cX10_untie 105 = .ok (.getfield 31, 3) := by decide +kernel
theorem dX10_untie_108 : decode cX10_untie 108 = .ok (.iload_n 2, 1) := by decide +kernel
theorem dX10_untie_109 : decode cX10_untie 109 = .ok (.aload_n 0, 1) := by decide +kernel
theorem dX10_untie_110 : decode cX10_untie 110 = .ok (.getfield 31, 3) := by decide +kernel
theorem dX10_untie_113 : decode cX10_untie 113 = .ok (.iload_n 2, 1) := by decide +kernel
theorem dX10_untie_114 : decode cX10_untie 114 = .ok (.iconst 1, 1) := by decide +kernel
theorem dX10_untie_115 : decode cX10_untie 115 = .ok (.iadd, 1) := by decide +kernel
theorem dX10_untie_116 : decode cX10_untie 116 = .ok (.iaload, 1) := by decide +kernel
theorem dX10_untie_117 : decode cX10_untie 117 = .ok (.iastore, 1) := by decide +kernel
theorem dX10_untie_118 : decode cX10_untie 118 = .ok (.iinc 2 1, 3) := by decide +kernel
theorem dX10_untie_121 : decode cX10_untie 121 = .ok (.goto (-97), 3) := by decide +kernel
theorem dX10_untie_124 : decode cX10_untie 124 = .ok (.aload_n 0, 1) := by decide +kernel
theorem dX10_untie_125 : decode cX10_untie 125 = .ok (.dup, 1) := by decide +kernel
theorem dX10_untie_126 : decode cX10_untie 126 = .ok (.getfield 107, 3) := by decide +kernel
theorem dX10_untie_129 : decode cX10_untie 129 = .ok (.iconst 1, 1) := by decide +kernel
theorem dX10_untie_130 : decode cX10_untie 130 = .ok (.isub, 1) := by decide +kernel
theorem dX10_untie_131 : decode cX10_untie 131 = .ok (.putfield 107, 3) := by decide +kernel
theorem dX10_untie_134 : decode cX10_untie 134 = .ok (.iconst 1, 1) := by decide +kernel
theorem dX10_untie_135 : decode cX10_untie 135 = .ok (.ireturn, 1) := by decide +kernel
theorem dX10_findTies_0 : decode cX10_findTies 0 = .ok (.iconst 0, 1) := by decide +kernel
theorem dX10_findTies_1 : decode cX10_findTies 1 = .ok (.istore_n 2, 1) := by decide +kernel
theorem dX10_findTies_2 : decode cX10_findTies 2 = .ok (.iload_n 2, 1) := by decide +kernel
theorem dX10_findTies_3 : decode cX10_findTies 3 = .ok (.sipush 147, 3) := by decide +kernel
theorem dX10_findTies_6 : decode cX10_findTies 6 = .ok (.if_icmp .ge 16, 3) := by decide +kernel
theorem dX10_findTies_9 : decode cX10_findTies 9 = .ok (.aload_n 0, 1) := by decide +kernel
theorem dX10_findTies_10 : decode cX10_findTies 10 = .ok (.getfield 59, 3) := by decide +kernel
theorem dX10_findTies_13 : decode cX10_findTies 13 = .ok (.iload_n 2, 1) := by decide +kernel
theorem dX10_findTies_14 : decode cX10_findTies 14 = .ok (.iconst 0, 1) := by decide +kernel
theorem dX10_findTies_15 : decode cX10_findTies 15 = .ok (.iastore, 1) := by decide +kernel
theorem dX10_findTies_16 : decode cX10_findTies 16 = .ok (.iinc 2 1, 3) := by decide +kernel
theorem dX10_findTies_19 : decode cX10_findTies 19 = .ok (.goto (-17), 3) := by decide +kernel
theorem dX10_findTies_22 : decode cX10_findTies 22 = .ok (.iconst 0, 1) := by decide +kernel
theorem dX10_findTies_23 : decode cX10_findTies 23 = .ok (.istore_n 2, 1) := by decide +kernel
theorem dX10_findTies_24 : decode cX10_findTies 24 = .ok (.iload_n 2, 1) := by decide +kernel
theorem dX10_findTies_25 : decode cX10_findTies 25 = .ok (.aload_n 0, 1) := by decide +kernel
theorem dX10_findTies_26 : decode cX10_findTies 26 = .ok (.getfield 107, 3) := by decide +kernel
theorem dX10_findTies_29 : decode cX10_findTies 29 = .ok (.if_icmp .ge 66, 3) := by decide +kernel
theorem dX10_findTies_32 : decode cX10_findTies 32 = .ok (.aload_n 0, 1) := by decide +kernel
theorem dX10_findTies_33 : decode cX10_findTies 33 = .ok (.getfield 28, 3) := by decide +kernel
theorem dX10_findTies_36 : decode cX10_findTies 36 = .ok (.iload_n 2, 1) := by decide +kernel
theorem dX10_findTies_37 : decode cX10_findTies 37 = .ok (.iaload, 1) := by decide +kernel
theorem dX10_findTies_38 : decode cX10_findTies 38 = .ok (.iload_n 1, 1) := by decide +kernel
theorem dX10_findTies_39 : decode cX10_findTies 39 = .ok (.if_icmp .gt 50, 3) := by decide +kernel
theorem dX10_findTies_42 : decode cX10_findTies 42 = .ok (.iload_n 1, 1) := by decide +kernel
theorem dX10_findTies_43 : decode cX10_findTies 43 = .ok (.aload_n 0, 1) := by decide +kernel
theorem dX10_findTies_44 : decode cX10_findTies 44 = .ok (.getfield 31, 3) := by decide +kernel
theorem dX10_findTies_47 : decode cX10_findTies 47 = .ok (.iload_n 2, 1) := by decide +kernel
theorem dX10_findTies_48 : decode cX10_findTies 48 = .ok (.iaload, 1) := by decide +kernel
theorem dX10_findTies_49 : decode cX10_findTies 49 = .ok (.if_icmp .ge 40, 3) := by decide +kernel
theorem dX10_findTies_52 : decode cX10_findTies 52 = .ok (.aload_n 0, 1) := by decide +kernel
theorem dX10_findTies_53 : decode cX10_findTies 53 = .ok (.getfield 59, 3) := by decide +kernel
theorem dX10_findTies_56 : decode cX10_findTies 56 = .ok (.bipush 49, 2) := by decide +kernel
theorem dX10_findTies_58 : decode cX10_findTies 58 = .ok (.aload_n 0, 1) := by decide +kernel
theorem dX10_findTies_59 : decode cX10_findTies 59 = .ok (.getfield 22, 3) := by decide +kernel
theorem dX10_findTies_62 : decode cX10_findTies 62 = .ok (.iload_n 2, 1) := by decide +kernel
theorem dX10_findTies_63 : decode cX10_findTies 63 = .ok (.iaload, 1) := by decide +kernel
theorem dX10_findTies_64 : decode cX10_findTies 64 = .ok (.imul, 1) := by decide +kernel
theorem dX10_findTies_65 : decode cX10_findTies 65 = .ok (.bipush 7, 2) := by decide +kernel
theorem dX10_findTies_67 : decode cX10_findTies 67 = .ok (.aload_n 0, 1) := by decide +kernel
theorem dX10_findTies_68 : decode cX10_findTies 68 = .ok (.getfield 16, 3) := by decide +kernel
theorem dX10_findTies_71 : decode cX10_findTies 71 = .ok (.iload_n 2, 1) := by decide +kernel
theorem dX10_findTies_72 : decode cX10_findTies 72 = .ok (.iaload, 1) := by decide +kernel
theorem dX10_findTies_73 : decode cX10_findTies 73 = .ok (.imul, 1) := by decide +kernel
theorem dX10_findTies_74 : decode cX10_findTies 74 = .ok (.iadd, 1) := by decide +kernel
theorem dX10_findTies_75 : decode cX10_findTies 75 = .ok (.aload_n 0, 1) := by decide +kernel
theorem dX10_findTies_76 : decode cX10_findTies 76 = .ok (.getfield 19, 3) := by decide +kernel
theorem dX10_findTies_79 : decode cX10_findTies 79 = .ok (.iload_n 2, 1) := by decide +kernel
theorem dX10_findTies_80 : decode cX10_findTies 80 = .ok (.iaload, 1) := by decide +kernel
theorem dX10_findTies_81 : decode cX10_findTies 81 = .ok (.iadd, 1) := by decide +kernel
theorem dX10_findTies_82 : decode cX10_findTies 82 = .ok (.aload_n 0, 1) := by decide +kernel
theorem dX10_findTies_83 : decode cX10_findTies 83 = .ok (.getfield 25, 3) := by decide +kernel
theorem dX10_findTies_86 : decode cX10_findTies 86 = .ok (.iload_n 2, 1) := by decide +kernel
theorem dX10_findTies_87 : decode cX10_findTies 87 = .ok (.iaload, 1) := by decide +kernel
theorem dX10_findTies_88 : decode cX10_findTies 88 = .ok (.iastore, 1) := by decide +kernel
theorem dX10_findTies_89 : decode cX10_findTies 89 = .ok (.iinc 2 1, 3) := by decide +kernel
theorem dX10_findTies_92 : decode cX10_findTies 92 = .ok (.goto (-68), 3) := by decide +kernel
theorem dX10_findTies_95 : decode cX10_findTies 95 = .ok (.return_, 1) := by decide +kernel
theorem dX10_strong_0 : decode cX10_strong 0 = .ok (.aload_n 0, 1) := by decide +kernel
theorem dX10_strong_1 : decode cX10_strong 1 = .ok (.getfield 59, 3) := by decide +kernel
theorem dX10_strong_4 : decode cX10_strong 4 = .ok (.bipush 49, 2) := by decide +kernel
theorem dX10_strong_6 : decode cX10_strong 6 = .ok (.iload_n 1, 1) := by decide +kernel
theorem dX10_strong_7 : decode cX10_strong 7 = .ok (.imul, 1) := by decide +kernel
theorem dX10_strong_8 : decode cX10_strong 8 = .ok (.bipush 7, 2) := by decide +kernel
theorem dX10_strong_10 : decode cX10_strong 10 = .ok (.iload_n 2, 1) := by decide +kernel
theorem dX10_strong_11 : decode cX10_strong 11 = .ok (.imul, 1) := by decide +kernel
theorem dX10_strong_12 : decode cX10_strong 12 = .ok (.iadd, 1) := by decide +kernel
theorem dX10_strong_13 : decode cX10_strong 13 = .ok (.iload_n 3, 1) := by decide +kernel
theorem dX10_strong_14 : decode cX10_strong 14 = .ok (.iadd, 1) := by decide +kernel
theorem dX10_strong_15 : decode cX10_strong 15 = .ok (.iaload, 1) := by decide +kernel
theorem dX10_strong_16 : decode cX10_strong 16 = .ok (.ireturn, 1) := by decide +kernel
theorem dX10_has_0 : decode cX10_has 0 = .ok (.aload_n 0, 1) := by decide +kernel
theorem dX10_has_1 : decode cX10_has 1 = .ok (.iload_n 1, 1) := by decide +kernel
theorem dX10_has_2 : decode cX10_has 2 = .ok (.iload_n 2, 1) := by decide +kernel
theorem dX10_has_3 : decode cX10_has 3 = .ok (.iload_n 3, 1) := by decide +kernel
theorem dX10_has_4 : decode cX10_has 4 = .ok (.invokevirtual 166, 3) := by decide +kernel
theorem dX10_has_7 : decode cX10_has 7 = .ok (.ifCond .le 7, 3) := by decide +kernel
theorem dX10_has_10 : decode cX10_has 10 = .ok (.iconst 1, 1) := by decide +kernel
theorem dX10_has_11 : decode cX10_has 11 = .ok (.goto 4, 3) := by decide +kernel
theorem dX10_has_14 : decode cX10_has 14 = .ok (.iconst 0, 1) := by decide +kernel
theorem dX10_has_15 : decode cX10_has 15 = .ok (.ireturn, 1) := by decide +kernel
theorem dX10_tie_0 : decode cX10_tie 0 = .ok (.iload_n 1, 1) := by decide +kernel
theorem dX10_tie_1 : decode cX10_tie 1 = .ok (.invokestatic 169, 3) := by decide +kernel
theorem dX10_tie_4 : decode cX10_tie 4 = .ok (.ifCond .eq 24, 3) := by decide +kernel
theorem dX10_tie_7 : decode cX10_tie 7 = .ok (.aload_n 0, 1) := by decide +kernel
theorem dX10_tie_8 : decode cX10_tie 8 = .ok (.iload_n 2, 1) := by decide +kernel
theorem dX10_tie_9 : decode cX10_tie 9 = .ok (.invokevirtual 113, 3) := by decide +kernel
theorem dX10_tie_12 : decode cX10_tie 12 = .ok (.ifCond .eq 16, 3) := by decide +kernel
theorem dX10_tie_15 : decode cX10_tie 15 = .ok (.aload_n 0, 1) := by decide +kernel
theorem dX10_tie_16 : decode cX10_tie 16 = .ok (.iload_n 3, 1) := by decide +kernel
theorem dX10_tie_17 : decode cX10_tie 17 = .ok (.invokevirtual 113, 3) := by decide +kernel
theorem dX10_tie_20 : decode cX10_tie 20 = .ok (.ifCond .eq 8, 3) := by decide +kernel
theorem dX10_tie_23 : decode cX10_tie 23 = .ok (.iload_n 2, 1) := by decide +kernel
theorem dX10_tie_24 : decode cX10_tie 24 = .ok (.iload_n 3, 1) := by decide +kernel
theorem dX10_tie_25 : decode cX10_tie 25 = .ok (.if_icmp .ne 9, 3) := by decide +kernel
theorem dX10_tie_28 : decode cX10_tie 28 = .ok (.aload_n 0, 1) := by decide +kernel
theorem dX10_tie_29 : decode cX10_tie 29 = .ok (.iconst (-1), 1) := by decide +kernel
theorem dX10_tie_30 : decode cX10_tie 30 = .ok (.invokevirtual 103, 3) := by decide +kernel
theorem dX10_tie_33 : decode cX10_tie 33 = .ok (.ireturn, 1) := by decide +kernel
theorem dX10_tie_34 : decode cX10_tie 34 = .ok (.aload_n 0, 1) := by decide +kernel
theorem dX10_tie_35 : decode cX10_tie 35 = .ok (.aload_n 0, 1) := by decide +kernel
theorem dX10_tie_36 : decode cX10_tie 36 = .ok (.getfield 121, 3) := by decide +kernel
theorem dX10_tie_39 : decode cX10_tie 39 = .ok (.invokevirtual 172, 3) := by decide +kernel
theorem dX10_tie_42 : decode cX10_tie 42 = .ok (.aload_n 0, 1) := by decide +kernel
theorem dX10_tie_43 : decode cX10_tie 43 = .ok (.iload_n 1, 1) := by decide +kernel
theorem dX10_tie_44 : decode cX10_tie 44 = .ok (.iload_n 2, 1) := by decide +kernel
theorem dX10_tie_45 : decode cX10_tie 45 = .ok (.iload_n 3, 1) := by decide +kernel
theorem dX10_tie_46 : decode cX10_tie 46 = .ok (.invokevirtual 166, 3) := by decide +kernel
theorem dX10_tie_49 : decode cX10_tie 49 = .ok (.ireturn, 1) := by decide +kernel
theorem dX10_degree_0 : decode cX10_degree 0 = .ok (.iload_n 1, 1) := by decide +kernel
theorem dX10_degree_1 : decode cX10_degree 1 = .ok (.invokestatic 169, 3) := by decide +kernel
theorem dX10_degree_4 : decode cX10_degree 4 = .ok (.ifCond .eq 11, 3) := by decide +kernel
theorem dX10_degree_7 : decode cX10_degree 7 = .ok (.aload_n 0, 1) := by decide +kernel
theorem dX10_degree_8 : decode cX10_degree 8 = .ok (.iload_n 2, 1) := by decide +kernel
theorem dX10_degree_9 : decode cX10_degree 9 = .ok (.invokevirtual 113, 3) := by decide +kernel
theorem dX10_degree_12 : decode cX10_degree 12 = .ok (.ifCond .ne 9, 3) := by decide +kernel
theorem dX10_degree_15 : decode cX10_degree 15 = .ok (.aload_n 0, 1) := by decide +kernel
theorem dX10_degree_16 : decode cX10_degree 16 = .ok (.iconst (-1), 1) := by decide +kernel
theorem dX10_degree_17 : decode cX10_degree 17 = .ok (.invokevirtual 103, 3) := by decide +kernel
theorem dX10_degree_20 : decode cX10_degree 20 = .ok (.ireturn, 1) := by decide +kernel
theorem dX10_degree_21 : decode cX10_degree 21 = .ok (.aload_n 0, 1) := by decide +kernel
theorem dX10_degree_22 : decode cX10_degree 22 = .ok (.aload_n 0, 1) := by decide +kernel
theorem dX10_degree_23 : decode cX10_degree 23 = .ok (.getfield 121, 3) := by decide +kernel
theorem dX10_degree_26 : decode cX10_degree 26 = .ok (.invokevirtual 172, 3) := by decide +kernel
theorem dX10_degree_29 : decode cX10_degree 29 = .ok (.iconst 0, 1) := by decide +kernel
theorem dX10_degree_30 : decode cX10_degree 30 = .ok (.istore 4, 2) := by decide +kernel
theorem dX10_degree_32 : decode cX10_degree 32 = .ok (.iconst 0, 1) := by decide +kernel
theorem dX10_degree_33 : decode cX10_degree 33 = .ok (.istore 5, 2) := by decide +kernel
theorem dX10_degree_35 : decode cX10_degree 35 = .ok (.iload 5, 2) := by decide +kernel
theorem dX10_degree_37 : decode cX10_degree 37 = .ok (.aload_n 0, 1) := by decide +kernel
theorem dX10_degree_38 : decode cX10_degree 38 = .ok (.getfield 34, 3) := by decide +kernel
theorem dX10_degree_41 : decode cX10_degree 41 = .ok (.if_icmp .ge 48, 3) := by decide +kernel
theorem dX10_degree_44 : decode cX10_degree 44 = .ok (.iload 4, 2) := by decide +kernel
theorem dX10_degree_46 : decode cX10_degree 46 = .ok (.iload_n 3, 1) := by decide +kernel
theorem dX10_degree_47 : decode cX10_degree 47 = .ok (.ifCond .eq 17, 3) := by decide +kernel
theorem dX10_degree_50 : decode cX10_degree 50 = .ok (.aload_n 0, 1) := by decide +kernel
theorem dX10_degree_51 : decode cX10_degree 51 = .ok (.iload_n 1, 1) := by decide +kernel
theorem dX10_degree_52 : decode cX10_degree 52 = .ok (.iload 5, 2) := by decide +kernel
theorem dX10_degree_54 : decode cX10_degree 54 = .ok (.iload_n 2, 1) := by decide +kernel
theorem dX10_degree_55 : decode cX10_degree 55 = .ok (.invokevirtual 176, 3) := by decide +kernel
theorem dX10_degree_58 : decode cX10_degree 58 = .ok (.ifCond .eq 21, 3) := by decide +kernel
theorem dX10_degree_61 : decode cX10_degree 61 = .ok (.goto 14, 3) := by decide +kernel
theorem dX10_degree_64 : decode cX10_degree 64 = .ok (.aload_n 0, 1) := by decide +kernel
theorem dX10_degree_65 : decode cX10_degree 65 = .ok (.iload_n 1, 1) := by decide +kernel
theorem dX10_degree_66 : decode cX10_degree 66 = .ok (.iload_n 2, 1) := by decide +kernel
theorem dX10_degree_67 : decode cX10_degree 67 = .ok (.iload 5, 2) := by decide +kernel
theorem dX10_degree_69 : decode cX10_degree 69 = .ok (.invokevirtual 176, 3) := by decide +kernel
theorem dX10_degree_72 : decode cX10_degree 72 = .ok (.ifCond .eq 7, 3) := by decide +kernel
theorem dX10_degree_75 : decode cX10_degree 75 = .ok (.iconst 1, 1) := by decide +kernel
theorem dX10_degree_76 : decode cX10_degree 76 = .ok (.goto 4, 3) := by decide +kernel
theorem dX10_degree_79 : decode cX10_degree 79 = .ok (.iconst 0, 1) := by decide +kernel
theorem dX10_degree_80 : decode cX10_degree 80 = .ok (.iadd, 1) := by decide +kernel
theorem dX10_degree_81 : decode cX10_degree 81 = .ok (.istore 4, 2) := by decide +kernel
theorem dX10_degree_83 : decode cX10_degree 83 = .ok (.iinc 5 1, 3) := by decide +kernel
theorem dX10_degree_86 : decode cX10_degree 86 = .ok (.goto (-51), 3) := by decide +kernel
theorem dX10_degree_89 : decode cX10_degree 89 = .ok (.iload 4, 2) := by decide +kernel
theorem dX10_degree_91 : decode cX10_degree 91 = .ok (.ireturn, 1) := by decide +kernel
theorem dX10_opens_0 : decode cX10_opens 0 = .ok (.iload_n 1, 1) := by decide +kernel
theorem dX10_opens_1 : decode cX10_opens 1 = .ok (.ifCond .ge 5, 3) := by decide +kernel
theorem dX10_opens_4 : decode cX10_opens 4 = .ok (.iconst (-1), 1) := by decide +kernel
theorem dX10_opens_5 : decode cX10_opens 5 = .ok (.ireturn, 1) := by decide +kernel
theorem dX10_opens_6 : decode cX10_opens 6 = .ok (.iload_n 1, 1) := by decide +kernel
theorem dX10_opens_7 : decode cX10_opens 7 = .ok (.istore_n 3, 1) := by decide +kernel
theorem dX10_opens_8 : decode cX10_opens 8 = .ok (.aload_n 0, 1) := by decide +kernel
theorem dX10_opens_9 : decode cX10_opens 9 = .ok (.getfield 34, 3) := by decide +kernel
theorem dX10_opens_12 : decode cX10_opens 12 = .ok (.iconst 1, 1) := by decide +kernel
theorem dX10_opens_13 : decode cX10_opens 13 = .ok (.isub, 1) := by decide +kernel
theorem dX10_opens_14 : decode cX10_opens 14 = .ok (.istore 4, 2) := by decide +kernel
theorem dX10_opens_16 : decode cX10_opens 16 = .ok (.iload 4, 2) := by decide +kernel
theorem dX10_opens_18 : decode cX10_opens 18 = .ok (.ifCond .lt 22, 3) := by decide +kernel
theorem dX10_opens_21 : decode cX10_opens 21 = .ok (.aload_n 2, 1) := by decide +kernel
theorem dX10_opens_22 : decode cX10_opens 22 = .ok (.iload 4, 2) := by decide +kernel
theorem dX10_opens_24 : decode cX10_opens 24 = .ok (.iload_n 3, 1) := by decide +kernel
theorem dX10_opens_25 : decode cX10_opens 25 = .ok (.bipush 10, 2) := by decide +kernel
theorem dX10_opens_27 : decode cX10_opens 27 = .ok (.irem, 1) := by decide +kernel
theorem dX10_opens_28 : decode cX10_opens 28 = .ok (.iastore, 1) := by decide +kernel
theorem dX10_opens_29 : decode cX10_opens 29 = .ok (.iload_n 3, 1) := by decide +kernel
theorem dX10_opens_30 : decode cX10_opens 30 = .ok (.bipush 10, 2) := by decide +kernel
theorem dX10_opens_32 : decode cX10_opens 32 = .ok (.idiv, 1) := by decide +kernel
theorem dX10_opens_33 : decode cX10_opens 33 = .ok (.istore_n 3, 1) := by decide +kernel
theorem dX10_opens_34 : decode cX10_opens 34 = .ok (.iinc 4 (-1), 3) := by decide +kernel
theorem dX10_opens_37 : decode cX10_opens 37 = .ok (.goto (-21), 3) := by decide +kernel
theorem dX10_opens_40 : decode cX10_opens 40 = .ok (.iload_n 3, 1) := by decide +kernel
theorem dX10_opens_41 : decode cX10_opens 41 = .ok (.ifCond .eq 5, 3) := by decide +kernel
theorem dX10_opens_44 : decode cX10_opens 44 = .ok (.iconst (-1), 1) := by decide +kernel
theorem dX10_opens_45 : decode cX10_opens 45 = .ok (.ireturn, 1) := by decide +kernel
theorem dX10_opens_46 : decode cX10_opens 46 = .ok (.iconst 0, 1) := by decide +kernel
theorem dX10_opens_47 : decode cX10_opens 47 = .ok (.istore 4, 2) := by decide +kernel
theorem dX10_opens_49 : decode cX10_opens 49 = .ok (.iconst 0, 1) := by decide +kernel
theorem dX10_opens_50 : decode cX10_opens 50 = .ok (.istore 5, 2) := by decide +kernel
theorem dX10_opens_52 : decode cX10_opens 52 = .ok (.iload 5, 2) := by decide +kernel
theorem dX10_opens_54 : decode cX10_opens 54 = .ok (.aload_n 0, 1) := by decide +kernel
theorem dX10_opens_55 : decode cX10_opens 55 = .ok (.getfield 34, 3) := by decide +kernel
theorem dX10_opens_58 : decode cX10_opens 58 = .ok (.if_icmp .ge 32, 3) := by decide +kernel
theorem dX10_opens_61 : decode cX10_opens 61 = .ok (.aload_n 2, 1) := by decide +kernel
theorem dX10_opens_62 : decode cX10_opens 62 = .ok (.iload 5, 2) := by decide +kernel
theorem dX10_opens_64 : decode cX10_opens 64 = .ok (.iaload, 1) := by decide +kernel
theorem dX10_opens_65 : decode cX10_opens 65 = .ok (.iload 4, 2) := by decide +kernel
theorem dX10_opens_67 : decode cX10_opens 67 = .ok (.if_icmp .le 5, 3) := by decide +kernel
theorem dX10_opens_70 : decode cX10_opens 70 = .ok (.iconst (-1), 1) := by decide +kernel
theorem dX10_opens_71 : decode cX10_opens 71 = .ok (.ireturn, 1) := by decide +kernel
theorem dX10_opens_72 : decode cX10_opens 72 = .ok (.aload_n 2, 1) := by decide +kernel
theorem dX10_opens_73 : decode cX10_opens 73 = .ok (.iload 5, 2) := by decide +kernel
theorem dX10_opens_75 : decode cX10_opens 75 = .ok (.iaload, 1) := by decide +kernel
theorem dX10_opens_76 : decode cX10_opens 76 = .ok (.iload 4, 2) := by decide +kernel
theorem dX10_opens_78 : decode cX10_opens 78 = .ok (.if_icmp .ne 6, 3) := by decide +kernel
theorem dX10_opens_81 : decode cX10_opens 81 = .ok (.iinc 4 1, 3) := by decide +kernel
theorem dX10_opens_84 : decode cX10_opens 84 = .ok (.iinc 5 1, 3) := by decide +kernel
theorem dX10_opens_87 : decode cX10_opens 87 = .ok (.goto (-35), 3) := by decide +kernel
theorem dX10_opens_90 : decode cX10_opens 90 = .ok (.iload 4, 2) := by decide +kernel
theorem dX10_opens_92 : decode cX10_opens 92 = .ok (.ireturn, 1) := by decide +kernel
theorem dX10_number_0 : decode cX10_number 0 = .ok (.iconst 0, 1) := by decide +kernel
theorem dX10_number_1 : decode cX10_number 1 = .ok (.istore_n 2, 1) := by decide +kernel
theorem dX10_number_2 : decode cX10_number 2 = .ok (.iconst 0, 1) := by decide +kernel
theorem dX10_number_3 : decode cX10_number 3 = .ok (.istore_n 3, 1) := by decide +kernel
theorem dX10_number_4 : decode cX10_number 4 = .ok (.iconst 0, 1) := by decide +kernel
theorem dX10_number_5 : decode cX10_number 5 = .ok (.istore 4, 2) := by decide +kernel
theorem dX10_number_7 : decode cX10_number 7 = .ok (.iload 4, 2) := by decide +kernel
theorem dX10_number_9 : decode cX10_number 9 = .ok (.aload_n 0, 1) := by decide +kernel
theorem dX10_number_10 : decode cX10_number 10 = .ok (.getfield 34, 3) := by decide +kernel
theorem dX10_number_13 : decode cX10_number 13 = .ok (.if_icmp .ge 98, 3) := by decide +kernel
theorem dX10_number_16 : decode cX10_number 16 = .ok (.iload 4, 2) := by decide +kernel
theorem dX10_number_18 : decode cX10_number 18 = .ok (.istore 5, 2) := by decide +kernel
theorem dX10_number_20 : decode cX10_number 20 = .ok (.iload 4, 2) := by decide +kernel
theorem dX10_number_22 : decode cX10_number 22 = .ok (.iconst 1, 1) := by decide +kernel
theorem dX10_number_23 : decode cX10_number 23 = .ok (.isub, 1) := by decide +kernel
theorem dX10_number_24 : decode cX10_number 24 = .ok (.istore 6, 2) := by decide +kernel
theorem dX10_number_26 : decode cX10_number 26 = .ok (.iload 6, 2) := by decide +kernel
theorem dX10_number_28 : decode cX10_number 28 = .ok (.ifCond .lt 29, 3) := by decide +kernel
theorem dX10_number_31 : decode cX10_number 31 = .ok (.aload_n 1, 1) := by decide +kernel
theorem dX10_number_32 : decode cX10_number 32 = .ok (.iload 6, 2) := by decide +kernel
theorem dX10_number_34 : decode cX10_number 34 = .ok (.iaload, 1) := by decide +kernel
theorem dX10_number_35 : decode cX10_number 35 = .ok (.aload_n 1, 1) := by decide +kernel
theorem dX10_number_36 : decode cX10_number 36 = .ok (.iload 4, 2) := by decide +kernel
theorem dX10_number_38 : decode cX10_number 38 = .ok (.iaload, 1) := by decide +kernel
theorem dX10_number_39 : decode cX10_number 39 = .ok (.if_icmp .ne 8, 3) := by decide +kernel
theorem dX10_number_42 : decode cX10_number 42 = .ok (.iload 6, 2) := by decide +kernel
theorem dX10_number_44 : decode cX10_number 44 = .ok (.goto 5, 3) := by decide +kernel
theorem dX10_number_47 : decode cX10_number 47 = .ok (.iload 5, 2) := by decide +kernel
theorem dX10_number_49 : decode cX10_number 49 = .ok (.istore 5, 2) := by decide +kernel
theorem dX10_number_51 : decode cX10_number 51 = .ok (.iinc 6 (-1), 3) := by decide +kernel
theorem dX10_number_54 : decode cX10_number 54 = .ok (.goto (-28), 3) := by decide +kernel
theorem dX10_number_57 : decode cX10_number 57 = .ok (.iload 5, 2) := by decide +kernel
theorem dX10_number_59 : decode cX10_number 59 = .ok (.iload 4, 2) := by decide +kernel
theorem dX10_number_61 : decode cX10_number 61 = .ok (.if_icmp .ne 17, 3) := by decide +kernel
theorem dX10_number_64 : decode cX10_number 64 = .ok (.aload_n 0, 1) := by decide +kernel
theorem dX10_number_65 : decode cX10_number 65 = .ok (.getfield 71, 3) := by decide +kernel
theorem dX10_number_68 : decode cX10_number 68 = .ok (.iload 4, 2) := by decide +kernel
theorem dX10_number_70 : decode cX10_number 70 = .ok (.iload_n 3, 1) := by decide +kernel
theorem dX10_number_71 : decode cX10_number 71 = .ok (.iastore, 1) := by decide +kernel
theorem dX10_number_72 : decode cX10_number 72 = .ok (.iinc 3 1, 3) := by decide +kernel
theorem dX10_number_75 : decode cX10_number 75 = .ok (.goto 17, 3) := by decide +kernel
theorem dX10_number_78 : decode cX10_number 78 = .ok (.aload_n 0, 1) := by decide +kernel
theorem dX10_number_79 : decode cX10_number 79 = .ok (.getfield 71, 3) := by decide +kernel
theorem dX10_number_82 : decode cX10_number 82 = .ok (.iload 4, 2) := by decide +kernel
theorem dX10_number_84 : decode cX10_number 84 = .ok (.aload_n 0, 1) := by decide +kernel
theorem dX10_number_85 : decode cX10_number 85 = .ok (.getfield 71, 3) := by decide +kernel
theorem dX10_number_88 : decode cX10_number 88 = .ok (.iload 5, 2) := by decide +kernel
theorem dX10_number_90 : decode cX10_number 90 = .ok (.iaload, 1) := by decide +kernel
theorem dX10_number_91 : decode cX10_number 91 = .ok (.iastore, 1) := by decide +kernel
theorem dX10_number_92 : decode cX10_number 92 = .ok (.bipush 10, 2) := by decide +kernel
theorem dX10_number_94 : decode cX10_number 94 = .ok (.iload_n 2, 1) := by decide +kernel
theorem dX10_number_95 : decode cX10_number 95 = .ok (.imul, 1) := by decide +kernel
theorem dX10_number_96 : decode cX10_number 96 = .ok (.aload_n 0, 1) := by decide +kernel
theorem dX10_number_97 : decode cX10_number 97 = .ok (.getfield 71, 3) := by decide +kernel
theorem dX10_number_100 : decode cX10_number 100 = .ok (.iload 4, 2) := by decide +kernel
theorem dX10_number_102 : decode cX10_number 102 = .ok (.iaload, 1) := by decide +kernel
theorem dX10_number_103 : decode cX10_number 103 = .ok (.iadd, 1) := by decide +kernel
theorem dX10_number_104 : decode cX10_number 104 = .ok (.istore_n 2, 1) := by decide +kernel
theorem dX10_number_105 : decode cX10_number 105 = .ok (.iinc 4 1, 3) := by decide +kernel
theorem dX10_number_108 : decode cX10_number 108 = .ok (.goto (-101), 3) := by decide +kernel
theorem dX10_number_111 : decode cX10_number 111 = .ok (.iload_n 2, 1) := by decide +kernel
theorem dX10_number_112 : decode cX10_number 112 = .ok (.ireturn, 1) := by decide +kernel
theorem dX10_parting_0 : decode cX10_parting 0 = .ok (.aload_n 0, 1) := by decide +kernel
theorem dX10_parting_1 : decode cX10_parting 1 = .ok (.iload_n 1, 1) := by decide +kernel
theorem dX10_parting_2 : decode cX10_parting 2 = .ok (.aload_n 0, 1) := by decide +kernel
theorem dX10_parting_3 : decode cX10_parting 3 = .ok (.getfield 62, 3) := by decide +kernel
theorem dX10_parting_6 : decode cX10_parting 6 = .ok (.invokevirtual 180, 3) := by decide +kernel
theorem dX10_parting_9 : decode cX10_parting 9 = .ok (.istore_n 2, 1) := by decide +kernel
theorem dX10_parting_10 : decode cX10_parting 10 = .ok (.iload_n 2, 1) := by decide +kernel
theorem dX10_parting_11 : decode cX10_parting 11 = .ok (.ifCond .ge 11, 3) := by decide +kernel
theorem dX10_parting_14 : decode cX10_parting 14 = .ok (.aload_n 0, 1) := by decide +kernel
theorem dX10_parting_15 : decode cX10_parting 15 = .ok (.iconst (-1), 1) := by decide +kernel
theorem dX10_parting_16 : decode cX10_parting 16 = .ok (.invokevirtual 103, 3) := by decide +kernel
theorem dX10_parting_19 : decode cX10_parting 19 = .ok (.goto 4, 3) := by decide +kernel
theorem dX10_parting_22 : decode cX10_parting 22 = .ok (.iload_n 2, 1) := by decide +kernel
theorem dX10_parting_23 : decode cX10_parting 23 = .ok (.ireturn, 1) := by decide +kernel
theorem dX10_led_0 : decode cX10_led 0 = .ok (.iconst 0, 1) := by decide +kernel
theorem dX10_led_1 : decode cX10_led 1 = .ok (.istore 5, 2) := by decide +kernel
theorem dX10_led_3 : decode cX10_led 3 = .ok (.iconst 0, 1) := by decide +kernel
theorem dX10_led_4 : decode cX10_led 4 = .ok (.istore 6, 2) := by decide +kernel
theorem dX10_led_6 : decode cX10_led 6 = .ok (.iload 6, 2) := by decide +kernel
theorem dX10_led_8 : decode cX10_led 8 = .ok (.aload_n 0, 1) := by decide +kernel
theorem dX10_led_9 : decode cX10_led 9 = .ok (.getfield 34, 3) := by decide +kernel
theorem dX10_led_12 : decode cX10_led 12 = .ok (.if_icmp .ge 60, 3) := by decide +kernel
theorem dX10_led_15 : decode cX10_led 15 = .ok (.iload 5, 2) := by decide +kernel
theorem dX10_led_17 : decode cX10_led 17 = .ok (.aload_n 0, 1) := by decide +kernel
theorem dX10_led_18 : decode cX10_led 18 = .ok (.getfield 62, 3) := by decide +kernel
theorem dX10_led_21 : decode cX10_led 21 = .ok (.iload 6, 2) := by decide +kernel
theorem dX10_led_23 : decode cX10_led 23 = .ok (.iaload, 1) := by decide +kernel
theorem dX10_led_24 : decode cX10_led 24 = .ok (.iload_n 3, 1) := by decide +kernel
theorem dX10_led_25 : decode cX10_led 25 = .ok (.if_icmp .ne 37, 3) := by decide +kernel
theorem dX10_led_28 : decode cX10_led 28 = .ok (.iload 4, 2) := by decide +kernel
theorem dX10_led_30 : decode cX10_led 30 = .ok (.ifCond .eq 17, 3) := by decide +kernel
theorem dX10_led_33 : decode cX10_led 33 = .ok (.aload_n 0, 1) := by decide +kernel
theorem dX10_led_34 : decode cX10_led 34 = .ok (.iload_n 1, 1) := by decide +kernel
theorem dX10_led_35 : decode cX10_led 35 = .ok (.iload 6, 2) := by decide +kernel
theorem dX10_led_37 : decode cX10_led 37 = .ok (.iload_n 2, 1) := by decide +kernel
theorem dX10_led_38 : decode cX10_led 38 = .ok (.invokevirtual 176, 3) := by decide +kernel
theorem dX10_led_41 : decode cX10_led 41 = .ok (.ifCond .eq 21, 3) := by decide +kernel
theorem dX10_led_44 : decode cX10_led 44 = .ok (.goto 14, 3) := by decide +kernel
theorem dX10_led_47 : decode cX10_led 47 = .ok (.aload_n 0, 1) := by decide +kernel
theorem dX10_led_48 : decode cX10_led 48 = .ok (.iload_n 1, 1) := by decide +kernel
theorem dX10_led_49 : decode cX10_led 49 = .ok (.iload_n 2, 1) := by decide +kernel
theorem dX10_led_50 : decode cX10_led 50 = .ok (.iload 6, 2) := by decide +kernel
theorem dX10_led_52 : decode cX10_led 52 = .ok (.invokevirtual 176, 3) := by decide +kernel
theorem dX10_led_55 : decode cX10_led 55 = .ok (.ifCond .eq 7, 3) := by decide +kernel
theorem dX10_led_58 : decode cX10_led 58 = .ok (.iconst 1, 1) := by decide +kernel
theorem dX10_led_59 : decode cX10_led 59 = .ok (.goto 4, 3) := by decide +kernel
theorem dX10_led_62 : decode cX10_led 62 = .ok (.iconst 0, 1) := by decide +kernel
theorem dX10_led_63 : decode cX10_led 63 = .ok (.iadd, 1) := by decide +kernel
theorem dX10_led_64 : decode cX10_led 64 = .ok (.istore 5, 2) := by decide +kernel
theorem dX10_led_66 : decode cX10_led 66 = .ok (.iinc 6 1, 3) := by decide +kernel
theorem dX10_led_69 : decode cX10_led 69 = .ok (.goto (-63), 3) := by decide +kernel
theorem dX10_led_72 : decode cX10_led 72 = .ok (.iload 5, 2) := by decide +kernel
theorem dX10_led_74 : decode cX10_led 74 = .ok (.ireturn, 1) := by decide +kernel
theorem dX10_seen_0 : decode cX10_seen 0 = .ok (.iload_n 1, 1) := by decide +kernel
theorem dX10_seen_1 : decode cX10_seen 1 = .ok (.ifCond .eq 7, 3) := by decide +kernel
theorem dX10_seen_4 : decode cX10_seen 4 = .ok (.iload_n 0, 1) := by decide +kernel
theorem dX10_seen_5 : decode cX10_seen 5 = .ok (.goto 12, 3) := by decide +kernel
theorem dX10_seen_8 : decode cX10_seen 8 = .ok (.iload_n 0, 1) := by decide +kernel
theorem dX10_seen_9 : decode cX10_seen 9 = .ok (.ifCond .le 7, 3) := by decide +kernel
theorem dX10_seen_12 : decode cX10_seen 12 = .ok (.iconst 1, 1) := by decide +kernel
theorem dX10_seen_13 : decode cX10_seen 13 = .ok (.goto 4, 3) := by decide +kernel
theorem dX10_seen_16 : decode cX10_seen 16 = .ok (.iconst 0, 1) := by decide +kernel
theorem dX10_seen_17 : decode cX10_seen 17 = .ok (.ireturn, 1) := by decide +kernel
theorem dX10_areLed_0 : decode cX10_areLed 0 = .ok (.iconst 0, 1) := by decide +kernel
theorem dX10_areLed_1 : decode cX10_areLed 1 = .ok (.istore 4, 2) := by decide +kernel
theorem dX10_areLed_3 : decode cX10_areLed 3 = .ok (.iload 4, 2) := by decide +kernel
theorem dX10_areLed_5 : decode cX10_areLed 5 = .ok (.iconst 3, 1) := by decide +kernel
theorem dX10_areLed_6 : decode cX10_areLed 6 = .ok (.if_icmp .ge 91, 3) := by decide +kernel
theorem dX10_areLed_9 : decode cX10_areLed 9 = .ok (.iconst 0, 1) := by decide +kernel
theorem dX10_areLed_10 : decode cX10_areLed 10 = .ok (.istore 5, 2) := by decide +kernel
theorem dX10_areLed_12 : decode cX10_areLed 12 = .ok (.iload 5, 2) := by decide +kernel
theorem dX10_areLed_14 : decode cX10_areLed 14 = .ok (.aload_n 0, 1) := by decide +kernel
theorem dX10_areLed_15 : decode cX10_areLed 15 = .ok (.getfield 34, 3) := by decide +kernel
theorem dX10_areLed_18 : decode cX10_areLed 18 = .ok (.if_icmp .ge 73, 3) := by decide +kernel
theorem dX10_areLed_21 : decode cX10_areLed 21 = .ok (.aload_n 0, 1) := by decide +kernel
theorem dX10_areLed_22 : decode cX10_areLed 22 = .ok (.iload 4, 2) := by decide +kernel
theorem dX10_areLed_24 : decode cX10_areLed 24 = .ok (.iload_n 1, 1) := by decide +kernel
theorem dX10_areLed_25 : decode cX10_areLed 25 = .ok (.iload 5, 2) := by decide +kernel
theorem dX10_areLed_27 : decode cX10_areLed 27 = .ok (.iconst 0, 1) := by decide +kernel
theorem dX10_areLed_28 : decode cX10_areLed 28 = .ok (.invokevirtual 195, 3) := by decide +kernel
theorem dX10_areLed_31 : decode cX10_areLed 31 = .ok (.iload_n 3, 1) := by decide +kernel
theorem dX10_areLed_32 : decode cX10_areLed 32 = .ok (.invokestatic 191, 3) := by decide +kernel
theorem dX10_areLed_35 : decode cX10_areLed 35 = .ok (.aload_n 0, 1) := by decide +kernel
theorem dX10_areLed_36 : decode cX10_areLed 36 = .ok (.iload 4, 2) := by decide +kernel
theorem dX10_areLed_38 : decode cX10_areLed 38 = .ok (.iload_n 2, 1) := by decide +kernel
theorem dX10_areLed_39 : decode cX10_areLed 39 = .ok (.iload 5, 2) := by decide +kernel
theorem dX10_areLed_41 : decode cX10_areLed 41 = .ok (.iconst 0, 1) := by decide +kernel
theorem dX10_areLed_42 : decode cX10_areLed 42 = .ok (.invokevirtual 195, 3) := by decide +kernel
theorem dX10_areLed_45 : decode cX10_areLed 45 = .ok (.iload_n 3, 1) := by decide +kernel
theorem dX10_areLed_46 : decode cX10_areLed 46 = .ok (.invokestatic 191, 3) := by decide +kernel
theorem dX10_areLed_49 : decode cX10_areLed 49 = .ok (.if_icmp .ne 34, 3) := by decide +kernel
theorem dX10_areLed_52 : decode cX10_areLed 52 = .ok (.aload_n 0, 1) := by decide +kernel
theorem dX10_areLed_53 : decode cX10_areLed 53 = .ok (.iload 4, 2) := by decide +kernel
theorem dX10_areLed_55 : decode cX10_areLed 55 = .ok (.iload_n 1, 1) := by decide +kernel
theorem dX10_areLed_56 : decode cX10_areLed 56 = .ok (.iload 5, 2) := by decide +kernel
theorem dX10_areLed_58 : decode cX10_areLed 58 = .ok (.iconst 1, 1) := by decide +kernel
theorem dX10_areLed_59 : decode cX10_areLed 59 = .ok (.invokevirtual 195, 3) := by decide +kernel
theorem dX10_areLed_62 : decode cX10_areLed 62 = .ok (.iload_n 3, 1) := by decide +kernel
theorem dX10_areLed_63 : decode cX10_areLed 63 = .ok (.invokestatic 191, 3) := by decide +kernel
theorem dX10_areLed_66 : decode cX10_areLed 66 = .ok (.aload_n 0, 1) := by decide +kernel
theorem dX10_areLed_67 : decode cX10_areLed 67 = .ok (.iload 4, 2) := by decide +kernel
theorem dX10_areLed_69 : decode cX10_areLed 69 = .ok (.iload_n 2, 1) := by decide +kernel
theorem dX10_areLed_70 : decode cX10_areLed 70 = .ok (.iload 5, 2) := by decide +kernel
theorem dX10_areLed_72 : decode cX10_areLed 72 = .ok (.iconst 1, 1) := by decide +kernel
theorem dX10_areLed_73 : decode cX10_areLed 73 = .ok (.invokevirtual 195, 3) := by decide +kernel
theorem dX10_areLed_76 : decode cX10_areLed 76 = .ok (.iload_n 3, 1) := by decide +kernel
theorem dX10_areLed_77 : decode cX10_areLed 77 = .ok (.invokestatic 191, 3) := by decide +kernel
theorem dX10_areLed_80 : decode cX10_areLed 80 = .ok (.if_icmp .eq 5, 3) := by decide +kernel
theorem dX10_areLed_83 : decode cX10_areLed 83 = .ok (.iconst 0, 1) := by decide +kernel
theorem dX10_areLed_84 : decode cX10_areLed 84 = .ok (.ireturn, 1) := by decide +kernel
theorem dX10_areLed_85 : decode cX10_areLed 85 = .ok (.iinc 5 1, 3) := by decide +kernel
theorem dX10_areLed_88 : decode cX10_areLed 88 = .ok (.goto (-76), 3) := by decide +kernel
theorem dX10_areLed_91 : decode cX10_areLed 91 = .ok (.iinc 4 1, 3) := by decide +kernel
theorem dX10_areLed_94 : decode cX10_areLed 94 = .ok (.goto (-91), 3) := by decide +kernel
theorem dX10_areLed_97 : decode cX10_areLed 97 = .ok (.iconst 1, 1) := by decide +kernel
theorem dX10_areLed_98 : decode cX10_areLed 98 = .ok (.ireturn, 1) := by decide +kernel
theorem dX10_areTied_0 : decode cX10_areTied 0 = .ok (.iconst 0, 1) := by decide +kernel
theorem dX10_areTied_1 : decode cX10_areTied 1 = .ok (.istore 4, 2) := by decide +kernel
theorem dX10_areTied_3 : decode cX10_areTied 3 = .ok (.iload 4, 2) := by decide +kernel
theorem dX10_areTied_5 : decode cX10_areTied 5 = .ok (.iconst 3, 1) := by decide +kernel
theorem dX10_areTied_6 : decode cX10_areTied 6 = .ok (.if_icmp .ge 131, 3) := by decide +kernel
theorem dX10_areTied_9 : decode cX10_areTied 9 = .ok (.aload_n 0, 1) := by decide +kernel
theorem dX10_areTied_10 : decode cX10_areTied 10 = .ok (.iload 4, 2) := by decide +kernel
theorem dX10_areTied_12 : decode cX10_areTied 12 = .ok (.iload_n 1, 1) := by decide +kernel
theorem dX10_areTied_13 : decode cX10_areTied 13 = .ok (.iload_n 2, 1) := by decide +kernel
theorem dX10_areTied_14 : decode cX10_areTied 14 = .ok (.invokevirtual 166, 3) := by decide +kernel
theorem dX10_areTied_17 : decode cX10_areTied 17 = .ok (.iload_n 3, 1) := by decide +kernel
theorem dX10_areTied_18 : decode cX10_areTied 18 = .ok (.invokestatic 191, 3) := by decide +kernel
theorem dX10_areTied_21 : decode cX10_areTied 21 = .ok (.aload_n 0, 1) := by decide +kernel
theorem dX10_areTied_22 : decode cX10_areTied 22 = .ok (.iload 4, 2) := by decide +kernel
theorem dX10_areTied_24 : decode cX10_areTied 24 = .ok (.iload_n 2, 1) := by decide +kernel
theorem dX10_areTied_25 : decode cX10_areTied 25 = .ok (.iload_n 1, 1) := by decide +kernel
theorem dX10_areTied_26 : decode cX10_areTied 26 = .ok (.invokevirtual 166, 3) := by decide +kernel
theorem dX10_areTied_29 : decode cX10_areTied 29 = .ok (.iload_n 3, 1) := by decide +kernel
theorem dX10_areTied_30 : decode cX10_areTied 30 = .ok (.invokestatic 191, 3) := by decide +kernel
theorem dX10_areTied_33 : decode cX10_areTied 33 = .ok (.if_icmp .eq 5, 3) := by decide +kernel
theorem dX10_areTied_36 : decode cX10_areTied 36 = .ok (.iconst 0, 1) := by decide +kernel
theorem dX10_areTied_37 : decode cX10_areTied 37 = .ok (.ireturn, 1) := by decide +kernel
theorem dX10_areTied_38 : decode cX10_areTied 38 = .ok (.iconst 0, 1) := by decide +kernel
theorem dX10_areTied_39 : decode cX10_areTied 39 = .ok (.istore 5, 2) := by decide +kernel
theorem dX10_areTied_41 : decode cX10_areTied 41 = .ok (.iload 5, 2) := by decide +kernel
theorem dX10_areTied_43 : decode cX10_areTied 43 = .ok (.aload_n 0, 1) := by decide +kernel
theorem dX10_areTied_44 : decode cX10_areTied 44 = .ok (.getfield 34, 3) := by decide +kernel
theorem dX10_areTied_47 : decode cX10_areTied 47 = .ok (.if_icmp .ge 84, 3) := by decide +kernel
theorem dX10_areTied_50 : decode cX10_areTied 50 = .ok (.iload 5, 2) := by decide +kernel
theorem dX10_areTied_52 : decode cX10_areTied 52 = .ok (.iload_n 1, 1) := by decide +kernel
theorem dX10_areTied_53 : decode cX10_areTied 53 = .ok (.if_icmp .eq 72, 3) := by decide +kernel
theorem dX10_areTied_56 : decode cX10_areTied 56 = .ok (.iload 5, 2) := by decide +kernel
theorem dX10_areTied_58 : decode cX10_areTied 58 = .ok (.iload_n 2, 1) := by decide +kernel
theorem dX10_areTied_59 : decode cX10_areTied 59 = .ok (.if_icmp .ne 6, 3) := by decide +kernel
theorem dX10_areTied_62 : decode cX10_areTied 62 = .ok (.goto 63, 3) := by decide +kernel
theorem dX10_areTied_65 : decode cX10_areTied 65 = .ok (.aload_n 0, 1) := by decide +kernel
theorem dX10_areTied_66 : decode cX10_areTied 66 = .ok (.iload 4, 2) := by decide +kernel
theorem dX10_areTied_68 : decode cX10_areTied 68 = .ok (.iload_n 1, 1) := by decide +kernel
theorem dX10_areTied_69 : decode cX10_areTied 69 = .ok (.iload 5, 2) := by decide +kernel
theorem dX10_areTied_71 : decode cX10_areTied 71 = .ok (.invokevirtual 166, 3) := by decide +kernel
theorem dX10_areTied_74 : decode cX10_areTied 74 = .ok (.iload_n 3, 1) := by decide +kernel
theorem dX10_areTied_75 : decode cX10_areTied 75 = .ok (.invokestatic 191, 3) := by decide +kernel
theorem dX10_areTied_78 : decode cX10_areTied 78 = .ok (.aload_n 0, 1) := by decide +kernel
theorem dX10_areTied_79 : decode cX10_areTied 79 = .ok (.iload 4, 2) := by decide +kernel
theorem dX10_areTied_81 : decode cX10_areTied 81 = .ok (.iload_n 2, 1) := by decide +kernel
theorem dX10_areTied_82 : decode cX10_areTied 82 = .ok (.iload 5, 2) := by decide +kernel
theorem dX10_areTied_84 : decode cX10_areTied 84 = .ok (.invokevirtual 166, 3) := by decide +kernel
theorem dX10_areTied_87 : decode cX10_areTied 87 = .ok (.iload_n 3, 1) := by decide +kernel
theorem dX10_areTied_88 : decode cX10_areTied 88 = .ok (.invokestatic 191, 3) := by decide +kernel
theorem dX10_areTied_91 : decode cX10_areTied 91 = .ok (.if_icmp .ne 32, 3) := by decide +kernel
theorem dX10_areTied_94 : decode cX10_areTied 94 = .ok (.aload_n 0, 1) := by decide +kernel
theorem dX10_areTied_95 : decode cX10_areTied 95 = .ok (.iload 4, 2) := by decide +kernel
theorem dX10_areTied_97 : decode cX10_areTied 97 = .ok (.iload 5, 2) := by decide +kernel
theorem dX10_areTied_99 : decode cX10_areTied 99 = .ok (.iload_n 1, 1) := by decide +kernel
theorem dX10_areTied_100 : decode cX10_areTied 100 = .ok (.invokevirtual 166, 3) := by decide +kernel
theorem dX10_areTied_103 : decode cX10_areTied 103 = .ok (.iload_n 3, 1) := by decide +kernel
theorem dX10_areTied_104 : decode cX10_areTied 104 = .ok (.invokestatic 191, 3) := by decide +kernel
theorem dX10_areTied_107 : decode cX10_areTied 107 = .ok (.aload_n 0, 1) := by decide +kernel
theorem dX10_areTied_108 : decode cX10_areTied 108 = .ok (.iload 4, 2) := by decide +kernel
theorem dX10_areTied_110 : decode cX10_areTied 110 = .ok (.iload 5, 2) := by decide +kernel
theorem dX10_areTied_112 : decode cX10_areTied 112 = .ok (.iload_n 2, 1) := by decide +kernel
theorem dX10_areTied_113 : decode cX10_areTied 113 = .ok (.invokevirtual 166, 3) := by decide +kernel
theorem dX10_areTied_116 : decode cX10_areTied 116 = .ok (.iload_n 3, 1) := by decide +kernel
theorem dX10_areTied_117 : decode cX10_areTied 117 = .ok (.invokestatic 191, 3) := by decide +kernel
theorem dX10_areTied_120 : decode cX10_areTied 120 = .ok (.if_icmp .eq 5, 3) := by decide +kernel
theorem dX10_areTied_123 : decode cX10_areTied 123 = .ok (.iconst 0, 1) := by decide +kernel
theorem dX10_areTied_124 : decode cX10_areTied 124 = .ok (.ireturn, 1) := by decide +kernel
theorem dX10_areTied_125 : decode cX10_areTied 125 = .ok (.iinc 5 1, 3) := by decide +kernel
theorem dX10_areTied_128 : decode cX10_areTied 128 = .ok (.goto (-87), 3) := by decide +kernel
theorem dX10_areTied_131 : decode cX10_areTied 131 = .ok (.iinc 4 1, 3) := by decide +kernel
theorem dX10_areTied_134 : decode cX10_areTied 134 = .ok (.goto (-131), 3) := by decide +kernel
theorem dX10_areTied_137 : decode cX10_areTied 137 = .ok (.iconst 1, 1) := by decide +kernel
theorem dX10_areTied_138 : decode cX10_areTied 138 = .ok (.ireturn, 1) := by decide +kernel
theorem dX10_areSo_0 : decode cX10_areSo 0 = .ok (.aload_n 0, 1) := by decide +kernel
theorem dX10_areSo_1 : decode cX10_areSo 1 = .ok (.getfield 13, 3) := by decide +kernel
theorem dX10_areSo_4 : decode cX10_areSo 4 = .ok (.iload_n 1, 1) := by decide +kernel
theorem dX10_areSo_5 : decode cX10_areSo 5 = .ok (.iaload, 1) := by decide +kernel
theorem dX10_areSo_6 : decode cX10_areSo 6 = .ok (.aload_n 0, 1) := by decide +kernel
theorem dX10_areSo_7 : decode cX10_areSo 7 = .ok (.getfield 13, 3) := by decide +kernel
theorem dX10_areSo_10 : decode cX10_areSo 10 = .ok (.iload_n 2, 1) := by decide +kernel
theorem dX10_areSo_11 : decode cX10_areSo 11 = .ok (.iaload, 1) := by decide +kernel
theorem dX10_areSo_12 : decode cX10_areSo 12 = .ok (.if_icmp .eq 5, 3) := by decide +kernel
theorem dX10_areSo_15 : decode cX10_areSo 15 = .ok (.iconst 0, 1) := by decide +kernel
theorem dX10_areSo_16 : decode cX10_areSo 16 = .ok (.ireturn, 1) := by decide +kernel
theorem dX10_areSo_17 : decode cX10_areSo 17 = .ok (.iload_n 3, 1) := by decide +kernel
theorem dX10_areSo_18 : decode cX10_areSo 18 = .ok (.ifCond .ne 5, 3) := by decide +kernel
theorem dX10_areSo_21 : decode cX10_areSo 21 = .ok (.iconst 1, 1) := by decide +kernel
theorem dX10_areSo_22 : decode cX10_areSo 22 = .ok (.ireturn, 1) := by decide +kernel
theorem dX10_areSo_23 : decode cX10_areSo 23 = .ok (.iload_n 3, 1) := by decide +kernel
theorem dX10_areSo_24 : decode cX10_areSo 24 = .ok (.iconst 3, 1) := by decide +kernel
theorem dX10_areSo_25 : decode cX10_areSo 25 = .ok (.if_icmp .ge 22, 3) := by decide +kernel
theorem dX10_areSo_28 : decode cX10_areSo 28 = .ok (.aload_n 0, 1) := by decide +kernel
theorem dX10_areSo_29 : decode cX10_areSo 29 = .ok (.iload_n 1, 1) := by decide +kernel
theorem dX10_areSo_30 : decode cX10_areSo 30 = .ok (.iload_n 2, 1) := by decide +kernel
theorem dX10_areSo_31 : decode cX10_areSo 31 = .ok (.iload_n 3, 1) := by decide +kernel
theorem dX10_areSo_32 : decode cX10_areSo 32 = .ok (.iconst 2, 1) := by decide +kernel
theorem dX10_areSo_33 : decode cX10_areSo 33 = .ok (.if_icmp .ne 7, 3) := by decide +kernel
theorem dX10_areSo_36 : decode cX10_areSo 36 = .ok (.iconst 1, 1) := by decide +kernel
theorem dX10_areSo_37 : decode cX10_areSo 37 = .ok (.goto 4, 3) := by decide +kernel
theorem dX10_areSo_40 : decode cX10_areSo 40 = .ok (.iconst 0, 1) := by decide +kernel
theorem dX10_areSo_41 : decode cX10_areSo 41 = .ok (.invokevirtual 184, 3) := by decide +kernel
theorem dX10_areSo_44 : decode cX10_areSo 44 = .ok (.goto 19, 3) := by decide +kernel
theorem dX10_areSo_47 : decode cX10_areSo 47 = .ok (.aload_n 0, 1) := by decide +kernel
theorem dX10_areSo_48 : decode cX10_areSo 48 = .ok (.iload_n 1, 1) := by decide +kernel
theorem dX10_areSo_49 : decode cX10_areSo 49 = .ok (.iload_n 2, 1) := by decide +kernel
theorem dX10_areSo_50 : decode cX10_areSo 50 = .ok (.iload_n 3, 1) := by decide +kernel
theorem dX10_areSo_51 : decode cX10_areSo 51 = .ok (.iconst 4, 1) := by decide +kernel
theorem dX10_areSo_52 : decode cX10_areSo 52 = .ok (.if_icmp .ne 7, 3) := by decide +kernel
theorem dX10_areSo_55 : decode cX10_areSo 55 = .ok (.iconst 1, 1) := by decide +kernel
theorem dX10_areSo_56 : decode cX10_areSo 56 = .ok (.goto 4, 3) := by decide +kernel
theorem dX10_areSo_59 : decode cX10_areSo 59 = .ok (.iconst 0, 1) := by decide +kernel
theorem dX10_areSo_60 : decode cX10_areSo 60 = .ok (.invokevirtual 188, 3) := by decide +kernel
theorem dX10_areSo_63 : decode cX10_areSo 63 = .ok (.ireturn, 1) := by decide +kernel
theorem dX10_judged_0 : decode cX10_judged 0 = .ok (.iconst 0, 1) := by decide +kernel
theorem dX10_judged_1 : decode cX10_judged 1 = .ok (.istore_n 2, 1) := by decide +kernel
theorem dX10_judged_2 : decode cX10_judged 2 = .ok (.iload_n 2, 1) := by decide +kernel
theorem dX10_judged_3 : decode cX10_judged 3 = .ok (.aload_n 0, 1) := by decide +kernel
theorem dX10_judged_4 : decode cX10_judged 4 = .ok (.getfield 34, 3) := by decide +kernel
theorem dX10_judged_7 : decode cX10_judged 7 = .ok (.if_icmp .ge 59, 3) := by decide +kernel
theorem dX10_judged_10 : decode cX10_judged 10 = .ok (.iload_n 2, 1) := by decide +kernel
theorem dX10_judged_11 : decode cX10_judged 11 = .ok (.iconst 1, 1) := by decide +kernel
theorem dX10_judged_12 : decode cX10_judged 12 = .ok (.iadd, 1) := by decide +kernel
theorem dX10_judged_13 : decode cX10_judged 13 = .ok (.istore_n 3, 1) := by decide +kernel
theorem dX10_judged_14 : decode cX10_judged 14 = .ok (.iload_n 3, 1) := by decide +kernel
theorem dX10_judged_15 : decode cX10_judged 15 = .ok (.aload_n 0, 1) := by decide +kernel
theorem dX10_judged_16 : decode cX10_judged 16 = .ok (.getfield 34, 3) := by decide +kernel
theorem dX10_judged_19 : decode cX10_judged 19 = .ok (.if_icmp .ge 41, 3) := by decide +kernel
theorem dX10_judged_22 : decode cX10_judged 22 = .ok (.aload_n 0, 1) := by decide +kernel
theorem dX10_judged_23 : decode cX10_judged 23 = .ok (.getfield 62, 3) := by decide +kernel
theorem dX10_judged_26 : decode cX10_judged 26 = .ok (.iload_n 2, 1) := by decide +kernel
theorem dX10_judged_27 : decode cX10_judged 27 = .ok (.iaload, 1) := by decide +kernel
theorem dX10_judged_28 : decode cX10_judged 28 = .ok (.aload_n 0, 1) := by decide +kernel
theorem dX10_judged_29 : decode cX10_judged 29 = .ok (.getfield 62, 3) := by decide +kernel
theorem dX10_judged_32 : decode cX10_judged 32 = .ok (.iload_n 3, 1) := by decide +kernel
theorem dX10_judged_33 : decode cX10_judged 33 = .ok (.iaload, 1) := by decide +kernel
theorem dX10_judged_34 : decode cX10_judged 34 = .ok (.if_icmp .ne 20, 3) := by decide +kernel
theorem dX10_judged_37 : decode cX10_judged 37 = .ok (.aload_n 0, 1) := by decide +kernel
theorem dX10_judged_38 : decode cX10_judged 38 = .ok (.iload_n 2, 1) := by decide +kernel
theorem dX10_judged_39 : decode cX10_judged 39 = .ok (.iload_n 3, 1) := by decide +kernel
theorem dX10_judged_40 : decode cX10_judged 40 = .ok (.iload_n 1, 1) := by decide +kernel
theorem dX10_judged_41 : decode cX10_judged 41 = .ok (.invokevirtual 199, 3) := by decide +kernel
theorem dX10_judged_44 : decode cX10_judged 44 = .ok (.ifCond .ne 10, 3) := by decide +kernel
theorem dX10_judged_47 : decode cX10_judged 47 = .ok (.bipush 10, 2) := by decide +kernel
theorem dX10_judged_49 : decode cX10_judged 49 = .ok (.iload_n 2, 1) := by decide +kernel
theorem dX10_judged_50 : decode cX10_judged 50 = .ok (.imul, 1) := by decide +kernel
theorem dX10_judged_51 : decode cX10_judged 51 = .ok (.iload_n 3, 1) := by decide +kernel
theorem dX10_judged_52 : decode cX10_judged 52 = .ok (.iadd, 1) := by decide +kernel
theorem dX10_judged_53 : decode cX10_judged 53 = .ok (.ireturn, 1) := by decide +kernel
theorem dX10_judged_54 : decode cX10_judged 54 = .ok (.iinc 3 1, 3) := by decide +kernel
theorem dX10_judged_57 : decode cX10_judged 57 = .ok (.goto (-43), 3) := by decide +kernel
theorem dX10_judged_60 : decode cX10_judged 60 = .ok (.iinc 2 1, 3) := by decide +kernel
theorem dX10_judged_63 : decode cX10_judged 63 = .ok (.goto (-61), 3) := by decide +kernel
theorem dX10_judged_66 : decode cX10_judged 66 = .ok (.bipush (-9), 2) := by decide +kernel
theorem dX10_judged_68 : decode cX10_judged 68 = .ok (.ireturn, 1) := by decide +kernel
theorem dX10_judge_0 : decode cX10_judge 0 = .ok (.aload_n 0, 1) := by decide +kernel
theorem dX10_judge_1 : decode cX10_judge 1 = .ok (.iload_n 1, 1) := by decide +kernel
theorem dX10_judge_2 : decode cX10_judge 2 = .ok (.aload_n 0, 1) := by decide +kernel
theorem dX10_judge_3 : decode cX10_judge 3 = .ok (.getfield 62, 3) := by decide +kernel
theorem dX10_judge_6 : decode cX10_judge 6 = .ok (.invokevirtual 180, 3) := by decide +kernel
theorem dX10_judge_9 : decode cX10_judge 9 = .ok (.ifCond .lt 10, 3) := by decide +kernel
theorem dX10_judge_12 : decode cX10_judge 12 = .ok (.iload_n 2, 1) := by decide +kernel
theorem dX10_judge_13 : decode cX10_judge 13 = .ok (.invokestatic 202, 3) := by decide +kernel
theorem dX10_judge_16 : decode cX10_judge 16 = .ok (.ifCond .ne 9, 3) := by decide +kernel
theorem dX10_judge_19 : decode cX10_judge 19 = .ok (.aload_n 0, 1) := by decide +kernel
theorem dX10_judge_20 : decode cX10_judge 20 = .ok (.iconst (-1), 1) := by decide +kernel
theorem dX10_judge_21 : decode cX10_judge 21 = .ok (.invokevirtual 103, 3) := by decide +kernel
theorem dX10_judge_24 : decode cX10_judge 24 = .ok (.ireturn, 1) := by decide +kernel
theorem dX10_judge_25 : decode cX10_judge 25 = .ok (.aload_n 0, 1) := by decide +kernel
theorem dX10_judge_26 : decode cX10_judge 26 = .ok (.aload_n 0, 1) := by decide +kernel
theorem dX10_judge_27 : decode cX10_judge 27 = .ok (.getfield 121, 3) := by decide +kernel
theorem dX10_judge_30 : decode cX10_judge 30 = .ok (.invokevirtual 172, 3) := by decide +kernel
theorem dX10_judge_33 : decode cX10_judge 33 = .ok (.aload_n 0, 1) := by decide +kernel
theorem dX10_judge_34 : decode cX10_judge 34 = .ok (.iload_n 2, 1) := by decide +kernel
theorem dX10_judge_35 : decode cX10_judge 35 = .ok (.invokevirtual 205, 3) := by decide +kernel
theorem dX10_judge_38 : decode cX10_judge 38 = .ok (.ireturn, 1) := by decide +kernel
theorem dX10_splits_0 : decode cX10_splits 0 = .ok (.iconst 1, 1) := by decide +kernel
theorem dX10_splits_1 : decode cX10_splits 1 = .ok (.istore_n 2, 1) := by decide +kernel
theorem dX10_splits_2 : decode cX10_splits 2 = .ok (.iload_n 2, 1) := by decide +kernel
theorem dX10_splits_3 : decode cX10_splits 3 = .ok (.ifCond .eq 136, 3) := by decide +kernel
theorem dX10_splits_6 : decode cX10_splits 6 = .ok (.iconst 0, 1) := by decide +kernel
theorem dX10_splits_7 : decode cX10_splits 7 = .ok (.istore_n 3, 1) := by decide +kernel
theorem dX10_splits_8 : decode cX10_splits 8 = .ok (.iload_n 3, 1) := by decide +kernel
theorem dX10_splits_9 : decode cX10_splits 9 = .ok (.aload_n 0, 1) := by decide +kernel
theorem dX10_splits_10 : decode cX10_splits 10 = .ok (.getfield 34, 3) := by decide +kernel
theorem dX10_splits_13 : decode cX10_splits 13 = .ok (.if_icmp .ge 81, 3) := by decide +kernel
theorem dX10_splits_16 : decode cX10_splits 16 = .ok (.aload_n 0, 1) := by decide +kernel
theorem dX10_splits_17 : decode cX10_splits 17 = .ok (.getfield 68, 3) := by decide +kernel
theorem dX10_splits_20 : decode cX10_splits 20 = .ok (.iload_n 3, 1) := by decide +kernel
theorem dX10_splits_21 : decode cX10_splits 21 = .ok (.iload_n 3, 1) := by decide +kernel
theorem dX10_splits_22 : decode cX10_splits 22 = .ok (.iastore, 1) := by decide +kernel
theorem dX10_splits_23 : decode cX10_splits 23 = .ok (.iload_n 3, 1) := by decide +kernel
theorem dX10_splits_24 : decode cX10_splits 24 = .ok (.iconst 1, 1) := by decide +kernel
theorem dX10_splits_25 : decode cX10_splits 25 = .ok (.isub, 1) := by decide +kernel
theorem dX10_splits_26 : decode cX10_splits 26 = .ok (.istore 4, 2) := by decide +kernel
theorem dX10_splits_28 : decode cX10_splits 28 = .ok (.iload 4, 2) := by decide +kernel
theorem dX10_splits_30 : decode cX10_splits 30 = .ok (.ifCond .lt 58, 3) := by decide +kernel
theorem dX10_splits_33 : decode cX10_splits 33 = .ok (.aload_n 0, 1) := by decide +kernel
theorem dX10_splits_34 : decode cX10_splits 34 = .ok (.getfield 68, 3) := by decide +kernel
theorem dX10_splits_37 : decode cX10_splits 37 = .ok (.iload_n 3, 1) := by decide +kernel
theorem dX10_splits_38 : decode cX10_splits 38 = .ok (.aload_n 0, 1) := by decide +kernel
theorem dX10_splits_39 : decode cX10_splits 39 = .ok (.getfield 62, 3) := by decide +kernel
theorem dX10_splits_42 : decode cX10_splits 42 = .ok (.iload_n 3, 1) := by decide +kernel
theorem dX10_splits_43 : decode cX10_splits 43 = .ok (.iaload, 1) := by decide +kernel
theorem dX10_splits_44 : decode cX10_splits 44 = .ok (.aload_n 0, 1) := by decide +kernel
theorem dX10_splits_45 : decode cX10_splits 45 = .ok (.getfield 62, 3) := by decide +kernel
theorem dX10_splits_48 : decode cX10_splits 48 = .ok (.iload 4, 2) := by decide +kernel
theorem dX10_splits_50 : decode cX10_splits 50 = .ok (.iaload, 1) := by decide +kernel
theorem dX10_splits_51 : decode cX10_splits 51 = .ok (.if_icmp .ne 24, 3) := by decide +kernel
theorem dX10_splits_54 : decode cX10_splits 54 = .ok (.aload_n 0, 1) := by decide +kernel
theorem dX10_splits_55 : decode cX10_splits 55 = .ok (.iload 4, 2) := by decide +kernel
theorem dX10_splits_57 : decode cX10_splits 57 = .ok (.iload_n 3, 1) := by decide +kernel
theorem dX10_splits_58 : decode cX10_splits 58 = .ok (.iload_n 1, 1) := by decide +kernel
theorem dX10_splits_59 : decode cX10_splits 59 = .ok (.invokevirtual 199, 3) := by decide +kernel
theorem dX10_splits_62 : decode cX10_splits 62 = .ok (.ifCond .eq 13, 3) := by decide +kernel
theorem dX10_splits_65 : decode cX10_splits 65 = .ok (.aload_n 0, 1) := by decide +kernel
theorem dX10_splits_66 : decode cX10_splits 66 = .ok (.getfield 68, 3) := by decide +kernel
theorem dX10_splits_69 : decode cX10_splits 69 = .ok (.iload 4, 2) := by decide +kernel
theorem dX10_splits_71 : decode cX10_splits 71 = .ok (.iaload, 1) := by decide +kernel
theorem dX10_splits_72 : decode cX10_splits 72 = .ok (.goto 9, 3) := by decide +kernel
theorem dX10_splits_75 : decode cX10_splits 75 = .ok (.aload_n 0, 1) := by decide +kernel
theorem dX10_splits_76 : decode cX10_splits 76 = .ok (.getfield 68, 3) := by decide +kernel
theorem dX10_splits_79 : decode cX10_splits 79 = .ok (.iload_n 3, 1) := by decide +kernel
theorem dX10_splits_80 : decode cX10_splits 80 = .ok (.iaload, 1) := by decide +kernel
theorem dX10_splits_81 : decode cX10_splits 81 = .ok (.iastore, 1) := by decide +kernel
theorem dX10_splits_82 : decode cX10_splits 82 = .ok (.iinc 4 (-1), 3) := by decide +kernel
