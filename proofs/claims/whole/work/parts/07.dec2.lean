theorem dX10_splits_85 : decode cX10_splits 85 = .ok (.goto (-57), 3) := by decide +kernel
theorem dX10_splits_88 : decode cX10_splits 88 = .ok (.iinc 3 1, 3) := by decide +kernel
theorem dX10_splits_91 : decode cX10_splits 91 = .ok (.goto (-83), 3) := by decide +kernel
theorem dX10_splits_94 : decode cX10_splits 94 = .ok (.aload_n 0, 1) := by decide +kernel
theorem dX10_splits_95 : decode cX10_splits 95 = .ok (.aload_n 0, 1) := by decide +kernel
theorem dX10_splits_96 : decode cX10_splits 96 = .ok (.getfield 62, 3) := by decide +kernel
theorem dX10_splits_99 : decode cX10_splits 99 = .ok (.invokevirtual 208, 3) := by decide +kernel
theorem dX10_splits_102 : decode cX10_splits 102 = .ok (.istore_n 3, 1) := by decide +kernel
theorem dX10_splits_103 : decode cX10_splits 103 = .ok (.aload_n 0, 1) := by decide +kernel
theorem dX10_splits_104 : decode cX10_splits 104 = .ok (.aload_n 0, 1) := by decide +kernel
theorem dX10_splits_105 : decode cX10_splits 105 = .ok (.getfield 68, 3) := by decide +kernel
theorem dX10_splits_108 : decode cX10_splits 108 = .ok (.invokevirtual 208, 3) := by decide +kernel
theorem dX10_splits_111 : decode cX10_splits 111 = .ok (.istore 4, 2) := by decide +kernel
theorem dX10_splits_113 : decode cX10_splits 113 = .ok (.iload 4, 2) := by decide +kernel
theorem dX10_splits_115 : decode cX10_splits 115 = .ok (.iload_n 3, 1) := by decide +kernel
theorem dX10_splits_116 : decode cX10_splits 116 = .ok (.if_icmp .eq 7, 3) := by decide +kernel
theorem dX10_splits_119 : decode cX10_splits 119 = .ok (.iconst 1, 1) := by decide +kernel
theorem dX10_splits_120 : decode cX10_splits 120 = .ok (.goto 4, 3) := by decide +kernel
theorem dX10_splits_123 : decode cX10_splits 123 = .ok (.iconst 0, 1) := by decide +kernel
theorem dX10_splits_124 : decode cX10_splits 124 = .ok (.istore_n 2, 1) := by decide +kernel
theorem dX10_splits_125 : decode cX10_splits 125 = .ok (.aload_n 0, 1) := by decide +kernel
theorem dX10_splits_126 : decode cX10_splits 126 = .ok (.iload 4, 2) := by decide +kernel
theorem dX10_splits_128 : decode cX10_splits 128 = .ok (.aload_n 0, 1) := by decide +kernel
theorem dX10_splits_129 : decode cX10_splits 129 = .ok (.getfield 62, 3) := by decide +kernel
theorem dX10_splits_132 : decode cX10_splits 132 = .ok (.invokevirtual 180, 3) := by decide +kernel
theorem dX10_splits_135 : decode cX10_splits 135 = .ok (.pop, 1) := by decide +kernel
theorem dX10_splits_136 : decode cX10_splits 136 = .ok (.goto (-134), 3) := by decide +kernel
theorem dX10_splits_139 : decode cX10_splits 139 = .ok (.aload_n 0, 1) := by decide +kernel
theorem dX10_splits_140 : decode cX10_splits 140 = .ok (.aload_n 0, 1) := by decide +kernel
theorem dX10_splits_141 : decode cX10_splits 141 = .ok (.getfield 62, 3) := by decide +kernel
theorem dX10_splits_144 : decode cX10_splits 144 = .ok (.invokevirtual 208, 3) := by decide +kernel
theorem dX10_splits_147 : decode cX10_splits 147 = .ok (.ireturn, 1) := by decide +kernel
theorem dX10_coarsest_0 : decode cX10_coarsest 0 = .ok (.aload_n 0, 1) := by decide +kernel
theorem dX10_coarsest_1 : decode cX10_coarsest 1 = .ok (.iload_n 1, 1) := by decide +kernel
theorem dX10_coarsest_2 : decode cX10_coarsest 2 = .ok (.aload_n 0, 1) := by decide +kernel
theorem dX10_coarsest_3 : decode cX10_coarsest 3 = .ok (.getfield 62, 3) := by decide +kernel
theorem dX10_coarsest_6 : decode cX10_coarsest 6 = .ok (.invokevirtual 180, 3) := by decide +kernel
theorem dX10_coarsest_9 : decode cX10_coarsest 9 = .ok (.ifCond .lt 10, 3) := by decide +kernel
theorem dX10_coarsest_12 : decode cX10_coarsest 12 = .ok (.iload_n 2, 1) := by decide +kernel
theorem dX10_coarsest_13 : decode cX10_coarsest 13 = .ok (.invokestatic 202, 3) := by decide +kernel
theorem dX10_coarsest_16 : decode cX10_coarsest 16 = .ok (.ifCond .ne 9, 3) := by decide +kernel
theorem dX10_coarsest_19 : decode cX10_coarsest 19 = .ok (.aload_n 0, 1) := by decide +kernel
theorem dX10_coarsest_20 : decode cX10_coarsest 20 = .ok (.iconst (-1), 1) := by decide +kernel
theorem dX10_coarsest_21 : decode cX10_coarsest 21 = .ok (.invokevirtual 103, 3) := by decide +kernel
theorem dX10_coarsest_24 : decode cX10_coarsest 24 = .ok (.ireturn, 1) := by decide +kernel
theorem dX10_coarsest_25 : decode cX10_coarsest 25 = .ok (.aload_n 0, 1) := by decide +kernel
theorem dX10_coarsest_26 : decode cX10_coarsest 26 = .ok (.aload_n 0, 1) := by decide +kernel
theorem dX10_coarsest_27 : decode cX10_coarsest 27 = .ok (.getfield 121, 3) := by decide +kernel
theorem dX10_coarsest_30 : decode cX10_coarsest 30 = .ok (.invokevirtual 172, 3) := by decide +kernel
theorem dX10_coarsest_33 : decode cX10_coarsest 33 = .ok (.aload_n 0, 1) := by decide +kernel
theorem dX10_coarsest_34 : decode cX10_coarsest 34 = .ok (.iload_n 2, 1) := by decide +kernel
theorem dX10_coarsest_35 : decode cX10_coarsest 35 = .ok (.invokevirtual 212, 3) := by decide +kernel
theorem dX10_coarsest_38 : decode cX10_coarsest 38 = .ok (.ireturn, 1) := by decide +kernel
theorem dX10_firstNames_0 : decode cX10_firstNames 0 = .ok (.iconst 0, 1) := by decide +kernel
theorem dX10_firstNames_1 : decode cX10_firstNames 1 = .ok (.istore_n 1, 1) := by decide +kernel
theorem dX10_firstNames_2 : decode cX10_firstNames 2 = .ok (.iload_n 1, 1) := by decide +kernel
theorem dX10_firstNames_3 : decode cX10_firstNames 3 = .ok (.bipush 7, 2) := by decide +kernel
theorem dX10_firstNames_5 : decode cX10_firstNames 5 = .ok (.if_icmp .ge 16, 3) := by decide +kernel
theorem dX10_firstNames_8 : decode cX10_firstNames 8 = .ok (.aload_n 0, 1) := by decide +kernel
theorem dX10_firstNames_9 : decode cX10_firstNames 9 = .ok (.getfield 74, 3) := by decide +kernel
theorem dX10_firstNames_12 : decode cX10_firstNames 12 = .ok (.iload_n 1, 1) := by decide +kernel
theorem dX10_firstNames_13 : decode cX10_firstNames 13 = .ok (.iload_n 1, 1) := by decide +kernel
theorem dX10_firstNames_14 : decode cX10_firstNames 14 = .ok (.iastore, 1) := by decide +kernel
theorem dX10_firstNames_15 : decode cX10_firstNames 15 = .ok (.iinc 1 1, 3) := by decide +kernel
theorem dX10_firstNames_18 : decode cX10_firstNames 18 = .ok (.goto (-16), 3) := by decide +kernel
theorem dX10_firstNames_21 : decode cX10_firstNames 21 = .ok (.return_, 1) := by decide +kernel
theorem dX10_nextNames_0 : decode cX10_nextNames 0 = .ok (.iload_n 1, 1) := by decide +kernel
theorem dX10_nextNames_1 : decode cX10_nextNames 1 = .ok (.iconst 2, 1) := by decide +kernel
theorem dX10_nextNames_2 : decode cX10_nextNames 2 = .ok (.isub, 1) := by decide +kernel
theorem dX10_nextNames_3 : decode cX10_nextNames 3 = .ok (.istore_n 2, 1) := by decide +kernel
theorem dX10_nextNames_4 : decode cX10_nextNames 4 = .ok (.iload_n 2, 1) := by decide +kernel
theorem dX10_nextNames_5 : decode cX10_nextNames 5 = .ok (.ifCond .lt 26, 3) := by decide +kernel
theorem dX10_nextNames_8 : decode cX10_nextNames 8 = .ok (.aload_n 0, 1) := by decide +kernel
theorem dX10_nextNames_9 : decode cX10_nextNames 9 = .ok (.getfield 74, 3) := by decide +kernel
theorem dX10_nextNames_12 : decode cX10_nextNames 12 = .ok (.iload_n 2, 1) := by decide +kernel
theorem dX10_nextNames_13 : decode cX10_nextNames 13 = .ok (.iaload, 1) := by decide +kernel
theorem dX10_nextNames_14 : decode cX10_nextNames 14 = .ok (.aload_n 0, 1) := by decide +kernel
theorem dX10_nextNames_15 : decode cX10_nextNames 15 = .ok (.getfield 74, 3) := by decide +kernel
theorem dX10_nextNames_18 : decode cX10_nextNames 18 = .ok (.iload_n 2, 1) := by decide +kernel
theorem dX10_nextNames_19 : decode cX10_nextNames 19 = .ok (.iconst 1, 1) := by decide +kernel
theorem dX10_nextNames_20 : decode cX10_nextNames 20 = .ok (.iadd, 1) := by decide +kernel
theorem dX10_nextNames_21 : decode cX10_nextNames 21 = .ok (.iaload, 1) := by decide +kernel
theorem dX10_nextNames_22 : decode cX10_nextNames 22 = .ok (.if_icmp .le 9, 3) := by decide +kernel
theorem dX10_nextNames_25 : decode cX10_nextNames 25 = .ok (.iinc 2 (-1), 3) := by decide +kernel
theorem dX10_nextNames_28 : decode cX10_nextNames 28 = .ok (.goto (-24), 3) := by decide +kernel
theorem dX10_nextNames_31 : decode cX10_nextNames 31 = .ok (.iload_n 2, 1) := by decide +kernel
theorem dX10_nextNames_32 : decode cX10_nextNames 32 = .ok (.ifCond .ge 5, 3) := by decide +kernel
theorem dX10_nextNames_35 : decode cX10_nextNames 35 = .ok (.iconst 0, 1) := by decide +kernel
theorem dX10_nextNames_36 : decode cX10_nextNames 36 = .ok (.ireturn, 1) := by decide +kernel
theorem dX10_nextNames_37 : decode cX10_nextNames 37 = .ok (.iload_n 1, 1) := by decide +kernel
theorem dX10_nextNames_38 : decode cX10_nextNames 38 = .ok (.iconst 1, 1) := by decide +kernel
theorem dX10_nextNames_39 : decode cX10_nextNames 39 = .ok (.isub, 1) := by decide +kernel
theorem dX10_nextNames_40 : decode cX10_nextNames 40 = .ok (.istore_n 3, 1) := by decide +kernel
theorem dX10_nextNames_41 : decode cX10_nextNames 41 = .ok (.aload_n 0, 1) := by decide +kernel
theorem dX10_nextNames_42 : decode cX10_nextNames 42 = .ok (.getfield 74, 3) := by decide +kernel
theorem dX10_nextNames_45 : decode cX10_nextNames 45 = .ok (.iload_n 3, 1) := by decide +kernel
theorem dX10_nextNames_46 : decode cX10_nextNames 46 = .ok (.iaload, 1) := by decide +kernel
theorem dX10_nextNames_47 : decode cX10_nextNames 47 = .ok (.aload_n 0, 1) := by decide +kernel
theorem dX10_nextNames_48 : decode cX10_nextNames 48 = .ok (.getfield 74, 3) := by decide +kernel
theorem dX10_nextNames_51 : decode cX10_nextNames 51 = .ok (.iload_n 2, 1) := by decide +kernel
theorem dX10_nextNames_52 : decode cX10_nextNames 52 = .ok (.iaload, 1) := by decide +kernel
theorem dX10_nextNames_53 : decode cX10_nextNames 53 = .ok (.if_icmp .ge 9, 3) := by decide +kernel
theorem dX10_nextNames_56 : decode cX10_nextNames 56 = .ok (.iinc 3 (-1), 3) := by decide +kernel
theorem dX10_nextNames_59 : decode cX10_nextNames 59 = .ok (.goto (-18), 3) := by decide +kernel
theorem dX10_nextNames_62 : decode cX10_nextNames 62 = .ok (.aload_n 0, 1) := by decide +kernel
theorem dX10_nextNames_63 : decode cX10_nextNames 63 = .ok (.getfield 74, 3) := by decide +kernel
theorem dX10_nextNames_66 : decode cX10_nextNames 66 = .ok (.iload_n 2, 1) := by decide +kernel
theorem dX10_nextNames_67 : decode cX10_nextNames 67 = .ok (.iaload, 1) := by decide +kernel
theorem dX10_nextNames_68 : decode cX10_nextNames 68 = .ok (.istore 4, 2) := by decide +kernel
theorem dX10_nextNames_70 : decode cX10_nextNames 70 = .ok (.aload_n 0, 1) := by decide +kernel
theorem dX10_nextNames_71 : decode cX10_nextNames 71 = .ok (.getfield 74, 3) := by decide +kernel
theorem dX10_nextNames_74 : decode cX10_nextNames 74 = .ok (.iload_n 2, 1) := by decide +kernel
theorem dX10_nextNames_75 : decode cX10_nextNames 75 = .ok (.aload_n 0, 1) := by decide +kernel
theorem dX10_nextNames_76 : decode cX10_nextNames 76 = .ok (.getfield 74, 3) := by decide +kernel
theorem dX10_nextNames_79 : decode cX10_nextNames 79 = .ok (.iload_n 3, 1) := by decide +kernel
theorem dX10_nextNames_80 : decode cX10_nextNames 80 = .ok (.iaload, 1) := by decide +kernel
theorem dX10_nextNames_81 : decode cX10_nextNames 81 = .ok (.iastore, 1) := by decide +kernel
theorem dX10_nextNames_82 : decode cX10_nextNames 82 = .ok (.aload_n 0, 1) := by decide +kernel
theorem dX10_nextNames_83 : decode cX10_nextNames 83 = .ok (.getfield 74, 3) := by decide +kernel
theorem dX10_nextNames_86 : decode cX10_nextNames 86 = .ok (.iload_n 3, 1) := by decide +kernel
theorem dX10_nextNames_87 : decode cX10_nextNames 87 = .ok (.iload 4, 2) := by decide +kernel
theorem dX10_nextNames_89 : decode cX10_nextNames 89 = .ok (.iastore, 1) := by decide +kernel
theorem dX10_nextNames_90 : decode cX10_nextNames 90 = .ok (.iload_n 2, 1) := by decide +kernel
theorem dX10_nextNames_91 : decode cX10_nextNames 91 = .ok (.iconst 1, 1) := by decide +kernel
theorem dX10_nextNames_92 : decode cX10_nextNames 92 = .ok (.iadd, 1) := by decide +kernel
theorem dX10_nextNames_93 : decode cX10_nextNames 93 = .ok (.istore 5, 2) := by decide +kernel
theorem dX10_nextNames_95 : decode cX10_nextNames 95 = .ok (.iload_n 1, 1) := by decide +kernel
theorem dX10_nextNames_96 : decode cX10_nextNames 96 = .ok (.iconst 1, 1) := by decide +kernel
theorem dX10_nextNames_97 : decode cX10_nextNames 97 = .ok (.isub, 1) := by decide +kernel
theorem dX10_nextNames_98 : decode cX10_nextNames 98 = .ok (.istore 6, 2) := by decide +kernel
theorem dX10_nextNames_100 : decode cX10_nextNames 100 = .ok (.iload 5, 2) := by decide +kernel
theorem dX10_nextNames_102 : decode cX10_nextNames 102 = .ok (.iload 6, 2) := by decide +kernel
theorem dX10_nextNames_104 : decode cX10_nextNames 104 = .ok (.if_icmp .ge 44, 3) := by decide +kernel
theorem dX10_nextNames_107 : decode cX10_nextNames 107 = .ok (.aload_n 0, 1) := by decide +kernel
theorem dX10_nextNames_108 : decode cX10_nextNames 108 = .ok (.getfield 74, 3) := by decide +kernel
theorem dX10_nextNames_111 : decode cX10_nextNames 111 = .ok (.iload 5, 2) := by decide +kernel
theorem dX10_nextNames_113 : decode cX10_nextNames 113 = .ok (.iaload, 1) := by decide +kernel
theorem dX10_nextNames_114 : decode cX10_nextNames 114 = .ok (.istore 4, 2) := by decide +kernel
theorem dX10_nextNames_116 : decode cX10_nextNames 116 = .ok (.aload_n 0, 1) := by decide +kernel
theorem dX10_nextNames_117 : decode cX10_nextNames 117 = .ok (.getfield 74, 3) := by decide +kernel
theorem dX10_nextNames_120 : decode cX10_nextNames 120 = .ok (.iload 5, 2) := by decide +kernel
theorem dX10_nextNames_122 : decode cX10_nextNames 122 = .ok (.aload_n 0, 1) := by decide +kernel
theorem dX10_nextNames_123 : decode cX10_nextNames 123 = .ok (.getfield 74, 3) := by decide +kernel
theorem dX10_nextNames_126 : decode cX10_nextNames 126 = .ok (.iload 6, 2) := by decide +kernel
theorem dX10_nextNames_128 : decode cX10_nextNames 128 = .ok (.iaload, 1) := by decide +kernel
theorem dX10_nextNames_129 : decode cX10_nextNames 129 = .ok (.iastore, 1) := by decide +kernel
theorem dX10_nextNames_130 : decode cX10_nextNames 130 = .ok (.aload_n 0, 1) := by decide +kernel
theorem dX10_nextNames_131 : decode cX10_nextNames 131 = .ok (.getfield 74, 3) := by decide +kernel
theorem dX10_nextNames_134 : decode cX10_nextNames 134 = .ok (.iload 6, 2) := by decide +kernel
theorem dX10_nextNames_136 : decode cX10_nextNames 136 = .ok (.iload 4, 2) := by decide +kernel
theorem dX10_nextNames_138 : decode cX10_nextNames 138 = .ok (.iastore, 1) := by decide +kernel
theorem dX10_nextNames_139 : decode cX10_nextNames 139 = .ok (.iinc 5 1, 3) := by decide +kernel
theorem dX10_nextNames_142 : decode cX10_nextNames 142 = .ok (.iinc 6 (-1), 3) := by decide +kernel
theorem dX10_nextNames_145 : decode cX10_nextNames 145 = .ok (.goto (-45), 3) := by decide +kernel
theorem dX10_nextNames_148 : decode cX10_nextNames 148 = .ok (.iconst 1, 1) := by decide +kernel
theorem dX10_nextNames_149 : decode cX10_nextNames 149 = .ok (.ireturn, 1) := by decide +kernel
theorem dX10_isTurn_0 : decode cX10_isTurn 0 = .ok (.iconst 0, 1) := by decide +kernel
theorem dX10_isTurn_1 : decode cX10_isTurn 1 = .ok (.istore_n 1, 1) := by decide +kernel
theorem dX10_isTurn_2 : decode cX10_isTurn 2 = .ok (.iload_n 1, 1) := by decide +kernel
theorem dX10_isTurn_3 : decode cX10_isTurn 3 = .ok (.aload_n 0, 1) := by decide +kernel
theorem dX10_isTurn_4 : decode cX10_isTurn 4 = .ok (.getfield 34, 3) := by decide +kernel
theorem dX10_isTurn_7 : decode cX10_isTurn 7 = .ok (.if_icmp .ge 89, 3) := by decide +kernel
theorem dX10_isTurn_10 : decode cX10_isTurn 10 = .ok (.aload_n 0, 1) := by decide +kernel
theorem dX10_isTurn_11 : decode cX10_isTurn 11 = .ok (.getfield 13, 3) := by decide +kernel
theorem dX10_isTurn_14 : decode cX10_isTurn 14 = .ok (.iload_n 1, 1) := by decide +kernel
theorem dX10_isTurn_15 : decode cX10_isTurn 15 = .ok (.iaload, 1) := by decide +kernel
theorem dX10_isTurn_16 : decode cX10_isTurn 16 = .ok (.aload_n 0, 1) := by decide +kernel
theorem dX10_isTurn_17 : decode cX10_isTurn 17 = .ok (.getfield 13, 3) := by decide +kernel
theorem dX10_isTurn_20 : decode cX10_isTurn 20 = .ok (.aload_n 0, 1) := by decide +kernel
theorem dX10_isTurn_21 : decode cX10_isTurn 21 = .ok (.getfield 74, 3) := by decide +kernel
theorem dX10_isTurn_24 : decode cX10_isTurn 24 = .ok (.iload_n 1, 1) := by decide +kernel
theorem dX10_isTurn_25 : decode cX10_isTurn 25 = .ok (.iaload, 1) := by decide +kernel
theorem dX10_isTurn_26 : decode cX10_isTurn 26 = .ok (.iaload, 1) := by decide +kernel
theorem dX10_isTurn_27 : decode cX10_isTurn 27 = .ok (.if_icmp .eq 5, 3) := by decide +kernel
theorem dX10_isTurn_30 : decode cX10_isTurn 30 = .ok (.iconst 0, 1) := by decide +kernel
theorem dX10_isTurn_31 : decode cX10_isTurn 31 = .ok (.ireturn, 1) := by decide +kernel
theorem dX10_isTurn_32 : decode cX10_isTurn 32 = .ok (.iconst 0, 1) := by decide +kernel
theorem dX10_isTurn_33 : decode cX10_isTurn 33 = .ok (.istore_n 2, 1) := by decide +kernel
theorem dX10_isTurn_34 : decode cX10_isTurn 34 = .ok (.iload_n 2, 1) := by decide +kernel
theorem dX10_isTurn_35 : decode cX10_isTurn 35 = .ok (.aload_n 0, 1) := by decide +kernel
theorem dX10_isTurn_36 : decode cX10_isTurn 36 = .ok (.getfield 34, 3) := by decide +kernel
theorem dX10_isTurn_39 : decode cX10_isTurn 39 = .ok (.if_icmp .ge 51, 3) := by decide +kernel
theorem dX10_isTurn_42 : decode cX10_isTurn 42 = .ok (.iconst 0, 1) := by decide +kernel
theorem dX10_isTurn_43 : decode cX10_isTurn 43 = .ok (.istore_n 3, 1) := by decide +kernel
theorem dX10_isTurn_44 : decode cX10_isTurn 44 = .ok (.iload_n 3, 1) := by decide +kernel
theorem dX10_isTurn_45 : decode cX10_isTurn 45 = .ok (.iconst 3, 1) := by decide +kernel
theorem dX10_isTurn_46 : decode cX10_isTurn 46 = .ok (.if_icmp .ge 38, 3) := by decide +kernel
theorem dX10_isTurn_49 : decode cX10_isTurn 49 = .ok (.aload_n 0, 1) := by decide +kernel
theorem dX10_isTurn_50 : decode cX10_isTurn 50 = .ok (.iload_n 3, 1) := by decide +kernel
theorem dX10_isTurn_51 : decode cX10_isTurn 51 = .ok (.iload_n 1, 1) := by decide +kernel
theorem dX10_isTurn_52 : decode cX10_isTurn 52 = .ok (.iload_n 2, 1) := by decide +kernel
theorem dX10_isTurn_53 : decode cX10_isTurn 53 = .ok (.invokevirtual 166, 3) := by decide +kernel
theorem dX10_isTurn_56 : decode cX10_isTurn 56 = .ok (.aload_n 0, 1) := by decide +kernel
theorem dX10_isTurn_57 : decode cX10_isTurn 57 = .ok (.iload_n 3, 1) := by decide +kernel
theorem dX10_isTurn_58 : decode cX10_isTurn 58 = .ok (.aload_n 0, 1) := by decide +kernel
theorem dX10_isTurn_59 : decode cX10_isTurn 59 = .ok (.getfield 74, 3) := by decide +kernel
theorem dX10_isTurn_62 : decode cX10_isTurn 62 = .ok (.iload_n 1, 1) := by decide +kernel
theorem dX10_isTurn_63 : decode cX10_isTurn 63 = .ok (.iaload, 1) := by decide +kernel
theorem dX10_isTurn_64 : decode cX10_isTurn 64 = .ok (.aload_n 0, 1) := by decide +kernel
theorem dX10_isTurn_65 : decode cX10_isTurn 65 = .ok (.getfield 74, 3) := by decide +kernel
theorem dX10_isTurn_68 : decode cX10_isTurn 68 = .ok (.iload_n 2, 1) := by decide +kernel
theorem dX10_isTurn_69 : decode cX10_isTurn 69 = .ok (.iaload, 1) := by decide +kernel
theorem dX10_isTurn_70 : decode cX10_isTurn 70 = .ok (.invokevirtual 166, 3) := by decide +kernel
theorem dX10_isTurn_73 : decode cX10_isTurn 73 = .ok (.if_icmp .eq 5, 3) := by decide +kernel
theorem dX10_isTurn_76 : decode cX10_isTurn 76 = .ok (.iconst 0, 1) := by decide +kernel
theorem dX10_isTurn_77 : decode cX10_isTurn 77 = .ok (.ireturn, 1) := by decide +kernel
theorem dX10_isTurn_78 : decode cX10_isTurn 78 = .ok (.iinc 3 1, 3) := by decide +kernel
theorem dX10_isTurn_81 : decode cX10_isTurn 81 = .ok (.goto (-37), 3) := by decide +kernel
theorem dX10_isTurn_84 : decode cX10_isTurn 84 = .ok (.iinc 2 1, 3) := by decide +kernel
theorem dX10_isTurn_87 : decode cX10_isTurn 87 = .ok (.goto (-53), 3) := by decide +kernel
theorem dX10_isTurn_90 : decode cX10_isTurn 90 = .ok (.iinc 1 1, 3) := by decide +kernel
theorem dX10_isTurn_93 : decode cX10_isTurn 93 = .ok (.goto (-91), 3) := by decide +kernel
theorem dX10_isTurn_96 : decode cX10_isTurn 96 = .ok (.iconst 1, 1) := by decide +kernel
theorem dX10_isTurn_97 : decode cX10_isTurn 97 = .ok (.ireturn, 1) := by decide +kernel
theorem dX10_findTurns_0 : decode cX10_findTurns 0 = .ok (.aload_n 0, 1) := by decide +kernel
theorem dX10_findTurns_1 : decode cX10_findTurns 1 = .ok (.aload_n 0, 1) := by decide +kernel
theorem dX10_findTurns_2 : decode cX10_findTurns 2 = .ok (.getfield 121, 3) := by decide +kernel
theorem dX10_findTurns_5 : decode cX10_findTurns 5 = .ok (.invokevirtual 172, 3) := by decide +kernel
theorem dX10_findTurns_8 : decode cX10_findTurns 8 = .ok (.iconst 0, 1) := by decide +kernel
theorem dX10_findTurns_9 : decode cX10_findTurns 9 = .ok (.istore_n 1, 1) := by decide +kernel
theorem dX10_findTurns_10 : decode cX10_findTurns 10 = .ok (.iload_n 1, 1) := by decide +kernel
theorem dX10_findTurns_11 : decode cX10_findTurns 11 = .ok (.bipush 49, 2) := by decide +kernel
theorem dX10_findTurns_13 : decode cX10_findTurns 13 = .ok (.if_icmp .ge 16, 3) := by decide +kernel
theorem dX10_findTurns_16 : decode cX10_findTurns 16 = .ok (.aload_n 0, 1) := by decide +kernel
theorem dX10_findTurns_17 : decode cX10_findTurns 17 = .ok (.getfield 83, 3) := by decide +kernel
theorem dX10_findTurns_20 : decode cX10_findTurns 20 = .ok (.iload_n 1, 1) := by decide +kernel
theorem dX10_findTurns_21 : decode cX10_findTurns 21 = .ok (.iconst 0, 1) := by decide +kernel
theorem dX10_findTurns_22 : decode cX10_findTurns 22 = .ok (.bastore, 1) := by decide +kernel
theorem dX10_findTurns_23 : decode cX10_findTurns 23 = .ok (.iinc 1 1, 3) := by decide +kernel
theorem dX10_findTurns_26 : decode cX10_findTurns 26 = .ok (.goto (-16), 3) := by decide +kernel
theorem dX10_findTurns_29 : decode cX10_findTurns 29 = .ok (.iconst 0, 1) := by decide +kernel
theorem dX10_findTurns_30 : decode cX10_findTurns 30 = .ok (.istore_n 1, 1) := by decide +kernel
theorem dX10_findTurns_31 : decode cX10_findTurns 31 = .ok (.aload_n 0, 1) := by decide +kernel
theorem dX10_findTurns_32 : decode cX10_findTurns 32 = .ok (.invokevirtual 215, 3) := by decide +kernel
theorem dX10_findTurns_35 : decode cX10_findTurns 35 = .ok (.iconst 1, 1) := by decide +kernel
theorem dX10_findTurns_36 : decode cX10_findTurns 36 = .ok (.istore_n 2, 1) := by decide +kernel
theorem dX10_findTurns_37 : decode cX10_findTurns 37 = .ok (.iload_n 2, 1) := by decide +kernel
theorem dX10_findTurns_38 : decode cX10_findTurns 38 = .ok (.ifCond .eq 58, 3) := by decide +kernel
theorem dX10_findTurns_41 : decode cX10_findTurns 41 = .ok (.aload_n 0, 1) := by decide +kernel
theorem dX10_findTurns_42 : decode cX10_findTurns 42 = .ok (.invokevirtual 218, 3) := by decide +kernel
theorem dX10_findTurns_45 : decode cX10_findTurns 45 = .ok (.ifCond .eq 39, 3) := by decide +kernel
theorem dX10_findTurns_48 : decode cX10_findTurns 48 = .ok (.iinc 1 1, 3) := by decide +kernel
theorem dX10_findTurns_51 : decode cX10_findTurns 51 = .ok (.iconst 0, 1) := by decide +kernel
theorem dX10_findTurns_52 : decode cX10_findTurns 52 = .ok (.istore_n 3, 1) := by decide +kernel
theorem dX10_findTurns_53 : decode cX10_findTurns 53 = .ok (.iload_n 3, 1) := by decide +kernel
theorem dX10_findTurns_54 : decode cX10_findTurns 54 = .ok (.aload_n 0, 1) := by decide +kernel
theorem dX10_findTurns_55 : decode cX10_findTurns 55 = .ok (.getfield 34, 3) := by decide +kernel
theorem dX10_findTurns_58 : decode cX10_findTurns 58 = .ok (.if_icmp .ge 26, 3) := by decide +kernel
theorem dX10_findTurns_61 : decode cX10_findTurns 61 = .ok (.aload_n 0, 1) := by decide +kernel
theorem dX10_findTurns_62 : decode cX10_findTurns 62 = .ok (.getfield 83, 3) := by decide +kernel
theorem dX10_findTurns_65 : decode cX10_findTurns 65 = .ok (.bipush 7, 2) := by decide +kernel
theorem dX10_findTurns_67 : decode cX10_findTurns 67 = .ok (.iload_n 3, 1) := by decide +kernel
theorem dX10_findTurns_68 : decode cX10_findTurns 68 = .ok (.imul, 1) := by decide +kernel
theorem dX10_findTurns_69 : decode cX10_findTurns 69 = .ok (.aload_n 0, 1) := by decide +kernel
theorem dX10_findTurns_70 : decode cX10_findTurns 70 = .ok (.getfield 74, 3) := by decide +kernel
theorem dX10_findTurns_73 : decode cX10_findTurns 73 = .ok (.iload_n 3, 1) := by decide +kernel
theorem dX10_findTurns_74 : decode cX10_findTurns 74 = .ok (.iaload, 1) := by decide +kernel
theorem dX10_findTurns_75 : decode cX10_findTurns 75 = .ok (.iadd, 1) := by decide +kernel
theorem dX10_findTurns_76 : decode cX10_findTurns 76 = .ok (.iconst 1, 1) := by decide +kernel
theorem dX10_findTurns_77 : decode cX10_findTurns 77 = .ok (.bastore, 1) := by decide +kernel
theorem dX10_findTurns_78 : decode cX10_findTurns 78 = .ok (.iinc 3 1, 3) := by decide +kernel
theorem dX10_findTurns_81 : decode cX10_findTurns 81 = .ok (.goto (-28), 3) := by decide +kernel
theorem dX10_findTurns_84 : decode cX10_findTurns 84 = .ok (.aload_n 0, 1) := by decide +kernel
theorem dX10_findTurns_85 : decode cX10_findTurns 85 = .ok (.aload_n 0, 1) := by decide +kernel
theorem dX10_findTurns_86 : decode cX10_findTurns 86 = .ok (.getfield 34, 3) := by decide +kernel
theorem dX10_findTurns_89 : decode cX10_findTurns 89 = .ok (.invokevirtual 221, 3) := by decide +kernel
theorem dX10_findTurns_92 : decode cX10_findTurns 92 = .ok (.istore_n 2, 1) := by decide +kernel
theorem dX10_findTurns_93 : decode cX10_findTurns 93 = .ok (.goto (-56), 3) := by decide +kernel
theorem dX10_findTurns_96 : decode cX10_findTurns 96 = .ok (.iload_n 1, 1) := by decide +kernel
theorem dX10_findTurns_97 : decode cX10_findTurns 97 = .ok (.ireturn, 1) := by decide +kernel
theorem dX10_renamings_0 : decode cX10_renamings 0 = .ok (.aload_n 0, 1) := by decide +kernel
theorem dX10_renamings_1 : decode cX10_renamings 1 = .ok (.invokevirtual 224, 3) := by decide +kernel
theorem dX10_renamings_4 : decode cX10_renamings 4 = .ok (.ireturn, 1) := by decide +kernel
theorem dX10_moves_0 : decode cX10_moves 0 = .ok (.aload_n 0, 1) := by decide +kernel
theorem dX10_moves_1 : decode cX10_moves 1 = .ok (.iload_n 1, 1) := by decide +kernel
theorem dX10_moves_2 : decode cX10_moves 2 = .ok (.invokevirtual 113, 3) := by decide +kernel
theorem dX10_moves_5 : decode cX10_moves 5 = .ok (.ifCond .eq 11, 3) := by decide +kernel
theorem dX10_moves_8 : decode cX10_moves 8 = .ok (.aload_n 0, 1) := by decide +kernel
theorem dX10_moves_9 : decode cX10_moves 9 = .ok (.iload_n 2, 1) := by decide +kernel
theorem dX10_moves_10 : decode cX10_moves 10 = .ok (.invokevirtual 113, 3) := by decide +kernel
theorem dX10_moves_13 : decode cX10_moves 13 = .ok (.ifCond .ne 9, 3) := by decide +kernel
theorem dX10_moves_16 : decode cX10_moves 16 = .ok (.aload_n 0, 1) := by decide +kernel
theorem dX10_moves_17 : decode cX10_moves 17 = .ok (.iconst (-1), 1) := by decide +kernel
theorem dX10_moves_18 : decode cX10_moves 18 = .ok (.invokevirtual 103, 3) := by decide +kernel
theorem dX10_moves_21 : decode cX10_moves 21 = .ok (.ireturn, 1) := by decide +kernel
theorem dX10_moves_22 : decode cX10_moves 22 = .ok (.aload_n 0, 1) := by decide +kernel
theorem dX10_moves_23 : decode cX10_moves 23 = .ok (.invokevirtual 224, 3) := by decide +kernel
theorem dX10_moves_26 : decode cX10_moves 26 = .ok (.pop, 1) := by decide +kernel
theorem dX10_moves_27 : decode cX10_moves 27 = .ok (.aload_n 0, 1) := by decide +kernel
theorem dX10_moves_28 : decode cX10_moves 28 = .ok (.getfield 83, 3) := by decide +kernel
theorem dX10_moves_31 : decode cX10_moves 31 = .ok (.bipush 7, 2) := by decide +kernel
theorem dX10_moves_33 : decode cX10_moves 33 = .ok (.iload_n 1, 1) := by decide +kernel
theorem dX10_moves_34 : decode cX10_moves 34 = .ok (.imul, 1) := by decide +kernel
theorem dX10_moves_35 : decode cX10_moves 35 = .ok (.iload_n 2, 1) := by decide +kernel
theorem dX10_moves_36 : decode cX10_moves 36 = .ok (.iadd, 1) := by decide +kernel
theorem dX10_moves_37 : decode cX10_moves 37 = .ok (.baload, 1) := by decide +kernel
theorem dX10_moves_38 : decode cX10_moves 38 = .ok (.ifCond .eq 7, 3) := by decide +kernel
theorem dX10_moves_41 : decode cX10_moves 41 = .ok (.iconst 1, 1) := by decide +kernel
theorem dX10_moves_42 : decode cX10_moves 42 = .ok (.goto 4, 3) := by decide +kernel
theorem dX10_moves_45 : decode cX10_moves 45 = .ok (.iconst 0, 1) := by decide +kernel
theorem dX10_moves_46 : decode cX10_moves 46 = .ok (.ireturn, 1) := by decide +kernel
theorem dX10_orbits_0 : decode cX10_orbits 0 = .ok (.aload_n 0, 1) := by decide +kernel
theorem dX10_orbits_1 : decode cX10_orbits 1 = .ok (.invokevirtual 224, 3) := by decide +kernel
theorem dX10_orbits_4 : decode cX10_orbits 4 = .ok (.pop, 1) := by decide +kernel
theorem dX10_orbits_5 : decode cX10_orbits 5 = .ok (.iconst 0, 1) := by decide +kernel
theorem dX10_orbits_6 : decode cX10_orbits 6 = .ok (.istore_n 1, 1) := by decide +kernel
theorem dX10_orbits_7 : decode cX10_orbits 7 = .ok (.iload_n 1, 1) := by decide +kernel
theorem dX10_orbits_8 : decode cX10_orbits 8 = .ok (.aload_n 0, 1) := by decide +kernel
theorem dX10_orbits_9 : decode cX10_orbits 9 = .ok (.getfield 34, 3) := by decide +kernel
theorem dX10_orbits_12 : decode cX10_orbits 12 = .ok (.if_icmp .ge 60, 3) := by decide +kernel
theorem dX10_orbits_15 : decode cX10_orbits 15 = .ok (.aload_n 0, 1) := by decide +kernel
theorem dX10_orbits_16 : decode cX10_orbits 16 = .ok (.getfield 68, 3) := by decide +kernel
theorem dX10_orbits_19 : decode cX10_orbits 19 = .ok (.iload_n 1, 1) := by decide +kernel
theorem dX10_orbits_20 : decode cX10_orbits 20 = .ok (.iload_n 1, 1) := by decide +kernel
theorem dX10_orbits_21 : decode cX10_orbits 21 = .ok (.iastore, 1) := by decide +kernel
theorem dX10_orbits_22 : decode cX10_orbits 22 = .ok (.iload_n 1, 1) := by decide +kernel
theorem dX10_orbits_23 : decode cX10_orbits 23 = .ok (.iconst 1, 1) := by decide +kernel
theorem dX10_orbits_24 : decode cX10_orbits 24 = .ok (.isub, 1) := by decide +kernel
theorem dX10_orbits_25 : decode cX10_orbits 25 = .ok (.istore_n 2, 1) := by decide +kernel
theorem dX10_orbits_26 : decode cX10_orbits 26 = .ok (.iload_n 2, 1) := by decide +kernel
theorem dX10_orbits_27 : decode cX10_orbits 27 = .ok (.ifCond .lt 39, 3) := by decide +kernel
theorem dX10_orbits_30 : decode cX10_orbits 30 = .ok (.aload_n 0, 1) := by decide +kernel
theorem dX10_orbits_31 : decode cX10_orbits 31 = .ok (.getfield 68, 3) := by decide +kernel
theorem dX10_orbits_34 : decode cX10_orbits 34 = .ok (.iload_n 1, 1) := by decide +kernel
theorem dX10_orbits_35 : decode cX10_orbits 35 = .ok (.aload_n 0, 1) := by decide +kernel
theorem dX10_orbits_36 : decode cX10_orbits 36 = .ok (.getfield 83, 3) := by decide +kernel
theorem dX10_orbits_39 : decode cX10_orbits 39 = .ok (.bipush 7, 2) := by decide +kernel
theorem dX10_orbits_41 : decode cX10_orbits 41 = .ok (.iload_n 1, 1) := by decide +kernel
theorem dX10_orbits_42 : decode cX10_orbits 42 = .ok (.imul, 1) := by decide +kernel
theorem dX10_orbits_43 : decode cX10_orbits 43 = .ok (.iload_n 2, 1) := by decide +kernel
theorem dX10_orbits_44 : decode cX10_orbits 44 = .ok (.iadd, 1) := by decide +kernel
theorem dX10_orbits_45 : decode cX10_orbits 45 = .ok (.baload, 1) := by decide +kernel
theorem dX10_orbits_46 : decode cX10_orbits 46 = .ok (.ifCond .eq 7, 3) := by decide +kernel
theorem dX10_orbits_49 : decode cX10_orbits 49 = .ok (.iload_n 2, 1) := by decide +kernel
theorem dX10_orbits_50 : decode cX10_orbits 50 = .ok (.goto 9, 3) := by decide +kernel
theorem dX10_orbits_53 : decode cX10_orbits 53 = .ok (.aload_n 0, 1) := by decide +kernel
theorem dX10_orbits_54 : decode cX10_orbits 54 = .ok (.getfield 68, 3) := by decide +kernel
theorem dX10_orbits_57 : decode cX10_orbits 57 = .ok (.iload_n 1, 1) := by decide +kernel
theorem dX10_orbits_58 : decode cX10_orbits 58 = .ok (.iaload, 1) := by decide +kernel
theorem dX10_orbits_59 : decode cX10_orbits 59 = .ok (.iastore, 1) := by decide +kernel
theorem dX10_orbits_60 : decode cX10_orbits 60 = .ok (.iinc 2 (-1), 3) := by decide +kernel
theorem dX10_orbits_63 : decode cX10_orbits 63 = .ok (.goto (-37), 3) := by decide +kernel
theorem dX10_orbits_66 : decode cX10_orbits 66 = .ok (.iinc 1 1, 3) := by decide +kernel
theorem dX10_orbits_69 : decode cX10_orbits 69 = .ok (.goto (-62), 3) := by decide +kernel
theorem dX10_orbits_72 : decode cX10_orbits 72 = .ok (.aload_n 0, 1) := by decide +kernel
theorem dX10_orbits_73 : decode cX10_orbits 73 = .ok (.aload_n 0, 1) := by decide +kernel
theorem dX10_orbits_74 : decode cX10_orbits 74 = .ok (.getfield 68, 3) := by decide +kernel
theorem dX10_orbits_77 : decode cX10_orbits 77 = .ok (.invokevirtual 208, 3) := by decide +kernel
theorem dX10_orbits_80 : decode cX10_orbits 80 = .ok (.ireturn, 1) := by decide +kernel
theorem dX10_form_0 : decode cX10_form 0 = .ok (.aload_n 0, 1) := by decide +kernel
theorem dX10_form_1 : decode cX10_form 1 = .ok (.aload_n 0, 1) := by decide +kernel
theorem dX10_form_2 : decode cX10_form 2 = .ok (.getfield 121, 3) := by decide +kernel
theorem dX10_form_5 : decode cX10_form 5 = .ok (.invokevirtual 172, 3) := by decide +kernel
theorem dX10_form_8 : decode cX10_form 8 = .ok (.aload_n 0, 1) := by decide +kernel
theorem dX10_form_9 : decode cX10_form 9 = .ok (.getfield 34, 3) := by decide +kernel
theorem dX10_form_12 : decode cX10_form 12 = .ok (.iconst 3, 1) := by decide +kernel
theorem dX10_form_13 : decode cX10_form 13 = .ok (.aload_n 0, 1) := by decide +kernel
theorem dX10_form_14 : decode cX10_form 14 = .ok (.getfield 34, 3) := by decide +kernel
theorem dX10_form_17 : decode cX10_form 17 = .ok (.imul, 1) := by decide +kernel
theorem dX10_form_18 : decode cX10_form 18 = .ok (.aload_n 0, 1) := by decide +kernel
theorem dX10_form_19 : decode cX10_form 19 = .ok (.getfield 34, 3) := by decide +kernel
theorem dX10_form_22 : decode cX10_form 22 = .ok (.imul, 1) := by decide +kernel
theorem dX10_form_23 : decode cX10_form 23 = .ok (.iadd, 1) := by decide +kernel
theorem dX10_form_24 : decode cX10_form 24 = .ok (.istore_n 1, 1) := by decide +kernel
theorem dX10_form_25 : decode cX10_form 25 = .ok (.aload_n 0, 1) := by decide +kernel
theorem dX10_form_26 : decode cX10_form 26 = .ok (.invokevirtual 215, 3) := by decide +kernel
theorem dX10_form_29 : decode cX10_form 29 = .ok (.iconst 1, 1) := by decide +kernel
theorem dX10_form_30 : decode cX10_form 30 = .ok (.istore_n 2, 1) := by decide +kernel
theorem dX10_form_31 : decode cX10_form 31 = .ok (.iconst 1, 1) := by decide +kernel
theorem dX10_form_32 : decode cX10_form 32 = .ok (.istore_n 3, 1) := by decide +kernel
theorem dX10_form_33 : decode cX10_form 33 = .ok (.iload_n 2, 1) := by decide +kernel
theorem dX10_form_34 : decode cX10_form 34 = .ok (.ifCond .eq 233, 3) := by decide +kernel
theorem dX10_form_37 : decode cX10_form 37 = .ok (.iconst 0, 1) := by decide +kernel
theorem dX10_form_38 : decode cX10_form 38 = .ok (.istore 4, 2) := by decide +kernel
theorem dX10_form_40 : decode cX10_form 40 = .ok (.iconst 0, 1) := by decide +kernel
theorem dX10_form_41 : decode cX10_form 41 = .ok (.istore 5, 2) := by decide +kernel
theorem dX10_form_43 : decode cX10_form 43 = .ok (.iload 5, 2) := by decide +kernel
theorem dX10_form_45 : decode cX10_form 45 = .ok (.aload_n 0, 1) := by decide +kernel
theorem dX10_form_46 : decode cX10_form 46 = .ok (.getfield 34, 3) := by decide +kernel
theorem dX10_form_49 : decode cX10_form 49 = .ok (.if_icmp .ge 31, 3) := by decide +kernel
theorem dX10_form_52 : decode cX10_form 52 = .ok (.aload_n 0, 1) := by decide +kernel
theorem dX10_form_53 : decode cX10_form 53 = .ok (.getfield 80, 3) := by decide +kernel
theorem dX10_form_56 : decode cX10_form 56 = .ok (.iload 4, 2) := by decide +kernel
theorem dX10_form_58 : decode cX10_form 58 = .ok (.aload_n 0, 1) := by decide +kernel
theorem dX10_form_59 : decode cX10_form 59 = .ok (.getfield 13, 3) := by decide +kernel
theorem dX10_form_62 : decode cX10_form 62 = .ok (.aload_n 0, 1) := by decide +kernel
theorem dX10_form_63 : decode cX10_form 63 = .ok (.getfield 74, 3) := by decide +kernel
theorem dX10_form_66 : decode cX10_form 66 = .ok (.iload 5, 2) := by decide +kernel
theorem dX10_form_68 : decode cX10_form 68 = .ok (.iaload, 1) := by decide +kernel
theorem dX10_form_69 : decode cX10_form 69 = .ok (.iaload, 1) := by decide +kernel
theorem dX10_form_70 : decode cX10_form 70 = .ok (.iastore, 1) := by decide +kernel
theorem dX10_form_71 : decode cX10_form 71 = .ok (.iinc 4 1, 3) := by decide +kernel
theorem dX10_form_74 : decode cX10_form 74 = .ok (.iinc 5 1, 3) := by decide +kernel
theorem dX10_form_77 : decode cX10_form 77 = .ok (.goto (-34), 3) := by decide +kernel
theorem dX10_form_80 : decode cX10_form 80 = .ok (.iconst 0, 1) := by decide +kernel
theorem dX10_form_81 : decode cX10_form 81 = .ok (.istore 5, 2) := by decide +kernel
theorem dX10_form_83 : decode cX10_form 83 = .ok (.iload 5, 2) := by decide +kernel
theorem dX10_form_85 : decode cX10_form 85 = .ok (.iconst 3, 1) := by decide +kernel
theorem dX10_form_86 : decode cX10_form 86 = .ok (.if_icmp .ge 75, 3) := by decide +kernel
theorem dX10_form_89 : decode cX10_form 89 = .ok (.iconst 0, 1) := by decide +kernel
theorem dX10_form_90 : decode cX10_form 90 = .ok (.istore 6, 2) := by decide +kernel
theorem dX10_form_92 : decode cX10_form 92 = .ok (.iload 6, 2) := by decide +kernel
theorem dX10_form_94 : decode cX10_form 94 = .ok (.aload_n 0, 1) := by decide +kernel
theorem dX10_form_95 : decode cX10_form 95 = .ok (.getfield 34, 3) := by decide +kernel
theorem dX10_form_98 : decode cX10_form 98 = .ok (.if_icmp .ge 57, 3) := by decide +kernel
theorem dX10_form_101 : decode cX10_form 101 = .ok (.iconst 0, 1) := by decide +kernel
theorem dX10_form_102 : decode cX10_form 102 = .ok (.istore 7, 2) := by decide +kernel
theorem dX10_form_104 : decode cX10_form 104 = .ok (.iload 7, 2) := by decide +kernel
theorem dX10_form_106 : decode cX10_form 106 = .ok (.aload_n 0, 1) := by decide +kernel
theorem dX10_form_107 : decode cX10_form 107 = .ok (.getfield 34, 3) := by decide +kernel
theorem dX10_form_110 : decode cX10_form 110 = .ok (.if_icmp .ge 39, 3) := by decide +kernel
theorem dX10_form_113 : decode cX10_form 113 = .ok (.aload_n 0, 1) := by decide +kernel
theorem dX10_form_114 : decode cX10_form 114 = .ok (.getfield 80, 3) := by decide +kernel
theorem dX10_form_117 : decode cX10_form 117 = .ok (.iload 4, 2) := by decide +kernel
theorem dX10_form_119 : decode cX10_form 119 = .ok (.aload_n 0, 1) := by decide +kernel
theorem dX10_form_120 : decode cX10_form 120 = .ok (.iload 5, 2) := by decide +kernel
theorem dX10_form_122 : decode cX10_form 122 = .ok (.aload_n 0, 1) := by decide +kernel
theorem dX10_form_123 : decode cX10_form 123 = .ok (.getfield 74, 3) := by decide +kernel
theorem dX10_form_126 : decode cX10_form 126 = .ok (.iload 6, 2) := by decide +kernel
theorem dX10_form_128 : decode cX10_form 128 = .ok (.iaload, 1) := by decide +kernel
theorem dX10_form_129 : decode cX10_form 129 = .ok (.aload_n 0, 1) := by decide +kernel
theorem dX10_form_130 : decode cX10_form 130 = .ok (.getfield 74, 3) := by decide +kernel
theorem dX10_form_133 : decode cX10_form 133 = .ok (.iload 7, 2) := by decide +kernel
theorem dX10_form_135 : decode cX10_form 135 = .ok (.iaload, 1) := by decide +kernel
theorem dX10_form_136 : decode cX10_form 136 = .ok (.invokevirtual 166, 3) := by decide +kernel
theorem dX10_form_139 : decode cX10_form 139 = .ok (.iastore, 1) := by decide +kernel
theorem dX10_form_140 : decode cX10_form 140 = .ok (.iinc 4 1, 3) := by decide +kernel
theorem dX10_form_143 : decode cX10_form 143 = .ok (.iinc 7 1, 3) := by decide +kernel
theorem dX10_form_146 : decode cX10_form 146 = .ok (.goto (-42), 3) := by decide +kernel
theorem dX10_form_149 : decode cX10_form 149 = .ok (.iinc 6 1, 3) := by decide +kernel
theorem dX10_form_152 : decode cX10_form 152 = .ok (.goto (-60), 3) := by decide +kernel
theorem dX10_form_155 : decode cX10_form 155 = .ok (.iinc 5 1, 3) := by decide +kernel
theorem dX10_form_158 : decode cX10_form 158 = .ok (.goto (-75), 3) := by decide +kernel
theorem dX10_form_161 : decode cX10_form 161 = .ok (.iconst 0, 1) := by decide +kernel
theorem dX10_form_162 : decode cX10_form 162 = .ok (.istore 5, 2) := by decide +kernel
theorem dX10_form_164 : decode cX10_form 164 = .ok (.iload_n 3, 1) := by decide +kernel
theorem dX10_form_165 : decode cX10_form 165 = .ok (.ifCond .ne 32, 3) := by decide +kernel
theorem dX10_form_168 : decode cX10_form 168 = .ok (.iload 5, 2) := by decide +kernel
theorem dX10_form_170 : decode cX10_form 170 = .ok (.iload_n 1, 1) := by decide +kernel
theorem dX10_form_171 : decode cX10_form 171 = .ok (.if_icmp .ge 26, 3) := by decide +kernel
theorem dX10_form_174 : decode cX10_form 174 = .ok (.aload_n 0, 1) := by decide +kernel
theorem dX10_form_175 : decode cX10_form 175 = .ok (.getfield 80, 3) := by decide +kernel
theorem dX10_form_178 : decode cX10_form 178 = .ok (.iload 5, 2) := by decide +kernel
theorem dX10_form_180 : decode cX10_form 180 = .ok (.iaload, 1) := by decide +kernel
theorem dX10_form_181 : decode cX10_form 181 = .ok (.aload_n 0, 1) := by decide +kernel
theorem dX10_form_182 : decode cX10_form 182 = .ok (.getfield 77, 3) := by decide +kernel
theorem dX10_form_185 : decode cX10_form 185 = .ok (.iload 5, 2) := by decide +kernel
theorem dX10_form_187 : decode cX10_form 187 = .ok (.iaload, 1) := by decide +kernel
theorem dX10_form_188 : decode cX10_form 188 = .ok (.if_icmp .ne 9, 3) := by decide +kernel
theorem dX10_form_191 : decode cX10_form 191 = .ok (.iinc 5 1, 3) := by decide +kernel
theorem dX10_form_194 : decode cX10_form 194 = .ok (.goto (-30), 3) := by decide +kernel
theorem dX10_form_197 : decode cX10_form 197 = .ok (.iload_n 3, 1) := by decide +kernel
theorem dX10_form_198 : decode cX10_form 198 = .ok (.ifCond .ne 26, 3) := by decide +kernel
theorem dX10_form_201 : decode cX10_form 201 = .ok (.iload 5, 2) := by decide +kernel
theorem dX10_form_203 : decode cX10_form 203 = .ok (.iload_n 1, 1) := by decide +kernel
theorem dX10_form_204 : decode cX10_form 204 = .ok (.if_icmp .ge 49, 3) := by decide +kernel
theorem dX10_form_207 : decode cX10_form 207 = .ok (.aload_n 0, 1) := by decide +kernel
theorem dX10_form_208 : decode cX10_form 208 = .ok (.getfield 80, 3) := by decide +kernel
theorem dX10_form_211 : decode cX10_form 211 = .ok (.iload 5, 2) := by decide +kernel
theorem dX10_form_213 : decode cX10_form 213 = .ok (.iaload, 1) := by decide +kernel
theorem dX10_form_214 : decode cX10_form 214 = .ok (.aload_n 0, 1) := by decide +kernel
theorem dX10_form_215 : decode cX10_form 215 = .ok (.getfield 77, 3) := by decide +kernel
theorem dX10_form_218 : decode cX10_form 218 = .ok (.iload 5, 2) := by decide +kernel
theorem dX10_form_220 : decode cX10_form 220 = .ok (.iaload, 1) := by decide +kernel
theorem dX10_form_221 : decode cX10_form 221 = .ok (.if_icmp .ge 32, 3) := by decide +kernel
theorem dX10_form_224 : decode cX10_form 224 = .ok (.iconst 0, 1) := by decide +kernel
theorem dX10_form_225 : decode cX10_form 225 = .ok (.istore 6, 2) := by decide +kernel
theorem dX10_form_227 : decode cX10_form 227 = .ok (.iload 6, 2) := by decide +kernel
theorem dX10_form_229 : decode cX10_form 229 = .ok (.iload_n 1, 1) := by decide +kernel
theorem dX10_form_230 : decode cX10_form 230 = .ok (.if_icmp .ge 23, 3) := by decide +kernel
theorem dX10_form_233 : decode cX10_form 233 = .ok (.aload_n 0, 1) := by decide +kernel
theorem dX10_form_234 : decode cX10_form 234 = .ok (.getfield 77, 3) := by decide +kernel
theorem dX10_form_237 : decode cX10_form 237 = .ok (.iload 6, 2) := by decide +kernel
theorem dX10_form_239 : decode cX10_form 239 = .ok (.aload_n 0, 1) := by decide +kernel
theorem dX10_form_240 : decode cX10_form 240 = .ok (.getfield 80, 3) := by decide +kernel
theorem dX10_form_243 : decode cX10_form 243 = .ok (.iload 6, 2) := by decide +kernel
theorem dX10_form_245 : decode cX10_form 245 = .ok (.iaload, 1) := by decide +kernel
theorem dX10_form_246 : decode cX10_form 246 = .ok (.iastore, 1) := by decide +kernel
theorem dX10_form_247 : decode cX10_form 247 = .ok (.iinc 6 1, 3) := by decide +kernel
theorem dX10_form_250 : decode cX10_form 250 = .ok (.goto (-23), 3) := by decide +kernel
theorem dX10_form_253 : decode cX10_form 253 = .ok (.iconst 0, 1) := by decide +kernel
theorem dX10_form_254 : decode cX10_form 254 = .ok (.istore_n 3, 1) := by decide +kernel
theorem dX10_form_255 : decode cX10_form 255 = .ok (.aload_n 0, 1) := by decide +kernel
theorem dX10_form_256 : decode cX10_form 256 = .ok (.aload_n 0, 1) := by decide +kernel
theorem dX10_form_257 : decode cX10_form 257 = .ok (.getfield 34, 3) := by decide +kernel
theorem dX10_form_260 : decode cX10_form 260 = .ok (.invokevirtual 221, 3) := by decide +kernel
theorem dX10_form_263 : decode cX10_form 263 = .ok (.istore_n 2, 1) := by decide +kernel
theorem dX10_form_264 : decode cX10_form 264 = .ok (.goto (-231), 3) := by decide +kernel
theorem dX10_form_267 : decode cX10_form 267 = .ok (.lconst 0, 1) := by decide +kernel
theorem dX10_form_268 : decode cX10_form 268 = .ok (.lstore 4, 2) := by decide +kernel
theorem dX10_form_270 : decode cX10_form 270 = .ok (.iconst 0, 1) := by decide +kernel
theorem dX10_form_271 : decode cX10_form 271 = .ok (.istore 6, 2) := by decide +kernel
theorem dX10_form_273 : decode cX10_form 273 = .ok (.iload 6, 2) := by decide +kernel
theorem dX10_form_275 : decode cX10_form 275 = .ok (.iload_n 1, 1) := by decide +kernel
theorem dX10_form_276 : decode cX10_form 276 = .ok (.if_icmp .ge 30, 3) := by decide +kernel
theorem dX10_form_279 : decode cX10_form 279 = .ok (.ldc2_w 227, 3) := by decide +kernel
theorem dX10_form_282 : decode cX10_form 282 = .ok (.lload 4, 2) := by decide +kernel
theorem dX10_form_284 : decode cX10_form 284 = .ok (.lmul, 1) := by decide +kernel
theorem dX10_form_285 : decode cX10_form 285 = .ok (.aload_n 0, 1) := by decide +kernel
theorem dX10_form_286 : decode cX10_form 286 = .ok (.getfield 77, 3) := by decide +kernel
theorem dX10_form_289 : decode cX10_form 289 = .ok (.iload 6, 2) := by decide +kernel
theorem dX10_form_291 : decode cX10_form 291 = .ok (.iaload, 1) := by decide +kernel
theorem dX10_form_292 : decode cX10_form 292 = .ok (.i2l, 1) := by decide +kernel
theorem dX10_form_293 : decode cX10_form 293 = .ok (.ladd, 1) := by decide +kernel
theorem dX10_form_294 : decode cX10_form 294 = .ok (.ldc2_w 229, 3) := by decide +kernel
theorem dX10_form_297 : decode cX10_form 297 = .ok (.lrem, 1) := by decide +kernel
theorem dX10_form_298 : decode cX10_form 298 = .ok (.lstore 4, 2) := by decide +kernel
theorem dX10_form_300 : decode cX10_form 300 = .ok (.iinc 6 1, 3) := by decide +kernel
theorem dX10_form_303 : decode cX10_form 303 = .ok (.goto (-30), 3) := by decide +kernel
theorem dX10_form_306 : decode cX10_form 306 = .ok (.lload 4, 2) := by decide +kernel
theorem dX10_form_308 : decode cX10_form 308 = .ok (.l2i, 1) := by decide +kernel
theorem dX10_form_309 : decode cX10_form 309 = .ok (.ireturn, 1) := by decide +kernel
theorem dX10_firstParting_0 : decode cX10_firstParting 0 = .ok (.iconst 0, 1) := by decide +kernel
theorem dX10_firstParting_1 : decode cX10_firstParting 1 = .ok (.istore_n 1, 1) := by decide +kernel
theorem dX10_firstParting_2 : decode cX10_firstParting 2 = .ok (.iload_n 1, 1) := by decide +kernel
theorem dX10_firstParting_3 : decode cX10_firstParting 3 = .ok (.aload_n 0, 1) := by decide +kernel
theorem dX10_firstParting_4 : decode cX10_firstParting 4 = .ok (.getfield 34, 3) := by decide +kernel
theorem dX10_firstParting_7 : decode cX10_firstParting 7 = .ok (.if_icmp .ge 16, 3) := by decide +kernel
theorem dX10_firstParting_10 : decode cX10_firstParting 10 = .ok (.aload_n 0, 1) := by decide +kernel
theorem dX10_firstParting_11 : decode cX10_firstParting 11 = .ok (.getfield 62, 3) := by decide +kernel
theorem dX10_firstParting_14 : decode cX10_firstParting 14 = .ok (.iload_n 1, 1) := by decide +kernel
theorem dX10_firstParting_15 : decode cX10_firstParting 15 = .ok (.iconst 0, 1) := by decide +kernel
theorem dX10_firstParting_16 : decode cX10_firstParting 16 = .ok (.iastore, 1) := by decide +kernel
theorem dX10_firstParting_17 : decode cX10_firstParting 17 = .ok (.iinc 1 1, 3) := by decide +kernel
theorem dX10_firstParting_20 : decode cX10_firstParting 20 = .ok (.goto (-18), 3) := by decide +kernel
theorem dX10_firstParting_23 : decode cX10_firstParting 23 = .ok (.return_, 1) := by decide +kernel
theorem dX10_nextParting_0 : decode cX10_nextParting 0 = .ok (.aload_n 0, 1) := by decide +kernel
theorem dX10_nextParting_1 : decode cX10_nextParting 1 = .ok (.getfield 34, 3) := by decide +kernel
theorem dX10_nextParting_4 : decode cX10_nextParting 4 = .ok (.iconst 1, 1) := by decide +kernel
theorem dX10_nextParting_5 : decode cX10_nextParting 5 = .ok (.isub, 1) := by decide +kernel
theorem dX10_nextParting_6 : decode cX10_nextParting 6 = .ok (.istore_n 1, 1) := by decide +kernel
theorem dX10_nextParting_7 : decode cX10_nextParting 7 = .ok (.iload_n 1, 1) := by decide +kernel
theorem dX10_nextParting_8 : decode cX10_nextParting 8 = .ok (.ifCond .le 99, 3) := by decide +kernel
theorem dX10_nextParting_11 : decode cX10_nextParting 11 = .ok (.iconst 0, 1) := by decide +kernel
theorem dX10_nextParting_12 : decode cX10_nextParting 12 = .ok (.istore_n 2, 1) := by decide +kernel
theorem dX10_nextParting_13 : decode cX10_nextParting 13 = .ok (.iconst 0, 1) := by decide +kernel
theorem dX10_nextParting_14 : decode cX10_nextParting 14 = .ok (.istore_n 3, 1) := by decide +kernel
theorem dX10_nextParting_15 : decode cX10_nextParting 15 = .ok (.iload_n 3, 1) := by decide +kernel
theorem dX10_nextParting_16 : decode cX10_nextParting 16 = .ok (.iload_n 1, 1) := by decide +kernel
theorem dX10_nextParting_17 : decode cX10_nextParting 17 = .ok (.if_icmp .ge 34, 3) := by decide +kernel
theorem dX10_nextParting_20 : decode cX10_nextParting 20 = .ok (.aload_n 0, 1) := by decide +kernel
theorem dX10_nextParting_21 : decode cX10_nextParting 21 = .ok (.getfield 62, 3) := by decide +kernel
theorem dX10_nextParting_24 : decode cX10_nextParting 24 = .ok (.iload_n 3, 1) := by decide +kernel
theorem dX10_nextParting_25 : decode cX10_nextParting 25 = .ok (.iaload, 1) := by decide +kernel
theorem dX10_nextParting_26 : decode cX10_nextParting 26 = .ok (.iconst 1, 1) := by decide +kernel
theorem dX10_nextParting_27 : decode cX10_nextParting 27 = .ok (.iadd, 1) := by decide +kernel
theorem dX10_nextParting_28 : decode cX10_nextParting 28 = .ok (.iload_n 2, 1) := by decide +kernel
theorem dX10_nextParting_29 : decode cX10_nextParting 29 = .ok (.if_icmp .le 14, 3) := by decide +kernel
theorem dX10_nextParting_32 : decode cX10_nextParting 32 = .ok (.aload_n 0, 1) := by decide +kernel
theorem dX10_nextParting_33 : decode cX10_nextParting 33 = .ok (.getfield 62, 3) := by decide +kernel
theorem dX10_nextParting_36 : decode cX10_nextParting 36 = .ok (.iload_n 3, 1) := by decide +kernel
theorem dX10_nextParting_37 : decode cX10_nextParting 37 = .ok (.iaload, 1) := by decide +kernel
theorem dX10_nextParting_38 : decode cX10_nextParting 38 = .ok (.iconst 1, 1) := by decide +kernel
theorem dX10_nextParting_39 : decode cX10_nextParting 39 = .ok (.iadd, 1) := by decide +kernel
theorem dX10_nextParting_40 : decode cX10_nextParting 40 = .ok (.goto 4, 3) := by decide +kernel
theorem dX10_nextParting_43 : decode cX10_nextParting 43 = .ok (.iload_n 2, 1) := by decide +kernel
theorem dX10_nextParting_44 : decode cX10_nextParting 44 = .ok (.istore_n 2, 1) := by decide +kernel
theorem dX10_nextParting_45 : decode cX10_nextParting 45 = .ok (.iinc 3 1, 3) := by decide +kernel
theorem dX10_nextParting_48 : decode cX10_nextParting 48 = .ok (.goto (-33), 3) := by decide +kernel
theorem dX10_nextParting_51 : decode cX10_nextParting 51 = .ok (.aload_n 0, 1) := by decide +kernel
theorem dX10_nextParting_52 : decode cX10_nextParting 52 = .ok (.getfield 62, 3) := by decide +kernel
theorem dX10_nextParting_55 : decode cX10_nextParting 55 = .ok (.iload_n 1, 1) := by decide +kernel
theorem dX10_nextParting_56 : decode cX10_nextParting 56 = .ok (.iaload, 1) := by decide +kernel
theorem dX10_nextParting_57 : decode cX10_nextParting 57 = .ok (.iload_n 2, 1) := by decide +kernel
theorem dX10_nextParting_58 : decode cX10_nextParting 58 = .ok (.if_icmp .lt 6, 3) := by decide +kernel
theorem dX10_nextParting_61 : decode cX10_nextParting 61 = .ok (.goto 40, 3) := by decide +kernel
theorem dX10_nextParting_64 : decode cX10_nextParting 64 = .ok (.aload_n 0, 1) := by decide +kernel
theorem dX10_nextParting_65 : decode cX10_nextParting 65 = .ok (.getfield 62, 3) := by decide +kernel
theorem dX10_nextParting_68 : decode cX10_nextParting 68 = .ok (.iload_n 1, 1) := by decide +kernel
theorem dX10_nextParting_69 : decode cX10_nextParting 69 = .ok (.dup2, 1) := by decide +kernel
theorem dX10_nextParting_70 : decode cX10_nextParting 70 = .ok (.iaload, 1) := by decide +kernel
theorem dX10_nextParting_71 : decode cX10_nextParting 71 = .ok (.iconst 1, 1) := by decide +kernel
theorem dX10_nextParting_72 : decode cX10_nextParting 72 = .ok (.iadd, 1) := by decide +kernel
theorem dX10_nextParting_73 : decode cX10_nextParting 73 = .ok (.iastore, 1) := by decide +kernel
theorem dX10_nextParting_74 : decode cX10_nextParting 74 = .ok (.iload_n 1, 1) := by decide +kernel
theorem dX10_nextParting_75 : decode cX10_nextParting 75 = .ok (.iconst 1, 1) := by decide +kernel
theorem dX10_nextParting_76 : decode cX10_nextParting 76 = .ok (.iadd, 1) := by decide +kernel
theorem dX10_nextParting_77 : decode cX10_nextParting 77 = .ok (.istore_n 3, 1) := by decide +kernel
theorem dX10_nextParting_78 : decode cX10_nextParting 78 = .ok (.iload_n 3, 1) := by decide +kernel
theorem dX10_nextParting_79 : decode cX10_nextParting 79 = .ok (.aload_n 0, 1) := by decide +kernel
theorem dX10_nextParting_80 : decode cX10_nextParting 80 = .ok (.getfield 34, 3) := by decide +kernel
theorem dX10_nextParting_83 : decode cX10_nextParting 83 = .ok (.if_icmp .ge 16, 3) := by decide +kernel
theorem dX10_nextParting_86 : decode cX10_nextParting 86 = .ok (.aload_n 0, 1) := by decide +kernel
theorem dX10_nextParting_87 : decode cX10_nextParting 87 = .ok (.getfield 62, 3) := by decide +kernel
theorem dX10_nextParting_90 : decode cX10_nextParting 90 = .ok (.iload_n 3, 1) := by decide +kernel
theorem dX10_nextParting_91 : decode cX10_nextParting 91 = .ok (.iconst 0, 1) := by decide +kernel
theorem dX10_nextParting_92 : decode cX10_nextParting 92 = .ok (.iastore, 1) := by decide +kernel
theorem dX10_nextParting_93 : decode cX10_nextParting 93 = .ok (.iinc 3 1, 3) := by decide +kernel
theorem dX10_nextParting_96 : decode cX10_nextParting 96 = .ok (.goto (-18), 3) := by decide +kernel
theorem dX10_nextParting_99 : decode cX10_nextParting 99 = .ok (.iconst 1, 1) := by decide +kernel
theorem dX10_nextParting_100 : decode cX10_nextParting 100 = .ok (.ireturn, 1) := by decide +kernel
theorem dX10_nextParting_101 : decode cX10_nextParting 101 = .ok (.iinc 1 (-1), 3) := by decide +kernel
theorem dX10_nextParting_104 : decode cX10_nextParting 104 = .ok (.goto (-97), 3) := by decide +kernel
theorem dX10_nextParting_107 : decode cX10_nextParting 107 = .ok (.iconst 0, 1) := by decide +kernel
theorem dX10_nextParting_108 : decode cX10_nextParting 108 = .ok (.ireturn, 1) := by decide +kernel
theorem dX10_parts_0 : decode cX10_parts 0 = .ok (.iconst 0, 1) := by decide +kernel
theorem dX10_parts_1 : decode cX10_parts 1 = .ok (.istore_n 1, 1) := by decide +kernel
theorem dX10_parts_2 : decode cX10_parts 2 = .ok (.iconst 0, 1) := by decide +kernel
theorem dX10_parts_3 : decode cX10_parts 3 = .ok (.istore_n 2, 1) := by decide +kernel
theorem dX10_parts_4 : decode cX10_parts 4 = .ok (.iload_n 2, 1) := by decide +kernel
theorem dX10_parts_5 : decode cX10_parts 5 = .ok (.aload_n 0, 1) := by decide +kernel
theorem dX10_parts_6 : decode cX10_parts 6 = .ok (.getfield 34, 3) := by decide +kernel
theorem dX10_parts_9 : decode cX10_parts 9 = .ok (.if_icmp .ge 34, 3) := by decide +kernel
theorem dX10_parts_12 : decode cX10_parts 12 = .ok (.aload_n 0, 1) := by decide +kernel
theorem dX10_parts_13 : decode cX10_parts 13 = .ok (.getfield 62, 3) := by decide +kernel
theorem dX10_parts_16 : decode cX10_parts 16 = .ok (.iload_n 2, 1) := by decide +kernel
theorem dX10_parts_17 : decode cX10_parts 17 = .ok (.iaload, 1) := by decide +kernel
theorem dX10_parts_18 : decode cX10_parts 18 = .ok (.iconst 1, 1) := by decide +kernel
theorem dX10_parts_19 : decode cX10_parts 19 = .ok (.iadd, 1) := by decide +kernel
theorem dX10_parts_20 : decode cX10_parts 20 = .ok (.iload_n 1, 1) := by decide +kernel
theorem dX10_parts_21 : decode cX10_parts 21 = .ok (.if_icmp .le 14, 3) := by decide +kernel
theorem dX10_parts_24 : decode cX10_parts 24 = .ok (.aload_n 0, 1) := by decide +kernel
theorem dX10_parts_25 : decode cX10_parts 25 = .ok (.getfield 62, 3) := by decide +kernel
theorem dX10_parts_28 : decode cX10_parts 28 = .ok (.iload_n 2, 1) := by decide +kernel
theorem dX10_parts_29 : decode cX10_parts 29 = .ok (.iaload, 1) := by decide +kernel
theorem dX10_parts_30 : decode cX10_parts 30 = .ok (.iconst 1, 1) := by decide +kernel
theorem dX10_parts_31 : decode cX10_parts 31 = .ok (.iadd, 1) := by decide +kernel
theorem dX10_parts_32 : decode cX10_parts 32 = .ok (.goto 4, 3) := by decide +kernel
theorem dX10_parts_35 : decode cX10_parts 35 = .ok (.iload_n 1, 1) := by decide +kernel
theorem dX10_parts_36 : decode cX10_parts 36 = .ok (.istore_n 1, 1) := by decide +kernel
theorem dX10_parts_37 : decode cX10_parts 37 = .ok (.iinc 2 1, 3) := by decide +kernel
theorem dX10_parts_40 : decode cX10_parts 40 = .ok (.goto (-36), 3) := by decide +kernel
theorem dX10_parts_43 : decode cX10_parts 43 = .ok (.iload_n 1, 1) := by decide +kernel
theorem dX10_parts_44 : decode cX10_parts 44 = .ok (.ireturn, 1) := by decide +kernel
theorem dX10_next_0 : decode cX10_next 0 = .ok (.iload_n 1, 1) := by decide +kernel
theorem dX10_next_1 : decode cX10_next 1 = .ok (.invokestatic 202, 3) := by decide +kernel
theorem dX10_next_4 : decode cX10_next 4 = .ok (.ifCond .ne 9, 3) := by decide +kernel
theorem dX10_next_7 : decode cX10_next 7 = .ok (.aload_n 0, 1) := by decide +kernel
theorem dX10_next_8 : decode cX10_next 8 = .ok (.iconst (-1), 1) := by decide +kernel
theorem dX10_next_9 : decode cX10_next 9 = .ok (.invokevirtual 103, 3) := by decide +kernel
theorem dX10_next_12 : decode cX10_next 12 = .ok (.ireturn, 1) := by decide +kernel
theorem dX10_next_13 : decode cX10_next 13 = .ok (.iload_n 2, 1) := by decide +kernel
theorem dX10_next_14 : decode cX10_next 14 = .ok (.iconst (-1), 1) := by decide +kernel
theorem dX10_next_15 : decode cX10_next 15 = .ok (.if_icmp .ge 10, 3) := by decide +kernel
theorem dX10_next_18 : decode cX10_next 18 = .ok (.aload_n 0, 1) := by decide +kernel
theorem dX10_next_19 : decode cX10_next 19 = .ok (.bipush (-4), 2) := by decide +kernel
theorem dX10_next_21 : decode cX10_next 21 = .ok (.invokevirtual 103, 3) := by decide +kernel
theorem dX10_next_24 : decode cX10_next 24 = .ok (.ireturn, 1) := by decide +kernel
theorem dX10_next_25 : decode cX10_next 25 = .ok (.aload_n 0, 1) := by decide +kernel
theorem dX10_next_26 : decode cX10_next 26 = .ok (.aload_n 0, 1) := by decide +kernel
theorem dX10_next_27 : decode cX10_next 27 = .ok (.getfield 121, 3) := by decide +kernel
theorem dX10_next_30 : decode cX10_next 30 = .ok (.invokevirtual 172, 3) := by decide +kernel
theorem dX10_next_33 : decode cX10_next 33 = .ok (.aload_n 0, 1) := by decide +kernel
theorem dX10_next_34 : decode cX10_next 34 = .ok (.invokevirtual 231, 3) := by decide +kernel
theorem dX10_next_37 : decode cX10_next 37 = .ok (.iconst 1, 1) := by decide +kernel
theorem dX10_next_38 : decode cX10_next 38 = .ok (.istore_n 3, 1) := by decide +kernel
theorem dX10_next_39 : decode cX10_next 39 = .ok (.iload_n 3, 1) := by decide +kernel
theorem dX10_next_40 : decode cX10_next 40 = .ok (.ifCond .eq 40, 3) := by decide +kernel
theorem dX10_next_43 : decode cX10_next 43 = .ok (.aload_n 0, 1) := by decide +kernel
theorem dX10_next_44 : decode cX10_next 44 = .ok (.aload_n 0, 1) := by decide +kernel
theorem dX10_next_45 : decode cX10_next 45 = .ok (.getfield 62, 3) := by decide +kernel
theorem dX10_next_48 : decode cX10_next 48 = .ok (.invokevirtual 208, 3) := by decide +kernel
theorem dX10_next_51 : decode cX10_next 51 = .ok (.istore 4, 2) := by decide +kernel
theorem dX10_next_53 : decode cX10_next 53 = .ok (.iload 4, 2) := by decide +kernel
theorem dX10_next_55 : decode cX10_next 55 = .ok (.iload_n 2, 1) := by decide +kernel
theorem dX10_next_56 : decode cX10_next 56 = .ok (.if_icmp .le 16, 3) := by decide +kernel
theorem dX10_next_59 : decode cX10_next 59 = .ok (.aload_n 0, 1) := by decide +kernel
theorem dX10_next_60 : decode cX10_next 60 = .ok (.iload_n 1, 1) := by decide +kernel
theorem dX10_next_61 : decode cX10_next 61 = .ok (.invokevirtual 205, 3) := by decide +kernel
theorem dX10_next_64 : decode cX10_next 64 = .ok (.bipush (-9), 2) := by decide +kernel
theorem dX10_next_66 : decode cX10_next 66 = .ok (.if_icmp .ne 6, 3) := by decide +kernel
theorem dX10_next_69 : decode cX10_next 69 = .ok (.iload 4, 2) := by decide +kernel
theorem dX10_next_71 : decode cX10_next 71 = .ok (.ireturn, 1) := by decide +kernel
theorem dX10_next_72 : decode cX10_next 72 = .ok (.aload_n 0, 1) := by decide +kernel
theorem dX10_next_73 : decode cX10_next 73 = .ok (.invokevirtual 234, 3) := by decide +kernel
theorem dX10_next_76 : decode cX10_next 76 = .ok (.istore_n 3, 1) := by decide +kernel
theorem dX10_next_77 : decode cX10_next 77 = .ok (.goto (-38), 3) := by decide +kernel
theorem dX10_next_80 : decode cX10_next 80 = .ok (.bipush (-9), 2) := by decide +kernel
theorem dX10_next_82 : decode cX10_next 82 = .ok (.ireturn, 1) := by decide +kernel
theorem dX10_all_0 : decode cX10_all 0 = .ok (.iload_n 1, 1) := by decide +kernel
theorem dX10_all_1 : decode cX10_all 1 = .ok (.invokestatic 202, 3) := by decide +kernel
theorem dX10_all_4 : decode cX10_all 4 = .ok (.ifCond .ne 9, 3) := by decide +kernel
theorem dX10_all_7 : decode cX10_all 7 = .ok (.aload_n 0, 1) := by decide +kernel
theorem dX10_all_8 : decode cX10_all 8 = .ok (.iconst (-1), 1) := by decide +kernel
theorem dX10_all_9 : decode cX10_all 9 = .ok (.invokevirtual 103, 3) := by decide +kernel
theorem dX10_all_12 : decode cX10_all 12 = .ok (.ireturn, 1) := by decide +kernel
theorem dX10_all_13 : decode cX10_all 13 = .ok (.aload_n 0, 1) := by decide +kernel
theorem dX10_all_14 : decode cX10_all 14 = .ok (.aload_n 0, 1) := by decide +kernel
theorem dX10_all_15 : decode cX10_all 15 = .ok (.getfield 121, 3) := by decide +kernel
theorem dX10_all_18 : decode cX10_all 18 = .ok (.invokevirtual 172, 3) := by decide +kernel
theorem dX10_all_21 : decode cX10_all 21 = .ok (.aload_n 0, 1) := by decide +kernel
theorem dX10_all_22 : decode cX10_all 22 = .ok (.invokevirtual 231, 3) := by decide +kernel
theorem dX10_all_25 : decode cX10_all 25 = .ok (.iconst 0, 1) := by decide +kernel
theorem dX10_all_26 : decode cX10_all 26 = .ok (.istore_n 2, 1) := by decide +kernel
theorem dX10_all_27 : decode cX10_all 27 = .ok (.iconst 1, 1) := by decide +kernel
theorem dX10_all_28 : decode cX10_all 28 = .ok (.istore_n 3, 1) := by decide +kernel
theorem dX10_all_29 : decode cX10_all 29 = .ok (.iload_n 3, 1) := by decide +kernel
theorem dX10_all_30 : decode cX10_all 30 = .ok (.ifCond .eq 29, 3) := by decide +kernel
theorem dX10_all_33 : decode cX10_all 33 = .ok (.iload_n 2, 1) := by decide +kernel
theorem dX10_all_34 : decode cX10_all 34 = .ok (.aload_n 0, 1) := by decide +kernel
theorem dX10_all_35 : decode cX10_all 35 = .ok (.iload_n 1, 1) := by decide +kernel
theorem dX10_all_36 : decode cX10_all 36 = .ok (.invokevirtual 205, 3) := by decide +kernel
theorem dX10_all_39 : decode cX10_all 39 = .ok (.bipush (-9), 2) := by decide +kernel
theorem dX10_all_41 : decode cX10_all 41 = .ok (.if_icmp .ne 7, 3) := by decide +kernel
theorem dX10_all_44 : decode cX10_all 44 = .ok (.iconst 1, 1) := by decide +kernel
theorem dX10_all_45 : decode cX10_all 45 = .ok (.goto 4, 3) := by decide +kernel
theorem dX10_all_48 : decode cX10_all 48 = .ok (.iconst 0, 1) := by decide +kernel
theorem dX10_all_49 : decode cX10_all 49 = .ok (.iadd, 1) := by decide +kernel
theorem dX10_all_50 : decode cX10_all 50 = .ok (.istore_n 2, 1) := by decide +kernel
theorem dX10_all_51 : decode cX10_all 51 = .ok (.aload_n 0, 1) := by decide +kernel
theorem dX10_all_52 : decode cX10_all 52 = .ok (.invokevirtual 234, 3) := by decide +kernel
theorem dX10_all_55 : decode cX10_all 55 = .ok (.istore_n 3, 1) := by decide +kernel
theorem dX10_all_56 : decode cX10_all 56 = .ok (.goto (-27), 3) := by decide +kernel
theorem dX10_all_59 : decode cX10_all 59 = .ok (.iload_n 2, 1) := by decide +kernel
theorem dX10_all_60 : decode cX10_all 60 = .ok (.ireturn, 1) := by decide +kernel
theorem dX10_join_0 : decode cX10_join 0 = .ok (.aload_n 0, 1) := by decide +kernel
theorem dX10_join_1 : decode cX10_join 1 = .ok (.iload_n 1, 1) := by decide +kernel
theorem dX10_join_2 : decode cX10_join 2 = .ok (.aload_n 0, 1) := by decide +kernel
theorem dX10_join_3 : decode cX10_join 3 = .ok (.getfield 62, 3) := by decide +kernel
theorem dX10_join_6 : decode cX10_join 6 = .ok (.invokevirtual 180, 3) := by decide +kernel
theorem dX10_join_9 : decode cX10_join 9 = .ok (.ifCond .lt 15, 3) := by decide +kernel
theorem dX10_join_12 : decode cX10_join 12 = .ok (.aload_n 0, 1) := by decide +kernel
theorem dX10_join_13 : decode cX10_join 13 = .ok (.iload_n 2, 1) := by decide +kernel
theorem dX10_join_14 : decode cX10_join 14 = .ok (.aload_n 0, 1) := by decide +kernel
theorem dX10_join_15 : decode cX10_join 15 = .ok (.getfield 65, 3) := by decide +kernel
theorem dX10_join_18 : decode cX10_join 18 = .ok (.invokevirtual 180, 3) := by decide +kernel
theorem dX10_join_21 : decode cX10_join 21 = .ok (.ifCond .ge 9, 3) := by decide +kernel
theorem dX10_join_24 : decode cX10_join 24 = .ok (.aload_n 0, 1) := by decide +kernel
theorem dX10_join_25 : decode cX10_join 25 = .ok (.iconst (-1), 1) := by decide +kernel
theorem dX10_join_26 : decode cX10_join 26 = .ok (.invokevirtual 103, 3) := by decide +kernel
theorem dX10_join_29 : decode cX10_join 29 = .ok (.ireturn, 1) := by decide +kernel
theorem dX10_join_30 : decode cX10_join 30 = .ok (.iconst 0, 1) := by decide +kernel
theorem dX10_join_31 : decode cX10_join 31 = .ok (.istore_n 3, 1) := by decide +kernel
theorem dX10_join_32 : decode cX10_join 32 = .ok (.iload_n 3, 1) := by decide +kernel
theorem dX10_join_33 : decode cX10_join 33 = .ok (.aload_n 0, 1) := by decide +kernel
theorem dX10_join_34 : decode cX10_join 34 = .ok (.getfield 34, 3) := by decide +kernel
theorem dX10_join_37 : decode cX10_join 37 = .ok (.if_icmp .ge 16, 3) := by decide +kernel
theorem dX10_join_40 : decode cX10_join 40 = .ok (.aload_n 0, 1) := by decide +kernel
theorem dX10_join_41 : decode cX10_join 41 = .ok (.getfield 68, 3) := by decide +kernel
theorem dX10_join_44 : decode cX10_join 44 = .ok (.iload_n 3, 1) := by decide +kernel
theorem dX10_join_45 : decode cX10_join 45 = .ok (.iload_n 3, 1) := by decide +kernel
theorem dX10_join_46 : decode cX10_join 46 = .ok (.iastore, 1) := by decide +kernel
theorem dX10_join_47 : decode cX10_join 47 = .ok (.iinc 3 1, 3) := by decide +kernel
theorem dX10_join_50 : decode cX10_join 50 = .ok (.goto (-18), 3) := by decide +kernel
theorem dX10_join_53 : decode cX10_join 53 = .ok (.iconst 0, 1) := by decide +kernel
theorem dX10_join_54 : decode cX10_join 54 = .ok (.istore_n 3, 1) := by decide +kernel
theorem dX10_join_55 : decode cX10_join 55 = .ok (.iload_n 3, 1) := by decide +kernel
theorem dX10_join_56 : decode cX10_join 56 = .ok (.aload_n 0, 1) := by decide +kernel
theorem dX10_join_57 : decode cX10_join 57 = .ok (.getfield 34, 3) := by decide +kernel
theorem dX10_join_60 : decode cX10_join 60 = .ok (.if_icmp .ge 110, 3) := by decide +kernel
theorem dX10_join_63 : decode cX10_join 63 = .ok (.iconst 0, 1) := by decide +kernel
theorem dX10_join_64 : decode cX10_join 64 = .ok (.istore 4, 2) := by decide +kernel
theorem dX10_join_66 : decode cX10_join 66 = .ok (.iload 4, 2) := by decide +kernel
theorem dX10_join_68 : decode cX10_join 68 = .ok (.aload_n 0, 1) := by decide +kernel
theorem dX10_join_69 : decode cX10_join 69 = .ok (.getfield 34, 3) := by decide +kernel
theorem dX10_join_72 : decode cX10_join 72 = .ok (.if_icmp .ge 92, 3) := by decide +kernel
theorem dX10_join_75 : decode cX10_join 75 = .ok (.iconst 0, 1) := by decide +kernel
theorem dX10_join_76 : decode cX10_join 76 = .ok (.istore 5, 2) := by decide +kernel
theorem dX10_join_78 : decode cX10_join 78 = .ok (.iload 5, 2) := by decide +kernel
theorem dX10_join_80 : decode cX10_join 80 = .ok (.aload_n 0, 1) := by decide +kernel
theorem dX10_join_81 : decode cX10_join 81 = .ok (.getfield 34, 3) := by decide +kernel
theorem dX10_join_84 : decode cX10_join 84 = .ok (.if_icmp .ge 74, 3) := by decide +kernel
theorem dX10_join_87 : decode cX10_join 87 = .ok (.aload_n 0, 1) := by decide +kernel
theorem dX10_join_88 : decode cX10_join 88 = .ok (.getfield 62, 3) := by decide +kernel
theorem dX10_join_91 : decode cX10_join 91 = .ok (.iload 4, 2) := by decide +kernel
theorem dX10_join_93 : decode cX10_join 93 = .ok (.iaload, 1) := by decide +kernel
theorem dX10_join_94 : decode cX10_join 94 = .ok (.aload_n 0, 1) := by decide +kernel
theorem dX10_join_95 : decode cX10_join 95 = .ok (.getfield 62, 3) := by decide +kernel
theorem dX10_join_98 : decode cX10_join 98 = .ok (.iload 5, 2) := by decide +kernel
theorem dX10_join_100 : decode cX10_join 100 = .ok (.iaload, 1) := by decide +kernel
theorem dX10_join_101 : decode cX10_join 101 = .ok (.if_icmp .eq 20, 3) := by decide +kernel
theorem dX10_join_104 : decode cX10_join 104 = .ok (.aload_n 0, 1) := by decide +kernel
theorem dX10_join_105 : decode cX10_join 105 = .ok (.getfield 65, 3) := by decide +kernel
theorem dX10_join_108 : decode cX10_join 108 = .ok (.iload 4, 2) := by decide +kernel
theorem dX10_join_110 : decode cX10_join 110 = .ok (.iaload, 1) := by decide +kernel
theorem dX10_join_111 : decode cX10_join 111 = .ok (.aload_n 0, 1) := by decide +kernel
theorem dX10_join_112 : decode cX10_join 112 = .ok (.getfield 65, 3) := by decide +kernel
theorem dX10_join_115 : decode cX10_join 115 = .ok (.iload 5, 2) := by decide +kernel
theorem dX10_join_117 : decode cX10_join 117 = .ok (.iaload, 1) := by decide +kernel
theorem dX10_join_118 : decode cX10_join 118 = .ok (.if_icmp .ne 34, 3) := by decide +kernel
theorem dX10_join_121 : decode cX10_join 121 = .ok (.aload_n 0, 1) := by decide +kernel
theorem dX10_join_122 : decode cX10_join 122 = .ok (.getfield 68, 3) := by decide +kernel
theorem dX10_join_125 : decode cX10_join 125 = .ok (.iload 5, 2) := by decide +kernel
theorem dX10_join_127 : decode cX10_join 127 = .ok (.iaload, 1) := by decide +kernel
theorem dX10_join_128 : decode cX10_join 128 = .ok (.aload_n 0, 1) := by decide +kernel
theorem dX10_join_129 : decode cX10_join 129 = .ok (.getfield 68, 3) := by decide +kernel
theorem dX10_join_132 : decode cX10_join 132 = .ok (.iload 4, 2) := by decide +kernel
theorem dX10_join_134 : decode cX10_join 134 = .ok (.iaload, 1) := by decide +kernel
theorem dX10_join_135 : decode cX10_join 135 = .ok (.if_icmp .ge 17, 3) := by decide +kernel
theorem dX10_join_138 : decode cX10_join 138 = .ok (.aload_n 0, 1) := by decide +kernel
theorem dX10_join_139 : decode cX10_join 139 = .ok (.getfield 68, 3) := by decide +kernel
theorem dX10_join_142 : decode cX10_join 142 = .ok (.iload 4, 2) := by decide +kernel
theorem dX10_join_144 : decode cX10_join 144 = .ok (.aload_n 0, 1) := by decide +kernel
theorem dX10_join_145 : decode cX10_join 145 = .ok (.getfield 68, 3) := by decide +kernel
theorem dX10_join_148 : decode cX10_join 148 = .ok (.iload 5, 2) := by decide +kernel
theorem dX10_join_150 : decode cX10_join 150 = .ok (.iaload, 1) := by decide +kernel
theorem dX10_join_151 : decode cX10_join 151 = .ok (.iastore, 1) := by decide +kernel
theorem dX10_join_152 : decode cX10_join 152 = .ok (.iinc 5 1, 3) := by decide +kernel
theorem dX10_join_155 : decode cX10_join 155 = .ok (.goto (-77), 3) := by decide +kernel
theorem dX10_join_158 : decode cX10_join 158 = .ok (.iinc 4 1, 3) := by decide +kernel
theorem dX10_join_161 : decode cX10_join 161 = .ok (.goto (-95), 3) := by decide +kernel
theorem dX10_join_164 : decode cX10_join 164 = .ok (.iinc 3 1, 3) := by decide +kernel
theorem dX10_join_167 : decode cX10_join 167 = .ok (.goto (-112), 3) := by decide +kernel
theorem dX10_join_170 : decode cX10_join 170 = .ok (.aload_n 0, 1) := by decide +kernel
theorem dX10_join_171 : decode cX10_join 171 = .ok (.aload_n 0, 1) := by decide +kernel
theorem dX10_join_172 : decode cX10_join 172 = .ok (.getfield 68, 3) := by decide +kernel
theorem dX10_join_175 : decode cX10_join 175 = .ok (.invokevirtual 208, 3) := by decide +kernel
theorem dX10_join_178 : decode cX10_join 178 = .ok (.ireturn, 1) := by decide +kernel
theorem dX10_meet_0 : decode cX10_meet 0 = .ok (.aload_n 0, 1) := by decide +kernel
theorem dX10_meet_1 : decode cX10_meet 1 = .ok (.iload_n 1, 1) := by decide +kernel
theorem dX10_meet_2 : decode cX10_meet 2 = .ok (.aload_n 0, 1) := by decide +kernel
theorem dX10_meet_3 : decode cX10_meet 3 = .ok (.getfield 62, 3) := by decide +kernel
theorem dX10_meet_6 : decode cX10_meet 6 = .ok (.invokevirtual 180, 3) := by decide +kernel
theorem dX10_meet_9 : decode cX10_meet 9 = .ok (.ifCond .lt 15, 3) := by decide +kernel
theorem dX10_meet_12 : decode cX10_meet 12 = .ok (.aload_n 0, 1) := by decide +kernel
theorem dX10_meet_13 : decode cX10_meet 13 = .ok (.iload_n 2, 1) := by decide +kernel
theorem dX10_meet_14 : decode cX10_meet 14 = .ok (.aload_n 0, 1) := by decide +kernel
theorem dX10_meet_15 : decode cX10_meet 15 = .ok (.getfield 65, 3) := by decide +kernel
theorem dX10_meet_18 : decode cX10_meet 18 = .ok (.invokevirtual 180, 3) := by decide +kernel
theorem dX10_meet_21 : decode cX10_meet 21 = .ok (.ifCond .ge 9, 3) := by decide +kernel
theorem dX10_meet_24 : decode cX10_meet 24 = .ok (.aload_n 0, 1) := by decide +kernel
theorem dX10_meet_25 : decode cX10_meet 25 = .ok (.iconst (-1), 1) := by decide +kernel
theorem dX10_meet_26 : decode cX10_meet 26 = .ok (.invokevirtual 103, 3) := by decide +kernel
theorem dX10_meet_29 : decode cX10_meet 29 = .ok (.ireturn, 1) := by decide +kernel
theorem dX10_meet_30 : decode cX10_meet 30 = .ok (.iconst 0, 1) := by decide +kernel
theorem dX10_meet_31 : decode cX10_meet 31 = .ok (.istore_n 3, 1) := by decide +kernel
theorem dX10_meet_32 : decode cX10_meet 32 = .ok (.iload_n 3, 1) := by decide +kernel
theorem dX10_meet_33 : decode cX10_meet 33 = .ok (.aload_n 0, 1) := by decide +kernel
theorem dX10_meet_34 : decode cX10_meet 34 = .ok (.getfield 34, 3) := by decide +kernel
theorem dX10_meet_37 : decode cX10_meet 37 = .ok (.if_icmp .ge 31, 3) := by decide +kernel
theorem dX10_meet_40 : decode cX10_meet 40 = .ok (.aload_n 0, 1) := by decide +kernel
theorem dX10_meet_41 : decode cX10_meet 41 = .ok (.getfield 68, 3) := by decide +kernel
theorem dX10_meet_44 : decode cX10_meet 44 = .ok (.iload_n 3, 1) := by decide +kernel
theorem dX10_meet_45 : decode cX10_meet 45 = .ok (.bipush 10, 2) := by decide +kernel
theorem dX10_meet_47 : decode cX10_meet 47 = .ok (.aload_n 0, 1) := by decide +kernel
theorem dX10_meet_48 : decode cX10_meet 48 = .ok (.getfield 62, 3) := by decide +kernel
theorem dX10_meet_51 : decode cX10_meet 51 = .ok (.iload_n 3, 1) := by decide +kernel
theorem dX10_meet_52 : decode cX10_meet 52 = .ok (.iaload, 1) := by decide +kernel
theorem dX10_meet_53 : decode cX10_meet 53 = .ok (.imul, 1) := by decide +kernel
theorem dX10_meet_54 : decode cX10_meet 54 = .ok (.aload_n 0, 1) := by decide +kernel
theorem dX10_meet_55 : decode cX10_meet 55 = .ok (.getfield 65, 3) := by decide +kernel
theorem dX10_meet_58 : decode cX10_meet 58 = .ok (.iload_n 3, 1) := by decide +kernel
theorem dX10_meet_59 : decode cX10_meet 59 = .ok (.iaload, 1) := by decide +kernel
theorem dX10_meet_60 : decode cX10_meet 60 = .ok (.iadd, 1) := by decide +kernel
theorem dX10_meet_61 : decode cX10_meet 61 = .ok (.iastore, 1) := by decide +kernel
theorem dX10_meet_62 : decode cX10_meet 62 = .ok (.iinc 3 1, 3) := by decide +kernel
theorem dX10_meet_65 : decode cX10_meet 65 = .ok (.goto (-33), 3) := by decide +kernel
theorem dX10_meet_68 : decode cX10_meet 68 = .ok (.aload_n 0, 1) := by decide +kernel
theorem dX10_meet_69 : decode cX10_meet 69 = .ok (.aload_n 0, 1) := by decide +kernel
theorem dX10_meet_70 : decode cX10_meet 70 = .ok (.getfield 68, 3) := by decide +kernel
theorem dX10_meet_73 : decode cX10_meet 73 = .ok (.invokevirtual 208, 3) := by decide +kernel
theorem dX10_meet_76 : decode cX10_meet 76 = .ok (.ireturn, 1) := by decide +kernel
theorem dX10_picture_0 : decode cX10_picture 0 = .ok (.aload_n 0, 1) := by decide +kernel
theorem dX10_picture_1 : decode cX10_picture 1 = .ok (.iload_n 1, 1) := by decide +kernel
theorem dX10_picture_2 : decode cX10_picture 2 = .ok (.aload_n 0, 1) := by decide +kernel
theorem dX10_picture_3 : decode cX10_picture 3 = .ok (.getfield 62, 3) := by decide +kernel
theorem dX10_picture_6 : decode cX10_picture 6 = .ok (.invokevirtual 180, 3) := by decide +kernel
theorem dX10_picture_9 : decode cX10_picture 9 = .ok (.istore 5, 2) := by decide +kernel
theorem dX10_picture_11 : decode cX10_picture 11 = .ok (.iload 5, 2) := by decide +kernel
theorem dX10_picture_13 : decode cX10_picture 13 = .ok (.ifCond .lt 39, 3) := by decide +kernel
theorem dX10_picture_16 : decode cX10_picture 16 = .ok (.iload_n 2, 1) := by decide +kernel
theorem dX10_picture_17 : decode cX10_picture 17 = .ok (.i2l, 1) := by decide +kernel
theorem dX10_picture_18 : decode cX10_picture 18 = .ok (.lconst 0, 1) := by decide +kernel
theorem dX10_picture_19 : decode cX10_picture 19 = .ok (.iload 5, 2) := by decide +kernel
theorem dX10_picture_21 : decode cX10_picture 21 = .ok (.iconst 1, 1) := by decide +kernel
theorem dX10_picture_22 : decode cX10_picture 22 = .ok (.isub, 1) := by decide +kernel
theorem dX10_picture_23 : decode cX10_picture 23 = .ok (.i2l, 1) := by decide +kernel
theorem dX10_picture_24 : decode cX10_picture 24 = .ok (.invokestatic 138, 3) := by decide +kernel
theorem dX10_picture_27 : decode cX10_picture 27 = .ok (.ifCond .eq 25, 3) := by decide +kernel
theorem dX10_picture_30 : decode cX10_picture 30 = .ok (.iload_n 3, 1) := by decide +kernel
theorem dX10_picture_31 : decode cX10_picture 31 = .ok (.i2l, 1) := by decide +kernel
theorem dX10_picture_32 : decode cX10_picture 32 = .ok (.lconst 0, 1) := by decide +kernel
theorem dX10_picture_33 : decode cX10_picture 33 = .ok (.iload 5, 2) := by decide +kernel
theorem dX10_picture_35 : decode cX10_picture 35 = .ok (.iconst 1, 1) := by decide +kernel
theorem dX10_picture_36 : decode cX10_picture 36 = .ok (.isub, 1) := by decide +kernel
theorem dX10_picture_37 : decode cX10_picture 37 = .ok (.i2l, 1) := by decide +kernel
theorem dX10_picture_38 : decode cX10_picture 38 = .ok (.invokestatic 138, 3) := by decide +kernel
theorem dX10_picture_41 : decode cX10_picture 41 = .ok (.ifCond .eq 11, 3) := by decide +kernel
theorem dX10_picture_44 : decode cX10_picture 44 = .ok (.iload 4, 2) := by decide +kernel
theorem dX10_picture_46 : decode cX10_picture 46 = .ok (.invokestatic 169, 3) := by decide +kernel
theorem dX10_picture_49 : decode cX10_picture 49 = .ok (.ifCond .ne 9, 3) := by decide +kernel
theorem dX10_picture_52 : decode cX10_picture 52 = .ok (.aload_n 0, 1) := by decide +kernel
theorem dX10_picture_53 : decode cX10_picture 53 = .ok (.iconst (-1), 1) := by decide +kernel
theorem dX10_picture_54 : decode cX10_picture 54 = .ok (.invokevirtual 103, 3) := by decide +kernel
theorem dX10_picture_57 : decode cX10_picture 57 = .ok (.ireturn, 1) := by decide +kernel
theorem dX10_picture_58 : decode cX10_picture 58 = .ok (.aload_n 0, 1) := by decide +kernel
theorem dX10_picture_59 : decode cX10_picture 59 = .ok (.aload_n 0, 1) := by decide +kernel
theorem dX10_picture_60 : decode cX10_picture 60 = .ok (.getfield 121, 3) := by decide +kernel
theorem dX10_picture_63 : decode cX10_picture 63 = .ok (.invokevirtual 172, 3) := by decide +kernel
theorem dX10_picture_66 : decode cX10_picture 66 = .ok (.bipush 100, 2) := by decide +kernel
theorem dX10_picture_68 : decode cX10_picture 68 = .ok (.istore 6, 2) := by decide +kernel
theorem dX10_picture_70 : decode cX10_picture 70 = .ok (.iconst 0, 1) := by decide +kernel
theorem dX10_picture_71 : decode cX10_picture 71 = .ok (.istore 7, 2) := by decide +kernel
theorem dX10_picture_73 : decode cX10_picture 73 = .ok (.iconst 0, 1) := by decide +kernel
theorem dX10_picture_74 : decode cX10_picture 74 = .ok (.istore 8, 2) := by decide +kernel
theorem dX10_picture_76 : decode cX10_picture 76 = .ok (.iconst 0, 1) := by decide +kernel
theorem dX10_picture_77 : decode cX10_picture 77 = .ok (.istore 9, 2) := by decide +kernel
theorem dX10_picture_79 : decode cX10_picture 79 = .ok (.iconst 0, 1) := by decide +kernel
theorem dX10_picture_80 : decode cX10_picture 80 = .ok (.istore 10, 2) := by decide +kernel
theorem dX10_picture_82 : decode cX10_picture 82 = .ok (.iload 10, 2) := by decide +kernel
theorem dX10_picture_84 : decode cX10_picture 84 = .ok (.aload_n 0, 1) := by decide +kernel
theorem dX10_picture_85 : decode cX10_picture 85 = .ok (.getfield 34, 3) := by decide +kernel
theorem dX10_picture_88 : decode cX10_picture 88 = .ok (.if_icmp .ge 130, 3) := by decide +kernel
theorem dX10_picture_91 : decode cX10_picture 91 = .ok (.aload_n 0, 1) := by decide +kernel
theorem dX10_picture_92 : decode cX10_picture 92 = .ok (.getfield 62, 3) := by decide +kernel
theorem dX10_picture_95 : decode cX10_picture 95 = .ok (.iload 10, 2) := by decide +kernel
theorem dX10_picture_97 : decode cX10_picture 97 = .ok (.iaload, 1) := by decide +kernel
theorem dX10_picture_98 : decode cX10_picture 98 = .ok (.iload_n 2, 1) := by decide +kernel
theorem dX10_picture_99 : decode cX10_picture 99 = .ok (.if_icmp .eq 6, 3) := by decide +kernel
theorem dX10_picture_102 : decode cX10_picture 102 = .ok (.goto 110, 3) := by decide +kernel
theorem dX10_picture_105 : decode cX10_picture 105 = .ok (.iconst 0, 1) := by decide +kernel
theorem dX10_picture_106 : decode cX10_picture 106 = .ok (.istore 11, 2) := by decide +kernel
theorem dX10_picture_108 : decode cX10_picture 108 = .ok (.iconst 0, 1) := by decide +kernel
theorem dX10_picture_109 : decode cX10_picture 109 = .ok (.istore 12, 2) := by decide +kernel
theorem dX10_picture_111 : decode cX10_picture 111 = .ok (.iload 12, 2) := by decide +kernel
theorem dX10_picture_113 : decode cX10_picture 113 = .ok (.aload_n 0, 1) := by decide +kernel
theorem dX10_picture_114 : decode cX10_picture 114 = .ok (.getfield 34, 3) := by decide +kernel
theorem dX10_picture_117 : decode cX10_picture 117 = .ok (.if_icmp .ge 56, 3) := by decide +kernel
theorem dX10_picture_120 : decode cX10_picture 120 = .ok (.iload 12, 2) := by decide +kernel
theorem dX10_picture_122 : decode cX10_picture 122 = .ok (.iload 10, 2) := by decide +kernel
theorem dX10_picture_124 : decode cX10_picture 124 = .ok (.if_icmp .eq 43, 3) := by decide +kernel
theorem dX10_picture_127 : decode cX10_picture 127 = .ok (.aload_n 0, 1) := by decide +kernel
theorem dX10_picture_128 : decode cX10_picture 128 = .ok (.getfield 62, 3) := by decide +kernel
theorem dX10_picture_131 : decode cX10_picture 131 = .ok (.iload 12, 2) := by decide +kernel
theorem dX10_picture_133 : decode cX10_picture 133 = .ok (.iaload, 1) := by decide +kernel
theorem dX10_picture_134 : decode cX10_picture 134 = .ok (.iload_n 3, 1) := by decide +kernel
theorem dX10_picture_135 : decode cX10_picture 135 = .ok (.if_icmp .eq 6, 3) := by decide +kernel
theorem dX10_picture_138 : decode cX10_picture 138 = .ok (.goto 29, 3) := by decide +kernel
theorem dX10_picture_141 : decode cX10_picture 141 = .ok (.iinc 8 1, 3) := by decide +kernel
theorem dX10_picture_144 : decode cX10_picture 144 = .ok (.iload 11, 2) := by decide +kernel
theorem dX10_picture_146 : decode cX10_picture 146 = .ok (.aload_n 0, 1) := by decide +kernel
theorem dX10_picture_147 : decode cX10_picture 147 = .ok (.iload 4, 2) := by decide +kernel
theorem dX10_picture_149 : decode cX10_picture 149 = .ok (.iload 10, 2) := by decide +kernel
theorem dX10_picture_151 : decode cX10_picture 151 = .ok (.iload 12, 2) := by decide +kernel
theorem dX10_picture_153 : decode cX10_picture 153 = .ok (.invokevirtual 176, 3) := by decide +kernel
theorem dX10_picture_156 : decode cX10_picture 156 = .ok (.ifCond .eq 7, 3) := by decide +kernel
theorem dX10_picture_159 : decode cX10_picture 159 = .ok (.iconst 1, 1) := by decide +kernel
theorem dX10_picture_160 : decode cX10_picture 160 = .ok (.goto 4, 3) := by decide +kernel
theorem dX10_picture_163 : decode cX10_picture 163 = .ok (.iconst 0, 1) := by decide +kernel
theorem dX10_picture_164 : decode cX10_picture 164 = .ok (.iadd, 1) := by decide +kernel
theorem dX10_picture_165 : decode cX10_picture 165 = .ok (.istore 11, 2) := by decide +kernel
theorem dX10_picture_167 : decode cX10_picture 167 = .ok (.iinc 12 1, 3) := by decide +kernel
theorem dX10_picture_170 : decode cX10_picture 170 = .ok (.goto (-59), 3) := by decide +kernel
theorem dX10_picture_173 : decode cX10_picture 173 = .ok (.iload 9, 2) := by decide +kernel
theorem dX10_picture_175 : decode cX10_picture 175 = .ok (.iload 11, 2) := by decide +kernel
theorem dX10_picture_177 : decode cX10_picture 177 = .ok (.iadd, 1) := by decide +kernel
theorem dX10_picture_178 : decode cX10_picture 178 = .ok (.istore 9, 2) := by decide +kernel
theorem dX10_picture_180 : decode cX10_picture 180 = .ok (.iload 11, 2) := by decide +kernel
theorem dX10_picture_182 : decode cX10_picture 182 = .ok (.iload 6, 2) := by decide +kernel
theorem dX10_picture_184 : decode cX10_picture 184 = .ok (.if_icmp .ge 8, 3) := by decide +kernel
theorem dX10_picture_187 : decode cX10_picture 187 = .ok (.iload 11, 2) := by decide +kernel
theorem dX10_picture_189 : decode cX10_picture 189 = .ok (.goto 5, 3) := by decide +kernel
theorem dX10_picture_192 : decode cX10_picture 192 = .ok (.iload 6, 2) := by decide +kernel
theorem dX10_picture_194 : decode cX10_picture 194 = .ok (.istore 6, 2) := by decide +kernel
theorem dX10_picture_196 : decode cX10_picture 196 = .ok (.iload 11, 2) := by decide +kernel
theorem dX10_picture_198 : decode cX10_picture 198 = .ok (.iload 7, 2) := by decide +kernel
theorem dX10_picture_200 : decode cX10_picture 200 = .ok (.if_icmp .le 8, 3) := by decide +kernel
theorem dX10_picture_203 : decode cX10_picture 203 = .ok (.iload 11, 2) := by decide +kernel
theorem dX10_picture_205 : decode cX10_picture 205 = .ok (.goto 5, 3) := by decide +kernel
theorem dX10_picture_208 : decode cX10_picture 208 = .ok (.iload 7, 2) := by decide +kernel
theorem dX10_picture_210 : decode cX10_picture 210 = .ok (.istore 7, 2) := by decide +kernel
theorem dX10_picture_212 : decode cX10_picture 212 = .ok (.iinc 10 1, 3) := by decide +kernel
theorem dX10_picture_215 : decode cX10_picture 215 = .ok (.goto (-133), 3) := by decide +kernel
theorem dX10_picture_218 : decode cX10_picture 218 = .ok (.iload 9, 2) := by decide +kernel
theorem dX10_picture_220 : decode cX10_picture 220 = .ok (.ifCond .ne 7, 3) := by decide +kernel
theorem dX10_picture_223 : decode cX10_picture 223 = .ok (.iconst 0, 1) := by decide +kernel
theorem dX10_picture_224 : decode cX10_picture 224 = .ok (.goto 35, 3) := by decide +kernel
theorem dX10_picture_227 : decode cX10_picture 227 = .ok (.iload 9, 2) := by decide +kernel
theorem dX10_picture_229 : decode cX10_picture 229 = .ok (.iload 8, 2) := by decide +kernel
theorem dX10_picture_231 : decode cX10_picture 231 = .ok (.if_icmp .ne 7, 3) := by decide +kernel
theorem dX10_picture_234 : decode cX10_picture 234 = .ok (.iconst 1, 1) := by decide +kernel
theorem dX10_picture_235 : decode cX10_picture 235 = .ok (.goto 24, 3) := by decide +kernel
theorem dX10_picture_238 : decode cX10_picture 238 = .ok (.iload 6, 2) := by decide +kernel
theorem dX10_picture_240 : decode cX10_picture 240 = .ok (.iload 7, 2) := by decide +kernel
theorem dX10_picture_242 : decode cX10_picture 242 = .ok (.if_icmp .ne 7, 3) := by decide +kernel
theorem dX10_picture_245 : decode cX10_picture 245 = .ok (.iconst 2, 1) := by decide +kernel
theorem dX10_picture_246 : decode cX10_picture 246 = .ok (.goto 13, 3) := by decide +kernel
theorem dX10_picture_249 : decode cX10_picture 249 = .ok (.iload 6, 2) := by decide +kernel
theorem dX10_picture_251 : decode cX10_picture 251 = .ok (.ifCond .le 7, 3) := by decide +kernel
theorem dX10_picture_254 : decode cX10_picture 254 = .ok (.iconst 3, 1) := by decide +kernel
theorem dX10_picture_255 : decode cX10_picture 255 = .ok (.goto 4, 3) := by decide +kernel
theorem dX10_picture_258 : decode cX10_picture 258 = .ok (.iconst 4, 1) := by decide +kernel
theorem dX10_picture_259 : decode cX10_picture 259 = .ok (.ireturn, 1) := by decide +kernel
theorem dX10_wrongOf_0 : decode cX10_wrongOf 0 = .ok (.iconst 0, 1) := by decide +kernel
theorem dX10_wrongOf_1 : decode cX10_wrongOf 1 = .ok (.istore_n 1, 1) := by decide +kernel
theorem dX10_wrongOf_2 : decode cX10_wrongOf 2 = .ok (.iconst 0, 1) := by decide +kernel
theorem dX10_wrongOf_3 : decode cX10_wrongOf 3 = .ok (.istore_n 2, 1) := by decide +kernel
theorem dX10_wrongOf_4 : decode cX10_wrongOf 4 = .ok (.iload_n 2, 1) := by decide +kernel
theorem dX10_wrongOf_5 : decode cX10_wrongOf 5 = .ok (.aload_n 0, 1) := by decide +kernel
theorem dX10_wrongOf_6 : decode cX10_wrongOf 6 = .ok (.getfield 34, 3) := by decide +kernel
theorem dX10_wrongOf_9 : decode cX10_wrongOf 9 = .ok (.if_icmp .ge 153, 3) := by decide +kernel
theorem dX10_wrongOf_12 : decode cX10_wrongOf 12 = .ok (.iconst 0, 1) := by decide +kernel
theorem dX10_wrongOf_13 : decode cX10_wrongOf 13 = .ok (.istore_n 3, 1) := by decide +kernel
theorem dX10_wrongOf_14 : decode cX10_wrongOf 14 = .ok (.iload_n 3, 1) := by decide +kernel
theorem dX10_wrongOf_15 : decode cX10_wrongOf 15 = .ok (.aload_n 0, 1) := by decide +kernel
theorem dX10_wrongOf_16 : decode cX10_wrongOf 16 = .ok (.getfield 34, 3) := by decide +kernel
theorem dX10_wrongOf_19 : decode cX10_wrongOf 19 = .ok (.if_icmp .ge 137, 3) := by decide +kernel
theorem dX10_wrongOf_22 : decode cX10_wrongOf 22 = .ok (.iconst 0, 1) := by decide +kernel
theorem dX10_wrongOf_23 : decode cX10_wrongOf 23 = .ok (.istore 4, 2) := by decide +kernel
theorem dX10_wrongOf_25 : decode cX10_wrongOf 25 = .ok (.iload 4, 2) := by decide +kernel
theorem dX10_wrongOf_27 : decode cX10_wrongOf 27 = .ok (.iconst 3, 1) := by decide +kernel
theorem dX10_wrongOf_28 : decode cX10_wrongOf 28 = .ok (.if_icmp .ge 122, 3) := by decide +kernel
theorem dX10_wrongOf_31 : decode cX10_wrongOf 31 = .ok (.iconst 0, 1) := by decide +kernel
theorem dX10_wrongOf_32 : decode cX10_wrongOf 32 = .ok (.istore 5, 2) := by decide +kernel
theorem dX10_wrongOf_34 : decode cX10_wrongOf 34 = .ok (.iconst 0, 1) := by decide +kernel
theorem dX10_wrongOf_35 : decode cX10_wrongOf 35 = .ok (.istore 6, 2) := by decide +kernel
theorem dX10_wrongOf_37 : decode cX10_wrongOf 37 = .ok (.iconst 0, 1) := by decide +kernel
theorem dX10_wrongOf_38 : decode cX10_wrongOf 38 = .ok (.istore 7, 2) := by decide +kernel
theorem dX10_wrongOf_40 : decode cX10_wrongOf 40 = .ok (.iload 7, 2) := by decide +kernel
theorem dX10_wrongOf_42 : decode cX10_wrongOf 42 = .ok (.aload_n 0, 1) := by decide +kernel
theorem dX10_wrongOf_43 : decode cX10_wrongOf 43 = .ok (.getfield 34, 3) := by decide +kernel
theorem dX10_wrongOf_46 : decode cX10_wrongOf 46 = .ok (.if_icmp .ge 81, 3) := by decide +kernel
theorem dX10_wrongOf_49 : decode cX10_wrongOf 49 = .ok (.iconst 0, 1) := by decide +kernel
theorem dX10_wrongOf_50 : decode cX10_wrongOf 50 = .ok (.istore 8, 2) := by decide +kernel
theorem dX10_wrongOf_52 : decode cX10_wrongOf 52 = .ok (.iload 8, 2) := by decide +kernel
theorem dX10_wrongOf_54 : decode cX10_wrongOf 54 = .ok (.aload_n 0, 1) := by decide +kernel
theorem dX10_wrongOf_55 : decode cX10_wrongOf 55 = .ok (.getfield 34, 3) := by decide +kernel
theorem dX10_wrongOf_58 : decode cX10_wrongOf 58 = .ok (.if_icmp .ge 63, 3) := by decide +kernel
theorem dX10_wrongOf_61 : decode cX10_wrongOf 61 = .ok (.aload_n 0, 1) := by decide +kernel
theorem dX10_wrongOf_62 : decode cX10_wrongOf 62 = .ok (.getfield 62, 3) := by decide +kernel
theorem dX10_wrongOf_65 : decode cX10_wrongOf 65 = .ok (.iload 7, 2) := by decide +kernel
theorem dX10_wrongOf_67 : decode cX10_wrongOf 67 = .ok (.iaload, 1) := by decide +kernel
theorem dX10_wrongOf_68 : decode cX10_wrongOf 68 = .ok (.iload_n 2, 1) := by decide +kernel
theorem dX10_wrongOf_69 : decode cX10_wrongOf 69 = .ok (.if_icmp .ne 52, 3) := by decide +kernel
theorem dX10_wrongOf_72 : decode cX10_wrongOf 72 = .ok (.iload 8, 2) := by decide +kernel
theorem dX10_wrongOf_74 : decode cX10_wrongOf 74 = .ok (.iload 7, 2) := by decide +kernel
theorem dX10_wrongOf_76 : decode cX10_wrongOf 76 = .ok (.if_icmp .eq 39, 3) := by decide +kernel
theorem dX10_wrongOf_79 : decode cX10_wrongOf 79 = .ok (.aload_n 0, 1) := by decide +kernel
theorem dX10_wrongOf_80 : decode cX10_wrongOf 80 = .ok (.getfield 62, 3) := by decide +kernel
theorem dX10_wrongOf_83 : decode cX10_wrongOf 83 = .ok (.iload 8, 2) := by decide +kernel
theorem dX10_wrongOf_85 : decode cX10_wrongOf 85 = .ok (.iaload, 1) := by decide +kernel
theorem dX10_wrongOf_86 : decode cX10_wrongOf 86 = .ok (.iload_n 3, 1) := by decide +kernel
theorem dX10_wrongOf_87 : decode cX10_wrongOf 87 = .ok (.if_icmp .eq 6, 3) := by decide +kernel
theorem dX10_wrongOf_90 : decode cX10_wrongOf 90 = .ok (.goto 25, 3) := by decide +kernel
theorem dX10_wrongOf_93 : decode cX10_wrongOf 93 = .ok (.aload_n 0, 1) := by decide +kernel
theorem dX10_wrongOf_94 : decode cX10_wrongOf 94 = .ok (.iload 4, 2) := by decide +kernel
theorem dX10_wrongOf_96 : decode cX10_wrongOf 96 = .ok (.iload 7, 2) := by decide +kernel
theorem dX10_wrongOf_98 : decode cX10_wrongOf 98 = .ok (.iload 8, 2) := by decide +kernel
theorem dX10_wrongOf_100 : decode cX10_wrongOf 100 = .ok (.invokevirtual 176, 3) := by decide +kernel
theorem dX10_wrongOf_103 : decode cX10_wrongOf 103 = .ok (.ifCond .eq 9, 3) := by decide +kernel
theorem dX10_wrongOf_106 : decode cX10_wrongOf 106 = .ok (.iinc 5 1, 3) := by decide +kernel
theorem dX10_wrongOf_109 : decode cX10_wrongOf 109 = .ok (.goto 6, 3) := by decide +kernel
theorem dX10_wrongOf_112 : decode cX10_wrongOf 112 = .ok (.iinc 6 1, 3) := by decide +kernel
theorem dX10_wrongOf_115 : decode cX10_wrongOf 115 = .ok (.iinc 8 1, 3) := by decide +kernel
theorem dX10_wrongOf_118 : decode cX10_wrongOf 118 = .ok (.goto (-66), 3) := by decide +kernel
theorem dX10_wrongOf_121 : decode cX10_wrongOf 121 = .ok (.iinc 7 1, 3) := by decide +kernel
theorem dX10_wrongOf_124 : decode cX10_wrongOf 124 = .ok (.goto (-84), 3) := by decide +kernel
theorem dX10_wrongOf_127 : decode cX10_wrongOf 127 = .ok (.iload_n 1, 1) := by decide +kernel
theorem dX10_wrongOf_128 : decode cX10_wrongOf 128 = .ok (.iload 5, 2) := by decide +kernel
theorem dX10_wrongOf_130 : decode cX10_wrongOf 130 = .ok (.iload 6, 2) := by decide +kernel
theorem dX10_wrongOf_132 : decode cX10_wrongOf 132 = .ok (.if_icmp .ge 8, 3) := by decide +kernel
theorem dX10_wrongOf_135 : decode cX10_wrongOf 135 = .ok (.iload 5, 2) := by decide +kernel
theorem dX10_wrongOf_137 : decode cX10_wrongOf 137 = .ok (.goto 5, 3) := by decide +kernel
theorem dX10_wrongOf_140 : decode cX10_wrongOf 140 = .ok (.iload 6, 2) := by decide +kernel
theorem dX10_wrongOf_142 : decode cX10_wrongOf 142 = .ok (.iadd, 1) := by decide +kernel
theorem dX10_wrongOf_143 : decode cX10_wrongOf 143 = .ok (.istore_n 1, 1) := by decide +kernel
theorem dX10_wrongOf_144 : decode cX10_wrongOf 144 = .ok (.iinc 4 1, 3) := by decide +kernel
theorem dX10_wrongOf_147 : decode cX10_wrongOf 147 = .ok (.goto (-122), 3) := by decide +kernel
theorem dX10_wrongOf_150 : decode cX10_wrongOf 150 = .ok (.iinc 3 1, 3) := by decide +kernel
theorem dX10_wrongOf_153 : decode cX10_wrongOf 153 = .ok (.goto (-139), 3) := by decide +kernel
theorem dX10_wrongOf_156 : decode cX10_wrongOf 156 = .ok (.iinc 2 1, 3) := by decide +kernel
theorem dX10_wrongOf_159 : decode cX10_wrongOf 159 = .ok (.goto (-155), 3) := by decide +kernel
theorem dX10_wrongOf_162 : decode cX10_wrongOf 162 = .ok (.iload_n 1, 1) := by decide +kernel
theorem dX10_wrongOf_163 : decode cX10_wrongOf 163 = .ok (.ireturn, 1) := by decide +kernel
theorem dX10_wrong_0 : decode cX10_wrong 0 = .ok (.aload_n 0, 1) := by decide +kernel
theorem dX10_wrong_1 : decode cX10_wrong 1 = .ok (.iload_n 1, 1) := by decide +kernel
theorem dX10_wrong_2 : decode cX10_wrong 2 = .ok (.aload_n 0, 1) := by decide +kernel
theorem dX10_wrong_3 : decode cX10_wrong 3 = .ok (.getfield 62, 3) := by decide +kernel
theorem dX10_wrong_6 : decode cX10_wrong 6 = .ok (.invokevirtual 180, 3) := by decide +kernel
theorem dX10_wrong_9 : decode cX10_wrong 9 = .ok (.ifCond .ge 9, 3) := by decide +kernel
theorem dX10_wrong_12 : decode cX10_wrong 12 = .ok (.aload_n 0, 1) := by decide +kernel
theorem dX10_wrong_13 : decode cX10_wrong 13 = .ok (.iconst (-1), 1) := by decide +kernel
theorem dX10_wrong_14 : decode cX10_wrong 14 = .ok (.invokevirtual 103, 3) := by decide +kernel
theorem dX10_wrong_17 : decode cX10_wrong 17 = .ok (.ireturn, 1) := by decide +kernel
theorem dX10_wrong_18 : decode cX10_wrong 18 = .ok (.aload_n 0, 1) := by decide +kernel
theorem dX10_wrong_19 : decode cX10_wrong 19 = .ok (.aload_n 0, 1) := by decide +kernel
theorem dX10_wrong_20 : decode cX10_wrong 20 = .ok (.getfield 121, 3) := by decide +kernel
theorem dX10_wrong_23 : decode cX10_wrong 23 = .ok (.invokevirtual 172, 3) := by decide +kernel
theorem dX10_wrong_26 : decode cX10_wrong 26 = .ok (.aload_n 0, 1) := by decide +kernel
theorem dX10_wrong_27 : decode cX10_wrong 27 = .ok (.invokevirtual 237, 3) := by decide +kernel
theorem dX10_wrong_30 : decode cX10_wrong 30 = .ok (.ireturn, 1) := by decide +kernel
theorem dX10_least_0 : decode cX10_least 0 = .ok (.iload_n 1, 1) := by decide +kernel
theorem dX10_least_1 : decode cX10_least 1 = .ok (.i2l, 1) := by decide +kernel
theorem dX10_least_2 : decode cX10_least 2 = .ok (.lconst 1, 1) := by decide +kernel
theorem dX10_least_3 : decode cX10_least 3 = .ok (.aload_n 0, 1) := by decide +kernel
theorem dX10_least_4 : decode cX10_least 4 = .ok (.getfield 34, 3) := by decide +kernel
theorem dX10_least_7 : decode cX10_least 7 = .ok (.i2l, 1) := by decide +kernel
theorem dX10_least_8 : decode cX10_least 8 = .ok (.invokestatic 99, 3) := by decide +kernel
theorem dX10_least_11 : decode cX10_least 11 = .ok (.istore_n 3, 1) := by decide +kernel
theorem dX10_least_12 : decode cX10_least 12 = .ok (.iload_n 3, 1) := by decide +kernel
theorem dX10_least_13 : decode cX10_least 13 = .ok (.ifCond .ne 18, 3) := by decide +kernel
theorem dX10_least_16 : decode cX10_least 16 = .ok (.iload_n 2, 1) := by decide +kernel
theorem dX10_least_17 : decode cX10_least 17 = .ok (.i2l, 1) := by decide +kernel
theorem dX10_least_18 : decode cX10_least 18 = .ok (.lconst 0, 1) := by decide +kernel
theorem dX10_least_19 : decode cX10_least 19 = .ok (.ldc2_w 240, 3) := by decide +kernel
theorem dX10_least_22 : decode cX10_least 22 = .ok (.invokestatic 138, 3) := by decide +kernel
theorem dX10_least_25 : decode cX10_least 25 = .ok (.ifCond .ne 6, 3) := by decide +kernel
theorem dX10_least_28 : decode cX10_least 28 = .ok (.bipush (-2), 2) := by decide +kernel
theorem dX10_least_30 : decode cX10_least 30 = .ok (.istore_n 3, 1) := by decide +kernel
theorem dX10_least_31 : decode cX10_least 31 = .ok (.iload_n 3, 1) := by decide +kernel
theorem dX10_least_32 : decode cX10_least 32 = .ok (.ifCond .eq 9, 3) := by decide +kernel
theorem dX10_least_35 : decode cX10_least 35 = .ok (.aload_n 0, 1) := by decide +kernel
theorem dX10_least_36 : decode cX10_least 36 = .ok (.iload_n 3, 1) := by decide +kernel
theorem dX10_least_37 : decode cX10_least 37 = .ok (.invokevirtual 103, 3) := by decide +kernel
theorem dX10_least_40 : decode cX10_least 40 = .ok (.ireturn, 1) := by decide +kernel
theorem dX10_least_41 : decode cX10_least 41 = .ok (.aload_n 0, 1) := by decide +kernel
theorem dX10_least_42 : decode cX10_least 42 = .ok (.aload_n 0, 1) := by decide +kernel
theorem dX10_least_43 : decode cX10_least 43 = .ok (.getfield 121, 3) := by decide +kernel
theorem dX10_least_46 : decode cX10_least 46 = .ok (.invokevirtual 172, 3) := by decide +kernel
theorem dX10_least_49 : decode cX10_least 49 = .ok (.aload_n 0, 1) := by decide +kernel
theorem dX10_least_50 : decode cX10_least 50 = .ok (.invokevirtual 231, 3) := by decide +kernel
theorem dX10_least_53 : decode cX10_least 53 = .ok (.bipush (-9), 2) := by decide +kernel
theorem dX10_least_55 : decode cX10_least 55 = .ok (.istore 4, 2) := by decide +kernel
theorem dX10_least_57 : decode cX10_least 57 = .ok (.iconst 0, 1) := by decide +kernel
theorem dX10_least_58 : decode cX10_least 58 = .ok (.istore 5, 2) := by decide +kernel
theorem dX10_least_60 : decode cX10_least 60 = .ok (.iconst (-1), 1) := by decide +kernel
theorem dX10_least_61 : decode cX10_least 61 = .ok (.istore 6, 2) := by decide +kernel
theorem dX10_least_63 : decode cX10_least 63 = .ok (.iconst 1, 1) := by decide +kernel
theorem dX10_least_64 : decode cX10_least 64 = .ok (.istore 7, 2) := by decide +kernel
theorem dX10_least_66 : decode cX10_least 66 = .ok (.iload 7, 2) := by decide +kernel
theorem dX10_least_68 : decode cX10_least 68 = .ok (.ifCond .eq 88, 3) := by decide +kernel
theorem dX10_least_71 : decode cX10_least 71 = .ok (.aload_n 0, 1) := by decide +kernel
theorem dX10_least_72 : decode cX10_least 72 = .ok (.invokevirtual 242, 3) := by decide +kernel
theorem dX10_least_75 : decode cX10_least 75 = .ok (.iload_n 1, 1) := by decide +kernel
theorem dX10_least_76 : decode cX10_least 76 = .ok (.if_icmp .ne 71, 3) := by decide +kernel
theorem dX10_least_79 : decode cX10_least 79 = .ok (.aload_n 0, 1) := by decide +kernel
theorem dX10_least_80 : decode cX10_least 80 = .ok (.invokevirtual 237, 3) := by decide +kernel
theorem dX10_least_83 : decode cX10_least 83 = .ok (.istore 8, 2) := by decide +kernel
theorem dX10_least_85 : decode cX10_least 85 = .ok (.iload 4, 2) := by decide +kernel
theorem dX10_least_87 : decode cX10_least 87 = .ok (.bipush (-9), 2) := by decide +kernel
theorem dX10_least_89 : decode cX10_least 89 = .ok (.if_icmp .eq 10, 3) := by decide +kernel
theorem dX10_least_92 : decode cX10_least 92 = .ok (.iload 8, 2) := by decide +kernel
theorem dX10_least_94 : decode cX10_least 94 = .ok (.iload 5, 2) := by decide +kernel
theorem dX10_least_96 : decode cX10_least 96 = .ok (.if_icmp .ge 35, 3) := by decide +kernel
theorem dX10_least_99 : decode cX10_least 99 = .ok (.iload 4, 2) := by decide +kernel
theorem dX10_least_101 : decode cX10_least 101 = .ok (.bipush (-9), 2) := by decide +kernel
theorem dX10_least_103 : decode cX10_least 103 = .ok (.if_icmp .ne 7, 3) := by decide +kernel
theorem dX10_least_106 : decode cX10_least 106 = .ok (.iconst (-1), 1) := by decide +kernel
theorem dX10_least_107 : decode cX10_least 107 = .ok (.goto 5, 3) := by decide +kernel
theorem dX10_least_110 : decode cX10_least 110 = .ok (.iload 5, 2) := by decide +kernel
theorem dX10_least_112 : decode cX10_least 112 = .ok (.istore 6, 2) := by decide +kernel
theorem dX10_least_114 : decode cX10_least 114 = .ok (.aload_n 0, 1) := by decide +kernel
theorem dX10_least_115 : decode cX10_least 115 = .ok (.aload_n 0, 1) := by decide +kernel
theorem dX10_least_116 : decode cX10_least 116 = .ok (.getfield 62, 3) := by decide +kernel
theorem dX10_least_119 : decode cX10_least 119 = .ok (.invokevirtual 208, 3) := by decide +kernel
theorem dX10_least_122 : decode cX10_least 122 = .ok (.istore 4, 2) := by decide +kernel
theorem dX10_least_124 : decode cX10_least 124 = .ok (.iload 8, 2) := by decide +kernel
theorem dX10_least_126 : decode cX10_least 126 = .ok (.istore 5, 2) := by decide +kernel
theorem dX10_least_128 : decode cX10_least 128 = .ok (.goto 19, 3) := by decide +kernel
theorem dX10_least_131 : decode cX10_least 131 = .ok (.iload 6, 2) := by decide +kernel
theorem dX10_least_133 : decode cX10_least 133 = .ok (.ifCond .lt 10, 3) := by decide +kernel
theorem dX10_least_136 : decode cX10_least 136 = .ok (.iload 8, 2) := by decide +kernel
theorem dX10_least_138 : decode cX10_least 138 = .ok (.iload 6, 2) := by decide +kernel
theorem dX10_least_140 : decode cX10_least 140 = .ok (.if_icmp .ge 7, 3) := by decide +kernel
theorem dX10_least_143 : decode cX10_least 143 = .ok (.iload 8, 2) := by decide +kernel
theorem dX10_least_145 : decode cX10_least 145 = .ok (.istore 6, 2) := by decide +kernel
theorem dX10_least_147 : decode cX10_least 147 = .ok (.aload_n 0, 1) := by decide +kernel
theorem dX10_least_148 : decode cX10_least 148 = .ok (.invokevirtual 234, 3) := by decide +kernel
theorem dX10_least_151 : decode cX10_least 151 = .ok (.istore 7, 2) := by decide +kernel
theorem dX10_least_153 : decode cX10_least 153 = .ok (.goto (-87), 3) := by decide +kernel
theorem dX10_least_156 : decode cX10_least 156 = .ok (.iload_n 2, 1) := by decide +kernel
theorem dX10_least_157 : decode cX10_least 157 = .ok (.ifCond .ne 8, 3) := by decide +kernel
theorem dX10_least_160 : decode cX10_least 160 = .ok (.iload 4, 2) := by decide +kernel
theorem dX10_least_162 : decode cX10_least 162 = .ok (.goto 28, 3) := by decide +kernel
theorem dX10_least_165 : decode cX10_least 165 = .ok (.iload_n 2, 1) := by decide +kernel
theorem dX10_least_166 : decode cX10_least 166 = .ok (.iconst 1, 1) := by decide +kernel
theorem dX10_least_167 : decode cX10_least 167 = .ok (.if_icmp .ne 8, 3) := by decide +kernel
theorem dX10_least_170 : decode cX10_least 170 = .ok (.iload 5, 2) := by decide +kernel
theorem dX10_least_172 : decode cX10_least 172 = .ok (.goto 18, 3) := by decide +kernel
theorem dX10_least_175 : decode cX10_least 175 = .ok (.iload 6, 2) := by decide +kernel
theorem dX10_least_177 : decode cX10_least 177 = .ok (.ifCond .ge 8, 3) := by decide +kernel
theorem dX10_least_180 : decode cX10_least 180 = .ok (.bipush (-9), 2) := by decide +kernel
theorem dX10_least_182 : decode cX10_least 182 = .ok (.goto 8, 3) := by decide +kernel
theorem dX10_least_185 : decode cX10_least 185 = .ok (.iload 6, 2) := by decide +kernel
theorem dX10_least_187 : decode cX10_least 187 = .ok (.iload 5, 2) := by decide +kernel
theorem dX10_least_189 : decode cX10_least 189 = .ok (.isub, 1) := by decide +kernel
theorem dX10_least_190 : decode cX10_least 190 = .ok (.ireturn, 1) := by decide +kernel
theorem dX10_spoils_0 : decode cX10_spoils 0 = .ok (.aload_n 0, 1) := by decide +kernel
theorem dX10_spoils_1 : decode cX10_spoils 1 = .ok (.iload_n 1, 1) := by decide +kernel
theorem dX10_spoils_2 : decode cX10_spoils 2 = .ok (.aload_n 0, 1) := by decide +kernel
theorem dX10_spoils_3 : decode cX10_spoils 3 = .ok (.getfield 62, 3) := by decide +kernel
theorem dX10_spoils_6 : decode cX10_spoils 6 = .ok (.invokevirtual 180, 3) := by decide +kernel
theorem dX10_spoils_9 : decode cX10_spoils 9 = .ok (.ifCond .ge 9, 3) := by decide +kernel
theorem dX10_spoils_12 : decode cX10_spoils 12 = .ok (.aload_n 0, 1) := by decide +kernel
theorem dX10_spoils_13 : decode cX10_spoils 13 = .ok (.iconst (-1), 1) := by decide +kernel
theorem dX10_spoils_14 : decode cX10_spoils 14 = .ok (.invokevirtual 245, 3) := by decide +kernel
theorem dX10_spoils_17 : decode cX10_spoils 17 = .ok (.ireturn, 1) := by decide +kernel
theorem dX10_spoils_18 : decode cX10_spoils 18 = .ok (.iload_n 2, 1) := by decide +kernel
theorem dX10_spoils_19 : decode cX10_spoils 19 = .ok (.i2l, 1) := by decide +kernel
theorem dX10_spoils_20 : decode cX10_spoils 20 = .ok (.lconst 0, 1) := by decide +kernel
theorem dX10_spoils_21 : decode cX10_spoils 21 = .ok (.lconst 1, 1) := by decide +kernel
theorem dX10_spoils_22 : decode cX10_spoils 22 = .ok (.invokestatic 138, 3) := by decide +kernel
theorem dX10_spoils_25 : decode cX10_spoils 25 = .ok (.ifCond .ne 10, 3) := by decide +kernel
theorem dX10_spoils_28 : decode cX10_spoils 28 = .ok (.aload_n 0, 1) := by decide +kernel
theorem dX10_spoils_29 : decode cX10_spoils 29 = .ok (.bipush (-2), 2) := by decide +kernel
theorem dX10_spoils_31 : decode cX10_spoils 31 = .ok (.invokevirtual 245, 3) := by decide +kernel
theorem dX10_spoils_34 : decode cX10_spoils 34 = .ok (.ireturn, 1) := by decide +kernel
theorem dX10_spoils_35 : decode cX10_spoils 35 = .ok (.aload_n 0, 1) := by decide +kernel
theorem dX10_spoils_36 : decode cX10_spoils 36 = .ok (.getfield 34, 3) := by decide +kernel
theorem dX10_spoils_39 : decode cX10_spoils 39 = .ok (.iconst 1, 1) := by decide +kernel
theorem dX10_spoils_40 : decode cX10_spoils 40 = .ok (.if_icmp .ne 19, 3) := by decide +kernel
theorem dX10_spoils_43 : decode cX10_spoils 43 = .ok (.iload_n 2, 1) := by decide +kernel
theorem dX10_spoils_44 : decode cX10_spoils 44 = .ok (.ifCond .ne 8, 3) := by decide +kernel
theorem dX10_spoils_47 : decode cX10_spoils 47 = .ok (.bipush (-9), 2) := by decide +kernel
theorem dX10_spoils_49 : decode cX10_spoils 49 = .ok (.goto 9, 3) := by decide +kernel
theorem dX10_spoils_52 : decode cX10_spoils 52 = .ok (.aload_n 0, 1) := by decide +kernel
theorem dX10_spoils_53 : decode cX10_spoils 53 = .ok (.bipush (-3), 2) := by decide +kernel
theorem dX10_spoils_55 : decode cX10_spoils 55 = .ok (.invokevirtual 245, 3) := by decide +kernel
theorem dX10_spoils_58 : decode cX10_spoils 58 = .ok (.ireturn, 1) := by decide +kernel
theorem dX10_spoils_59 : decode cX10_spoils 59 = .ok (.aload_n 0, 1) := by decide +kernel
theorem dX10_spoils_60 : decode cX10_spoils 60 = .ok (.aload_n 0, 1) := by decide +kernel
theorem dX10_spoils_61 : decode cX10_spoils 61 = .ok (.getfield 121, 3) := by decide +kernel
theorem dX10_spoils_64 : decode cX10_spoils 64 = .ok (.invokevirtual 172, 3) := by decide +kernel
theorem dX10_spoils_67 : decode cX10_spoils 67 = .ok (.aload_n 0, 1) := by decide +kernel
theorem dX10_spoils_68 : decode cX10_spoils 68 = .ok (.invokevirtual 237, 3) := by decide +kernel
theorem dX10_spoils_71 : decode cX10_spoils 71 = .ok (.istore_n 3, 1) := by decide +kernel
theorem dX10_spoils_72 : decode cX10_spoils 72 = .ok (.bipush (-9), 2) := by decide +kernel
theorem dX10_spoils_74 : decode cX10_spoils 74 = .ok (.istore 4, 2) := by decide +kernel
theorem dX10_spoils_76 : decode cX10_spoils 76 = .ok (.iconst 0, 1) := by decide +kernel
theorem dX10_spoils_77 : decode cX10_spoils 77 = .ok (.istore 5, 2) := by decide +kernel
theorem dX10_spoils_79 : decode cX10_spoils 79 = .ok (.iconst 0, 1) := by decide +kernel
theorem dX10_spoils_80 : decode cX10_spoils 80 = .ok (.istore 6, 2) := by decide +kernel
theorem dX10_spoils_82 : decode cX10_spoils 82 = .ok (.iload 6, 2) := by decide +kernel
theorem dX10_spoils_84 : decode cX10_spoils 84 = .ok (.aload_n 0, 1) := by decide +kernel
theorem dX10_spoils_85 : decode cX10_spoils 85 = .ok (.getfield 34, 3) := by decide +kernel
theorem dX10_spoils_88 : decode cX10_spoils 88 = .ok (.if_icmp .ge 143, 3) := by decide +kernel
theorem dX10_spoils_91 : decode cX10_spoils 91 = .ok (.iconst 0, 1) := by decide +kernel
theorem dX10_spoils_92 : decode cX10_spoils 92 = .ok (.istore 7, 2) := by decide +kernel
theorem dX10_spoils_94 : decode cX10_spoils 94 = .ok (.iload 7, 2) := by decide +kernel
theorem dX10_spoils_96 : decode cX10_spoils 96 = .ok (.aload_n 0, 1) := by decide +kernel
theorem dX10_spoils_97 : decode cX10_spoils 97 = .ok (.getfield 34, 3) := by decide +kernel
theorem dX10_spoils_100 : decode cX10_spoils 100 = .ok (.if_icmp .ge 125, 3) := by decide +kernel
theorem dX10_spoils_103 : decode cX10_spoils 103 = .ok (.iconst 0, 1) := by decide +kernel
theorem dX10_spoils_104 : decode cX10_spoils 104 = .ok (.istore 8, 2) := by decide +kernel
theorem dX10_spoils_106 : decode cX10_spoils 106 = .ok (.iload 8, 2) := by decide +kernel
theorem dX10_spoils_108 : decode cX10_spoils 108 = .ok (.iconst 3, 1) := by decide +kernel
theorem dX10_spoils_109 : decode cX10_spoils 109 = .ok (.if_icmp .ge 110, 3) := by decide +kernel
theorem dX10_spoils_112 : decode cX10_spoils 112 = .ok (.iload 7, 2) := by decide +kernel
theorem dX10_spoils_114 : decode cX10_spoils 114 = .ok (.iload 6, 2) := by decide +kernel
theorem dX10_spoils_116 : decode cX10_spoils 116 = .ok (.if_icmp .eq 103, 3) := by decide +kernel
theorem dX10_spoils_119 : decode cX10_spoils 119 = .ok (.bipush 49, 2) := by decide +kernel
theorem dX10_spoils_121 : decode cX10_spoils 121 = .ok (.iload 8, 2) := by decide +kernel
theorem dX10_spoils_123 : decode cX10_spoils 123 = .ok (.imul, 1) := by decide +kernel
theorem dX10_spoils_124 : decode cX10_spoils 124 = .ok (.bipush 7, 2) := by decide +kernel
theorem dX10_spoils_126 : decode cX10_spoils 126 = .ok (.iload 6, 2) := by decide +kernel
theorem dX10_spoils_128 : decode cX10_spoils 128 = .ok (.imul, 1) := by decide +kernel
theorem dX10_spoils_129 : decode cX10_spoils 129 = .ok (.iadd, 1) := by decide +kernel
theorem dX10_spoils_130 : decode cX10_spoils 130 = .ok (.iload 7, 2) := by decide +kernel
theorem dX10_spoils_132 : decode cX10_spoils 132 = .ok (.iadd, 1) := by decide +kernel
theorem dX10_spoils_133 : decode cX10_spoils 133 = .ok (.istore 9, 2) := by decide +kernel
theorem dX10_spoils_135 : decode cX10_spoils 135 = .ok (.aload_n 0, 1) := by decide +kernel
theorem dX10_spoils_136 : decode cX10_spoils 136 = .ok (.getfield 59, 3) := by decide +kernel
theorem dX10_spoils_139 : decode cX10_spoils 139 = .ok (.iload 9, 2) := by decide +kernel
theorem dX10_spoils_141 : decode cX10_spoils 141 = .ok (.iaload, 1) := by decide +kernel
theorem dX10_spoils_142 : decode cX10_spoils 142 = .ok (.istore 10, 2) := by decide +kernel
theorem dX10_spoils_144 : decode cX10_spoils 144 = .ok (.aload_n 0, 1) := by decide +kernel
theorem dX10_spoils_145 : decode cX10_spoils 145 = .ok (.getfield 59, 3) := by decide +kernel
theorem dX10_spoils_148 : decode cX10_spoils 148 = .ok (.iload 9, 2) := by decide +kernel
theorem dX10_spoils_150 : decode cX10_spoils 150 = .ok (.iload 10, 2) := by decide +kernel
theorem dX10_spoils_152 : decode cX10_spoils 152 = .ok (.ifCond .le 7, 3) := by decide +kernel
theorem dX10_spoils_155 : decode cX10_spoils 155 = .ok (.iconst 0, 1) := by decide +kernel
theorem dX10_spoils_156 : decode cX10_spoils 156 = .ok (.goto 4, 3) := by decide +kernel
theorem dX10_spoils_159 : decode cX10_spoils 159 = .ok (.iconst 1, 1) := by decide +kernel
theorem dX10_spoils_160 : decode cX10_spoils 160 = .ok (.iastore, 1) := by decide +kernel
theorem dX10_spoils_161 : decode cX10_spoils 161 = .ok (.aload_n 0, 1) := by decide +kernel
theorem dX10_spoils_162 : decode cX10_spoils 162 = .ok (.invokevirtual 237, 3) := by decide +kernel
theorem dX10_spoils_165 : decode cX10_spoils 165 = .ok (.istore 11, 2) := by decide +kernel
theorem dX10_spoils_167 : decode cX10_spoils 167 = .ok (.aload_n 0, 1) := by decide +kernel
theorem dX10_spoils_168 : decode cX10_spoils 168 = .ok (.getfield 59, 3) := by decide +kernel
theorem dX10_spoils_171 : decode cX10_spoils 171 = .ok (.iload 9, 2) := by decide +kernel
theorem dX10_spoils_173 : decode cX10_spoils 173 = .ok (.iload 10, 2) := by decide +kernel
theorem dX10_spoils_175 : decode cX10_spoils 175 = .ok (.iastore, 1) := by decide +kernel
theorem dX10_spoils_176 : decode cX10_spoils 176 = .ok (.iload 4, 2) := by decide +kernel
theorem dX10_spoils_178 : decode cX10_spoils 178 = .ok (.bipush (-9), 2) := by decide +kernel
theorem dX10_spoils_180 : decode cX10_spoils 180 = .ok (.if_icmp .eq 13, 3) := by decide +kernel
theorem dX10_spoils_183 : decode cX10_spoils 183 = .ok (.iload 11, 2) := by decide +kernel
theorem dX10_spoils_185 : decode cX10_spoils 185 = .ok (.iload 5, 2) := by decide +kernel
theorem dX10_spoils_187 : decode cX10_spoils 187 = .ok (.if_icmp .lt 6, 3) := by decide +kernel
theorem dX10_spoils_190 : decode cX10_spoils 190 = .ok (.goto 23, 3) := by decide +kernel
theorem dX10_spoils_193 : decode cX10_spoils 193 = .ok (.bipush 100, 2) := by decide +kernel
theorem dX10_spoils_195 : decode cX10_spoils 195 = .ok (.iload 6, 2) := by decide +kernel
theorem dX10_spoils_197 : decode cX10_spoils 197 = .ok (.imul, 1) := by decide +kernel
theorem dX10_spoils_198 : decode cX10_spoils 198 = .ok (.bipush 10, 2) := by decide +kernel
theorem dX10_spoils_200 : decode cX10_spoils 200 = .ok (.iload 7, 2) := by decide +kernel
theorem dX10_spoils_202 : decode cX10_spoils 202 = .ok (.imul, 1) := by decide +kernel
theorem dX10_spoils_203 : decode cX10_spoils 203 = .ok (.iadd, 1) := by decide +kernel
theorem dX10_spoils_204 : decode cX10_spoils 204 = .ok (.iload 8, 2) := by decide +kernel
theorem dX10_spoils_206 : decode cX10_spoils 206 = .ok (.iadd, 1) := by decide +kernel
theorem dX10_spoils_207 : decode cX10_spoils 207 = .ok (.istore 4, 2) := by decide +kernel
theorem dX10_spoils_209 : decode cX10_spoils 209 = .ok (.iload 11, 2) := by decide +kernel
theorem dX10_spoils_211 : decode cX10_spoils 211 = .ok (.istore 5, 2) := by decide +kernel
theorem dX10_spoils_213 : decode cX10_spoils 213 = .ok (.iinc 8 1, 3) := by decide +kernel
theorem dX10_spoils_216 : decode cX10_spoils 216 = .ok (.goto (-110), 3) := by decide +kernel
theorem dX10_spoils_219 : decode cX10_spoils 219 = .ok (.iinc 7 1, 3) := by decide +kernel
theorem dX10_spoils_222 : decode cX10_spoils 222 = .ok (.goto (-128), 3) := by decide +kernel
theorem dX10_spoils_225 : decode cX10_spoils 225 = .ok (.iinc 6 1, 3) := by decide +kernel
theorem dX10_spoils_228 : decode cX10_spoils 228 = .ok (.goto (-146), 3) := by decide +kernel
theorem dX10_spoils_231 : decode cX10_spoils 231 = .ok (.iload_n 2, 1) := by decide +kernel
theorem dX10_spoils_232 : decode cX10_spoils 232 = .ok (.ifCond .ne 8, 3) := by decide +kernel
theorem dX10_spoils_235 : decode cX10_spoils 235 = .ok (.iload 4, 2) := by decide +kernel
theorem dX10_spoils_237 : decode cX10_spoils 237 = .ok (.goto 7, 3) := by decide +kernel
theorem dX10_spoils_240 : decode cX10_spoils 240 = .ok (.iload_n 3, 1) := by decide +kernel
theorem dX10_spoils_241 : decode cX10_spoils 241 = .ok (.iload 5, 2) := by decide +kernel
theorem dX10_spoils_243 : decode cX10_spoils 243 = .ok (.isub, 1) := by decide +kernel
theorem dX10_spoils_244 : decode cX10_spoils 244 = .ok (.ireturn, 1) := by decide +kernel
theorem dX10_newcomer_0 : decode cX10_newcomer 0 = .ok (.iload_n 1, 1) := by decide +kernel
theorem dX10_newcomer_1 : decode cX10_newcomer 1 = .ok (.invokestatic 169, 3) := by decide +kernel
theorem dX10_newcomer_4 : decode cX10_newcomer 4 = .ok (.ifCond .eq 11, 3) := by decide +kernel
theorem dX10_newcomer_7 : decode cX10_newcomer 7 = .ok (.aload_n 0, 1) := by decide +kernel
theorem dX10_newcomer_8 : decode cX10_newcomer 8 = .ok (.iload_n 2, 1) := by decide +kernel
theorem dX10_newcomer_9 : decode cX10_newcomer 9 = .ok (.invokevirtual 113, 3) := by decide +kernel
theorem dX10_newcomer_12 : decode cX10_newcomer 12 = .ok (.ifCond .ne 9, 3) := by decide +kernel
theorem dX10_newcomer_15 : decode cX10_newcomer 15 = .ok (.aload_n 0, 1) := by decide +kernel
theorem dX10_newcomer_16 : decode cX10_newcomer 16 = .ok (.iconst (-1), 1) := by decide +kernel
theorem dX10_newcomer_17 : decode cX10_newcomer 17 = .ok (.invokevirtual 103, 3) := by decide +kernel
theorem dX10_newcomer_20 : decode cX10_newcomer 20 = .ok (.ireturn, 1) := by decide +kernel
theorem dX10_newcomer_21 : decode cX10_newcomer 21 = .ok (.aload_n 0, 1) := by decide +kernel
theorem dX10_newcomer_22 : decode cX10_newcomer 22 = .ok (.getfield 110, 3) := by decide +kernel
theorem dX10_newcomer_25 : decode cX10_newcomer 25 = .ok (.bipush 6, 2) := by decide +kernel
theorem dX10_newcomer_27 : decode cX10_newcomer 27 = .ok (.if_icmp .ne 10, 3) := by decide +kernel
theorem dX10_newcomer_30 : decode cX10_newcomer 30 = .ok (.aload_n 0, 1) := by decide +kernel
theorem dX10_newcomer_31 : decode cX10_newcomer 31 = .ok (.bipush (-6), 2) := by decide +kernel
theorem dX10_newcomer_33 : decode cX10_newcomer 33 = .ok (.invokevirtual 103, 3) := by decide +kernel
theorem dX10_newcomer_36 : decode cX10_newcomer 36 = .ok (.ireturn, 1) := by decide +kernel
theorem dX10_newcomer_37 : decode cX10_newcomer 37 = .ok (.aload_n 0, 1) := by decide +kernel
theorem dX10_newcomer_38 : decode cX10_newcomer 38 = .ok (.getfield 87, 3) := by decide +kernel
theorem dX10_newcomer_41 : decode cX10_newcomer 41 = .ok (.aload_n 0, 1) := by decide +kernel
theorem dX10_newcomer_42 : decode cX10_newcomer 42 = .ok (.getfield 110, 3) := by decide +kernel
theorem dX10_newcomer_45 : decode cX10_newcomer 45 = .ok (.iload_n 1, 1) := by decide +kernel
theorem dX10_newcomer_46 : decode cX10_newcomer 46 = .ok (.iastore, 1) := by decide +kernel
theorem dX10_newcomer_47 : decode cX10_newcomer 47 = .ok (.aload_n 0, 1) := by decide +kernel
theorem dX10_newcomer_48 : decode cX10_newcomer 48 = .ok (.getfield 90, 3) := by decide +kernel
theorem dX10_newcomer_51 : decode cX10_newcomer 51 = .ok (.aload_n 0, 1) := by decide +kernel
theorem dX10_newcomer_52 : decode cX10_newcomer 52 = .ok (.getfield 110, 3) := by decide +kernel
theorem dX10_newcomer_55 : decode cX10_newcomer 55 = .ok (.iload_n 2, 1) := by decide +kernel
theorem dX10_newcomer_56 : decode cX10_newcomer 56 = .ok (.iastore, 1) := by decide +kernel
theorem dX10_newcomer_57 : decode cX10_newcomer 57 = .ok (.aload_n 0, 1) := by decide +kernel
theorem dX10_newcomer_58 : decode cX10_newcomer 58 = .ok (.getfield 93, 3) := by decide +kernel
theorem dX10_newcomer_61 : decode cX10_newcomer 61 = .ok (.aload_n 0, 1) := by decide +kernel
theorem dX10_newcomer_62 : decode cX10_newcomer 62 = .ok (.getfield 110, 3) := by decide +kernel
theorem dX10_newcomer_65 : decode cX10_newcomer 65 = .ok (.iload_n 3, 1) := by decide +kernel
theorem dX10_newcomer_66 : decode cX10_newcomer 66 = .ok (.bastore, 1) := by decide +kernel
theorem dX10_newcomer_67 : decode cX10_newcomer 67 = .ok (.aload_n 0, 1) := by decide +kernel
theorem dX10_newcomer_68 : decode cX10_newcomer 68 = .ok (.dup, 1) := by decide +kernel
theorem dX10_newcomer_69 : decode cX10_newcomer 69 = .ok (.getfield 110, 3) := by decide +kernel
theorem dX10_newcomer_72 : decode cX10_newcomer 72 = .ok (.iconst 1, 1) := by decide +kernel
theorem dX10_newcomer_73 : decode cX10_newcomer 73 = .ok (.iadd, 1) := by decide +kernel
theorem dX10_newcomer_74 : decode cX10_newcomer 74 = .ok (.putfield 110, 3) := by decide +kernel
theorem dX10_newcomer_77 : decode cX10_newcomer 77 = .ok (.aload_n 0, 1) := by decide +kernel
theorem dX10_newcomer_78 : decode cX10_newcomer 78 = .ok (.getfield 110, 3) := by decide +kernel
theorem dX10_newcomer_81 : decode cX10_newcomer 81 = .ok (.ireturn, 1) := by decide +kernel
theorem dX10_isFit_0 : decode cX10_isFit 0 = .ok (.iconst 0, 1) := by decide +kernel
theorem dX10_isFit_1 : decode cX10_isFit 1 = .ok (.istore_n 3, 1) := by decide +kernel
theorem dX10_isFit_2 : decode cX10_isFit 2 = .ok (.iload_n 3, 1) := by decide +kernel
theorem dX10_isFit_3 : decode cX10_isFit 3 = .ok (.aload_n 0, 1) := by decide +kernel
theorem dX10_isFit_4 : decode cX10_isFit 4 = .ok (.getfield 34, 3) := by decide +kernel
theorem dX10_isFit_7 : decode cX10_isFit 7 = .ok (.if_icmp .ge 110, 3) := by decide +kernel
theorem dX10_isFit_10 : decode cX10_isFit 10 = .ok (.iconst 0, 1) := by decide +kernel
theorem dX10_isFit_11 : decode cX10_isFit 11 = .ok (.istore 4, 2) := by decide +kernel
theorem dX10_isFit_13 : decode cX10_isFit 13 = .ok (.iload 4, 2) := by decide +kernel
theorem dX10_isFit_15 : decode cX10_isFit 15 = .ok (.aload_n 0, 1) := by decide +kernel
theorem dX10_isFit_16 : decode cX10_isFit 16 = .ok (.getfield 34, 3) := by decide +kernel
theorem dX10_isFit_19 : decode cX10_isFit 19 = .ok (.if_icmp .ge 92, 3) := by decide +kernel
theorem dX10_isFit_22 : decode cX10_isFit 22 = .ok (.aload_n 0, 1) := by decide +kernel
theorem dX10_isFit_23 : decode cX10_isFit 23 = .ok (.getfield 62, 3) := by decide +kernel
theorem dX10_isFit_26 : decode cX10_isFit 26 = .ok (.iload_n 3, 1) := by decide +kernel
theorem dX10_isFit_27 : decode cX10_isFit 27 = .ok (.iaload, 1) := by decide +kernel
theorem dX10_isFit_28 : decode cX10_isFit 28 = .ok (.iload_n 1, 1) := by decide +kernel
theorem dX10_isFit_29 : decode cX10_isFit 29 = .ok (.if_icmp .ne 82, 3) := by decide +kernel
theorem dX10_isFit_32 : decode cX10_isFit 32 = .ok (.iload 4, 2) := by decide +kernel
theorem dX10_isFit_34 : decode cX10_isFit 34 = .ok (.iload_n 3, 1) := by decide +kernel
theorem dX10_isFit_35 : decode cX10_isFit 35 = .ok (.if_icmp .eq 70, 3) := by decide +kernel
theorem dX10_isFit_38 : decode cX10_isFit 38 = .ok (.aload_n 0, 1) := by decide +kernel
theorem dX10_isFit_39 : decode cX10_isFit 39 = .ok (.getfield 62, 3) := by decide +kernel
theorem dX10_isFit_42 : decode cX10_isFit 42 = .ok (.iload 4, 2) := by decide +kernel
theorem dX10_isFit_44 : decode cX10_isFit 44 = .ok (.iaload, 1) := by decide +kernel
theorem dX10_isFit_45 : decode cX10_isFit 45 = .ok (.aload_n 0, 1) := by decide +kernel
theorem dX10_isFit_46 : decode cX10_isFit 46 = .ok (.getfield 62, 3) := by decide +kernel
theorem dX10_isFit_49 : decode cX10_isFit 49 = .ok (.aload_n 0, 1) := by decide +kernel
theorem dX10_isFit_50 : decode cX10_isFit 50 = .ok (.getfield 90, 3) := by decide +kernel
theorem dX10_isFit_53 : decode cX10_isFit 53 = .ok (.iload_n 2, 1) := by decide +kernel
theorem dX10_isFit_54 : decode cX10_isFit 54 = .ok (.iaload, 1) := by decide +kernel
theorem dX10_isFit_55 : decode cX10_isFit 55 = .ok (.iaload, 1) := by decide +kernel
theorem dX10_isFit_56 : decode cX10_isFit 56 = .ok (.if_icmp .ne 49, 3) := by decide +kernel
theorem dX10_isFit_59 : decode cX10_isFit 59 = .ok (.aload_n 0, 1) := by decide +kernel
theorem dX10_isFit_60 : decode cX10_isFit 60 = .ok (.getfield 93, 3) := by decide +kernel
theorem dX10_isFit_63 : decode cX10_isFit 63 = .ok (.iload_n 2, 1) := by decide +kernel
theorem dX10_isFit_64 : decode cX10_isFit 64 = .ok (.baload, 1) := by decide +kernel
theorem dX10_isFit_65 : decode cX10_isFit 65 = .ok (.ifCond .eq 22, 3) := by decide +kernel
theorem dX10_isFit_68 : decode cX10_isFit 68 = .ok (.aload_n 0, 1) := by decide +kernel
theorem dX10_isFit_69 : decode cX10_isFit 69 = .ok (.aload_n 0, 1) := by decide +kernel
theorem dX10_isFit_70 : decode cX10_isFit 70 = .ok (.getfield 87, 3) := by decide +kernel
theorem dX10_isFit_73 : decode cX10_isFit 73 = .ok (.iload_n 2, 1) := by decide +kernel
theorem dX10_isFit_74 : decode cX10_isFit 74 = .ok (.iaload, 1) := by decide +kernel
theorem dX10_isFit_75 : decode cX10_isFit 75 = .ok (.iload_n 3, 1) := by decide +kernel
theorem dX10_isFit_76 : decode cX10_isFit 76 = .ok (.iload 4, 2) := by decide +kernel
theorem dX10_isFit_78 : decode cX10_isFit 78 = .ok (.invokevirtual 176, 3) := by decide +kernel
theorem dX10_isFit_81 : decode cX10_isFit 81 = .ok (.ifCond .eq 24, 3) := by decide +kernel
theorem dX10_isFit_84 : decode cX10_isFit 84 = .ok (.goto 19, 3) := by decide +kernel
theorem dX10_isFit_87 : decode cX10_isFit 87 = .ok (.aload_n 0, 1) := by decide +kernel
theorem dX10_isFit_88 : decode cX10_isFit 88 = .ok (.aload_n 0, 1) := by decide +kernel
theorem dX10_isFit_89 : decode cX10_isFit 89 = .ok (.getfield 87, 3) := by decide +kernel
theorem dX10_isFit_92 : decode cX10_isFit 92 = .ok (.iload_n 2, 1) := by decide +kernel
theorem dX10_isFit_93 : decode cX10_isFit 93 = .ok (.iaload, 1) := by decide +kernel
theorem dX10_isFit_94 : decode cX10_isFit 94 = .ok (.iload 4, 2) := by decide +kernel
theorem dX10_isFit_96 : decode cX10_isFit 96 = .ok (.iload_n 3, 1) := by decide +kernel
theorem dX10_isFit_97 : decode cX10_isFit 97 = .ok (.invokevirtual 176, 3) := by decide +kernel
theorem dX10_isFit_100 : decode cX10_isFit 100 = .ok (.ifCond .eq 5, 3) := by decide +kernel
theorem dX10_isFit_103 : decode cX10_isFit 103 = .ok (.iconst 1, 1) := by decide +kernel
theorem dX10_isFit_104 : decode cX10_isFit 104 = .ok (.ireturn, 1) := by decide +kernel
theorem dX10_isFit_105 : decode cX10_isFit 105 = .ok (.iinc 4 1, 3) := by decide +kernel
theorem dX10_isFit_108 : decode cX10_isFit 108 = .ok (.goto (-95), 3) := by decide +kernel
theorem dX10_isFit_111 : decode cX10_isFit 111 = .ok (.iinc 3 1, 3) := by decide +kernel
theorem dX10_isFit_114 : decode cX10_isFit 114 = .ok (.goto (-112), 3) := by decide +kernel
theorem dX10_isFit_117 : decode cX10_isFit 117 = .ok (.iconst 0, 1) := by decide +kernel
theorem dX10_isFit_118 : decode cX10_isFit 118 = .ok (.ireturn, 1) := by decide +kernel
theorem dX10_fits_0 : decode cX10_fits 0 = .ok (.aload_n 0, 1) := by decide +kernel
theorem dX10_fits_1 : decode cX10_fits 1 = .ok (.iload_n 1, 1) := by decide +kernel
theorem dX10_fits_2 : decode cX10_fits 2 = .ok (.aload_n 0, 1) := by decide +kernel
theorem dX10_fits_3 : decode cX10_fits 3 = .ok (.getfield 62, 3) := by decide +kernel
theorem dX10_fits_6 : decode cX10_fits 6 = .ok (.invokevirtual 180, 3) := by decide +kernel
theorem dX10_fits_9 : decode cX10_fits 9 = .ok (.istore_n 2, 1) := by decide +kernel
theorem dX10_fits_10 : decode cX10_fits 10 = .ok (.iload_n 2, 1) := by decide +kernel
theorem dX10_fits_11 : decode cX10_fits 11 = .ok (.ifCond .ge 9, 3) := by decide +kernel
theorem dX10_fits_14 : decode cX10_fits 14 = .ok (.aload_n 0, 1) := by decide +kernel
theorem dX10_fits_15 : decode cX10_fits 15 = .ok (.iconst (-1), 1) := by decide +kernel
theorem dX10_fits_16 : decode cX10_fits 16 = .ok (.invokevirtual 103, 3) := by decide +kernel
theorem dX10_fits_19 : decode cX10_fits 19 = .ok (.ireturn, 1) := by decide +kernel
theorem dX10_fits_20 : decode cX10_fits 20 = .ok (.aload_n 0, 1) := by decide +kernel
theorem dX10_fits_21 : decode cX10_fits 21 = .ok (.aload_n 0, 1) := by decide +kernel
theorem dX10_fits_22 : decode cX10_fits 22 = .ok (.getfield 121, 3) := by decide +kernel
theorem dX10_fits_25 : decode cX10_fits 25 = .ok (.invokevirtual 172, 3) := by decide +kernel
theorem dX10_fits_28 : decode cX10_fits 28 = .ok (.iconst 0, 1) := by decide +kernel
theorem dX10_fits_29 : decode cX10_fits 29 = .ok (.istore_n 3, 1) := by decide +kernel
theorem dX10_fits_30 : decode cX10_fits 30 = .ok (.iconst 0, 1) := by decide +kernel
theorem dX10_fits_31 : decode cX10_fits 31 = .ok (.istore 4, 2) := by decide +kernel
theorem dX10_fits_33 : decode cX10_fits 33 = .ok (.iload 4, 2) := by decide +kernel
theorem dX10_fits_35 : decode cX10_fits 35 = .ok (.iload_n 2, 1) := by decide +kernel
theorem dX10_fits_36 : decode cX10_fits 36 = .ok (.if_icmp .ge 69, 3) := by decide +kernel
theorem dX10_fits_39 : decode cX10_fits 39 = .ok (.iconst 1, 1) := by decide +kernel
theorem dX10_fits_40 : decode cX10_fits 40 = .ok (.istore 5, 2) := by decide +kernel
theorem dX10_fits_42 : decode cX10_fits 42 = .ok (.iconst 0, 1) := by decide +kernel
theorem dX10_fits_43 : decode cX10_fits 43 = .ok (.istore 6, 2) := by decide +kernel
theorem dX10_fits_45 : decode cX10_fits 45 = .ok (.iload 6, 2) := by decide +kernel
theorem dX10_fits_47 : decode cX10_fits 47 = .ok (.aload_n 0, 1) := by decide +kernel
theorem dX10_fits_48 : decode cX10_fits 48 = .ok (.getfield 110, 3) := by decide +kernel
theorem dX10_fits_51 : decode cX10_fits 51 = .ok (.if_icmp .ge 32, 3) := by decide +kernel
theorem dX10_fits_54 : decode cX10_fits 54 = .ok (.iload 5, 2) := by decide +kernel
theorem dX10_fits_56 : decode cX10_fits 56 = .ok (.ifCond .eq 18, 3) := by decide +kernel
theorem dX10_fits_59 : decode cX10_fits 59 = .ok (.aload_n 0, 1) := by decide +kernel
theorem dX10_fits_60 : decode cX10_fits 60 = .ok (.iload 4, 2) := by decide +kernel
theorem dX10_fits_62 : decode cX10_fits 62 = .ok (.iload 6, 2) := by decide +kernel
theorem dX10_fits_64 : decode cX10_fits 64 = .ok (.invokevirtual 248, 3) := by decide +kernel
theorem dX10_fits_67 : decode cX10_fits 67 = .ok (.ifCond .eq 7, 3) := by decide +kernel
theorem dX10_fits_70 : decode cX10_fits 70 = .ok (.iconst 1, 1) := by decide +kernel
theorem dX10_fits_71 : decode cX10_fits 71 = .ok (.goto 4, 3) := by decide +kernel
theorem dX10_fits_74 : decode cX10_fits 74 = .ok (.iconst 0, 1) := by decide +kernel
theorem dX10_fits_75 : decode cX10_fits 75 = .ok (.istore 5, 2) := by decide +kernel
theorem dX10_fits_77 : decode cX10_fits 77 = .ok (.iinc 6 1, 3) := by decide +kernel
theorem dX10_fits_80 : decode cX10_fits 80 = .ok (.goto (-35), 3) := by decide +kernel
theorem dX10_fits_83 : decode cX10_fits 83 = .ok (.iload_n 3, 1) := by decide +kernel
theorem dX10_fits_84 : decode cX10_fits 84 = .ok (.iload 5, 2) := by decide +kernel
theorem dX10_fits_86 : decode cX10_fits 86 = .ok (.ifCond .eq 10, 3) := by decide +kernel
theorem dX10_fits_89 : decode cX10_fits 89 = .ok (.iconst 1, 1) := by decide +kernel
theorem dX10_fits_90 : decode cX10_fits 90 = .ok (.iload 4, 2) := by decide +kernel
theorem dX10_fits_92 : decode cX10_fits 92 = .ok (.ishl, 1) := by decide +kernel
theorem dX10_fits_93 : decode cX10_fits 93 = .ok (.goto 4, 3) := by decide +kernel
theorem dX10_fits_96 : decode cX10_fits 96 = .ok (.iconst 0, 1) := by decide +kernel
theorem dX10_fits_97 : decode cX10_fits 97 = .ok (.ior, 1) := by decide +kernel
theorem dX10_fits_98 : decode cX10_fits 98 = .ok (.istore_n 3, 1) := by decide +kernel
theorem dX10_fits_99 : decode cX10_fits 99 = .ok (.iinc 4 1, 3) := by decide +kernel
theorem dX10_fits_102 : decode cX10_fits 102 = .ok (.goto (-69), 3) := by decide +kernel
theorem dX10_fits_105 : decode cX10_fits 105 = .ok (.iload_n 3, 1) := by decide +kernel
theorem dX10_fits_106 : decode cX10_fits 106 = .ok (.ireturn, 1) := by decide +kernel
theorem dX10_gone_0 : decode cX10_gone 0 = .ok (.aload_n 0, 1) := by decide +kernel
theorem dX10_gone_1 : decode cX10_gone 1 = .ok (.getfield 110, 3) := by decide +kernel
theorem dX10_gone_4 : decode cX10_gone 4 = .ok (.istore_n 1, 1) := by decide +kernel
theorem dX10_gone_5 : decode cX10_gone 5 = .ok (.aload_n 0, 1) := by decide +kernel
theorem dX10_gone_6 : decode cX10_gone 6 = .ok (.iconst 0, 1) := by decide +kernel
theorem dX10_gone_7 : decode cX10_gone 7 = .ok (.putfield 110, 3) := by decide +kernel
theorem dX10_gone_10 : decode cX10_gone 10 = .ok (.iload_n 1, 1) := by decide +kernel
theorem dX10_gone_11 : decode cX10_gone 11 = .ok (.ireturn, 1) := by decide +kernel
theorem dX10_coarsestOn_0 : decode cX10_coarsestOn 0 = .ok (.aload_n 0, 1) := by decide +kernel
theorem dX10_coarsestOn_1 : decode cX10_coarsestOn 1 = .ok (.iload_n 1, 1) := by decide +kernel
theorem dX10_coarsestOn_2 : decode cX10_coarsestOn 2 = .ok (.invokevirtual 172, 3) := by decide +kernel
theorem dX10_coarsestOn_5 : decode cX10_coarsestOn 5 = .ok (.aload_n 0, 1) := by decide +kernel
theorem dX10_coarsestOn_6 : decode cX10_coarsestOn 6 = .ok (.invokevirtual 231, 3) := by decide +kernel
theorem dX10_coarsestOn_9 : decode cX10_coarsestOn 9 = .ok (.aload_n 0, 1) := by decide +kernel
theorem dX10_coarsestOn_10 : decode cX10_coarsestOn 10 = .ok (.iload_n 2, 1) := by decide +kernel
theorem dX10_coarsestOn_11 : decode cX10_coarsestOn 11 = .ok (.invokevirtual 212, 3) := by decide +kernel
theorem dX10_coarsestOn_14 : decode cX10_coarsestOn 14 = .ok (.ireturn, 1) := by decide +kernel
theorem dX10_shift_0 : decode cX10_shift 0 = .ok (.iload_n 3, 1) := by decide +kernel
theorem dX10_shift_1 : decode cX10_shift 1 = .ok (.invokestatic 202, 3) := by decide +kernel
theorem dX10_shift_4 : decode cX10_shift 4 = .ok (.ifCond .ne 9, 3) := by decide +kernel
theorem dX10_shift_7 : decode cX10_shift 7 = .ok (.aload_n 0, 1) := by decide +kernel
theorem dX10_shift_8 : decode cX10_shift 8 = .ok (.iconst (-1), 1) := by decide +kernel
theorem dX10_shift_9 : decode cX10_shift 9 = .ok (.invokevirtual 103, 3) := by decide +kernel
theorem dX10_shift_12 : decode cX10_shift 12 = .ok (.ireturn, 1) := by decide +kernel
theorem dX10_shift_13 : decode cX10_shift 13 = .ok (.iload_n 1, 1) := by decide +kernel
theorem dX10_shift_14 : decode cX10_shift 14 = .ok (.ifCond .lt 7, 3) := by decide +kernel
theorem dX10_shift_17 : decode cX10_shift 17 = .ok (.iload_n 2, 1) := by decide +kernel
theorem dX10_shift_18 : decode cX10_shift 18 = .ok (.ifCond .ge 8, 3) := by decide +kernel
theorem dX10_shift_21 : decode cX10_shift 21 = .ok (.bipush (-4), 2) := by decide +kernel
theorem dX10_shift_23 : decode cX10_shift 23 = .ok (.goto 21, 3) := by decide +kernel
theorem dX10_shift_26 : decode cX10_shift 26 = .ok (.iload_n 1, 1) := by decide +kernel
theorem dX10_shift_27 : decode cX10_shift 27 = .ok (.bipush 100, 2) := by decide +kernel
theorem dX10_shift_29 : decode cX10_shift 29 = .ok (.if_icmp .gt 9, 3) := by decide +kernel
theorem dX10_shift_32 : decode cX10_shift 32 = .ok (.iload_n 2, 1) := by decide +kernel
theorem dX10_shift_33 : decode cX10_shift 33 = .ok (.bipush 100, 2) := by decide +kernel
theorem dX10_shift_35 : decode cX10_shift 35 = .ok (.if_icmp .le 8, 3) := by decide +kernel
theorem dX10_shift_38 : decode cX10_shift 38 = .ok (.bipush (-6), 2) := by decide +kernel
theorem dX10_shift_40 : decode cX10_shift 40 = .ok (.goto 4, 3) := by decide +kernel
theorem dX10_shift_43 : decode cX10_shift 43 = .ok (.iconst 0, 1) := by decide +kernel
theorem dX10_shift_44 : decode cX10_shift 44 = .ok (.istore 4, 2) := by decide +kernel
theorem dX10_shift_46 : decode cX10_shift 46 = .ok (.iload 4, 2) := by decide +kernel
theorem dX10_shift_48 : decode cX10_shift 48 = .ok (.ifCond .eq 10, 3) := by decide +kernel
theorem dX10_shift_51 : decode cX10_shift 51 = .ok (.aload_n 0, 1) := by decide +kernel
theorem dX10_shift_52 : decode cX10_shift 52 = .ok (.iload 4, 2) := by decide +kernel
theorem dX10_shift_54 : decode cX10_shift 54 = .ok (.invokevirtual 103, 3) := by decide +kernel
theorem dX10_shift_57 : decode cX10_shift 57 = .ok (.ireturn, 1) := by decide +kernel
theorem dX10_shift_58 : decode cX10_shift 58 = .ok (.aload_n 0, 1) := by decide +kernel
theorem dX10_shift_59 : decode cX10_shift 59 = .ok (.iload_n 1, 1) := by decide +kernel
theorem dX10_shift_60 : decode cX10_shift 60 = .ok (.iload_n 3, 1) := by decide +kernel
theorem dX10_shift_61 : decode cX10_shift 61 = .ok (.invokevirtual 252, 3) := by decide +kernel
theorem dX10_shift_64 : decode cX10_shift 64 = .ok (.istore 5, 2) := by decide +kernel
theorem dX10_shift_66 : decode cX10_shift 66 = .ok (.aload_n 0, 1) := by decide +kernel
theorem dX10_shift_67 : decode cX10_shift 67 = .ok (.iload_n 2, 1) := by decide +kernel
theorem dX10_shift_68 : decode cX10_shift 68 = .ok (.iload_n 3, 1) := by decide +kernel
theorem dX10_shift_69 : decode cX10_shift 69 = .ok (.invokevirtual 252, 3) := by decide +kernel
theorem dX10_shift_72 : decode cX10_shift 72 = .ok (.istore 6, 2) := by decide +kernel
theorem dX10_shift_74 : decode cX10_shift 74 = .ok (.aload_n 0, 1) := by decide +kernel
theorem dX10_shift_75 : decode cX10_shift 75 = .ok (.iload 5, 2) := by decide +kernel
theorem dX10_shift_77 : decode cX10_shift 77 = .ok (.aload_n 0, 1) := by decide +kernel
theorem dX10_shift_78 : decode cX10_shift 78 = .ok (.getfield 62, 3) := by decide +kernel
theorem dX10_shift_81 : decode cX10_shift 81 = .ok (.invokevirtual 180, 3) := by decide +kernel
theorem dX10_shift_84 : decode cX10_shift 84 = .ok (.pop, 1) := by decide +kernel
theorem dX10_shift_85 : decode cX10_shift 85 = .ok (.aload_n 0, 1) := by decide +kernel
theorem dX10_shift_86 : decode cX10_shift 86 = .ok (.iload 6, 2) := by decide +kernel
theorem dX10_shift_88 : decode cX10_shift 88 = .ok (.aload_n 0, 1) := by decide +kernel
theorem dX10_shift_89 : decode cX10_shift 89 = .ok (.getfield 65, 3) := by decide +kernel
theorem dX10_shift_92 : decode cX10_shift 92 = .ok (.invokevirtual 180, 3) := by decide +kernel
theorem dX10_shift_95 : decode cX10_shift 95 = .ok (.pop, 1) := by decide +kernel
theorem dX10_shift_96 : decode cX10_shift 96 = .ok (.iconst 0, 1) := by decide +kernel
theorem dX10_shift_97 : decode cX10_shift 97 = .ok (.istore 7, 2) := by decide +kernel
theorem dX10_shift_99 : decode cX10_shift 99 = .ok (.aload_n 0, 1) := by decide +kernel
theorem dX10_shift_100 : decode cX10_shift 100 = .ok (.invokevirtual 215, 3) := by decide +kernel
theorem dX10_shift_103 : decode cX10_shift 103 = .ok (.iconst 1, 1) := by decide +kernel
theorem dX10_shift_104 : decode cX10_shift 104 = .ok (.istore 8, 2) := by decide +kernel
theorem dX10_shift_106 : decode cX10_shift 106 = .ok (.iload 8, 2) := by decide +kernel
theorem dX10_shift_108 : decode cX10_shift 108 = .ok (.ifCond .eq 85, 3) := by decide +kernel
theorem dX10_shift_111 : decode cX10_shift 111 = .ok (.iconst 0, 1) := by decide +kernel
theorem dX10_shift_112 : decode cX10_shift 112 = .ok (.istore 9, 2) := by decide +kernel
theorem dX10_shift_114 : decode cX10_shift 114 = .ok (.iconst 0, 1) := by decide +kernel
theorem dX10_shift_115 : decode cX10_shift 115 = .ok (.istore 10, 2) := by decide +kernel
theorem dX10_shift_117 : decode cX10_shift 117 = .ok (.iload 10, 2) := by decide +kernel
theorem dX10_shift_119 : decode cX10_shift 119 = .ok (.aload_n 0, 1) := by decide +kernel
theorem dX10_shift_120 : decode cX10_shift 120 = .ok (.getfield 34, 3) := by decide +kernel
theorem dX10_shift_123 : decode cX10_shift 123 = .ok (.if_icmp .ge 41, 3) := by decide +kernel
theorem dX10_shift_126 : decode cX10_shift 126 = .ok (.iload 9, 2) := by decide +kernel
theorem dX10_shift_128 : decode cX10_shift 128 = .ok (.aload_n 0, 1) := by decide +kernel
theorem dX10_shift_129 : decode cX10_shift 129 = .ok (.getfield 74, 3) := by decide +kernel
theorem dX10_shift_132 : decode cX10_shift 132 = .ok (.aload_n 0, 1) := by decide +kernel
theorem dX10_shift_133 : decode cX10_shift 133 = .ok (.getfield 62, 3) := by decide +kernel
theorem dX10_shift_136 : decode cX10_shift 136 = .ok (.iload 10, 2) := by decide +kernel
theorem dX10_shift_138 : decode cX10_shift 138 = .ok (.iaload, 1) := by decide +kernel
theorem dX10_shift_139 : decode cX10_shift 139 = .ok (.iaload, 1) := by decide +kernel
theorem dX10_shift_140 : decode cX10_shift 140 = .ok (.aload_n 0, 1) := by decide +kernel
theorem dX10_shift_141 : decode cX10_shift 141 = .ok (.getfield 65, 3) := by decide +kernel
theorem dX10_shift_144 : decode cX10_shift 144 = .ok (.iload 10, 2) := by decide +kernel
theorem dX10_shift_146 : decode cX10_shift 146 = .ok (.iaload, 1) := by decide +kernel
theorem dX10_shift_147 : decode cX10_shift 147 = .ok (.if_icmp .ne 7, 3) := by decide +kernel
theorem dX10_shift_150 : decode cX10_shift 150 = .ok (.iconst 1, 1) := by decide +kernel
theorem dX10_shift_151 : decode cX10_shift 151 = .ok (.goto 4, 3) := by decide +kernel
theorem dX10_shift_154 : decode cX10_shift 154 = .ok (.iconst 0, 1) := by decide +kernel
theorem dX10_shift_155 : decode cX10_shift 155 = .ok (.iadd, 1) := by decide +kernel
theorem dX10_shift_156 : decode cX10_shift 156 = .ok (.istore 9, 2) := by decide +kernel
theorem dX10_shift_158 : decode cX10_shift 158 = .ok (.iinc 10 1, 3) := by decide +kernel
theorem dX10_shift_161 : decode cX10_shift 161 = .ok (.goto (-44), 3) := by decide +kernel
theorem dX10_shift_164 : decode cX10_shift 164 = .ok (.iload 9, 2) := by decide +kernel
theorem dX10_shift_166 : decode cX10_shift 166 = .ok (.iload 7, 2) := by decide +kernel
theorem dX10_shift_168 : decode cX10_shift 168 = .ok (.if_icmp .le 8, 3) := by decide +kernel
theorem dX10_shift_171 : decode cX10_shift 171 = .ok (.iload 9, 2) := by decide +kernel
theorem dX10_shift_173 : decode cX10_shift 173 = .ok (.goto 5, 3) := by decide +kernel
theorem dX10_shift_176 : decode cX10_shift 176 = .ok (.iload 7, 2) := by decide +kernel
theorem dX10_shift_178 : decode cX10_shift 178 = .ok (.istore 7, 2) := by decide +kernel
theorem dX10_shift_180 : decode cX10_shift 180 = .ok (.aload_n 0, 1) := by decide +kernel
theorem dX10_shift_181 : decode cX10_shift 181 = .ok (.aload_n 0, 1) := by decide +kernel
theorem dX10_shift_182 : decode cX10_shift 182 = .ok (.getfield 34, 3) := by decide +kernel
theorem dX10_shift_185 : decode cX10_shift 185 = .ok (.invokevirtual 221, 3) := by decide +kernel
theorem dX10_shift_188 : decode cX10_shift 188 = .ok (.istore 8, 2) := by decide +kernel
theorem dX10_shift_190 : decode cX10_shift 190 = .ok (.goto (-84), 3) := by decide +kernel
theorem dX10_shift_193 : decode cX10_shift 193 = .ok (.aload_n 0, 1) := by decide +kernel
theorem dX10_shift_194 : decode cX10_shift 194 = .ok (.getfield 34, 3) := by decide +kernel
theorem dX10_shift_197 : decode cX10_shift 197 = .ok (.iload 7, 2) := by decide +kernel
theorem dX10_shift_199 : decode cX10_shift 199 = .ok (.isub, 1) := by decide +kernel
theorem dX10_shift_200 : decode cX10_shift 200 = .ok (.ireturn, 1) := by decide +kernel
theorem dX10_stays_0 : decode cX10_stays 0 = .ok (.iload_n 2, 1) := by decide +kernel
theorem dX10_stays_1 : decode cX10_stays 1 = .ok (.invokestatic 202, 3) := by decide +kernel
theorem dX10_stays_4 : decode cX10_stays 4 = .ok (.ifCond .ne 9, 3) := by decide +kernel
theorem dX10_stays_7 : decode cX10_stays 7 = .ok (.aload_n 0, 1) := by decide +kernel
theorem dX10_stays_8 : decode cX10_stays 8 = .ok (.iconst (-1), 1) := by decide +kernel
theorem dX10_stays_9 : decode cX10_stays 9 = .ok (.invokevirtual 103, 3) := by decide +kernel
theorem dX10_stays_12 : decode cX10_stays 12 = .ok (.ireturn, 1) := by decide +kernel
theorem dX10_stays_13 : decode cX10_stays 13 = .ok (.iload_n 1, 1) := by decide +kernel
theorem dX10_stays_14 : decode cX10_stays 14 = .ok (.i2l, 1) := by decide +kernel
theorem dX10_stays_15 : decode cX10_stays 15 = .ok (.lconst 0, 1) := by decide +kernel
theorem dX10_stays_16 : decode cX10_stays 16 = .ok (.ldc2_w 119, 3) := by decide +kernel
theorem dX10_stays_19 : decode cX10_stays 19 = .ok (.invokestatic 99, 3) := by decide +kernel
theorem dX10_stays_22 : decode cX10_stays 22 = .ok (.istore_n 3, 1) := by decide +kernel
theorem dX10_stays_23 : decode cX10_stays 23 = .ok (.iload_n 3, 1) := by decide +kernel
theorem dX10_stays_24 : decode cX10_stays 24 = .ok (.ifCond .eq 9, 3) := by decide +kernel
theorem dX10_stays_27 : decode cX10_stays 27 = .ok (.aload_n 0, 1) := by decide +kernel
theorem dX10_stays_28 : decode cX10_stays 28 = .ok (.iload_n 3, 1) := by decide +kernel
theorem dX10_stays_29 : decode cX10_stays 29 = .ok (.invokevirtual 103, 3) := by decide +kernel
theorem dX10_stays_32 : decode cX10_stays 32 = .ok (.ireturn, 1) := by decide +kernel
theorem dX10_stays_33 : decode cX10_stays 33 = .ok (.aload_n 0, 1) := by decide +kernel
theorem dX10_stays_34 : decode cX10_stays 34 = .ok (.iload_n 1, 1) := by decide +kernel
theorem dX10_stays_35 : decode cX10_stays 35 = .ok (.iload_n 2, 1) := by decide +kernel
theorem dX10_stays_36 : decode cX10_stays 36 = .ok (.invokevirtual 252, 3) := by decide +kernel
theorem dX10_stays_39 : decode cX10_stays 39 = .ok (.istore 4, 2) := by decide +kernel
theorem dX10_stays_41 : decode cX10_stays 41 = .ok (.iconst 1, 1) := by decide +kernel
theorem dX10_stays_42 : decode cX10_stays 42 = .ok (.istore 5, 2) := by decide +kernel
theorem dX10_stays_44 : decode cX10_stays 44 = .ok (.iload_n 1, 1) := by decide +kernel
theorem dX10_stays_45 : decode cX10_stays 45 = .ok (.iload 5, 2) := by decide +kernel
theorem dX10_stays_47 : decode cX10_stays 47 = .ok (.iadd, 1) := by decide +kernel
theorem dX10_stays_48 : decode cX10_stays 48 = .ok (.bipush 100, 2) := by decide +kernel
theorem dX10_stays_50 : decode cX10_stays 50 = .ok (.if_icmp .gt 23, 3) := by decide +kernel
theorem dX10_stays_53 : decode cX10_stays 53 = .ok (.aload_n 0, 1) := by decide +kernel
theorem dX10_stays_54 : decode cX10_stays 54 = .ok (.iload_n 1, 1) := by decide +kernel
theorem dX10_stays_55 : decode cX10_stays 55 = .ok (.iload 5, 2) := by decide +kernel
theorem dX10_stays_57 : decode cX10_stays 57 = .ok (.iadd, 1) := by decide +kernel
theorem dX10_stays_58 : decode cX10_stays 58 = .ok (.iload_n 2, 1) := by decide +kernel
theorem dX10_stays_59 : decode cX10_stays 59 = .ok (.invokevirtual 252, 3) := by decide +kernel
theorem dX10_stays_62 : decode cX10_stays 62 = .ok (.iload 4, 2) := by decide +kernel
theorem dX10_stays_64 : decode cX10_stays 64 = .ok (.if_icmp .ne 9, 3) := by decide +kernel
theorem dX10_stays_67 : decode cX10_stays 67 = .ok (.iinc 5 1, 3) := by decide +kernel
theorem dX10_stays_70 : decode cX10_stays 70 = .ok (.goto (-26), 3) := by decide +kernel
theorem dX10_stays_73 : decode cX10_stays 73 = .ok (.iload 5, 2) := by decide +kernel
theorem dX10_stays_75 : decode cX10_stays 75 = .ok (.ireturn, 1) := by decide +kernel
theorem dX10_count_0 : decode cX10_count 0 = .ok (.iload_n 1, 1) := by decide +kernel
theorem dX10_count_1 : decode cX10_count 1 = .ok (.i2l, 1) := by decide +kernel
theorem dX10_count_2 : decode cX10_count 2 = .ok (.ldc2_w 256, 3) := by decide +kernel
theorem dX10_count_5 : decode cX10_count 5 = .ok (.ldc2_w 258, 3) := by decide +kernel
theorem dX10_count_8 : decode cX10_count 8 = .ok (.invokestatic 138, 3) := by decide +kernel
theorem dX10_count_11 : decode cX10_count 11 = .ok (.ifCond .eq 13, 3) := by decide +kernel
theorem dX10_count_14 : decode cX10_count 14 = .ok (.aload_n 0, 1) := by decide +kernel
theorem dX10_count_15 : decode cX10_count 15 = .ok (.getfield 7, 3) := by decide +kernel
theorem dX10_count_18 : decode cX10_count 18 = .ok (.iload_n 1, 1) := by decide +kernel
theorem dX10_count_19 : decode cX10_count 19 = .ok (.bipush 10, 2) := by decide +kernel
theorem dX10_count_21 : decode cX10_count 21 = .ok (.isub, 1) := by decide +kernel
theorem dX10_count_22 : decode cX10_count 22 = .ok (.iaload, 1) := by decide +kernel
theorem dX10_count_23 : decode cX10_count 23 = .ok (.ireturn, 1) := by decide +kernel
theorem dX10_count_24 : decode cX10_count 24 = .ok (.iconst 0, 1) := by decide +kernel
theorem dX10_count_25 : decode cX10_count 25 = .ok (.istore_n 2, 1) := by decide +kernel
theorem dX10_count_26 : decode cX10_count 26 = .ok (.iload_n 1, 1) := by decide +kernel
theorem dX10_count_27 : decode cX10_count 27 = .ok (.tableswitch 104 0 5 #[37, 42, 47, 89, 94, 99], 37) := by decide +kernel
theorem dX10_count_64 : decode cX10_count 64 = .ok (.aload_n 0, 1) := by decide +kernel
theorem dX10_count_65 : decode cX10_count 65 = .ok (.getfield 34, 3) := by decide +kernel
theorem dX10_count_68 : decode cX10_count 68 = .ok (.ireturn, 1) := by decide +kernel
theorem dX10_count_69 : decode cX10_count 69 = .ok (.aload_n 0, 1) := by decide +kernel
theorem dX10_count_70 : decode cX10_count 70 = .ok (.getfield 107, 3) := by decide +kernel
theorem dX10_count_73 : decode cX10_count 73 = .ok (.ireturn, 1) := by decide +kernel
theorem dX10_count_74 : decode cX10_count 74 = .ok (.aload_n 0, 1) := by decide +kernel
theorem dX10_count_75 : decode cX10_count 75 = .ok (.aload_n 0, 1) := by decide +kernel
theorem dX10_count_76 : decode cX10_count 76 = .ok (.getfield 121, 3) := by decide +kernel
theorem dX10_count_79 : decode cX10_count 79 = .ok (.invokevirtual 172, 3) := by decide +kernel
theorem dX10_count_82 : decode cX10_count 82 = .ok (.iconst 0, 1) := by decide +kernel
theorem dX10_count_83 : decode cX10_count 83 = .ok (.istore_n 3, 1) := by decide +kernel
theorem dX10_count_84 : decode cX10_count 84 = .ok (.iload_n 3, 1) := by decide +kernel
theorem dX10_count_85 : decode cX10_count 85 = .ok (.sipush 147, 3) := by decide +kernel
theorem dX10_count_88 : decode cX10_count 88 = .ok (.if_icmp .ge 26, 3) := by decide +kernel
theorem dX10_count_91 : decode cX10_count 91 = .ok (.iload_n 2, 1) := by decide +kernel
theorem dX10_count_92 : decode cX10_count 92 = .ok (.aload_n 0, 1) := by decide +kernel
theorem dX10_count_93 : decode cX10_count 93 = .ok (.getfield 59, 3) := by decide +kernel
theorem dX10_count_96 : decode cX10_count 96 = .ok (.iload_n 3, 1) := by decide +kernel
theorem dX10_count_97 : decode cX10_count 97 = .ok (.iaload, 1) := by decide +kernel
theorem dX10_count_98 : decode cX10_count 98 = .ok (.ifCond .le 7, 3) := by decide +kernel
theorem dX10_count_101 : decode cX10_count 101 = .ok (.iconst 1, 1) := by decide +kernel
theorem dX10_count_102 : decode cX10_count 102 = .ok (.goto 4, 3) := by decide +kernel
theorem dX10_count_105 : decode cX10_count 105 = .ok (.iconst 0, 1) := by decide +kernel
theorem dX10_count_106 : decode cX10_count 106 = .ok (.iadd, 1) := by decide +kernel
theorem dX10_count_107 : decode cX10_count 107 = .ok (.istore_n 2, 1) := by decide +kernel
theorem dX10_count_108 : decode cX10_count 108 = .ok (.iinc 3 1, 3) := by decide +kernel
theorem dX10_count_111 : decode cX10_count 111 = .ok (.goto (-27), 3) := by decide +kernel
theorem dX10_count_114 : decode cX10_count 114 = .ok (.iload_n 2, 1) := by decide +kernel
theorem dX10_count_115 : decode cX10_count 115 = .ok (.ireturn, 1) := by decide +kernel
theorem dX10_count_116 : decode cX10_count 116 = .ok (.aload_n 0, 1) := by decide +kernel
theorem dX10_count_117 : decode cX10_count 117 = .ok (.getfield 121, 3) := by decide +kernel
theorem dX10_count_120 : decode cX10_count 120 = .ok (.ireturn, 1) := by decide +kernel
theorem dX10_count_121 : decode cX10_count 121 = .ok (.aload_n 0, 1) := by decide +kernel
theorem dX10_count_122 : decode cX10_count 122 = .ok (.getfield 126, 3) := by decide +kernel
theorem dX10_count_125 : decode cX10_count 125 = .ok (.ireturn, 1) := by decide +kernel
theorem dX10_count_126 : decode cX10_count 126 = .ok (.aload_n 0, 1) := by decide +kernel
theorem dX10_count_127 : decode cX10_count 127 = .ok (.getfield 110, 3) := by decide +kernel
theorem dX10_count_130 : decode cX10_count 130 = .ok (.ireturn, 1) := by decide +kernel
theorem dX10_count_131 : decode cX10_count 131 = .ok (.bipush (-9), 2) := by decide +kernel
theorem dX10_count_133 : decode cX10_count 133 = .ok (.ireturn, 1) := by decide +kernel
