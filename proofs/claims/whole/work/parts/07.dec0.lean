theorem dX9_at_0 : decode cX9_at 0 = .ok (.aload_n 0, 1) := by decide +kernel
theorem dX9_at_1 : decode cX9_at 1 = .ok (.ifnull 19, 3) := by decide +kernel
theorem dX9_at_4 : decode cX9_at 4 = .ok (.iload_n 1, 1) := by decide +kernel
theorem dX9_at_5 : decode cX9_at 5 = .ok (.ifCond .lt 15, 3) := by decide +kernel
theorem dX9_at_8 : decode cX9_at 8 = .ok (.iload_n 1, 1) := by decide +kernel
theorem dX9_at_9 : decode cX9_at 9 = .ok (.aload_n 0, 1) := by decide +kernel
theorem dX9_at_10 : decode cX9_at 10 = .ok (.arraylength, 1) := by decide +kernel
theorem dX9_at_11 : decode cX9_at 11 = .ok (.if_icmp .ge 9, 3) := by decide +kernel
theorem dX9_at_14 : decode cX9_at 14 = .ok (.aload_n 0, 1) := by decide +kernel
theorem dX9_at_15 : decode cX9_at 15 = .ok (.iload_n 1, 1) := by decide +kernel
theorem dX9_at_16 : decode cX9_at 16 = .ok (.iaload, 1) := by decide +kernel
theorem dX9_at_17 : decode cX9_at 17 = .ok (.goto 4, 3) := by decide +kernel
theorem dX9_at_20 : decode cX9_at 20 = .ok (.iconst 0, 1) := by decide +kernel
theorem dX9_at_21 : decode cX9_at 21 = .ok (.ireturn, 1) := by decide +kernel
theorem dX9_put_0 : decode cX9_put 0 = .ok (.aload_n 0, 1) := by decide +kernel
theorem dX9_put_1 : decode cX9_put 1 = .ok (.ifnull 17, 3) := by decide +kernel
theorem dX9_put_4 : decode cX9_put 4 = .ok (.iload_n 1, 1) := by decide +kernel
theorem dX9_put_5 : decode cX9_put 5 = .ok (.ifCond .lt 13, 3) := by decide +kernel
theorem dX9_put_8 : decode cX9_put 8 = .ok (.iload_n 1, 1) := by decide +kernel
theorem dX9_put_9 : decode cX9_put 9 = .ok (.aload_n 0, 1) := by decide +kernel
theorem dX9_put_10 : decode cX9_put 10 = .ok (.arraylength, 1) := by decide +kernel
theorem dX9_put_11 : decode cX9_put 11 = .ok (.if_icmp .ge 7, 3) := by decide +kernel
theorem dX9_put_14 : decode cX9_put 14 = .ok (.aload_n 0, 1) := by decide +kernel
theorem dX9_put_15 : decode cX9_put 15 = .ok (.iload_n 1, 1) := by decide +kernel
theorem dX9_put_16 : decode cX9_put 16 = .ok (.iload_n 2, 1) := by decide +kernel
theorem dX9_put_17 : decode cX9_put 17 = .ok (.iastore, 1) := by decide +kernel
theorem dX9_put_18 : decode cX9_put 18 = .ok (.return_, 1) := by decide +kernel
theorem dX9_refuse_0 : decode cX9_refuse 0 = .ok (.aload_n 0, 1) := by decide +kernel
theorem dX9_refuse_1 : decode cX9_refuse 1 = .ok (.getfield 78, 3) := by decide +kernel
theorem dX9_refuse_4 : decode cX9_refuse 4 = .ok (.iload_n 1, 1) := by decide +kernel
theorem dX9_refuse_5 : decode cX9_refuse 5 = .ok (.ineg, 1) := by decide +kernel
theorem dX9_refuse_6 : decode cX9_refuse 6 = .ok (.aload_n 0, 1) := by decide +kernel
theorem dX9_refuse_7 : decode cX9_refuse 7 = .ok (.getfield 78, 3) := by decide +kernel
theorem dX9_refuse_10 : decode cX9_refuse 10 = .ok (.iload_n 1, 1) := by decide +kernel
theorem dX9_refuse_11 : decode cX9_refuse 11 = .ok (.ineg, 1) := by decide +kernel
theorem dX9_refuse_12 : decode cX9_refuse 12 = .ok (.invokestatic 105, 3) := by decide +kernel
theorem dX9_refuse_15 : decode cX9_refuse 15 = .ok (.iconst 1, 1) := by decide +kernel
theorem dX9_refuse_16 : decode cX9_refuse 16 = .ok (.iadd, 1) := by decide +kernel
theorem dX9_refuse_17 : decode cX9_refuse 17 = .ok (.invokestatic 109, 3) := by decide +kernel
theorem dX9_refuse_20 : decode cX9_refuse 20 = .ok (.iload_n 1, 1) := by decide +kernel
theorem dX9_refuse_21 : decode cX9_refuse 21 = .ok (.ireturn, 1) := by decide +kernel
theorem dX6_drain_0 : decode cX6_drain 0 = .ok (.aload_n 0, 1) := by decide +kernel
theorem dX6_drain_1 : decode cX6_drain 1 = .ok (.iconst 0, 1) := by decide +kernel
theorem dX6_drain_2 : decode cX6_drain 2 = .ok (.putfield 15, 3) := by decide +kernel
theorem dX6_drain_5 : decode cX6_drain 5 = .ok (.return_, 1) := by decide +kernel
theorem dX9_wipe_0 : decode cX9_wipe 0 = .ok (.aload_n 0, 1) := by decide +kernel
theorem dX9_wipe_1 : decode cX9_wipe 1 = .ok (.ifnonnull 4, 3) := by decide +kernel
theorem dX9_wipe_4 : decode cX9_wipe 4 = .ok (.return_, 1) := by decide +kernel
theorem dX9_wipe_5 : decode cX9_wipe 5 = .ok (.iconst 0, 1) := by decide +kernel
theorem dX9_wipe_6 : decode cX9_wipe 6 = .ok (.istore_n 1, 1) := by decide +kernel
theorem dX9_wipe_7 : decode cX9_wipe 7 = .ok (.iload_n 1, 1) := by decide +kernel
theorem dX9_wipe_8 : decode cX9_wipe 8 = .ok (.aload_n 0, 1) := by decide +kernel
theorem dX9_wipe_9 : decode cX9_wipe 9 = .ok (.arraylength, 1) := by decide +kernel
theorem dX9_wipe_10 : decode cX9_wipe 10 = .ok (.if_icmp .ge 13, 3) := by decide +kernel
theorem dX9_wipe_13 : decode cX9_wipe 13 = .ok (.aload_n 0, 1) := by decide +kernel
theorem dX9_wipe_14 : decode cX9_wipe 14 = .ok (.iload_n 1, 1) := by decide +kernel
theorem dX9_wipe_15 : decode cX9_wipe 15 = .ok (.iconst 0, 1) := by decide +kernel
theorem dX9_wipe_16 : decode cX9_wipe 16 = .ok (.iastore, 1) := by decide +kernel
theorem dX9_wipe_17 : decode cX9_wipe 17 = .ok (.iinc 1 1, 3) := by decide +kernel
theorem dX9_wipe_20 : decode cX9_wipe 20 = .ok (.goto (-13), 3) := by decide +kernel
theorem dX9_wipe_23 : decode cX9_wipe 23 = .ok (.return_, 1) := by decide +kernel
theorem dX7_settle_0 : decode cX7_settle 0 = .ok (.aload_n 0, 1) := by decide +kernel
theorem dX7_settle_1 : decode cX7_settle 1 = .ok (.iload_n 1, 1) := by decide +kernel
theorem dX7_settle_2 : decode cX7_settle 2 = .ok (.putfield 18, 3) := by decide +kernel
theorem dX7_settle_5 : decode cX7_settle 5 = .ok (.aload_n 0, 1) := by decide +kernel
theorem dX7_settle_6 : decode cX7_settle 6 = .ok (.getfield 9, 3) := by decide +kernel
theorem dX7_settle_9 : decode cX7_settle 9 = .ok (.invokestatic 22, 3) := by decide +kernel
theorem dX7_settle_12 : decode cX7_settle 12 = .ok (.return_, 1) := by decide +kernel
theorem dX9_persons_0 : decode cX9_persons 0 = .ok (.iload_n 1, 1) := by decide +kernel
theorem dX9_persons_1 : decode cX9_persons 1 = .ok (.iconst 1, 1) := by decide +kernel
theorem dX9_persons_2 : decode cX9_persons 2 = .ok (.if_icmp .ge 10, 3) := by decide +kernel
theorem dX9_persons_5 : decode cX9_persons 5 = .ok (.aload_n 0, 1) := by decide +kernel
theorem dX9_persons_6 : decode cX9_persons 6 = .ok (.bipush (-4), 2) := by decide +kernel
theorem dX9_persons_8 : decode cX9_persons 8 = .ok (.invokevirtual 86, 3) := by decide +kernel
theorem dX9_persons_11 : decode cX9_persons 11 = .ok (.ireturn, 1) := by decide +kernel
theorem dX9_persons_12 : decode cX9_persons 12 = .ok (.iload_n 1, 1) := by decide +kernel
theorem dX9_persons_13 : decode cX9_persons 13 = .ok (.bipush 7, 2) := by decide +kernel
theorem dX9_persons_15 : decode cX9_persons 15 = .ok (.if_icmp .le 10, 3) := by decide +kernel
theorem dX9_persons_18 : decode cX9_persons 18 = .ok (.aload_n 0, 1) := by decide +kernel
theorem dX9_persons_19 : decode cX9_persons 19 = .ok (.bipush (-6), 2) := by decide +kernel
theorem dX9_persons_21 : decode cX9_persons 21 = .ok (.invokevirtual 86, 3) := by decide +kernel
theorem dX9_persons_24 : decode cX9_persons 24 = .ok (.ireturn, 1) := by decide +kernel
theorem dX9_persons_25 : decode cX9_persons 25 = .ok (.aload_n 0, 1) := by decide +kernel
theorem dX9_persons_26 : decode cX9_persons 26 = .ok (.getfield 12, 3) := by decide +kernel
theorem dX9_persons_29 : decode cX9_persons 29 = .ok (.getfield 90, 3) := by decide +kernel
theorem dX9_persons_32 : decode cX9_persons 32 = .ok (.istore_n 2, 1) := by decide +kernel
theorem dX9_persons_33 : decode cX9_persons 33 = .ok (.aload_n 0, 1) := by decide +kernel
theorem dX9_persons_34 : decode cX9_persons 34 = .ok (.getfield 12, 3) := by decide +kernel
theorem dX9_persons_37 : decode cX9_persons 37 = .ok (.iload_n 1, 1) := by decide +kernel
theorem dX9_persons_38 : decode cX9_persons 38 = .ok (.invokevirtual 82, 3) := by decide +kernel
theorem dX9_persons_41 : decode cX9_persons 41 = .ok (.aload_n 0, 1) := by decide +kernel
theorem dX9_persons_42 : decode cX9_persons 42 = .ok (.getfield 19, 3) := by decide +kernel
theorem dX9_persons_45 : decode cX9_persons 45 = .ok (.invokevirtual 94, 3) := by decide +kernel
theorem dX9_persons_48 : decode cX9_persons 48 = .ok (.aload_n 0, 1) := by decide +kernel
theorem dX9_persons_49 : decode cX9_persons 49 = .ok (.getfield 33, 3) := by decide +kernel
theorem dX9_persons_52 : decode cX9_persons 52 = .ok (.iconst 0, 1) := by decide +kernel
theorem dX9_persons_53 : decode cX9_persons 53 = .ok (.putfield 97, 3) := by decide +kernel
theorem dX9_persons_56 : decode cX9_persons 56 = .ok (.iload_n 2, 1) := by decide +kernel
theorem dX9_persons_57 : decode cX9_persons 57 = .ok (.ireturn, 1) := by decide +kernel
theorem dX7_lives_0 : decode cX7_lives 0 = .ok (.iload_n 1, 1) := by decide +kernel
theorem dX7_lives_1 : decode cX7_lives 1 = .ok (.ifCond .lt 15, 3) := by decide +kernel
theorem dX7_lives_4 : decode cX7_lives 4 = .ok (.iload_n 1, 1) := by decide +kernel
theorem dX7_lives_5 : decode cX7_lives 5 = .ok (.aload_n 0, 1) := by decide +kernel
theorem dX7_lives_6 : decode cX7_lives 6 = .ok (.getfield 18, 3) := by decide +kernel
theorem dX7_lives_9 : decode cX7_lives 9 = .ok (.if_icmp .ge 7, 3) := by decide +kernel
theorem dX7_lives_12 : decode cX7_lives 12 = .ok (.iconst 1, 1) := by decide +kernel
theorem dX7_lives_13 : decode cX7_lives 13 = .ok (.goto 4, 3) := by decide +kernel
theorem dX7_lives_16 : decode cX7_lives 16 = .ok (.iconst 0, 1) := by decide +kernel
theorem dX7_lives_17 : decode cX7_lives 17 = .ok (.ireturn, 1) := by decide +kernel
theorem dX9_mark_0 : decode cX9_mark 0 = .ok (.aload_n 0, 1) := by decide +kernel
theorem dX9_mark_1 : decode cX9_mark 1 = .ok (.getfield 12, 3) := by decide +kernel
theorem dX9_mark_4 : decode cX9_mark 4 = .ok (.iload_n 1, 1) := by decide +kernel
theorem dX9_mark_5 : decode cX9_mark 5 = .ok (.invokevirtual 98, 3) := by decide +kernel
theorem dX9_mark_8 : decode cX9_mark 8 = .ok (.ifCond .ne 9, 3) := by decide +kernel
theorem dX9_mark_11 : decode cX9_mark 11 = .ok (.aload_n 0, 1) := by decide +kernel
theorem dX9_mark_12 : decode cX9_mark 12 = .ok (.iconst (-1), 1) := by decide +kernel
theorem dX9_mark_13 : decode cX9_mark 13 = .ok (.invokevirtual 86, 3) := by decide +kernel
theorem dX9_mark_16 : decode cX9_mark 16 = .ok (.ireturn, 1) := by decide +kernel
theorem dX9_mark_17 : decode cX9_mark 17 = .ok (.iload_n 2, 1) := by decide +kernel
theorem dX9_mark_18 : decode cX9_mark 18 = .ok (.ifCond .ge 10, 3) := by decide +kernel
theorem dX9_mark_21 : decode cX9_mark 21 = .ok (.aload_n 0, 1) := by decide +kernel
theorem dX9_mark_22 : decode cX9_mark 22 = .ok (.bipush (-4), 2) := by decide +kernel
theorem dX9_mark_24 : decode cX9_mark 24 = .ok (.invokevirtual 86, 3) := by decide +kernel
theorem dX9_mark_27 : decode cX9_mark 27 = .ok (.ireturn, 1) := by decide +kernel
theorem dX9_mark_28 : decode cX9_mark 28 = .ok (.iload_n 2, 1) := by decide +kernel
theorem dX9_mark_29 : decode cX9_mark 29 = .ok (.iconst 3, 1) := by decide +kernel
theorem dX9_mark_30 : decode cX9_mark 30 = .ok (.if_icmp .le 10, 3) := by decide +kernel
theorem dX9_mark_33 : decode cX9_mark 33 = .ok (.aload_n 0, 1) := by decide +kernel
theorem dX9_mark_34 : decode cX9_mark 34 = .ok (.bipush (-6), 2) := by decide +kernel
theorem dX9_mark_36 : decode cX9_mark 36 = .ok (.invokevirtual 86, 3) := by decide +kernel
theorem dX9_mark_39 : decode cX9_mark 39 = .ok (.ireturn, 1) := by decide +kernel
theorem dX9_mark_40 : decode cX9_mark 40 = .ok (.aload_n 0, 1) := by decide +kernel
theorem dX9_mark_41 : decode cX9_mark 41 = .ok (.getfield 12, 3) := by decide +kernel
theorem dX9_mark_44 : decode cX9_mark 44 = .ok (.getfield 102, 3) := by decide +kernel
theorem dX9_mark_47 : decode cX9_mark 47 = .ok (.iload_n 1, 1) := by decide +kernel
theorem dX9_mark_48 : decode cX9_mark 48 = .ok (.invokestatic 105, 3) := by decide +kernel
theorem dX9_mark_51 : decode cX9_mark 51 = .ok (.istore_n 3, 1) := by decide +kernel
theorem dX9_mark_52 : decode cX9_mark 52 = .ok (.aload_n 0, 1) := by decide +kernel
theorem dX9_mark_53 : decode cX9_mark 53 = .ok (.getfield 12, 3) := by decide +kernel
theorem dX9_mark_56 : decode cX9_mark 56 = .ok (.getfield 102, 3) := by decide +kernel
theorem dX9_mark_59 : decode cX9_mark 59 = .ok (.iload_n 1, 1) := by decide +kernel
theorem dX9_mark_60 : decode cX9_mark 60 = .ok (.iload_n 2, 1) := by decide +kernel
theorem dX9_mark_61 : decode cX9_mark 61 = .ok (.invokestatic 109, 3) := by decide +kernel
theorem dX9_mark_64 : decode cX9_mark 64 = .ok (.iload_n 3, 1) := by decide +kernel
theorem dX9_mark_65 : decode cX9_mark 65 = .ok (.ireturn, 1) := by decide +kernel
theorem dX9_year_0 : decode cX9_year 0 = .ok (.iload_n 1, 1) := by decide +kernel
theorem dX9_year_1 : decode cX9_year 1 = .ok (.ifCond .ge 10, 3) := by decide +kernel
theorem dX9_year_4 : decode cX9_year 4 = .ok (.aload_n 0, 1) := by decide +kernel
theorem dX9_year_5 : decode cX9_year 5 = .ok (.bipush (-4), 2) := by decide +kernel
theorem dX9_year_7 : decode cX9_year 7 = .ok (.invokevirtual 86, 3) := by decide +kernel
theorem dX9_year_10 : decode cX9_year 10 = .ok (.ireturn, 1) := by decide +kernel
theorem dX9_year_11 : decode cX9_year 11 = .ok (.iload_n 1, 1) := by decide +kernel
theorem dX9_year_12 : decode cX9_year 12 = .ok (.bipush 100, 2) := by decide +kernel
theorem dX9_year_14 : decode cX9_year 14 = .ok (.if_icmp .le 10, 3) := by decide +kernel
theorem dX9_year_17 : decode cX9_year 17 = .ok (.aload_n 0, 1) := by decide +kernel
theorem dX9_year_18 : decode cX9_year 18 = .ok (.bipush (-6), 2) := by decide +kernel
theorem dX9_year_20 : decode cX9_year 20 = .ok (.invokevirtual 86, 3) := by decide +kernel
theorem dX9_year_23 : decode cX9_year 23 = .ok (.ireturn, 1) := by decide +kernel
theorem dX9_year_24 : decode cX9_year 24 = .ok (.aload_n 0, 1) := by decide +kernel
theorem dX9_year_25 : decode cX9_year 25 = .ok (.getfield 113, 3) := by decide +kernel
theorem dX9_year_28 : decode cX9_year 28 = .ok (.istore_n 2, 1) := by decide +kernel
theorem dX9_year_29 : decode cX9_year 29 = .ok (.aload_n 0, 1) := by decide +kernel
theorem dX9_year_30 : decode cX9_year 30 = .ok (.iload_n 1, 1) := by decide +kernel
theorem dX9_year_31 : decode cX9_year 31 = .ok (.putfield 113, 3) := by decide +kernel
theorem dX9_year_34 : decode cX9_year 34 = .ok (.iload_n 2, 1) := by decide +kernel
theorem dX9_year_35 : decode cX9_year 35 = .ok (.ireturn, 1) := by decide +kernel
theorem dX5_append_0 : decode cX5_append 0 = .ok (.aload_n 0, 1) := by decide +kernel
theorem dX5_append_1 : decode cX5_append 1 = .ok (.getfield 22, 3) := by decide +kernel
theorem dX5_append_4 : decode cX5_append 4 = .ok (.bipush 60, 2) := by decide +kernel
theorem dX5_append_6 : decode cX5_append 6 = .ok (.if_icmp .ge 25, 3) := by decide +kernel
theorem dX5_append_9 : decode cX5_append 9 = .ok (.aload_n 0, 1) := by decide +kernel
theorem dX5_append_10 : decode cX5_append 10 = .ok (.getfield 9, 3) := by decide +kernel
theorem dX5_append_13 : decode cX5_append 13 = .ok (.aload_n 0, 1) := by decide +kernel
theorem dX5_append_14 : decode cX5_append 14 = .ok (.getfield 22, 3) := by decide +kernel
theorem dX5_append_17 : decode cX5_append 17 = .ok (.iload_n 1, 1) := by decide +kernel
theorem dX5_append_18 : decode cX5_append 18 = .ok (.invokestatic 26, 3) := by decide +kernel
theorem dX5_append_21 : decode cX5_append 21 = .ok (.aload_n 0, 1) := by decide +kernel
theorem dX5_append_22 : decode cX5_append 22 = .ok (.dup, 1) := by decide +kernel
theorem dX5_append_23 : decode cX5_append 23 = .ok (.getfield 22, 3) := by decide +kernel
theorem dX5_append_26 : decode cX5_append 26 = .ok (.iconst 1, 1) := by decide +kernel
theorem dX5_append_27 : decode cX5_append 27 = .ok (.iadd, 1) := by decide +kernel
theorem dX5_append_28 : decode cX5_append 28 = .ok (.putfield 22, 3) := by decide +kernel
theorem dX5_append_31 : decode cX5_append 31 = .ok (.return_, 1) := by decide +kernel
theorem dX9_feed_0 : decode cX9_feed 0 = .ok (.iload_n 1, 1) := by decide +kernel
theorem dX9_feed_1 : decode cX9_feed 1 = .ok (.iconst 1, 1) := by decide +kernel
theorem dX9_feed_2 : decode cX9_feed 2 = .ok (.if_icmp .ge 10, 3) := by decide +kernel
theorem dX9_feed_5 : decode cX9_feed 5 = .ok (.aload_n 0, 1) := by decide +kernel
theorem dX9_feed_6 : decode cX9_feed 6 = .ok (.bipush (-4), 2) := by decide +kernel
theorem dX9_feed_8 : decode cX9_feed 8 = .ok (.invokevirtual 86, 3) := by decide +kernel
theorem dX9_feed_11 : decode cX9_feed 11 = .ok (.ireturn, 1) := by decide +kernel
theorem dX9_feed_12 : decode cX9_feed 12 = .ok (.iload_n 1, 1) := by decide +kernel
theorem dX9_feed_13 : decode cX9_feed 13 = .ok (.bipush 8, 2) := by decide +kernel
theorem dX9_feed_15 : decode cX9_feed 15 = .ok (.if_icmp .gt 17, 3) := by decide +kernel
theorem dX9_feed_18 : decode cX9_feed 18 = .ok (.aload_n 0, 1) := by decide +kernel
theorem dX9_feed_19 : decode cX9_feed 19 = .ok (.getfield 26, 3) := by decide +kernel
theorem dX9_feed_22 : decode cX9_feed 22 = .ok (.getfield 116, 3) := by decide +kernel
theorem dX9_feed_25 : decode cX9_feed 25 = .ok (.iload_n 1, 1) := by decide +kernel
theorem dX9_feed_26 : decode cX9_feed 26 = .ok (.iadd, 1) := by decide +kernel
theorem dX9_feed_27 : decode cX9_feed 27 = .ok (.bipush 60, 2) := by decide +kernel
theorem dX9_feed_29 : decode cX9_feed 29 = .ok (.if_icmp .le 10, 3) := by decide +kernel
theorem dX9_feed_32 : decode cX9_feed 32 = .ok (.aload_n 0, 1) := by decide +kernel
theorem dX9_feed_33 : decode cX9_feed 33 = .ok (.bipush (-6), 2) := by decide +kernel
theorem dX9_feed_35 : decode cX9_feed 35 = .ok (.invokevirtual 86, 3) := by decide +kernel
theorem dX9_feed_38 : decode cX9_feed 38 = .ok (.ireturn, 1) := by decide +kernel
theorem dX9_feed_39 : decode cX9_feed 39 = .ok (.iconst 0, 1) := by decide +kernel
theorem dX9_feed_40 : decode cX9_feed 40 = .ok (.istore 4, 2) := by decide +kernel
theorem dX9_feed_42 : decode cX9_feed 42 = .ok (.iload 4, 2) := by decide +kernel
theorem dX9_feed_44 : decode cX9_feed 44 = .ok (.iload_n 1, 1) := by decide +kernel
theorem dX9_feed_45 : decode cX9_feed 45 = .ok (.if_icmp .ge 28, 3) := by decide +kernel
theorem dX9_feed_48 : decode cX9_feed 48 = .ok (.aload_n 0, 1) := by decide +kernel
theorem dX9_feed_49 : decode cX9_feed 49 = .ok (.getfield 26, 3) := by decide +kernel
theorem dX9_feed_52 : decode cX9_feed 52 = .ok (.lload_n 2, 1) := by decide +kernel
theorem dX9_feed_53 : decode cX9_feed 53 = .ok (.bipush 8, 2) := by decide +kernel
theorem dX9_feed_55 : decode cX9_feed 55 = .ok (.iload 4, 2) := by decide +kernel
theorem dX9_feed_57 : decode cX9_feed 57 = .ok (.imul, 1) := by decide +kernel
theorem dX9_feed_58 : decode cX9_feed 58 = .ok (.lushr, 1) := by decide +kernel
theorem dX9_feed_59 : decode cX9_feed 59 = .ok (.l2i, 1) := by decide +kernel
theorem dX9_feed_60 : decode cX9_feed 60 = .ok (.sipush 255, 3) := by decide +kernel
theorem dX9_feed_63 : decode cX9_feed 63 = .ok (.iand, 1) := by decide +kernel
theorem dX9_feed_64 : decode cX9_feed 64 = .ok (.invokevirtual 117, 3) := by decide +kernel
theorem dX9_feed_67 : decode cX9_feed 67 = .ok (.iinc 4 1, 3) := by decide +kernel
theorem dX9_feed_70 : decode cX9_feed 70 = .ok (.goto (-28), 3) := by decide +kernel
theorem dX9_feed_73 : decode cX9_feed 73 = .ok (.aload_n 0, 1) := by decide +kernel
theorem dX9_feed_74 : decode cX9_feed 74 = .ok (.getfield 26, 3) := by decide +kernel
theorem dX9_feed_77 : decode cX9_feed 77 = .ok (.getfield 116, 3) := by decide +kernel
theorem dX9_feed_80 : decode cX9_feed 80 = .ok (.ireturn, 1) := by decide +kernel
theorem dX6_field_0 : decode cX6_field 0 = .ok (.aload_n 0, 1) := by decide +kernel
theorem dX6_field_1 : decode cX6_field 1 = .ok (.getfield 11, 3) := by decide +kernel
theorem dX6_field_4 : decode cX6_field 4 = .ok (.iload_n 1, 1) := by decide +kernel
theorem dX6_field_5 : decode cX6_field 5 = .ok (.bipush 6, 2) := by decide +kernel
theorem dX6_field_7 : decode cX6_field 7 = .ok (.imul, 1) := by decide +kernel
theorem dX6_field_8 : decode cX6_field 8 = .ok (.iload_n 2, 1) := by decide +kernel
theorem dX6_field_9 : decode cX6_field 9 = .ok (.iadd, 1) := by decide +kernel
theorem dX6_field_10 : decode cX6_field 10 = .ok (.invokestatic 19, 3) := by decide +kernel
theorem dX6_field_13 : decode cX6_field 13 = .ok (.ireturn, 1) := by decide +kernel
theorem dX5_drafted_0 : decode cX5_drafted 0 = .ok (.aload_n 0, 1) := by decide +kernel
theorem dX5_drafted_1 : decode cX5_drafted 1 = .ok (.getfield 18, 3) := by decide +kernel
theorem dX5_drafted_4 : decode cX5_drafted 4 = .ok (.aload_n 0, 1) := by decide +kernel
theorem dX5_drafted_5 : decode cX5_drafted 5 = .ok (.getfield 18, 3) := by decide +kernel
theorem dX5_drafted_8 : decode cX5_drafted 8 = .ok (.getfield 79, 3) := by decide +kernel
theorem dX5_drafted_11 : decode cX5_drafted 11 = .ok (.iload_n 1, 1) := by decide +kernel
theorem dX5_drafted_12 : decode cX5_drafted 12 = .ok (.invokevirtual 80, 3) := by decide +kernel
theorem dX5_drafted_15 : decode cX5_drafted 15 = .ok (.ireturn, 1) := by decide +kernel
theorem dX5_here_0 : decode cX5_here 0 = .ok (.aload_n 0, 1) := by decide +kernel
theorem dX5_here_1 : decode cX5_here 1 = .ok (.getfield 33, 3) := by decide +kernel
theorem dX5_here_4 : decode cX5_here 4 = .ok (.aload_n 0, 1) := by decide +kernel
theorem dX5_here_5 : decode cX5_here 5 = .ok (.getfield 22, 3) := by decide +kernel
theorem dX5_here_8 : decode cX5_here 8 = .ok (.if_icmp .ge 17, 3) := by decide +kernel
theorem dX5_here_11 : decode cX5_here 11 = .ok (.aload_n 0, 1) := by decide +kernel
theorem dX5_here_12 : decode cX5_here 12 = .ok (.getfield 9, 3) := by decide +kernel
theorem dX5_here_15 : decode cX5_here 15 = .ok (.aload_n 0, 1) := by decide +kernel
theorem dX5_here_16 : decode cX5_here 16 = .ok (.getfield 33, 3) := by decide +kernel
theorem dX5_here_19 : decode cX5_here 19 = .ok (.invokestatic 84, 3) := by decide +kernel
theorem dX5_here_22 : decode cX5_here 22 = .ok (.goto 4, 3) := by decide +kernel
theorem dX5_here_25 : decode cX5_here 25 = .ok (.iconst (-1), 1) := by decide +kernel
theorem dX5_here_26 : decode cX5_here 26 = .ok (.ireturn, 1) := by decide +kernel
theorem dX6_draft_0 : decode cX6_draft 0 = .ok (.aload_n 0, 1) := by decide +kernel
theorem dX6_draft_1 : decode cX6_draft 1 = .ok (.getfield 11, 3) := by decide +kernel
theorem dX6_draft_4 : decode cX6_draft 4 = .ok (.aload_n 0, 1) := by decide +kernel
theorem dX6_draft_5 : decode cX6_draft 5 = .ok (.getfield 15, 3) := by decide +kernel
theorem dX6_draft_8 : decode cX6_draft 8 = .ok (.bipush 6, 2) := by decide +kernel
theorem dX6_draft_10 : decode cX6_draft 10 = .ok (.imul, 1) := by decide +kernel
theorem dX6_draft_11 : decode cX6_draft 11 = .ok (.iload_n 1, 1) := by decide +kernel
theorem dX6_draft_12 : decode cX6_draft 12 = .ok (.iadd, 1) := by decide +kernel
theorem dX6_draft_13 : decode cX6_draft 13 = .ok (.iload_n 2, 1) := by decide +kernel
theorem dX6_draft_14 : decode cX6_draft 14 = .ok (.invokestatic 23, 3) := by decide +kernel
theorem dX6_draft_17 : decode cX6_draft 17 = .ok (.return_, 1) := by decide +kernel
theorem dX5_readInto_0 : decode cX5_readInto 0 = .ok (.aload_n 0, 1) := by decide +kernel
theorem dX5_readInto_1 : decode cX5_readInto 1 = .ok (.invokevirtual 57, 3) := by decide +kernel
theorem dX5_readInto_4 : decode cX5_readInto 4 = .ok (.istore 5, 2) := by decide +kernel
theorem dX5_readInto_6 : decode cX5_readInto 6 = .ok (.iload 5, 2) := by decide +kernel
theorem dX5_readInto_8 : decode cX5_readInto 8 = .ok (.iload_n 2, 1) := by decide +kernel
theorem dX5_readInto_9 : decode cX5_readInto 9 = .ok (.if_icmp .lt 9, 3) := by decide +kernel
theorem dX5_readInto_12 : decode cX5_readInto 12 = .ok (.iload 5, 2) := by decide +kernel
theorem dX5_readInto_14 : decode cX5_readInto 14 = .ok (.iload_n 3, 1) := by decide +kernel
theorem dX5_readInto_15 : decode cX5_readInto 15 = .ok (.if_icmp .le 5, 3) := by decide +kernel
theorem dX5_readInto_18 : decode cX5_readInto 18 = .ok (.iconst 0, 1) := by decide +kernel
theorem dX5_readInto_19 : decode cX5_readInto 19 = .ok (.ireturn, 1) := by decide +kernel
theorem dX5_readInto_20 : decode cX5_readInto 20 = .ok (.aload_n 0, 1) := by decide +kernel
theorem dX5_readInto_21 : decode cX5_readInto 21 = .ok (.getfield 18, 3) := by decide +kernel
theorem dX5_readInto_24 : decode cX5_readInto 24 = .ok (.iload_n 1, 1) := by decide +kernel
theorem dX5_readInto_25 : decode cX5_readInto 25 = .ok (.iload 5, 2) := by decide +kernel
theorem dX5_readInto_27 : decode cX5_readInto 27 = .ok (.iload 4, 2) := by decide +kernel
theorem dX5_readInto_29 : decode cX5_readInto 29 = .ok (.isub, 1) := by decide +kernel
theorem dX5_readInto_30 : decode cX5_readInto 30 = .ok (.invokevirtual 50, 3) := by decide +kernel
theorem dX5_readInto_33 : decode cX5_readInto 33 = .ok (.aload_n 0, 1) := by decide +kernel
theorem dX5_readInto_34 : decode cX5_readInto 34 = .ok (.dup, 1) := by decide +kernel
theorem dX5_readInto_35 : decode cX5_readInto 35 = .ok (.getfield 33, 3) := by decide +kernel
theorem dX5_readInto_38 : decode cX5_readInto 38 = .ok (.iconst 1, 1) := by decide +kernel
theorem dX5_readInto_39 : decode cX5_readInto 39 = .ok (.iadd, 1) := by decide +kernel
theorem dX5_readInto_40 : decode cX5_readInto 40 = .ok (.putfield 33, 3) := by decide +kernel
theorem dX5_readInto_43 : decode cX5_readInto 43 = .ok (.iconst 1, 1) := by decide +kernel
theorem dX5_readInto_44 : decode cX5_readInto 44 = .ok (.ireturn, 1) := by decide +kernel
theorem dX5_readPerson_0 : decode cX5_readPerson 0 = .ok (.aload_n 0, 1) := by decide +kernel
theorem dX5_readPerson_1 : decode cX5_readPerson 1 = .ok (.iload_n 1, 1) := by decide +kernel
theorem dX5_readPerson_2 : decode cX5_readPerson 2 = .ok (.bipush 97, 2) := by decide +kernel
theorem dX5_readPerson_4 : decode cX5_readPerson 4 = .ok (.bipush 97, 2) := by decide +kernel
theorem dX5_readPerson_6 : decode cX5_readPerson 6 = .ok (.aload_n 0, 1) := by decide +kernel
theorem dX5_readPerson_7 : decode cX5_readPerson 7 = .ok (.getfield 30, 3) := by decide +kernel
theorem dX5_readPerson_10 : decode cX5_readPerson 10 = .ok (.iadd, 1) := by decide +kernel
theorem dX5_readPerson_11 : decode cX5_readPerson 11 = .ok (.iconst 1, 1) := by decide +kernel
theorem dX5_readPerson_12 : decode cX5_readPerson 12 = .ok (.isub, 1) := by decide +kernel
theorem dX5_readPerson_13 : decode cX5_readPerson 13 = .ok (.bipush 97, 2) := by decide +kernel
theorem dX5_readPerson_15 : decode cX5_readPerson 15 = .ok (.invokevirtual 65, 3) := by decide +kernel
theorem dX5_readPerson_18 : decode cX5_readPerson 18 = .ok (.ireturn, 1) := by decide +kernel
theorem dX5_skip_0 : decode cX5_skip 0 = .ok (.aload_n 0, 1) := by decide +kernel
theorem dX5_skip_1 : decode cX5_skip 1 = .ok (.invokevirtual 57, 3) := by decide +kernel
theorem dX5_skip_4 : decode cX5_skip 4 = .ok (.iload_n 1, 1) := by decide +kernel
theorem dX5_skip_5 : decode cX5_skip 5 = .ok (.if_icmp .eq 5, 3) := by decide +kernel
theorem dX5_skip_8 : decode cX5_skip 8 = .ok (.iconst 0, 1) := by decide +kernel
theorem dX5_skip_9 : decode cX5_skip 9 = .ok (.ireturn, 1) := by decide +kernel
theorem dX5_skip_10 : decode cX5_skip 10 = .ok (.aload_n 0, 1) := by decide +kernel
theorem dX5_skip_11 : decode cX5_skip 11 = .ok (.dup, 1) := by decide +kernel
theorem dX5_skip_12 : decode cX5_skip 12 = .ok (.getfield 33, 3) := by decide +kernel
theorem dX5_skip_15 : decode cX5_skip 15 = .ok (.iconst 1, 1) := by decide +kernel
theorem dX5_skip_16 : decode cX5_skip 16 = .ok (.iadd, 1) := by decide +kernel
theorem dX5_skip_17 : decode cX5_skip 17 = .ok (.putfield 33, 3) := by decide +kernel
theorem dX5_skip_20 : decode cX5_skip 20 = .ok (.iconst 1, 1) := by decide +kernel
theorem dX5_skip_21 : decode cX5_skip 21 = .ok (.ireturn, 1) := by decide +kernel
theorem dX5_readStrength_0 : decode cX5_readStrength 0 = .ok (.aload_n 0, 1) := by decide +kernel
theorem dX5_readStrength_1 : decode cX5_readStrength 1 = .ok (.bipush 42, 2) := by decide +kernel
theorem dX5_readStrength_3 : decode cX5_readStrength 3 = .ok (.invokevirtual 46, 3) := by decide +kernel
theorem dX5_readStrength_6 : decode cX5_readStrength 6 = .ok (.ifCond .eq 17, 3) := by decide +kernel
theorem dX5_readStrength_9 : decode cX5_readStrength 9 = .ok (.aload_n 0, 1) := by decide +kernel
theorem dX5_readStrength_10 : decode cX5_readStrength 10 = .ok (.iconst 3, 1) := by decide +kernel
theorem dX5_readStrength_11 : decode cX5_readStrength 11 = .ok (.bipush 49, 2) := by decide +kernel
theorem dX5_readStrength_13 : decode cX5_readStrength 13 = .ok (.bipush 57, 2) := by decide +kernel
theorem dX5_readStrength_15 : decode cX5_readStrength 15 = .ok (.bipush 48, 2) := by decide +kernel
theorem dX5_readStrength_17 : decode cX5_readStrength 17 = .ok (.invokevirtual 65, 3) := by decide +kernel
theorem dX5_readStrength_20 : decode cX5_readStrength 20 = .ok (.ifCond .eq 7, 3) := by decide +kernel
theorem dX5_readStrength_23 : decode cX5_readStrength 23 = .ok (.iconst 1, 1) := by decide +kernel
theorem dX5_readStrength_24 : decode cX5_readStrength 24 = .ok (.goto 4, 3) := by decide +kernel
theorem dX5_readStrength_27 : decode cX5_readStrength 27 = .ok (.iconst 0, 1) := by decide +kernel
theorem dX5_readStrength_28 : decode cX5_readStrength 28 = .ok (.ireturn, 1) := by decide +kernel
theorem dX5_readYear_0 : decode cX5_readYear 0 = .ok (.aload_n 0, 1) := by decide +kernel
theorem dX5_readYear_1 : decode cX5_readYear 1 = .ok (.getfield 33, 3) := by decide +kernel
theorem dX5_readYear_4 : decode cX5_readYear 4 = .ok (.istore_n 3, 1) := by decide +kernel
theorem dX5_readYear_5 : decode cX5_readYear 5 = .ok (.iconst 0, 1) := by decide +kernel
theorem dX5_readYear_6 : decode cX5_readYear 6 = .ok (.istore 4, 2) := by decide +kernel
theorem dX5_readYear_8 : decode cX5_readYear 8 = .ok (.aload_n 0, 1) := by decide +kernel
theorem dX5_readYear_9 : decode cX5_readYear 9 = .ok (.getfield 33, 3) := by decide +kernel
theorem dX5_readYear_12 : decode cX5_readYear 12 = .ok (.iload_n 3, 1) := by decide +kernel
theorem dX5_readYear_13 : decode cX5_readYear 13 = .ok (.isub, 1) := by decide +kernel
theorem dX5_readYear_14 : decode cX5_readYear 14 = .ok (.iconst 3, 1) := by decide +kernel
theorem dX5_readYear_15 : decode cX5_readYear 15 = .ok (.if_icmp .ge 49, 3) := by decide +kernel
theorem dX5_readYear_18 : decode cX5_readYear 18 = .ok (.aload_n 0, 1) := by decide +kernel
theorem dX5_readYear_19 : decode cX5_readYear 19 = .ok (.invokevirtual 57, 3) := by decide +kernel
theorem dX5_readYear_22 : decode cX5_readYear 22 = .ok (.bipush 48, 2) := by decide +kernel
theorem dX5_readYear_24 : decode cX5_readYear 24 = .ok (.if_icmp .lt 40, 3) := by decide +kernel
theorem dX5_readYear_27 : decode cX5_readYear 27 = .ok (.aload_n 0, 1) := by decide +kernel
theorem dX5_readYear_28 : decode cX5_readYear 28 = .ok (.invokevirtual 57, 3) := by decide +kernel
theorem dX5_readYear_31 : decode cX5_readYear 31 = .ok (.bipush 57, 2) := by decide +kernel
theorem dX5_readYear_33 : decode cX5_readYear 33 = .ok (.if_icmp .gt 31, 3) := by decide +kernel
theorem dX5_readYear_36 : decode cX5_readYear 36 = .ok (.iload 4, 2) := by decide +kernel
theorem dX5_readYear_38 : decode cX5_readYear 38 = .ok (.bipush 10, 2) := by decide +kernel
theorem dX5_readYear_40 : decode cX5_readYear 40 = .ok (.imul, 1) := by decide +kernel
theorem dX5_readYear_41 : decode cX5_readYear 41 = .ok (.aload_n 0, 1) := by decide +kernel
theorem dX5_readYear_42 : decode cX5_readYear 42 = .ok (.invokevirtual 57, 3) := by decide +kernel
theorem dX5_readYear_45 : decode cX5_readYear 45 = .ok (.iadd, 1) := by decide +kernel
theorem dX5_readYear_46 : decode cX5_readYear 46 = .ok (.bipush 48, 2) := by decide +kernel
theorem dX5_readYear_48 : decode cX5_readYear 48 = .ok (.isub, 1) := by decide +kernel
theorem dX5_readYear_49 : decode cX5_readYear 49 = .ok (.istore 4, 2) := by decide +kernel
theorem dX5_readYear_51 : decode cX5_readYear 51 = .ok (.aload_n 0, 1) := by decide +kernel
theorem dX5_readYear_52 : decode cX5_readYear 52 = .ok (.dup, 1) := by decide +kernel
theorem dX5_readYear_53 : decode cX5_readYear 53 = .ok (.getfield 33, 3) := by decide +kernel
theorem dX5_readYear_56 : decode cX5_readYear 56 = .ok (.iconst 1, 1) := by decide +kernel
theorem dX5_readYear_57 : decode cX5_readYear 57 = .ok (.iadd, 1) := by decide +kernel
theorem dX5_readYear_58 : decode cX5_readYear 58 = .ok (.putfield 33, 3) := by decide +kernel
theorem dX5_readYear_61 : decode cX5_readYear 61 = .ok (.goto (-53), 3) := by decide +kernel
theorem dX5_readYear_64 : decode cX5_readYear 64 = .ok (.aload_n 0, 1) := by decide +kernel
theorem dX5_readYear_65 : decode cX5_readYear 65 = .ok (.getfield 33, 3) := by decide +kernel
theorem dX5_readYear_68 : decode cX5_readYear 68 = .ok (.iload_n 3, 1) := by decide +kernel
theorem dX5_readYear_69 : decode cX5_readYear 69 = .ok (.if_icmp .ne 5, 3) := by decide +kernel
theorem dX5_readYear_72 : decode cX5_readYear 72 = .ok (.iconst 0, 1) := by decide +kernel
theorem dX5_readYear_73 : decode cX5_readYear 73 = .ok (.ireturn, 1) := by decide +kernel
theorem dX5_readYear_74 : decode cX5_readYear 74 = .ok (.iload 4, 2) := by decide +kernel
theorem dX5_readYear_76 : decode cX5_readYear 76 = .ok (.bipush 100, 2) := by decide +kernel
theorem dX5_readYear_78 : decode cX5_readYear 78 = .ok (.if_icmp .gt 9, 3) := by decide +kernel
theorem dX5_readYear_81 : decode cX5_readYear 81 = .ok (.iload 4, 2) := by decide +kernel
theorem dX5_readYear_83 : decode cX5_readYear 83 = .ok (.iload_n 2, 1) := by decide +kernel
theorem dX5_readYear_84 : decode cX5_readYear 84 = .ok (.if_icmp .gt 10, 3) := by decide +kernel
theorem dX5_readYear_87 : decode cX5_readYear 87 = .ok (.aload_n 0, 1) := by decide +kernel
theorem dX5_readYear_88 : decode cX5_readYear 88 = .ok (.iload_n 3, 1) := by decide +kernel
theorem dX5_readYear_89 : decode cX5_readYear 89 = .ok (.putfield 33, 3) := by decide +kernel
theorem dX5_readYear_92 : decode cX5_readYear 92 = .ok (.iconst 0, 1) := by decide +kernel
theorem dX5_readYear_93 : decode cX5_readYear 93 = .ok (.ireturn, 1) := by decide +kernel
theorem dX5_readYear_94 : decode cX5_readYear 94 = .ok (.aload_n 0, 1) := by decide +kernel
theorem dX5_readYear_95 : decode cX5_readYear 95 = .ok (.getfield 18, 3) := by decide +kernel
theorem dX5_readYear_98 : decode cX5_readYear 98 = .ok (.iload_n 1, 1) := by decide +kernel
theorem dX5_readYear_99 : decode cX5_readYear 99 = .ok (.iload 4, 2) := by decide +kernel
theorem dX5_readYear_101 : decode cX5_readYear 101 = .ok (.invokevirtual 50, 3) := by decide +kernel
theorem dX5_readYear_104 : decode cX5_readYear 104 = .ok (.iconst 1, 1) := by decide +kernel
theorem dX5_readYear_105 : decode cX5_readYear 105 = .ok (.ireturn, 1) := by decide +kernel
theorem dX5_readYears_0 : decode cX5_readYears 0 = .ok (.aload_n 0, 1) := by decide +kernel
theorem dX5_readYears_1 : decode cX5_readYears 1 = .ok (.bipush 64, 2) := by decide +kernel
theorem dX5_readYears_3 : decode cX5_readYears 3 = .ok (.invokevirtual 46, 3) := by decide +kernel
theorem dX5_readYears_6 : decode cX5_readYears 6 = .ok (.ifCond .eq 34, 3) := by decide +kernel
theorem dX5_readYears_9 : decode cX5_readYears 9 = .ok (.aload_n 0, 1) := by decide +kernel
theorem dX5_readYears_10 : decode cX5_readYears 10 = .ok (.iconst 4, 1) := by decide +kernel
theorem dX5_readYears_11 : decode cX5_readYears 11 = .ok (.iconst (-1), 1) := by decide +kernel
theorem dX5_readYears_12 : decode cX5_readYears 12 = .ok (.invokevirtual 75, 3) := by decide +kernel
theorem dX5_readYears_15 : decode cX5_readYears 15 = .ok (.ifCond .eq 29, 3) := by decide +kernel
theorem dX5_readYears_18 : decode cX5_readYears 18 = .ok (.aload_n 0, 1) := by decide +kernel
theorem dX5_readYears_19 : decode cX5_readYears 19 = .ok (.bipush 45, 2) := by decide +kernel
theorem dX5_readYears_21 : decode cX5_readYears 21 = .ok (.invokevirtual 46, 3) := by decide +kernel
theorem dX5_readYears_24 : decode cX5_readYears 24 = .ok (.ifCond .eq 20, 3) := by decide +kernel
theorem dX5_readYears_27 : decode cX5_readYears 27 = .ok (.aload_n 0, 1) := by decide +kernel
theorem dX5_readYears_28 : decode cX5_readYears 28 = .ok (.iconst 5, 1) := by decide +kernel
theorem dX5_readYears_29 : decode cX5_readYears 29 = .ok (.aload_n 0, 1) := by decide +kernel
theorem dX5_readYears_30 : decode cX5_readYears 30 = .ok (.iconst 4, 1) := by decide +kernel
theorem dX5_readYears_31 : decode cX5_readYears 31 = .ok (.invokevirtual 61, 3) := by decide +kernel
theorem dX5_readYears_34 : decode cX5_readYears 34 = .ok (.invokevirtual 75, 3) := by decide +kernel
theorem dX5_readYears_37 : decode cX5_readYears 37 = .ok (.ifCond .eq 7, 3) := by decide +kernel
theorem dX5_readYears_40 : decode cX5_readYears 40 = .ok (.iconst 1, 1) := by decide +kernel
theorem dX5_readYears_41 : decode cX5_readYears 41 = .ok (.goto 4, 3) := by decide +kernel
theorem dX5_readYears_44 : decode cX5_readYears 44 = .ok (.iconst 0, 1) := by decide +kernel
theorem dX5_readYears_45 : decode cX5_readYears 45 = .ok (.ireturn, 1) := by decide +kernel
theorem dX5_readTie_0 : decode cX5_readTie 0 = .ok (.aload_n 0, 1) := by decide +kernel
theorem dX5_readTie_1 : decode cX5_readTie 1 = .ok (.getfield 18, 3) := by decide +kernel
theorem dX5_readTie_4 : decode cX5_readTie 4 = .ok (.iconst 3, 1) := by decide +kernel
theorem dX5_readTie_5 : decode cX5_readTie 5 = .ok (.iconst 1, 1) := by decide +kernel
theorem dX5_readTie_6 : decode cX5_readTie 6 = .ok (.invokevirtual 50, 3) := by decide +kernel
theorem dX5_readTie_9 : decode cX5_readTie 9 = .ok (.aload_n 0, 1) := by decide +kernel
theorem dX5_readTie_10 : decode cX5_readTie 10 = .ok (.getfield 18, 3) := by decide +kernel
theorem dX5_readTie_13 : decode cX5_readTie 13 = .ok (.iconst 4, 1) := by decide +kernel
theorem dX5_readTie_14 : decode cX5_readTie 14 = .ok (.iconst 0, 1) := by decide +kernel
theorem dX5_readTie_15 : decode cX5_readTie 15 = .ok (.invokevirtual 50, 3) := by decide +kernel
theorem dX5_readTie_18 : decode cX5_readTie 18 = .ok (.aload_n 0, 1) := by decide +kernel
theorem dX5_readTie_19 : decode cX5_readTie 19 = .ok (.getfield 18, 3) := by decide +kernel
theorem dX5_readTie_22 : decode cX5_readTie 22 = .ok (.iconst 5, 1) := by decide +kernel
theorem dX5_readTie_23 : decode cX5_readTie 23 = .ok (.bipush 100, 2) := by decide +kernel
theorem dX5_readTie_25 : decode cX5_readTie 25 = .ok (.invokevirtual 50, 3) := by decide +kernel
theorem dX5_readTie_28 : decode cX5_readTie 28 = .ok (.aload_n 0, 1) := by decide +kernel
theorem dX5_readTie_29 : decode cX5_readTie 29 = .ok (.iconst 0, 1) := by decide +kernel
theorem dX5_readTie_30 : decode cX5_readTie 30 = .ok (.invokevirtual 54, 3) := by decide +kernel
theorem dX5_readTie_33 : decode cX5_readTie 33 = .ok (.ifCond .eq 67, 3) := by decide +kernel
theorem dX5_readTie_36 : decode cX5_readTie 36 = .ok (.aload_n 0, 1) := by decide +kernel
theorem dX5_readTie_37 : decode cX5_readTie 37 = .ok (.bipush 62, 2) := by decide +kernel
theorem dX5_readTie_39 : decode cX5_readTie 39 = .ok (.invokevirtual 46, 3) := by decide +kernel
theorem dX5_readTie_42 : decode cX5_readTie 42 = .ok (.ifCond .eq 58, 3) := by decide +kernel
theorem dX5_readTie_45 : decode cX5_readTie 45 = .ok (.aload_n 0, 1) := by decide +kernel
theorem dX5_readTie_46 : decode cX5_readTie 46 = .ok (.invokevirtual 57, 3) := by decide +kernel
theorem dX5_readTie_49 : decode cX5_readTie 49 = .ok (.bipush 97, 2) := by decide +kernel
theorem dX5_readTie_51 : decode cX5_readTie 51 = .ok (.aload_n 0, 1) := by decide +kernel
theorem dX5_readTie_52 : decode cX5_readTie 52 = .ok (.iconst 0, 1) := by decide +kernel
theorem dX5_readTie_53 : decode cX5_readTie 53 = .ok (.invokevirtual 61, 3) := by decide +kernel
theorem dX5_readTie_56 : decode cX5_readTie 56 = .ok (.iadd, 1) := by decide +kernel
theorem dX5_readTie_57 : decode cX5_readTie 57 = .ok (.if_icmp .eq 43, 3) := by decide +kernel
theorem dX5_readTie_60 : decode cX5_readTie 60 = .ok (.aload_n 0, 1) := by decide +kernel
theorem dX5_readTie_61 : decode cX5_readTie 61 = .ok (.iconst 1, 1) := by decide +kernel
theorem dX5_readTie_62 : decode cX5_readTie 62 = .ok (.invokevirtual 54, 3) := by decide +kernel
theorem dX5_readTie_65 : decode cX5_readTie 65 = .ok (.ifCond .eq 35, 3) := by decide +kernel
theorem dX5_readTie_68 : decode cX5_readTie 68 = .ok (.aload_n 0, 1) := by decide +kernel
theorem dX5_readTie_69 : decode cX5_readTie 69 = .ok (.iconst 2, 1) := by decide +kernel
theorem dX5_readTie_70 : decode cX5_readTie 70 = .ok (.bipush 48, 2) := by decide +kernel
theorem dX5_readTie_72 : decode cX5_readTie 72 = .ok (.bipush 50, 2) := by decide +kernel
theorem dX5_readTie_74 : decode cX5_readTie 74 = .ok (.bipush 48, 2) := by decide +kernel
theorem dX5_readTie_76 : decode cX5_readTie 76 = .ok (.invokevirtual 65, 3) := by decide +kernel
theorem dX5_readTie_79 : decode cX5_readTie 79 = .ok (.ifCond .eq 21, 3) := by decide +kernel
theorem dX5_readTie_82 : decode cX5_readTie 82 = .ok (.aload_n 0, 1) := by decide +kernel
theorem dX5_readTie_83 : decode cX5_readTie 83 = .ok (.invokevirtual 69, 3) := by decide +kernel
theorem dX5_readTie_86 : decode cX5_readTie 86 = .ok (.ifCond .eq 14, 3) := by decide +kernel
theorem dX5_readTie_89 : decode cX5_readTie 89 = .ok (.aload_n 0, 1) := by decide +kernel
theorem dX5_readTie_90 : decode cX5_readTie 90 = .ok (.invokevirtual 72, 3) := by decide +kernel
theorem dX5_readTie_93 : decode cX5_readTie 93 = .ok (.ifCond .eq 7, 3) := by decide +kernel
theorem dX5_readTie_96 : decode cX5_readTie 96 = .ok (.iconst 1, 1) := by decide +kernel
theorem dX5_readTie_97 : decode cX5_readTie 97 = .ok (.goto 4, 3) := by decide +kernel
theorem dX5_readTie_100 : decode cX5_readTie 100 = .ok (.iconst 0, 1) := by decide +kernel
theorem dX5_readTie_101 : decode cX5_readTie 101 = .ok (.ireturn, 1) := by decide +kernel
theorem dX6_endDraft_0 : decode cX6_endDraft 0 = .ok (.aload_n 0, 1) := by decide +kernel
theorem dX6_endDraft_1 : decode cX6_endDraft 1 = .ok (.getfield 15, 3) := by decide +kernel
theorem dX6_endDraft_4 : decode cX6_endDraft 4 = .ok (.bipush 60, 2) := by decide +kernel
theorem dX6_endDraft_6 : decode cX6_endDraft 6 = .ok (.if_icmp .ge 13, 3) := by decide +kernel
theorem dX6_endDraft_9 : decode cX6_endDraft 9 = .ok (.aload_n 0, 1) := by decide +kernel
theorem dX6_endDraft_10 : decode cX6_endDraft 10 = .ok (.dup, 1) := by decide +kernel
theorem dX6_endDraft_11 : decode cX6_endDraft 11 = .ok (.getfield 15, 3) := by decide +kernel
theorem dX6_endDraft_14 : decode cX6_endDraft 14 = .ok (.iconst 1, 1) := by decide +kernel
theorem dX6_endDraft_15 : decode cX6_endDraft 15 = .ok (.iadd, 1) := by decide +kernel
theorem dX6_endDraft_16 : decode cX6_endDraft 16 = .ok (.putfield 15, 3) := by decide +kernel
theorem dX6_endDraft_19 : decode cX6_endDraft 19 = .ok (.return_, 1) := by decide +kernel
theorem dX5_readAll_0 : decode cX5_readAll 0 = .ok (.aload_n 0, 1) := by decide +kernel
theorem dX5_readAll_1 : decode cX5_readAll 1 = .ok (.iload_n 1, 1) := by decide +kernel
theorem dX5_readAll_2 : decode cX5_readAll 2 = .ok (.putfield 30, 3) := by decide +kernel
theorem dX5_readAll_5 : decode cX5_readAll 5 = .ok (.aload_n 0, 1) := by decide +kernel
theorem dX5_readAll_6 : decode cX5_readAll 6 = .ok (.iconst 0, 1) := by decide +kernel
theorem dX5_readAll_7 : decode cX5_readAll 7 = .ok (.putfield 33, 3) := by decide +kernel
theorem dX5_readAll_10 : decode cX5_readAll 10 = .ok (.aload_n 0, 1) := by decide +kernel
theorem dX5_readAll_11 : decode cX5_readAll 11 = .ok (.getfield 18, 3) := by decide +kernel
theorem dX5_readAll_14 : decode cX5_readAll 14 = .ok (.invokevirtual 36, 3) := by decide +kernel
theorem dX5_readAll_17 : decode cX5_readAll 17 = .ok (.iconst 1, 1) := by decide +kernel
theorem dX5_readAll_18 : decode cX5_readAll 18 = .ok (.istore_n 2, 1) := by decide +kernel
theorem dX5_readAll_19 : decode cX5_readAll 19 = .ok (.iconst 0, 1) := by decide +kernel
theorem dX5_readAll_20 : decode cX5_readAll 20 = .ok (.istore_n 3, 1) := by decide +kernel
theorem dX5_readAll_21 : decode cX5_readAll 21 = .ok (.iload_n 3, 1) := by decide +kernel
theorem dX5_readAll_22 : decode cX5_readAll 22 = .ok (.bipush 60, 2) := by decide +kernel
theorem dX5_readAll_24 : decode cX5_readAll 24 = .ok (.if_icmp .gt 36, 3) := by decide +kernel
theorem dX5_readAll_27 : decode cX5_readAll 27 = .ok (.iload_n 2, 1) := by decide +kernel
theorem dX5_readAll_28 : decode cX5_readAll 28 = .ok (.ifCond .eq 32, 3) := by decide +kernel
theorem dX5_readAll_31 : decode cX5_readAll 31 = .ok (.aload_n 0, 1) := by decide +kernel
theorem dX5_readAll_32 : decode cX5_readAll 32 = .ok (.invokevirtual 39, 3) := by decide +kernel
theorem dX5_readAll_35 : decode cX5_readAll 35 = .ok (.ifCond .ne 5, 3) := by decide +kernel
theorem dX5_readAll_38 : decode cX5_readAll 38 = .ok (.iconst 0, 1) := by decide +kernel
theorem dX5_readAll_39 : decode cX5_readAll 39 = .ok (.ireturn, 1) := by decide +kernel
theorem dX5_readAll_40 : decode cX5_readAll 40 = .ok (.aload_n 0, 1) := by decide +kernel
theorem dX5_readAll_41 : decode cX5_readAll 41 = .ok (.getfield 18, 3) := by decide +kernel
theorem dX5_readAll_44 : decode cX5_readAll 44 = .ok (.invokevirtual 43, 3) := by decide +kernel
theorem dX5_readAll_47 : decode cX5_readAll 47 = .ok (.aload_n 0, 1) := by decide +kernel
theorem dX5_readAll_48 : decode cX5_readAll 48 = .ok (.bipush 59, 2) := by decide +kernel
theorem dX5_readAll_50 : decode cX5_readAll 50 = .ok (.invokevirtual 46, 3) := by decide +kernel
theorem dX5_readAll_53 : decode cX5_readAll 53 = .ok (.istore_n 2, 1) := by decide +kernel
theorem dX5_readAll_54 : decode cX5_readAll 54 = .ok (.iinc 3 1, 3) := by decide +kernel
theorem dX5_readAll_57 : decode cX5_readAll 57 = .ok (.goto (-36), 3) := by decide +kernel
theorem dX5_readAll_60 : decode cX5_readAll 60 = .ok (.aload_n 0, 1) := by decide +kernel
theorem dX5_readAll_61 : decode cX5_readAll 61 = .ok (.getfield 33, 3) := by decide +kernel
theorem dX5_readAll_64 : decode cX5_readAll 64 = .ok (.aload_n 0, 1) := by decide +kernel
theorem dX5_readAll_65 : decode cX5_readAll 65 = .ok (.getfield 22, 3) := by decide +kernel
theorem dX5_readAll_68 : decode cX5_readAll 68 = .ok (.if_icmp .ne 7, 3) := by decide +kernel
theorem dX5_readAll_71 : decode cX5_readAll 71 = .ok (.iconst 1, 1) := by decide +kernel
theorem dX5_readAll_72 : decode cX5_readAll 72 = .ok (.goto 4, 3) := by decide +kernel
theorem dX5_readAll_75 : decode cX5_readAll 75 = .ok (.iconst 0, 1) := by decide +kernel
theorem dX5_readAll_76 : decode cX5_readAll 76 = .ok (.ireturn, 1) := by decide +kernel
theorem dX6_takeAll_0 : decode cX6_takeAll 0 = .ok (.iconst 0, 1) := by decide +kernel
theorem dX6_takeAll_1 : decode cX6_takeAll 1 = .ok (.istore_n 2, 1) := by decide +kernel
theorem dX6_takeAll_2 : decode cX6_takeAll 2 = .ok (.iload_n 2, 1) := by decide +kernel
theorem dX6_takeAll_3 : decode cX6_takeAll 3 = .ok (.aload_n 1, 1) := by decide +kernel
theorem dX6_takeAll_4 : decode cX6_takeAll 4 = .ok (.getfield 15, 3) := by decide +kernel
theorem dX6_takeAll_7 : decode cX6_takeAll 7 = .ok (.if_icmp .ge 38, 3) := by decide +kernel
theorem dX6_takeAll_10 : decode cX6_takeAll 10 = .ok (.iconst 0, 1) := by decide +kernel
theorem dX6_takeAll_11 : decode cX6_takeAll 11 = .ok (.istore_n 3, 1) := by decide +kernel
theorem dX6_takeAll_12 : decode cX6_takeAll 12 = .ok (.iload_n 3, 1) := by decide +kernel
theorem dX6_takeAll_13 : decode cX6_takeAll 13 = .ok (.bipush 6, 2) := by decide +kernel
theorem dX6_takeAll_15 : decode cX6_takeAll 15 = .ok (.if_icmp .ge 20, 3) := by decide +kernel
theorem dX6_takeAll_18 : decode cX6_takeAll 18 = .ok (.aload_n 0, 1) := by decide +kernel
theorem dX6_takeAll_19 : decode cX6_takeAll 19 = .ok (.iload_n 3, 1) := by decide +kernel
theorem dX6_takeAll_20 : decode cX6_takeAll 20 = .ok (.aload_n 1, 1) := by decide +kernel
theorem dX6_takeAll_21 : decode cX6_takeAll 21 = .ok (.iload_n 2, 1) := by decide +kernel
theorem dX6_takeAll_22 : decode cX6_takeAll 22 = .ok (.iload_n 3, 1) := by decide +kernel
theorem dX6_takeAll_23 : decode cX6_takeAll 23 = .ok (.invokevirtual 27, 3) := by decide +kernel
theorem dX6_takeAll_26 : decode cX6_takeAll 26 = .ok (.invokevirtual 31, 3) := by decide +kernel
theorem dX6_takeAll_29 : decode cX6_takeAll 29 = .ok (.iinc 3 1, 3) := by decide +kernel
theorem dX6_takeAll_32 : decode cX6_takeAll 32 = .ok (.goto (-20), 3) := by decide +kernel
theorem dX6_takeAll_35 : decode cX6_takeAll 35 = .ok (.aload_n 0, 1) := by decide +kernel
theorem dX6_takeAll_36 : decode cX6_takeAll 36 = .ok (.invokevirtual 35, 3) := by decide +kernel
theorem dX6_takeAll_39 : decode cX6_takeAll 39 = .ok (.iinc 2 1, 3) := by decide +kernel
theorem dX6_takeAll_42 : decode cX6_takeAll 42 = .ok (.goto (-40), 3) := by decide +kernel
theorem dX6_takeAll_45 : decode cX6_takeAll 45 = .ok (.return_, 1) := by decide +kernel
theorem dX9_ties_0 : decode cX9_ties 0 = .ok (.aload_n 0, 1) := by decide +kernel
theorem dX9_ties_1 : decode cX9_ties 1 = .ok (.getfield 26, 3) := by decide +kernel
theorem dX9_ties_4 : decode cX9_ties 4 = .ok (.aload_n 0, 1) := by decide +kernel
theorem dX9_ties_5 : decode cX9_ties 5 = .ok (.getfield 12, 3) := by decide +kernel
theorem dX9_ties_8 : decode cX9_ties 8 = .ok (.getfield 90, 3) := by decide +kernel
theorem dX9_ties_11 : decode cX9_ties 11 = .ok (.invokevirtual 120, 3) := by decide +kernel
theorem dX9_ties_14 : decode cX9_ties 14 = .ok (.istore_n 1, 1) := by decide +kernel
theorem dX9_ties_15 : decode cX9_ties 15 = .ok (.aload_n 0, 1) := by decide +kernel
theorem dX9_ties_16 : decode cX9_ties 16 = .ok (.getfield 26, 3) := by decide +kernel
theorem dX9_ties_19 : decode cX9_ties 19 = .ok (.iconst 0, 1) := by decide +kernel
theorem dX9_ties_20 : decode cX9_ties 20 = .ok (.putfield 116, 3) := by decide +kernel
theorem dX9_ties_23 : decode cX9_ties 23 = .ok (.iload_n 1, 1) := by decide +kernel
theorem dX9_ties_24 : decode cX9_ties 24 = .ok (.ifCond .ne 14, 3) := by decide +kernel
theorem dX9_ties_27 : decode cX9_ties 27 = .ok (.bipush (-20), 2) := by decide +kernel
theorem dX9_ties_29 : decode cX9_ties 29 = .ok (.aload_n 0, 1) := by decide +kernel
theorem dX9_ties_30 : decode cX9_ties 30 = .ok (.getfield 26, 3) := by decide +kernel
theorem dX9_ties_33 : decode cX9_ties 33 = .ok (.getfield 123, 3) := by decide +kernel
theorem dX9_ties_36 : decode cX9_ties 36 = .ok (.isub, 1) := by decide +kernel
theorem dX9_ties_37 : decode cX9_ties 37 = .ok (.ireturn, 1) := by decide +kernel
theorem dX9_ties_38 : decode cX9_ties 38 = .ok (.aload_n 0, 1) := by decide +kernel
theorem dX9_ties_39 : decode cX9_ties 39 = .ok (.getfield 19, 3) := by decide +kernel
theorem dX9_ties_42 : decode cX9_ties 42 = .ok (.getfield 126, 3) := by decide +kernel
theorem dX9_ties_45 : decode cX9_ties 45 = .ok (.aload_n 0, 1) := by decide +kernel
theorem dX9_ties_46 : decode cX9_ties 46 = .ok (.getfield 26, 3) := by decide +kernel
theorem dX9_ties_49 : decode cX9_ties 49 = .ok (.getfield 127, 3) := by decide +kernel
theorem dX9_ties_52 : decode cX9_ties 52 = .ok (.getfield 126, 3) := by decide +kernel
theorem dX9_ties_55 : decode cX9_ties 55 = .ok (.iadd, 1) := by decide +kernel
theorem dX9_ties_56 : decode cX9_ties 56 = .ok (.bipush 60, 2) := by decide +kernel
theorem dX9_ties_58 : decode cX9_ties 58 = .ok (.if_icmp .le 10, 3) := by decide +kernel
theorem dX9_ties_61 : decode cX9_ties 61 = .ok (.aload_n 0, 1) := by decide +kernel
theorem dX9_ties_62 : decode cX9_ties 62 = .ok (.bipush (-6), 2) := by decide +kernel
theorem dX9_ties_64 : decode cX9_ties 64 = .ok (.invokevirtual 86, 3) := by decide +kernel
theorem dX9_ties_67 : decode cX9_ties 67 = .ok (.ireturn, 1) := by decide +kernel
theorem dX9_ties_68 : decode cX9_ties 68 = .ok (.aload_n 0, 1) := by decide +kernel
theorem dX9_ties_69 : decode cX9_ties 69 = .ok (.getfield 19, 3) := by decide +kernel
theorem dX9_ties_72 : decode cX9_ties 72 = .ok (.aload_n 0, 1) := by decide +kernel
theorem dX9_ties_73 : decode cX9_ties 73 = .ok (.getfield 26, 3) := by decide +kernel
theorem dX9_ties_76 : decode cX9_ties 76 = .ok (.getfield 127, 3) := by decide +kernel
theorem dX9_ties_79 : decode cX9_ties 79 = .ok (.invokevirtual 130, 3) := by decide +kernel
theorem dX9_ties_82 : decode cX9_ties 82 = .ok (.aload_n 0, 1) := by decide +kernel
theorem dX9_ties_83 : decode cX9_ties 83 = .ok (.getfield 19, 3) := by decide +kernel
theorem dX9_ties_86 : decode cX9_ties 86 = .ok (.getfield 126, 3) := by decide +kernel
theorem dX9_ties_89 : decode cX9_ties 89 = .ok (.ireturn, 1) := by decide +kernel
theorem dX6_drop_0 : decode cX6_drop 0 = .ok (.iload_n 1, 1) := by decide +kernel
theorem dX6_drop_1 : decode cX6_drop 1 = .ok (.bipush 6, 2) := by decide +kernel
theorem dX6_drop_3 : decode cX6_drop 3 = .ok (.imul, 1) := by decide +kernel
theorem dX6_drop_4 : decode cX6_drop 4 = .ok (.istore_n 2, 1) := by decide +kernel
theorem dX6_drop_5 : decode cX6_drop 5 = .ok (.iload_n 2, 1) := by decide +kernel
theorem dX6_drop_6 : decode cX6_drop 6 = .ok (.aload_n 0, 1) := by decide +kernel
theorem dX6_drop_7 : decode cX6_drop 7 = .ok (.getfield 15, 3) := by decide +kernel
theorem dX6_drop_10 : decode cX6_drop 10 = .ok (.iconst 1, 1) := by decide +kernel
theorem dX6_drop_11 : decode cX6_drop 11 = .ok (.isub, 1) := by decide +kernel
theorem dX6_drop_12 : decode cX6_drop 12 = .ok (.bipush 6, 2) := by decide +kernel
theorem dX6_drop_14 : decode cX6_drop 14 = .ok (.imul, 1) := by decide +kernel
theorem dX6_drop_15 : decode cX6_drop 15 = .ok (.if_icmp .ge 28, 3) := by decide +kernel
theorem dX6_drop_18 : decode cX6_drop 18 = .ok (.aload_n 0, 1) := by decide +kernel
theorem dX6_drop_19 : decode cX6_drop 19 = .ok (.getfield 11, 3) := by decide +kernel
theorem dX6_drop_22 : decode cX6_drop 22 = .ok (.iload_n 2, 1) := by decide +kernel
theorem dX6_drop_23 : decode cX6_drop 23 = .ok (.aload_n 0, 1) := by decide +kernel
theorem dX6_drop_24 : decode cX6_drop 24 = .ok (.getfield 11, 3) := by decide +kernel
theorem dX6_drop_27 : decode cX6_drop 27 = .ok (.iload_n 2, 1) := by decide +kernel
theorem dX6_drop_28 : decode cX6_drop 28 = .ok (.bipush 6, 2) := by decide +kernel
theorem dX6_drop_30 : decode cX6_drop 30 = .ok (.iadd, 1) := by decide +kernel
theorem dX6_drop_31 : decode cX6_drop 31 = .ok (.invokestatic 19, 3) := by decide +kernel
theorem dX6_drop_34 : decode cX6_drop 34 = .ok (.invokestatic 23, 3) := by decide +kernel
theorem dX6_drop_37 : decode cX6_drop 37 = .ok (.iinc 2 1, 3) := by decide +kernel
theorem dX6_drop_40 : decode cX6_drop 40 = .ok (.goto (-35), 3) := by decide +kernel
theorem dX6_drop_43 : decode cX6_drop 43 = .ok (.aload_n 0, 1) := by decide +kernel
theorem dX6_drop_44 : decode cX6_drop 44 = .ok (.dup, 1) := by decide +kernel
theorem dX6_drop_45 : decode cX6_drop 45 = .ok (.getfield 15, 3) := by decide +kernel
theorem dX6_drop_48 : decode cX6_drop 48 = .ok (.iconst 1, 1) := by decide +kernel
theorem dX6_drop_49 : decode cX6_drop 49 = .ok (.isub, 1) := by decide +kernel
theorem dX6_drop_50 : decode cX6_drop 50 = .ok (.putfield 15, 3) := by decide +kernel
theorem dX6_drop_53 : decode cX6_drop 53 = .ok (.return_, 1) := by decide +kernel
theorem dX9_untie_0 : decode cX9_untie 0 = .ok (.iload_n 1, 1) := by decide +kernel
theorem dX9_untie_1 : decode cX9_untie 1 = .ok (.ifCond .lt 14, 3) := by decide +kernel
theorem dX9_untie_4 : decode cX9_untie 4 = .ok (.iload_n 1, 1) := by decide +kernel
theorem dX9_untie_5 : decode cX9_untie 5 = .ok (.aload_n 0, 1) := by decide +kernel
theorem dX9_untie_6 : decode cX9_untie 6 = .ok (.getfield 19, 3) := by decide +kernel
theorem dX9_untie_9 : decode cX9_untie 9 = .ok (.getfield 126, 3) := by decide +kernel
theorem dX9_untie_12 : decode cX9_untie 12 = .ok (.if_icmp .lt 9, 3) := by decide +kernel
theorem dX9_untie_15 : decode cX9_untie 15 = .ok (.aload_n 0, 1) := by decide +kernel
theorem dX9_untie_16 : decode cX9_untie 16 = .ok (.iconst (-1), 1) := by decide +kernel
theorem dX9_untie_17 : decode cX9_untie 17 = .ok (.invokevirtual 86, 3) := by decide +kernel
theorem dX9_untie_20 : decode cX9_untie 20 = .ok (.ireturn, 1) := by decide +kernel
theorem dX9_untie_21 : decode cX9_untie 21 = .ok (.aload_n 0, 1) := by decide +kernel
theorem dX9_untie_22 : decode cX9_untie 22 = .ok (.getfield 19, 3) := by decide +kernel
theorem dX9_untie_25 : decode cX9_untie 25 = .ok (.iload_n 1, 1) := by decide +kernel
theorem dX9_untie_26 : decode cX9_untie 26 = .ok (.invokevirtual 134, 3) := by decide +kernel
theorem dX9_untie_29 : decode cX9_untie 29 = .ok (.iconst 1, 1) := by decide +kernel
theorem dX9_untie_30 : decode cX9_untie 30 = .ok (.ireturn, 1) := by decide +kernel
theorem dX9_isKind_0 : decode cX9_isKind 0 = .ok (.iload_n 0, 1) := by decide +kernel
theorem dX9_isKind_1 : decode cX9_isKind 1 = .ok (.ifCond .lt 12, 3) := by decide +kernel
theorem dX9_isKind_4 : decode cX9_isKind 4 = .ok (.iload_n 0, 1) := by decide +kernel
theorem dX9_isKind_5 : decode cX9_isKind 5 = .ok (.iconst 3, 1) := by decide +kernel
theorem dX9_isKind_6 : decode cX9_isKind 6 = .ok (.if_icmp .ge 7, 3) := by decide +kernel
theorem dX9_isKind_9 : decode cX9_isKind 9 = .ok (.iconst 1, 1) := by decide +kernel
theorem dX9_isKind_10 : decode cX9_isKind 10 = .ok (.goto 4, 3) := by decide +kernel
theorem dX9_isKind_13 : decode cX9_isKind 13 = .ok (.iconst 0, 1) := by decide +kernel
theorem dX9_isKind_14 : decode cX9_isKind 14 = .ok (.ireturn, 1) := by decide +kernel
theorem dX9_cell_0 : decode cX9_cell 0 = .ok (.iload_n 0, 1) := by decide +kernel
theorem dX9_cell_1 : decode cX9_cell 1 = .ok (.bipush 7, 2) := by decide +kernel
theorem dX9_cell_3 : decode cX9_cell 3 = .ok (.imul, 1) := by decide +kernel
theorem dX9_cell_4 : decode cX9_cell 4 = .ok (.iload_n 1, 1) := by decide +kernel
theorem dX9_cell_5 : decode cX9_cell 5 = .ok (.iadd, 1) := by decide +kernel
theorem dX9_cell_6 : decode cX9_cell 6 = .ok (.bipush 7, 2) := by decide +kernel
theorem dX9_cell_8 : decode cX9_cell 8 = .ok (.imul, 1) := by decide +kernel
theorem dX9_cell_9 : decode cX9_cell 9 = .ok (.iload_n 2, 1) := by decide +kernel
theorem dX9_cell_10 : decode cX9_cell 10 = .ok (.iadd, 1) := by decide +kernel
theorem dX9_cell_11 : decode cX9_cell 11 = .ok (.ireturn, 1) := by decide +kernel
theorem dX6_draw_0 : decode cX6_draw 0 = .ok (.aload_n 1, 1) := by decide +kernel
theorem dX6_draw_1 : decode cX6_draw 1 = .ok (.getfield 38, 3) := by decide +kernel
theorem dX6_draw_4 : decode cX6_draw 4 = .ok (.invokestatic 43, 3) := by decide +kernel
theorem dX6_draw_7 : decode cX6_draw 7 = .ok (.iconst 0, 1) := by decide +kernel
theorem dX6_draw_8 : decode cX6_draw 8 = .ok (.istore_n 3, 1) := by decide +kernel
theorem dX6_draw_9 : decode cX6_draw 9 = .ok (.iload_n 3, 1) := by decide +kernel
theorem dX6_draw_10 : decode cX6_draw 10 = .ok (.aload_n 0, 1) := by decide +kernel
theorem dX6_draw_11 : decode cX6_draw 11 = .ok (.getfield 15, 3) := by decide +kernel
theorem dX6_draw_14 : decode cX6_draw 14 = .ok (.if_icmp .ge 67, 3) := by decide +kernel
theorem dX6_draw_17 : decode cX6_draw 17 = .ok (.aload_n 0, 1) := by decide +kernel
theorem dX6_draw_18 : decode cX6_draw 18 = .ok (.iload_n 3, 1) := by decide +kernel
theorem dX6_draw_19 : decode cX6_draw 19 = .ok (.iconst 4, 1) := by decide +kernel
theorem dX6_draw_20 : decode cX6_draw 20 = .ok (.invokevirtual 27, 3) := by decide +kernel
theorem dX6_draw_23 : decode cX6_draw 23 = .ok (.iload_n 2, 1) := by decide +kernel
theorem dX6_draw_24 : decode cX6_draw 24 = .ok (.if_icmp .gt 51, 3) := by decide +kernel
theorem dX6_draw_27 : decode cX6_draw 27 = .ok (.iload_n 2, 1) := by decide +kernel
theorem dX6_draw_28 : decode cX6_draw 28 = .ok (.aload_n 0, 1) := by decide +kernel
theorem dX6_draw_29 : decode cX6_draw 29 = .ok (.iload_n 3, 1) := by decide +kernel
theorem dX6_draw_30 : decode cX6_draw 30 = .ok (.iconst 5, 1) := by decide +kernel
theorem dX6_draw_31 : decode cX6_draw 31 = .ok (.invokevirtual 27, 3) := by decide +kernel
theorem dX6_draw_34 : decode cX6_draw 34 = .ok (.if_icmp .ge 41, 3) := by decide +kernel
theorem dX6_draw_37 : decode cX6_draw 37 = .ok (.aload_n 0, 1) := by decide +kernel
theorem dX6_draw_38 : decode cX6_draw 38 = .ok (.iload_n 3, 1) := by decide +kernel
theorem dX6_draw_39 : decode cX6_draw 39 = .ok (.iconst 2, 1) := by decide +kernel
theorem dX6_draw_40 : decode cX6_draw 40 = .ok (.invokevirtual 27, 3) := by decide +kernel
theorem dX6_draw_43 : decode cX6_draw 43 = .ok (.aload_n 0, 1) := by decide +kernel
theorem dX6_draw_44 : decode cX6_draw 44 = .ok (.iload_n 3, 1) := by decide +kernel
theorem dX6_draw_45 : decode cX6_draw 45 = .ok (.iconst 0, 1) := by decide +kernel
theorem dX6_draw_46 : decode cX6_draw 46 = .ok (.invokevirtual 27, 3) := by decide +kernel
theorem dX6_draw_49 : decode cX6_draw 49 = .ok (.aload_n 0, 1) := by decide +kernel
theorem dX6_draw_50 : decode cX6_draw 50 = .ok (.iload_n 3, 1) := by decide +kernel
theorem dX6_draw_51 : decode cX6_draw 51 = .ok (.iconst 1, 1) := by decide +kernel
theorem dX6_draw_52 : decode cX6_draw 52 = .ok (.invokevirtual 27, 3) := by decide +kernel
theorem dX6_draw_55 : decode cX6_draw 55 = .ok (.invokestatic 47, 3) := by decide +kernel
theorem dX6_draw_58 : decode cX6_draw 58 = .ok (.istore 4, 2) := by decide +kernel
theorem dX6_draw_60 : decode cX6_draw 60 = .ok (.aload_n 1, 1) := by decide +kernel
theorem dX6_draw_61 : decode cX6_draw 61 = .ok (.getfield 38, 3) := by decide +kernel
theorem dX6_draw_64 : decode cX6_draw 64 = .ok (.iload 4, 2) := by decide +kernel
theorem dX6_draw_66 : decode cX6_draw 66 = .ok (.aload_n 0, 1) := by decide +kernel
theorem dX6_draw_67 : decode cX6_draw 67 = .ok (.iload_n 3, 1) := by decide +kernel
theorem dX6_draw_68 : decode cX6_draw 68 = .ok (.iconst 3, 1) := by decide +kernel
theorem dX6_draw_69 : decode cX6_draw 69 = .ok (.invokevirtual 27, 3) := by decide +kernel
theorem dX6_draw_72 : decode cX6_draw 72 = .ok (.invokestatic 23, 3) := by decide +kernel
theorem dX6_draw_75 : decode cX6_draw 75 = .ok (.iinc 3 1, 3) := by decide +kernel
theorem dX6_draw_78 : decode cX6_draw 78 = .ok (.goto (-69), 3) := by decide +kernel
theorem dX6_draw_81 : decode cX6_draw 81 = .ok (.return_, 1) := by decide +kernel
theorem dX9_lookAt_0 : decode cX9_lookAt 0 = .ok (.aload_n 0, 1) := by decide +kernel
theorem dX9_lookAt_1 : decode cX9_lookAt 1 = .ok (.getfield 19, 3) := by decide +kernel
theorem dX9_lookAt_4 : decode cX9_lookAt 4 = .ok (.aload_n 0, 1) := by decide +kernel
theorem dX9_lookAt_5 : decode cX9_lookAt 5 = .ok (.getfield 12, 3) := by decide +kernel
theorem dX9_lookAt_8 : decode cX9_lookAt 8 = .ok (.iload_n 1, 1) := by decide +kernel
theorem dX9_lookAt_9 : decode cX9_lookAt 9 = .ok (.invokevirtual 246, 3) := by decide +kernel
theorem dX9_lookAt_12 : decode cX9_lookAt 12 = .ok (.return_, 1) := by decide +kernel
theorem dX7_strength_0 : decode cX7_strength 0 = .ok (.iload_n 1, 1) := by decide +kernel
theorem dX7_strength_1 : decode cX7_strength 1 = .ok (.bipush 7, 2) := by decide +kernel
theorem dX7_strength_3 : decode cX7_strength 3 = .ok (.imul, 1) := by decide +kernel
theorem dX7_strength_4 : decode cX7_strength 4 = .ok (.iload_n 2, 1) := by decide +kernel
theorem dX7_strength_5 : decode cX7_strength 5 = .ok (.iadd, 1) := by decide +kernel
theorem dX7_strength_6 : decode cX7_strength 6 = .ok (.bipush 7, 2) := by decide +kernel
theorem dX7_strength_8 : decode cX7_strength 8 = .ok (.imul, 1) := by decide +kernel
theorem dX7_strength_9 : decode cX7_strength 9 = .ok (.iload_n 3, 1) := by decide +kernel
theorem dX7_strength_10 : decode cX7_strength 10 = .ok (.iadd, 1) := by decide +kernel
theorem dX7_strength_11 : decode cX7_strength 11 = .ok (.istore 4, 2) := by decide +kernel
theorem dX7_strength_13 : decode cX7_strength 13 = .ok (.iload 4, 2) := by decide +kernel
theorem dX7_strength_15 : decode cX7_strength 15 = .ok (.ifCond .lt 23, 3) := by decide +kernel
theorem dX7_strength_18 : decode cX7_strength 18 = .ok (.iload 4, 2) := by decide +kernel
theorem dX7_strength_20 : decode cX7_strength 20 = .ok (.aload_n 0, 1) := by decide +kernel
theorem dX7_strength_21 : decode cX7_strength 21 = .ok (.getfield 15, 3) := by decide +kernel
theorem dX7_strength_24 : decode cX7_strength 24 = .ok (.arraylength, 1) := by decide +kernel
theorem dX7_strength_25 : decode cX7_strength 25 = .ok (.if_icmp .ge 13, 3) := by decide +kernel
theorem dX7_strength_28 : decode cX7_strength 28 = .ok (.aload_n 0, 1) := by decide +kernel
theorem dX7_strength_29 : decode cX7_strength 29 = .ok (.getfield 15, 3) := by decide +kernel
theorem dX7_strength_32 : decode cX7_strength 32 = .ok (.iload 4, 2) := by decide +kernel
theorem dX7_strength_34 : decode cX7_strength 34 = .ok (.iaload, 1) := by decide +kernel
theorem dX7_strength_35 : decode cX7_strength 35 = .ok (.goto 4, 3) := by decide +kernel
theorem dX7_strength_38 : decode cX7_strength 38 = .ok (.iconst 0, 1) := by decide +kernel
theorem dX7_strength_39 : decode cX7_strength 39 = .ok (.ireturn, 1) := by decide +kernel
theorem dX9_tie_0 : decode cX9_tie 0 = .ok (.iload_n 1, 1) := by decide +kernel
theorem dX9_tie_1 : decode cX9_tie 1 = .ok (.invokestatic 137, 3) := by decide +kernel
theorem dX9_tie_4 : decode cX9_tie 4 = .ok (.ifCond .eq 30, 3) := by decide +kernel
theorem dX9_tie_7 : decode cX9_tie 7 = .ok (.aload_n 0, 1) := by decide +kernel
theorem dX9_tie_8 : decode cX9_tie 8 = .ok (.getfield 12, 3) := by decide +kernel
theorem dX9_tie_11 : decode cX9_tie 11 = .ok (.iload_n 2, 1) := by decide +kernel
theorem dX9_tie_12 : decode cX9_tie 12 = .ok (.invokevirtual 98, 3) := by decide +kernel
theorem dX9_tie_15 : decode cX9_tie 15 = .ok (.ifCond .eq 19, 3) := by decide +kernel
theorem dX9_tie_18 : decode cX9_tie 18 = .ok (.aload_n 0, 1) := by decide +kernel
theorem dX9_tie_19 : decode cX9_tie 19 = .ok (.getfield 12, 3) := by decide +kernel
theorem dX9_tie_22 : decode cX9_tie 22 = .ok (.iload_n 3, 1) := by decide +kernel
theorem dX9_tie_23 : decode cX9_tie 23 = .ok (.invokevirtual 98, 3) := by decide +kernel
theorem dX9_tie_26 : decode cX9_tie 26 = .ok (.ifCond .eq 8, 3) := by decide +kernel
theorem dX9_tie_29 : decode cX9_tie 29 = .ok (.iload_n 2, 1) := by decide +kernel
theorem dX9_tie_30 : decode cX9_tie 30 = .ok (.iload_n 3, 1) := by decide +kernel
theorem dX9_tie_31 : decode cX9_tie 31 = .ok (.if_icmp .ne 9, 3) := by decide +kernel
theorem dX9_tie_34 : decode cX9_tie 34 = .ok (.aload_n 0, 1) := by decide +kernel
theorem dX9_tie_35 : decode cX9_tie 35 = .ok (.iconst (-1), 1) := by decide +kernel
theorem dX9_tie_36 : decode cX9_tie 36 = .ok (.invokevirtual 86, 3) := by decide +kernel
theorem dX9_tie_39 : decode cX9_tie 39 = .ok (.ireturn, 1) := by decide +kernel
theorem dX9_tie_40 : decode cX9_tie 40 = .ok (.aload_n 0, 1) := by decide +kernel
theorem dX9_tie_41 : decode cX9_tie 41 = .ok (.aload_n 0, 1) := by decide +kernel
theorem dX9_tie_42 : decode cX9_tie 42 = .ok (.getfield 113, 3) := by decide +kernel
theorem dX9_tie_45 : decode cX9_tie 45 = .ok (.invokevirtual 140, 3) := by decide +kernel
theorem dX9_tie_48 : decode cX9_tie 48 = .ok (.aload_n 0, 1) := by decide +kernel
theorem dX9_tie_49 : decode cX9_tie 49 = .ok (.getfield 12, 3) := by decide +kernel
theorem dX9_tie_52 : decode cX9_tie 52 = .ok (.iload_n 1, 1) := by decide +kernel
theorem dX9_tie_53 : decode cX9_tie 53 = .ok (.iload_n 2, 1) := by decide +kernel
theorem dX9_tie_54 : decode cX9_tie 54 = .ok (.iload_n 3, 1) := by decide +kernel
theorem dX9_tie_55 : decode cX9_tie 55 = .ok (.invokevirtual 143, 3) := by decide +kernel
theorem dX9_tie_58 : decode cX9_tie 58 = .ok (.ireturn, 1) := by decide +kernel
theorem dX7_tied_0 : decode cX7_tied 0 = .ok (.aload_n 0, 1) := by decide +kernel
theorem dX7_tied_1 : decode cX7_tied 1 = .ok (.iload_n 1, 1) := by decide +kernel
theorem dX7_tied_2 : decode cX7_tied 2 = .ok (.iload_n 2, 1) := by decide +kernel
theorem dX7_tied_3 : decode cX7_tied 3 = .ok (.iload_n 3, 1) := by decide +kernel
theorem dX7_tied_4 : decode cX7_tied 4 = .ok (.invokevirtual 26, 3) := by decide +kernel
theorem dX7_tied_7 : decode cX7_tied 7 = .ok (.ifCond .le 7, 3) := by decide +kernel
theorem dX7_tied_10 : decode cX7_tied 10 = .ok (.iconst 1, 1) := by decide +kernel
theorem dX7_tied_11 : decode cX7_tied 11 = .ok (.goto 4, 3) := by decide +kernel
theorem dX7_tied_14 : decode cX7_tied 14 = .ok (.iconst 0, 1) := by decide +kernel
theorem dX7_tied_15 : decode cX7_tied 15 = .ok (.ireturn, 1) := by decide +kernel
theorem dX7_tiesOf_0 : decode cX7_tiesOf 0 = .ok (.iconst 0, 1) := by decide +kernel
theorem dX7_tiesOf_1 : decode cX7_tiesOf 1 = .ok (.istore 4, 2) := by decide +kernel
theorem dX7_tiesOf_3 : decode cX7_tiesOf 3 = .ok (.iconst 0, 1) := by decide +kernel
theorem dX7_tiesOf_4 : decode cX7_tiesOf 4 = .ok (.istore 5, 2) := by decide +kernel
theorem dX7_tiesOf_6 : decode cX7_tiesOf 6 = .ok (.iload 5, 2) := by decide +kernel
theorem dX7_tiesOf_8 : decode cX7_tiesOf 8 = .ok (.aload_n 0, 1) := by decide +kernel
theorem dX7_tiesOf_9 : decode cX7_tiesOf 9 = .ok (.getfield 18, 3) := by decide +kernel
theorem dX7_tiesOf_12 : decode cX7_tiesOf 12 = .ok (.if_icmp .ge 41, 3) := by decide +kernel
theorem dX7_tiesOf_15 : decode cX7_tiesOf 15 = .ok (.iload_n 3, 1) := by decide +kernel
theorem dX7_tiesOf_16 : decode cX7_tiesOf 16 = .ok (.ifCond .eq 17, 3) := by decide +kernel
theorem dX7_tiesOf_19 : decode cX7_tiesOf 19 = .ok (.aload_n 0, 1) := by decide +kernel
theorem dX7_tiesOf_20 : decode cX7_tiesOf 20 = .ok (.iload_n 1, 1) := by decide +kernel
theorem dX7_tiesOf_21 : decode cX7_tiesOf 21 = .ok (.iload 5, 2) := by decide +kernel
theorem dX7_tiesOf_23 : decode cX7_tiesOf 23 = .ok (.iload_n 2, 1) := by decide +kernel
theorem dX7_tiesOf_24 : decode cX7_tiesOf 24 = .ok (.invokevirtual 34, 3) := by decide +kernel
theorem dX7_tiesOf_27 : decode cX7_tiesOf 27 = .ok (.ifCond .eq 20, 3) := by decide +kernel
theorem dX7_tiesOf_30 : decode cX7_tiesOf 30 = .ok (.goto 14, 3) := by decide +kernel
theorem dX7_tiesOf_33 : decode cX7_tiesOf 33 = .ok (.aload_n 0, 1) := by decide +kernel
theorem dX7_tiesOf_34 : decode cX7_tiesOf 34 = .ok (.iload_n 1, 1) := by decide +kernel
theorem dX7_tiesOf_35 : decode cX7_tiesOf 35 = .ok (.iload_n 2, 1) := by decide +kernel
theorem dX7_tiesOf_36 : decode cX7_tiesOf 36 = .ok (.iload 5, 2) := by decide +kernel
theorem dX7_tiesOf_38 : decode cX7_tiesOf 38 = .ok (.invokevirtual 34, 3) := by decide +kernel
theorem dX7_tiesOf_41 : decode cX7_tiesOf 41 = .ok (.ifCond .eq 6, 3) := by decide +kernel
theorem dX7_tiesOf_44 : decode cX7_tiesOf 44 = .ok (.iinc 4 1, 3) := by decide +kernel
theorem dX7_tiesOf_47 : decode cX7_tiesOf 47 = .ok (.iinc 5 1, 3) := by decide +kernel
theorem dX7_tiesOf_50 : decode cX7_tiesOf 50 = .ok (.goto (-44), 3) := by decide +kernel
theorem dX7_tiesOf_53 : decode cX7_tiesOf 53 = .ok (.iload 4, 2) := by decide +kernel
theorem dX7_tiesOf_55 : decode cX7_tiesOf 55 = .ok (.ireturn, 1) := by decide +kernel
theorem dX9_degree_0 : decode cX9_degree 0 = .ok (.iload_n 1, 1) := by decide +kernel
theorem dX9_degree_1 : decode cX9_degree 1 = .ok (.invokestatic 137, 3) := by decide +kernel
theorem dX9_degree_4 : decode cX9_degree 4 = .ok (.ifCond .eq 14, 3) := by decide +kernel
theorem dX9_degree_7 : decode cX9_degree 7 = .ok (.aload_n 0, 1) := by decide +kernel
theorem dX9_degree_8 : decode cX9_degree 8 = .ok (.getfield 12, 3) := by decide +kernel
theorem dX9_degree_11 : decode cX9_degree 11 = .ok (.iload_n 2, 1) := by decide +kernel
theorem dX9_degree_12 : decode cX9_degree 12 = .ok (.invokevirtual 98, 3) := by decide +kernel
theorem dX9_degree_15 : decode cX9_degree 15 = .ok (.ifCond .ne 9, 3) := by decide +kernel
theorem dX9_degree_18 : decode cX9_degree 18 = .ok (.aload_n 0, 1) := by decide +kernel
theorem dX9_degree_19 : decode cX9_degree 19 = .ok (.iconst (-1), 1) := by decide +kernel
theorem dX9_degree_20 : decode cX9_degree 20 = .ok (.invokevirtual 86, 3) := by decide +kernel
theorem dX9_degree_23 : decode cX9_degree 23 = .ok (.ireturn, 1) := by decide +kernel
theorem dX9_degree_24 : decode cX9_degree 24 = .ok (.aload_n 0, 1) := by decide +kernel
theorem dX9_degree_25 : decode cX9_degree 25 = .ok (.aload_n 0, 1) := by decide +kernel
theorem dX9_degree_26 : decode cX9_degree 26 = .ok (.getfield 113, 3) := by decide +kernel
theorem dX9_degree_29 : decode cX9_degree 29 = .ok (.invokevirtual 140, 3) := by decide +kernel
theorem dX9_degree_32 : decode cX9_degree 32 = .ok (.aload_n 0, 1) := by decide +kernel
theorem dX9_degree_33 : decode cX9_degree 33 = .ok (.getfield 12, 3) := by decide +kernel
theorem dX9_degree_36 : decode cX9_degree 36 = .ok (.iload_n 1, 1) := by decide +kernel
theorem dX9_degree_37 : decode cX9_degree 37 = .ok (.iload_n 2, 1) := by decide +kernel
theorem dX9_degree_38 : decode cX9_degree 38 = .ok (.iload_n 3, 1) := by decide +kernel
theorem dX9_degree_39 : decode cX9_degree 39 = .ok (.invokevirtual 147, 3) := by decide +kernel
theorem dX9_degree_42 : decode cX9_degree 42 = .ok (.ireturn, 1) := by decide +kernel
theorem dX3_of_0 : decode cX3_of 0 = .ok (.aload_n 0, 1) := by decide +kernel
theorem dX3_of_1 : decode cX3_of 1 = .ok (.getfield 9, 3) := by decide +kernel
theorem dX3_of_4 : decode cX3_of 4 = .ok (.iload_n 1, 1) := by decide +kernel
theorem dX3_of_5 : decode cX3_of 5 = .ok (.invokestatic 36, 3) := by decide +kernel
theorem dX3_of_8 : decode cX3_of 8 = .ok (.ireturn, 1) := by decide +kernel
theorem dX3_readNumber_0 : decode cX3_readNumber 0 = .ok (.aload_n 0, 1) := by decide +kernel
theorem dX3_readNumber_1 : decode cX3_readNumber 1 = .ok (.iload_n 2, 1) := by decide +kernel
theorem dX3_readNumber_2 : decode cX3_readNumber 2 = .ok (.putfield 15, 3) := by decide +kernel
theorem dX3_readNumber_5 : decode cX3_readNumber 5 = .ok (.aload_n 0, 1) := by decide +kernel
theorem dX3_readNumber_6 : decode cX3_readNumber 6 = .ok (.iconst 0, 1) := by decide +kernel
theorem dX3_readNumber_7 : decode cX3_readNumber 7 = .ok (.putfield 19, 3) := by decide +kernel
theorem dX3_readNumber_10 : decode cX3_readNumber 10 = .ok (.iload_n 1, 1) := by decide +kernel
theorem dX3_readNumber_11 : decode cX3_readNumber 11 = .ok (.istore_n 3, 1) := by decide +kernel
theorem dX3_readNumber_12 : decode cX3_readNumber 12 = .ok (.iload_n 2, 1) := by decide +kernel
theorem dX3_readNumber_13 : decode cX3_readNumber 13 = .ok (.iconst 1, 1) := by decide +kernel
theorem dX3_readNumber_14 : decode cX3_readNumber 14 = .ok (.isub, 1) := by decide +kernel
theorem dX3_readNumber_15 : decode cX3_readNumber 15 = .ok (.istore 4, 2) := by decide +kernel
theorem dX3_readNumber_17 : decode cX3_readNumber 17 = .ok (.iload 4, 2) := by decide +kernel
theorem dX3_readNumber_19 : decode cX3_readNumber 19 = .ok (.ifCond .lt 27, 3) := by decide +kernel
theorem dX3_readNumber_22 : decode cX3_readNumber 22 = .ok (.aload_n 0, 1) := by decide +kernel
theorem dX3_readNumber_23 : decode cX3_readNumber 23 = .ok (.getfield 9, 3) := by decide +kernel
theorem dX3_readNumber_26 : decode cX3_readNumber 26 = .ok (.iload 4, 2) := by decide +kernel
theorem dX3_readNumber_28 : decode cX3_readNumber 28 = .ok (.iload_n 3, 1) := by decide +kernel
theorem dX3_readNumber_29 : decode cX3_readNumber 29 = .ok (.bipush 10, 2) := by decide +kernel
theorem dX3_readNumber_31 : decode cX3_readNumber 31 = .ok (.irem, 1) := by decide +kernel
theorem dX3_readNumber_32 : decode cX3_readNumber 32 = .ok (.invokestatic 22, 3) := by decide +kernel
theorem dX3_readNumber_35 : decode cX3_readNumber 35 = .ok (.iload_n 3, 1) := by decide +kernel
theorem dX3_readNumber_36 : decode cX3_readNumber 36 = .ok (.bipush 10, 2) := by decide +kernel
theorem dX3_readNumber_38 : decode cX3_readNumber 38 = .ok (.idiv, 1) := by decide +kernel
theorem dX3_readNumber_39 : decode cX3_readNumber 39 = .ok (.istore_n 3, 1) := by decide +kernel
theorem dX3_readNumber_40 : decode cX3_readNumber 40 = .ok (.iinc 4 (-1), 3) := by decide +kernel
theorem dX3_readNumber_43 : decode cX3_readNumber 43 = .ok (.goto (-26), 3) := by decide +kernel
theorem dX3_readNumber_46 : decode cX3_readNumber 46 = .ok (.iload_n 1, 1) := by decide +kernel
theorem dX3_readNumber_47 : decode cX3_readNumber 47 = .ok (.ifCond .lt 7, 3) := by decide +kernel
theorem dX3_readNumber_50 : decode cX3_readNumber 50 = .ok (.iload_n 3, 1) := by decide +kernel
theorem dX3_readNumber_51 : decode cX3_readNumber 51 = .ok (.ifCond .eq 5, 3) := by decide +kernel
theorem dX3_readNumber_54 : decode cX3_readNumber 54 = .ok (.iconst 0, 1) := by decide +kernel
theorem dX3_readNumber_55 : decode cX3_readNumber 55 = .ok (.ireturn, 1) := by decide +kernel
theorem dX3_readNumber_56 : decode cX3_readNumber 56 = .ok (.iconst 0, 1) := by decide +kernel
theorem dX3_readNumber_57 : decode cX3_readNumber 57 = .ok (.istore 4, 2) := by decide +kernel
theorem dX3_readNumber_59 : decode cX3_readNumber 59 = .ok (.iload 4, 2) := by decide +kernel
theorem dX3_readNumber_61 : decode cX3_readNumber 61 = .ok (.iload_n 2, 1) := by decide +kernel
theorem dX3_readNumber_62 : decode cX3_readNumber 62 = .ok (.if_icmp .ge 43, 3) := by decide +kernel
theorem dX3_readNumber_65 : decode cX3_readNumber 65 = .ok (.aload_n 0, 1) := by decide +kernel
theorem dX3_readNumber_66 : decode cX3_readNumber 66 = .ok (.iload 4, 2) := by decide +kernel
theorem dX3_readNumber_68 : decode cX3_readNumber 68 = .ok (.invokevirtual 26, 3) := by decide +kernel
theorem dX3_readNumber_71 : decode cX3_readNumber 71 = .ok (.aload_n 0, 1) := by decide +kernel
theorem dX3_readNumber_72 : decode cX3_readNumber 72 = .ok (.getfield 19, 3) := by decide +kernel
theorem dX3_readNumber_75 : decode cX3_readNumber 75 = .ok (.if_icmp .le 5, 3) := by decide +kernel
theorem dX3_readNumber_78 : decode cX3_readNumber 78 = .ok (.iconst 0, 1) := by decide +kernel
theorem dX3_readNumber_79 : decode cX3_readNumber 79 = .ok (.ireturn, 1) := by decide +kernel
theorem dX3_readNumber_80 : decode cX3_readNumber 80 = .ok (.aload_n 0, 1) := by decide +kernel
theorem dX3_readNumber_81 : decode cX3_readNumber 81 = .ok (.aload_n 0, 1) := by decide +kernel
theorem dX3_readNumber_82 : decode cX3_readNumber 82 = .ok (.getfield 19, 3) := by decide +kernel
theorem dX3_readNumber_85 : decode cX3_readNumber 85 = .ok (.aload_n 0, 1) := by decide +kernel
theorem dX3_readNumber_86 : decode cX3_readNumber 86 = .ok (.iload 4, 2) := by decide +kernel
theorem dX3_readNumber_88 : decode cX3_readNumber 88 = .ok (.invokevirtual 26, 3) := by decide +kernel
theorem dX3_readNumber_91 : decode cX3_readNumber 91 = .ok (.iconst 1, 1) := by decide +kernel
theorem dX3_readNumber_92 : decode cX3_readNumber 92 = .ok (.iadd, 1) := by decide +kernel
theorem dX3_readNumber_93 : decode cX3_readNumber 93 = .ok (.invokestatic 30, 3) := by decide +kernel
theorem dX3_readNumber_96 : decode cX3_readNumber 96 = .ok (.putfield 19, 3) := by decide +kernel
theorem dX3_readNumber_99 : decode cX3_readNumber 99 = .ok (.iinc 4 1, 3) := by decide +kernel
theorem dX3_readNumber_102 : decode cX3_readNumber 102 = .ok (.goto (-43), 3) := by decide +kernel
theorem dX3_readNumber_105 : decode cX3_readNumber 105 = .ok (.iconst 1, 1) := by decide +kernel
theorem dX3_readNumber_106 : decode cX3_readNumber 106 = .ok (.ireturn, 1) := by decide +kernel
theorem dX9_parting_0 : decode cX9_parting 0 = .ok (.aload_n 0, 1) := by decide +kernel
theorem dX9_parting_1 : decode cX9_parting 1 = .ok (.getfield 68, 3) := by decide +kernel
theorem dX9_parting_4 : decode cX9_parting 4 = .ok (.iload_n 1, 1) := by decide +kernel
theorem dX9_parting_5 : decode cX9_parting 5 = .ok (.aload_n 0, 1) := by decide +kernel
theorem dX9_parting_6 : decode cX9_parting 6 = .ok (.getfield 12, 3) := by decide +kernel
theorem dX9_parting_9 : decode cX9_parting 9 = .ok (.getfield 90, 3) := by decide +kernel
theorem dX9_parting_12 : decode cX9_parting 12 = .ok (.invokevirtual 151, 3) := by decide +kernel
theorem dX9_parting_15 : decode cX9_parting 15 = .ok (.ifCond .ne 9, 3) := by decide +kernel
theorem dX9_parting_18 : decode cX9_parting 18 = .ok (.aload_n 0, 1) := by decide +kernel
theorem dX9_parting_19 : decode cX9_parting 19 = .ok (.iconst (-1), 1) := by decide +kernel
theorem dX9_parting_20 : decode cX9_parting 20 = .ok (.invokevirtual 86, 3) := by decide +kernel
theorem dX9_parting_23 : decode cX9_parting 23 = .ok (.ireturn, 1) := by decide +kernel
theorem dX9_parting_24 : decode cX9_parting 24 = .ok (.aload_n 0, 1) := by decide +kernel
theorem dX9_parting_25 : decode cX9_parting 25 = .ok (.getfield 68, 3) := by decide +kernel
theorem dX9_parting_28 : decode cX9_parting 28 = .ok (.getfield 155, 3) := by decide +kernel
theorem dX9_parting_31 : decode cX9_parting 31 = .ok (.ireturn, 1) := by decide +kernel
theorem dX9_isSameness_0 : decode cX9_isSameness 0 = .ok (.iload_n 0, 1) := by decide +kernel
theorem dX9_isSameness_1 : decode cX9_isSameness 1 = .ok (.ifCond .lt 12, 3) := by decide +kernel
theorem dX9_isSameness_4 : decode cX9_isSameness 4 = .ok (.iload_n 0, 1) := by decide +kernel
theorem dX9_isSameness_5 : decode cX9_isSameness 5 = .ok (.iconst 5, 1) := by decide +kernel
theorem dX9_isSameness_6 : decode cX9_isSameness 6 = .ok (.if_icmp .ge 7, 3) := by decide +kernel
theorem dX9_isSameness_9 : decode cX9_isSameness 9 = .ok (.iconst 1, 1) := by decide +kernel
theorem dX9_isSameness_10 : decode cX9_isSameness 10 = .ok (.goto 4, 3) := by decide +kernel
theorem dX9_isSameness_13 : decode cX9_isSameness 13 = .ok (.iconst 0, 1) := by decide +kernel
theorem dX9_isSameness_14 : decode cX9_isSameness 14 = .ok (.ireturn, 1) := by decide +kernel
theorem dX3_together_0 : decode cX3_together 0 = .ok (.aload_n 0, 1) := by decide +kernel
theorem dX3_together_1 : decode cX3_together 1 = .ok (.iload_n 1, 1) := by decide +kernel
theorem dX3_together_2 : decode cX3_together 2 = .ok (.invokevirtual 26, 3) := by decide +kernel
theorem dX3_together_5 : decode cX3_together 5 = .ok (.aload_n 0, 1) := by decide +kernel
theorem dX3_together_6 : decode cX3_together 6 = .ok (.iload_n 2, 1) := by decide +kernel
theorem dX3_together_7 : decode cX3_together 7 = .ok (.invokevirtual 26, 3) := by decide +kernel
theorem dX3_together_10 : decode cX3_together 10 = .ok (.if_icmp .ne 7, 3) := by decide +kernel
theorem dX3_together_13 : decode cX3_together 13 = .ok (.iconst 1, 1) := by decide +kernel
theorem dX3_together_14 : decode cX3_together 14 = .ok (.goto 4, 3) := by decide +kernel
theorem dX3_together_17 : decode cX3_together 17 = .ok (.iconst 0, 1) := by decide +kernel
theorem dX3_together_18 : decode cX3_together 18 = .ok (.ireturn, 1) := by decide +kernel
theorem dX4_sameView_0 : decode cX4_sameView 0 = .ok (.iconst 0, 1) := by decide +kernel
theorem dX4_sameView_1 : decode cX4_sameView 1 = .ok (.istore_n 3, 1) := by decide +kernel
theorem dX4_sameView_2 : decode cX4_sameView 2 = .ok (.iload_n 3, 1) := by decide +kernel
theorem dX4_sameView_3 : decode cX4_sameView 3 = .ok (.bipush 6, 2) := by decide +kernel
theorem dX4_sameView_5 : decode cX4_sameView 5 = .ok (.if_icmp .ge 40, 3) := by decide +kernel
theorem dX4_sameView_8 : decode cX4_sameView 8 = .ok (.aload_n 0, 1) := by decide +kernel
theorem dX4_sameView_9 : decode cX4_sameView 9 = .ok (.getfield 11, 3) := by decide +kernel
theorem dX4_sameView_12 : decode cX4_sameView 12 = .ok (.iload_n 1, 1) := by decide +kernel
theorem dX4_sameView_13 : decode cX4_sameView 13 = .ok (.bipush 6, 2) := by decide +kernel
theorem dX4_sameView_15 : decode cX4_sameView 15 = .ok (.imul, 1) := by decide +kernel
theorem dX4_sameView_16 : decode cX4_sameView 16 = .ok (.iload_n 3, 1) := by decide +kernel
theorem dX4_sameView_17 : decode cX4_sameView 17 = .ok (.iadd, 1) := by decide +kernel
theorem dX4_sameView_18 : decode cX4_sameView 18 = .ok (.invokestatic 64, 3) := by decide +kernel
theorem dX4_sameView_21 : decode cX4_sameView 21 = .ok (.aload_n 0, 1) := by decide +kernel
theorem dX4_sameView_22 : decode cX4_sameView 22 = .ok (.getfield 11, 3) := by decide +kernel
theorem dX4_sameView_25 : decode cX4_sameView 25 = .ok (.iload_n 2, 1) := by decide +kernel
theorem dX4_sameView_26 : decode cX4_sameView 26 = .ok (.bipush 6, 2) := by decide +kernel
theorem dX4_sameView_28 : decode cX4_sameView 28 = .ok (.imul, 1) := by decide +kernel
theorem dX4_sameView_29 : decode cX4_sameView 29 = .ok (.iload_n 3, 1) := by decide +kernel
theorem dX4_sameView_30 : decode cX4_sameView 30 = .ok (.iadd, 1) := by decide +kernel
theorem dX4_sameView_31 : decode cX4_sameView 31 = .ok (.invokestatic 64, 3) := by decide +kernel
theorem dX4_sameView_34 : decode cX4_sameView 34 = .ok (.if_icmp .eq 5, 3) := by decide +kernel
theorem dX4_sameView_37 : decode cX4_sameView 37 = .ok (.iconst 0, 1) := by decide +kernel
theorem dX4_sameView_38 : decode cX4_sameView 38 = .ok (.ireturn, 1) := by decide +kernel
theorem dX4_sameView_39 : decode cX4_sameView 39 = .ok (.iinc 3 1, 3) := by decide +kernel
theorem dX4_sameView_42 : decode cX4_sameView 42 = .ok (.goto (-40), 3) := by decide +kernel
theorem dX4_sameView_45 : decode cX4_sameView 45 = .ok (.iconst 1, 1) := by decide +kernel
theorem dX4_sameView_46 : decode cX4_sameView 46 = .ok (.ireturn, 1) := by decide +kernel
theorem dX4_match_0 : decode cX4_match 0 = .ok (.iload_n 2, 1) := by decide +kernel
theorem dX4_match_1 : decode cX4_match 1 = .ok (.ifCond .eq 16, 3) := by decide +kernel
theorem dX4_match_4 : decode cX4_match 4 = .ok (.iload_n 0, 1) := by decide +kernel
theorem dX4_match_5 : decode cX4_match 5 = .ok (.iload_n 1, 1) := by decide +kernel
theorem dX4_match_6 : decode cX4_match 6 = .ok (.if_icmp .ne 7, 3) := by decide +kernel
theorem dX4_match_9 : decode cX4_match 9 = .ok (.iconst 1, 1) := by decide +kernel
theorem dX4_match_10 : decode cX4_match 10 = .ok (.goto 33, 3) := by decide +kernel
theorem dX4_match_13 : decode cX4_match 13 = .ok (.iconst 0, 1) := by decide +kernel
theorem dX4_match_14 : decode cX4_match 14 = .ok (.goto 29, 3) := by decide +kernel
theorem dX4_match_17 : decode cX4_match 17 = .ok (.iload_n 0, 1) := by decide +kernel
theorem dX4_match_18 : decode cX4_match 18 = .ok (.ifCond .le 7, 3) := by decide +kernel
theorem dX4_match_21 : decode cX4_match 21 = .ok (.iconst 1, 1) := by decide +kernel
theorem dX4_match_22 : decode cX4_match 22 = .ok (.goto 4, 3) := by decide +kernel
theorem dX4_match_25 : decode cX4_match 25 = .ok (.iconst 0, 1) := by decide +kernel
theorem dX4_match_26 : decode cX4_match 26 = .ok (.iload_n 1, 1) := by decide +kernel
theorem dX4_match_27 : decode cX4_match 27 = .ok (.ifCond .le 7, 3) := by decide +kernel
theorem dX4_match_30 : decode cX4_match 30 = .ok (.iconst 1, 1) := by decide +kernel
theorem dX4_match_31 : decode cX4_match 31 = .ok (.goto 4, 3) := by decide +kernel
theorem dX4_match_34 : decode cX4_match 34 = .ok (.iconst 0, 1) := by decide +kernel
theorem dX4_match_35 : decode cX4_match 35 = .ok (.if_icmp .ne 7, 3) := by decide +kernel
theorem dX4_match_38 : decode cX4_match 38 = .ok (.iconst 1, 1) := by decide +kernel
theorem dX4_match_39 : decode cX4_match 39 = .ok (.goto 4, 3) := by decide +kernel
theorem dX4_match_42 : decode cX4_match 42 = .ok (.iconst 0, 1) := by decide +kernel
theorem dX4_match_43 : decode cX4_match 43 = .ok (.ireturn, 1) := by decide +kernel
theorem dX4_swappable_0 : decode cX4_swappable 0 = .ok (.iconst 0, 1) := by decide +kernel
theorem dX4_swappable_1 : decode cX4_swappable 1 = .ok (.istore 4, 2) := by decide +kernel
theorem dX4_swappable_3 : decode cX4_swappable 3 = .ok (.iload 4, 2) := by decide +kernel
theorem dX4_swappable_5 : decode cX4_swappable 5 = .ok (.iconst 3, 1) := by decide +kernel
theorem dX4_swappable_6 : decode cX4_swappable 6 = .ok (.if_icmp .ge 130, 3) := by decide +kernel
theorem dX4_swappable_9 : decode cX4_swappable 9 = .ok (.aload_n 0, 1) := by decide +kernel
theorem dX4_swappable_10 : decode cX4_swappable 10 = .ok (.iload 4, 2) := by decide +kernel
theorem dX4_swappable_12 : decode cX4_swappable 12 = .ok (.iload_n 1, 1) := by decide +kernel
theorem dX4_swappable_13 : decode cX4_swappable 13 = .ok (.iload_n 2, 1) := by decide +kernel
theorem dX4_swappable_14 : decode cX4_swappable 14 = .ok (.invokevirtual 88, 3) := by decide +kernel
theorem dX4_swappable_17 : decode cX4_swappable 17 = .ok (.aload_n 0, 1) := by decide +kernel
theorem dX4_swappable_18 : decode cX4_swappable 18 = .ok (.iload 4, 2) := by decide +kernel
theorem dX4_swappable_20 : decode cX4_swappable 20 = .ok (.iload_n 2, 1) := by decide +kernel
theorem dX4_swappable_21 : decode cX4_swappable 21 = .ok (.iload_n 1, 1) := by decide +kernel
theorem dX4_swappable_22 : decode cX4_swappable 22 = .ok (.invokevirtual 88, 3) := by decide +kernel
theorem dX4_swappable_25 : decode cX4_swappable 25 = .ok (.iload_n 3, 1) := by decide +kernel
theorem dX4_swappable_26 : decode cX4_swappable 26 = .ok (.invokestatic 92, 3) := by decide +kernel
theorem dX4_swappable_29 : decode cX4_swappable 29 = .ok (.istore 5, 2) := by decide +kernel
theorem dX4_swappable_31 : decode cX4_swappable 31 = .ok (.iconst 0, 1) := by decide +kernel
theorem dX4_swappable_32 : decode cX4_swappable 32 = .ok (.istore 6, 2) := by decide +kernel
theorem dX4_swappable_34 : decode cX4_swappable 34 = .ok (.iload 6, 2) := by decide +kernel
theorem dX4_swappable_36 : decode cX4_swappable 36 = .ok (.aload_n 0, 1) := by decide +kernel
theorem dX4_swappable_37 : decode cX4_swappable 37 = .ok (.getfield 19, 3) := by decide +kernel
theorem dX4_swappable_40 : decode cX4_swappable 40 = .ok (.if_icmp .ge 83, 3) := by decide +kernel
theorem dX4_swappable_43 : decode cX4_swappable 43 = .ok (.iload 5, 2) := by decide +kernel
theorem dX4_swappable_45 : decode cX4_swappable 45 = .ok (.ifCond .eq 78, 3) := by decide +kernel
theorem dX4_swappable_48 : decode cX4_swappable 48 = .ok (.iload 6, 2) := by decide +kernel
theorem dX4_swappable_50 : decode cX4_swappable 50 = .ok (.iload_n 1, 1) := by decide +kernel
theorem dX4_swappable_51 : decode cX4_swappable 51 = .ok (.if_icmp .eq 59, 3) := by decide +kernel
theorem dX4_swappable_54 : decode cX4_swappable 54 = .ok (.iload 6, 2) := by decide +kernel
theorem dX4_swappable_56 : decode cX4_swappable 56 = .ok (.iload_n 2, 1) := by decide +kernel
theorem dX4_swappable_57 : decode cX4_swappable 57 = .ok (.if_icmp .eq 53, 3) := by decide +kernel
theorem dX4_swappable_60 : decode cX4_swappable 60 = .ok (.aload_n 0, 1) := by decide +kernel
theorem dX4_swappable_61 : decode cX4_swappable 61 = .ok (.iload 4, 2) := by decide +kernel
theorem dX4_swappable_63 : decode cX4_swappable 63 = .ok (.iload_n 1, 1) := by decide +kernel
theorem dX4_swappable_64 : decode cX4_swappable 64 = .ok (.iload 6, 2) := by decide +kernel
theorem dX4_swappable_66 : decode cX4_swappable 66 = .ok (.invokevirtual 88, 3) := by decide +kernel
theorem dX4_swappable_69 : decode cX4_swappable 69 = .ok (.aload_n 0, 1) := by decide +kernel
theorem dX4_swappable_70 : decode cX4_swappable 70 = .ok (.iload 4, 2) := by decide +kernel
theorem dX4_swappable_72 : decode cX4_swappable 72 = .ok (.iload_n 2, 1) := by decide +kernel
theorem dX4_swappable_73 : decode cX4_swappable 73 = .ok (.iload 6, 2) := by decide +kernel
theorem dX4_swappable_75 : decode cX4_swappable 75 = .ok (.invokevirtual 88, 3) := by decide +kernel
theorem dX4_swappable_78 : decode cX4_swappable 78 = .ok (.iload_n 3, 1) := by decide +kernel
theorem dX4_swappable_79 : decode cX4_swappable 79 = .ok (.invokestatic 92, 3) := by decide +kernel
theorem dX4_swappable_82 : decode cX4_swappable 82 = .ok (.ifCond .eq 32, 3) := by decide +kernel
theorem dX4_swappable_85 : decode cX4_swappable 85 = .ok (.aload_n 0, 1) := by decide +kernel
theorem dX4_swappable_86 : decode cX4_swappable 86 = .ok (.iload 4, 2) := by decide +kernel
theorem dX4_swappable_88 : decode cX4_swappable 88 = .ok (.iload 6, 2) := by decide +kernel
theorem dX4_swappable_90 : decode cX4_swappable 90 = .ok (.iload_n 1, 1) := by decide +kernel
theorem dX4_swappable_91 : decode cX4_swappable 91 = .ok (.invokevirtual 88, 3) := by decide +kernel
theorem dX4_swappable_94 : decode cX4_swappable 94 = .ok (.aload_n 0, 1) := by decide +kernel
theorem dX4_swappable_95 : decode cX4_swappable 95 = .ok (.iload 4, 2) := by decide +kernel
theorem dX4_swappable_97 : decode cX4_swappable 97 = .ok (.iload 6, 2) := by decide +kernel
theorem dX4_swappable_99 : decode cX4_swappable 99 = .ok (.iload_n 2, 1) := by decide +kernel
theorem dX4_swappable_100 : decode cX4_swappable 100 = .ok (.invokevirtual 88, 3) := by decide +kernel
theorem dX4_swappable_103 : decode cX4_swappable 103 = .ok (.iload_n 3, 1) := by decide +kernel
theorem dX4_swappable_104 : decode cX4_swappable 104 = .ok (.invokestatic 92, 3) := by decide +kernel
theorem dX4_swappable_107 : decode cX4_swappable 107 = .ok (.ifCond .eq 7, 3) := by decide +kernel
theorem dX4_swappable_110 : decode cX4_swappable 110 = .ok (.iconst 1, 1) := by decide +kernel
theorem dX4_swappable_111 : decode cX4_swappable 111 = .ok (.goto 4, 3) := by decide +kernel
theorem dX4_swappable_114 : decode cX4_swappable 114 = .ok (.iconst 0, 1) := by decide +kernel
theorem dX4_swappable_115 : decode cX4_swappable 115 = .ok (.istore 5, 2) := by decide +kernel
theorem dX4_swappable_117 : decode cX4_swappable 117 = .ok (.iinc 6 1, 3) := by decide +kernel
theorem dX4_swappable_120 : decode cX4_swappable 120 = .ok (.goto (-86), 3) := by decide +kernel
theorem dX4_swappable_123 : decode cX4_swappable 123 = .ok (.iload 5, 2) := by decide +kernel
theorem dX4_swappable_125 : decode cX4_swappable 125 = .ok (.ifCond .ne 5, 3) := by decide +kernel
theorem dX4_swappable_128 : decode cX4_swappable 128 = .ok (.iconst 0, 1) := by decide +kernel
theorem dX4_swappable_129 : decode cX4_swappable 129 = .ok (.ireturn, 1) := by decide +kernel
theorem dX4_swappable_130 : decode cX4_swappable 130 = .ok (.iinc 4 1, 3) := by decide +kernel
theorem dX4_swappable_133 : decode cX4_swappable 133 = .ok (.goto (-130), 3) := by decide +kernel
theorem dX4_swappable_136 : decode cX4_swappable 136 = .ok (.iconst 1, 1) := by decide +kernel
theorem dX4_swappable_137 : decode cX4_swappable 137 = .ok (.ireturn, 1) := by decide +kernel
theorem dX7_sameMark_0 : decode cX7_sameMark 0 = .ok (.aload_n 0, 1) := by decide +kernel
theorem dX7_sameMark_1 : decode cX7_sameMark 1 = .ok (.getfield 9, 3) := by decide +kernel
theorem dX7_sameMark_4 : decode cX7_sameMark 4 = .ok (.iload_n 1, 1) := by decide +kernel
theorem dX7_sameMark_5 : decode cX7_sameMark 5 = .ok (.invokestatic 30, 3) := by decide +kernel
theorem dX7_sameMark_8 : decode cX7_sameMark 8 = .ok (.aload_n 0, 1) := by decide +kernel
theorem dX7_sameMark_9 : decode cX7_sameMark 9 = .ok (.getfield 9, 3) := by decide +kernel
theorem dX7_sameMark_12 : decode cX7_sameMark 12 = .ok (.iload_n 2, 1) := by decide +kernel
theorem dX7_sameMark_13 : decode cX7_sameMark 13 = .ok (.invokestatic 30, 3) := by decide +kernel
theorem dX7_sameMark_16 : decode cX7_sameMark 16 = .ok (.if_icmp .ne 7, 3) := by decide +kernel
theorem dX7_sameMark_19 : decode cX7_sameMark 19 = .ok (.iconst 1, 1) := by decide +kernel
theorem dX7_sameMark_20 : decode cX7_sameMark 20 = .ok (.goto 4, 3) := by decide +kernel
theorem dX7_sameMark_23 : decode cX7_sameMark 23 = .ok (.iconst 0, 1) := by decide +kernel
theorem dX7_sameMark_24 : decode cX7_sameMark 24 = .ok (.ireturn, 1) := by decide +kernel
theorem dX4_alike_0 : decode cX4_alike 0 = .ok (.aload_n 1, 1) := by decide +kernel
theorem dX4_alike_1 : decode cX4_alike 1 = .ok (.iload_n 3, 1) := by decide +kernel
theorem dX4_alike_2 : decode cX4_alike 2 = .ok (.iload 4, 2) := by decide +kernel
theorem dX4_alike_4 : decode cX4_alike 4 = .ok (.invokevirtual 54, 3) := by decide +kernel
theorem dX4_alike_7 : decode cX4_alike 7 = .ok (.ifCond .ne 5, 3) := by decide +kernel
theorem dX4_alike_10 : decode cX4_alike 10 = .ok (.iconst 0, 1) := by decide +kernel
theorem dX4_alike_11 : decode cX4_alike 11 = .ok (.ireturn, 1) := by decide +kernel
theorem dX4_alike_12 : decode cX4_alike 12 = .ok (.iload_n 2, 1) := by decide +kernel
theorem dX4_alike_13 : decode cX4_alike 13 = .ok (.tableswitch 47 0 2 #[27, 29, 38], 27) := by decide +kernel
theorem dX4_alike_40 : decode cX4_alike 40 = .ok (.iconst 1, 1) := by decide +kernel
theorem dX4_alike_41 : decode cX4_alike 41 = .ok (.ireturn, 1) := by decide +kernel
theorem dX4_alike_42 : decode cX4_alike 42 = .ok (.aload_n 1, 1) := by decide +kernel
theorem dX4_alike_43 : decode cX4_alike 43 = .ok (.iload_n 3, 1) := by decide +kernel
theorem dX4_alike_44 : decode cX4_alike 44 = .ok (.iload 4, 2) := by decide +kernel
theorem dX4_alike_46 : decode cX4_alike 46 = .ok (.iconst 0, 1) := by decide +kernel
theorem dX4_alike_47 : decode cX4_alike 47 = .ok (.invokestatic 57, 3) := by decide +kernel
theorem dX4_alike_50 : decode cX4_alike 50 = .ok (.ireturn, 1) := by decide +kernel
theorem dX4_alike_51 : decode cX4_alike 51 = .ok (.aload_n 1, 1) := by decide +kernel
theorem dX4_alike_52 : decode cX4_alike 52 = .ok (.iload_n 3, 1) := by decide +kernel
theorem dX4_alike_53 : decode cX4_alike 53 = .ok (.iload 4, 2) := by decide +kernel
theorem dX4_alike_55 : decode cX4_alike 55 = .ok (.iconst 1, 1) := by decide +kernel
theorem dX4_alike_56 : decode cX4_alike 56 = .ok (.invokestatic 57, 3) := by decide +kernel
theorem dX4_alike_59 : decode cX4_alike 59 = .ok (.ireturn, 1) := by decide +kernel
theorem dX4_alike_60 : decode cX4_alike 60 = .ok (.aload_n 0, 1) := by decide +kernel
theorem dX4_alike_61 : decode cX4_alike 61 = .ok (.iload_n 3, 1) := by decide +kernel
theorem dX4_alike_62 : decode cX4_alike 62 = .ok (.iload 4, 2) := by decide +kernel
theorem dX4_alike_64 : decode cX4_alike 64 = .ok (.invokevirtual 61, 3) := by decide +kernel
theorem dX4_alike_67 : decode cX4_alike 67 = .ok (.ireturn, 1) := by decide +kernel
theorem dX4_note_0 : decode cX4_note 0 = .ok (.iconst 1, 1) := by decide +kernel
theorem dX4_note_1 : decode cX4_note 1 = .ok (.iconst 3, 1) := by decide +kernel
theorem dX4_note_2 : decode cX4_note 2 = .ok (.iload_n 2, 1) := by decide +kernel
theorem dX4_note_3 : decode cX4_note 3 = .ok (.imul, 1) := by decide +kernel
theorem dX4_note_4 : decode cX4_note 4 = .ok (.ishl, 1) := by decide +kernel
theorem dX4_note_5 : decode cX4_note 5 = .ok (.istore 4, 2) := by decide +kernel
theorem dX4_note_7 : decode cX4_note 7 = .ok (.aload_n 0, 1) := by decide +kernel
theorem dX4_note_8 : decode cX4_note 8 = .ok (.getfield 11, 3) := by decide +kernel
theorem dX4_note_11 : decode cX4_note 11 = .ok (.iload_n 1, 1) := by decide +kernel
theorem dX4_note_12 : decode cX4_note 12 = .ok (.iload_n 3, 1) := by decide +kernel
theorem dX4_note_13 : decode cX4_note 13 = .ok (.ifCond .eq 17, 3) := by decide +kernel
theorem dX4_note_16 : decode cX4_note 16 = .ok (.aload_n 0, 1) := by decide +kernel
theorem dX4_note_17 : decode cX4_note 17 = .ok (.getfield 11, 3) := by decide +kernel
theorem dX4_note_20 : decode cX4_note 20 = .ok (.iload_n 1, 1) := by decide +kernel
theorem dX4_note_21 : decode cX4_note 21 = .ok (.invokestatic 64, 3) := by decide +kernel
theorem dX4_note_24 : decode cX4_note 24 = .ok (.iload 4, 2) := by decide +kernel
theorem dX4_note_26 : decode cX4_note 26 = .ok (.iadd, 1) := by decide +kernel
theorem dX4_note_27 : decode cX4_note 27 = .ok (.goto 14, 3) := by decide +kernel
theorem dX4_note_30 : decode cX4_note 30 = .ok (.aload_n 0, 1) := by decide +kernel
theorem dX4_note_31 : decode cX4_note 31 = .ok (.getfield 11, 3) := by decide +kernel
theorem dX4_note_34 : decode cX4_note 34 = .ok (.iload_n 1, 1) := by decide +kernel
theorem dX4_note_35 : decode cX4_note 35 = .ok (.invokestatic 64, 3) := by decide +kernel
theorem dX4_note_38 : decode cX4_note 38 = .ok (.iload 4, 2) := by decide +kernel
theorem dX4_note_40 : decode cX4_note 40 = .ok (.ior, 1) := by decide +kernel
theorem dX4_note_41 : decode cX4_note 41 = .ok (.invokestatic 84, 3) := by decide +kernel
theorem dX4_note_44 : decode cX4_note 44 = .ok (.return_, 1) := by decide +kernel
theorem dX4_look_0 : decode cX4_look 0 = .ok (.iload_n 3, 1) := by decide +kernel
theorem dX4_look_1 : decode cX4_look 1 = .ok (.ifCond .eq 13, 3) := by decide +kernel
theorem dX4_look_4 : decode cX4_look 4 = .ok (.iload_n 3, 1) := by decide +kernel
theorem dX4_look_5 : decode cX4_look 5 = .ok (.iconst 1, 1) := by decide +kernel
theorem dX4_look_6 : decode cX4_look 6 = .ok (.if_icmp .eq 8, 3) := by decide +kernel
theorem dX4_look_9 : decode cX4_look 9 = .ok (.iload_n 3, 1) := by decide +kernel
theorem dX4_look_10 : decode cX4_look 10 = .ok (.iconst 2, 1) := by decide +kernel
theorem dX4_look_11 : decode cX4_look 11 = .ok (.if_icmp .ne 4, 3) := by decide +kernel
theorem dX4_look_14 : decode cX4_look 14 = .ok (.return_, 1) := by decide +kernel
theorem dX4_look_15 : decode cX4_look 15 = .ok (.aload_n 0, 1) := by decide +kernel
theorem dX4_look_16 : decode cX4_look 16 = .ok (.getfield 11, 3) := by decide +kernel
theorem dX4_look_19 : decode cX4_look 19 = .ok (.invokestatic 68, 3) := by decide +kernel
theorem dX4_look_22 : decode cX4_look 22 = .ok (.iconst 0, 1) := by decide +kernel
theorem dX4_look_23 : decode cX4_look 23 = .ok (.istore 4, 2) := by decide +kernel
theorem dX4_look_25 : decode cX4_look 25 = .ok (.iload 4, 2) := by decide +kernel
theorem dX4_look_27 : decode cX4_look 27 = .ok (.iconst 3, 1) := by decide +kernel
theorem dX4_look_28 : decode cX4_look 28 = .ok (.if_icmp .ge 116, 3) := by decide +kernel
theorem dX4_look_31 : decode cX4_look 31 = .ok (.iconst 0, 1) := by decide +kernel
theorem dX4_look_32 : decode cX4_look 32 = .ok (.istore 5, 2) := by decide +kernel
theorem dX4_look_34 : decode cX4_look 34 = .ok (.iload 5, 2) := by decide +kernel
theorem dX4_look_36 : decode cX4_look 36 = .ok (.aload_n 1, 1) := by decide +kernel
theorem dX4_look_37 : decode cX4_look 37 = .ok (.getfield 19, 3) := by decide +kernel
theorem dX4_look_40 : decode cX4_look 40 = .ok (.if_icmp .ge 98, 3) := by decide +kernel
theorem dX4_look_43 : decode cX4_look 43 = .ok (.iconst 0, 1) := by decide +kernel
theorem dX4_look_44 : decode cX4_look 44 = .ok (.istore 6, 2) := by decide +kernel
theorem dX4_look_46 : decode cX4_look 46 = .ok (.iload 6, 2) := by decide +kernel
theorem dX4_look_48 : decode cX4_look 48 = .ok (.aload_n 1, 1) := by decide +kernel
theorem dX4_look_49 : decode cX4_look 49 = .ok (.getfield 19, 3) := by decide +kernel
theorem dX4_look_52 : decode cX4_look 52 = .ok (.if_icmp .ge 80, 3) := by decide +kernel
theorem dX4_look_55 : decode cX4_look 55 = .ok (.aload_n 1, 1) := by decide +kernel
theorem dX4_look_56 : decode cX4_look 56 = .ok (.iload 4, 2) := by decide +kernel
theorem dX4_look_58 : decode cX4_look 58 = .ok (.iload 5, 2) := by decide +kernel
theorem dX4_look_60 : decode cX4_look 60 = .ok (.iload 6, 2) := by decide +kernel
theorem dX4_look_62 : decode cX4_look 62 = .ok (.invokevirtual 72, 3) := by decide +kernel
theorem dX4_look_65 : decode cX4_look 65 = .ok (.ifCond .eq 61, 3) := by decide +kernel
theorem dX4_look_68 : decode cX4_look 68 = .ok (.aload_n 0, 1) := by decide +kernel
theorem dX4_look_69 : decode cX4_look 69 = .ok (.iload 5, 2) := by decide +kernel
theorem dX4_look_71 : decode cX4_look 71 = .ok (.bipush 6, 2) := by decide +kernel
theorem dX4_look_73 : decode cX4_look 73 = .ok (.imul, 1) := by decide +kernel
theorem dX4_look_74 : decode cX4_look 74 = .ok (.iload 4, 2) := by decide +kernel
theorem dX4_look_76 : decode cX4_look 76 = .ok (.iadd, 1) := by decide +kernel
theorem dX4_look_77 : decode cX4_look 77 = .ok (.aload_n 2, 1) := by decide +kernel
theorem dX4_look_78 : decode cX4_look 78 = .ok (.iload 6, 2) := by decide +kernel
theorem dX4_look_80 : decode cX4_look 80 = .ok (.invokevirtual 76, 3) := by decide +kernel
theorem dX4_look_83 : decode cX4_look 83 = .ok (.iload_n 3, 1) := by decide +kernel
theorem dX4_look_84 : decode cX4_look 84 = .ok (.iconst 4, 1) := by decide +kernel
theorem dX4_look_85 : decode cX4_look 85 = .ok (.if_icmp .ne 7, 3) := by decide +kernel
theorem dX4_look_88 : decode cX4_look 88 = .ok (.iconst 1, 1) := by decide +kernel
theorem dX4_look_89 : decode cX4_look 89 = .ok (.goto 4, 3) := by decide +kernel
theorem dX4_look_92 : decode cX4_look 92 = .ok (.iconst 0, 1) := by decide +kernel
theorem dX4_look_93 : decode cX4_look 93 = .ok (.invokevirtual 80, 3) := by decide +kernel
theorem dX4_look_96 : decode cX4_look 96 = .ok (.aload_n 0, 1) := by decide +kernel
theorem dX4_look_97 : decode cX4_look 97 = .ok (.iload 6, 2) := by decide +kernel
theorem dX4_look_99 : decode cX4_look 99 = .ok (.bipush 6, 2) := by decide +kernel
theorem dX4_look_101 : decode cX4_look 101 = .ok (.imul, 1) := by decide +kernel
theorem dX4_look_102 : decode cX4_look 102 = .ok (.iconst 3, 1) := by decide +kernel
theorem dX4_look_103 : decode cX4_look 103 = .ok (.iadd, 1) := by decide +kernel
theorem dX4_look_104 : decode cX4_look 104 = .ok (.iload 4, 2) := by decide +kernel
theorem dX4_look_106 : decode cX4_look 106 = .ok (.iadd, 1) := by decide +kernel
theorem dX4_look_107 : decode cX4_look 107 = .ok (.aload_n 2, 1) := by decide +kernel
theorem dX4_look_108 : decode cX4_look 108 = .ok (.iload 5, 2) := by decide +kernel
theorem dX4_look_110 : decode cX4_look 110 = .ok (.invokevirtual 76, 3) := by decide +kernel
theorem dX4_look_113 : decode cX4_look 113 = .ok (.iload_n 3, 1) := by decide +kernel
theorem dX4_look_114 : decode cX4_look 114 = .ok (.iconst 4, 1) := by decide +kernel
theorem dX4_look_115 : decode cX4_look 115 = .ok (.if_icmp .ne 7, 3) := by decide +kernel
theorem dX4_look_118 : decode cX4_look 118 = .ok (.iconst 1, 1) := by decide +kernel
theorem dX4_look_119 : decode cX4_look 119 = .ok (.goto 4, 3) := by decide +kernel
theorem dX4_look_122 : decode cX4_look 122 = .ok (.iconst 0, 1) := by decide +kernel
theorem dX4_look_123 : decode cX4_look 123 = .ok (.invokevirtual 80, 3) := by decide +kernel
theorem dX4_look_126 : decode cX4_look 126 = .ok (.iinc 6 1, 3) := by decide +kernel
theorem dX4_look_129 : decode cX4_look 129 = .ok (.goto (-83), 3) := by decide +kernel
theorem dX4_look_132 : decode cX4_look 132 = .ok (.iinc 5 1, 3) := by decide +kernel
theorem dX4_look_135 : decode cX4_look 135 = .ok (.goto (-101), 3) := by decide +kernel
theorem dX4_look_138 : decode cX4_look 138 = .ok (.iinc 4 1, 3) := by decide +kernel
theorem dX4_look_141 : decode cX4_look 141 = .ok (.goto (-116), 3) := by decide +kernel
theorem dX4_look_144 : decode cX4_look 144 = .ok (.return_, 1) := by decide +kernel
theorem dX4_firstUnlike_0 : decode cX4_firstUnlike 0 = .ok (.aload_n 0, 1) := by decide +kernel
theorem dX4_firstUnlike_1 : decode cX4_firstUnlike 1 = .ok (.aload_n 1, 1) := by decide +kernel
theorem dX4_firstUnlike_2 : decode cX4_firstUnlike 2 = .ok (.aload_n 2, 1) := by decide +kernel
theorem dX4_firstUnlike_3 : decode cX4_firstUnlike 3 = .ok (.iload_n 3, 1) := by decide +kernel
theorem dX4_firstUnlike_4 : decode cX4_firstUnlike 4 = .ok (.invokevirtual 15, 3) := by decide +kernel
theorem dX4_firstUnlike_7 : decode cX4_firstUnlike 7 = .ok (.iconst 0, 1) := by decide +kernel
theorem dX4_firstUnlike_8 : decode cX4_firstUnlike 8 = .ok (.istore 4, 2) := by decide +kernel
theorem dX4_firstUnlike_10 : decode cX4_firstUnlike 10 = .ok (.iload 4, 2) := by decide +kernel
theorem dX4_firstUnlike_12 : decode cX4_firstUnlike 12 = .ok (.aload_n 1, 1) := by decide +kernel
theorem dX4_firstUnlike_13 : decode cX4_firstUnlike 13 = .ok (.getfield 19, 3) := by decide +kernel
theorem dX4_firstUnlike_16 : decode cX4_firstUnlike 16 = .ok (.if_icmp .ge 63, 3) := by decide +kernel
theorem dX4_firstUnlike_19 : decode cX4_firstUnlike 19 = .ok (.iload 4, 2) := by decide +kernel
theorem dX4_firstUnlike_21 : decode cX4_firstUnlike 21 = .ok (.iconst 1, 1) := by decide +kernel
theorem dX4_firstUnlike_22 : decode cX4_firstUnlike 22 = .ok (.iadd, 1) := by decide +kernel
theorem dX4_firstUnlike_23 : decode cX4_firstUnlike 23 = .ok (.istore 5, 2) := by decide +kernel
theorem dX4_firstUnlike_25 : decode cX4_firstUnlike 25 = .ok (.iload 5, 2) := by decide +kernel
theorem dX4_firstUnlike_27 : decode cX4_firstUnlike 27 = .ok (.aload_n 1, 1) := by decide +kernel
theorem dX4_firstUnlike_28 : decode cX4_firstUnlike 28 = .ok (.getfield 19, 3) := by decide +kernel
theorem dX4_firstUnlike_31 : decode cX4_firstUnlike 31 = .ok (.if_icmp .ge 42, 3) := by decide +kernel
theorem dX4_firstUnlike_34 : decode cX4_firstUnlike 34 = .ok (.aload_n 2, 1) := by decide +kernel
theorem dX4_firstUnlike_35 : decode cX4_firstUnlike 35 = .ok (.iload 4, 2) := by decide +kernel
theorem dX4_firstUnlike_37 : decode cX4_firstUnlike 37 = .ok (.iload 5, 2) := by decide +kernel
theorem dX4_firstUnlike_39 : decode cX4_firstUnlike 39 = .ok (.invokevirtual 25, 3) := by decide +kernel
theorem dX4_firstUnlike_42 : decode cX4_firstUnlike 42 = .ok (.ifCond .eq 25, 3) := by decide +kernel
theorem dX4_firstUnlike_45 : decode cX4_firstUnlike 45 = .ok (.aload_n 0, 1) := by decide +kernel
theorem dX4_firstUnlike_46 : decode cX4_firstUnlike 46 = .ok (.aload_n 1, 1) := by decide +kernel
theorem dX4_firstUnlike_47 : decode cX4_firstUnlike 47 = .ok (.iload_n 3, 1) := by decide +kernel
theorem dX4_firstUnlike_48 : decode cX4_firstUnlike 48 = .ok (.iload 4, 2) := by decide +kernel
theorem dX4_firstUnlike_50 : decode cX4_firstUnlike 50 = .ok (.iload 5, 2) := by decide +kernel
theorem dX4_firstUnlike_52 : decode cX4_firstUnlike 52 = .ok (.invokevirtual 31, 3) := by decide +kernel
theorem dX4_firstUnlike_55 : decode cX4_firstUnlike 55 = .ok (.ifCond .ne 12, 3) := by decide +kernel
theorem dX4_firstUnlike_58 : decode cX4_firstUnlike 58 = .ok (.bipush 10, 2) := by decide +kernel
theorem dX4_firstUnlike_60 : decode cX4_firstUnlike 60 = .ok (.iload 4, 2) := by decide +kernel
theorem dX4_firstUnlike_62 : decode cX4_firstUnlike 62 = .ok (.imul, 1) := by decide +kernel
theorem dX4_firstUnlike_63 : decode cX4_firstUnlike 63 = .ok (.iload 5, 2) := by decide +kernel
theorem dX4_firstUnlike_65 : decode cX4_firstUnlike 65 = .ok (.iadd, 1) := by decide +kernel
theorem dX4_firstUnlike_66 : decode cX4_firstUnlike 66 = .ok (.ireturn, 1) := by decide +kernel
theorem dX4_firstUnlike_67 : decode cX4_firstUnlike 67 = .ok (.iinc 5 1, 3) := by decide +kernel
theorem dX4_firstUnlike_70 : decode cX4_firstUnlike 70 = .ok (.goto (-45), 3) := by decide +kernel
theorem dX4_firstUnlike_73 : decode cX4_firstUnlike 73 = .ok (.iinc 4 1, 3) := by decide +kernel
theorem dX4_firstUnlike_76 : decode cX4_firstUnlike 76 = .ok (.goto (-66), 3) := by decide +kernel
theorem dX4_firstUnlike_79 : decode cX4_firstUnlike 79 = .ok (.bipush (-9), 2) := by decide +kernel
theorem dX4_firstUnlike_81 : decode cX4_firstUnlike 81 = .ok (.ireturn, 1) := by decide +kernel
theorem dX9_judge_0 : decode cX9_judge 0 = .ok (.aload_n 0, 1) := by decide +kernel
theorem dX9_judge_1 : decode cX9_judge 1 = .ok (.getfield 68, 3) := by decide +kernel
theorem dX9_judge_4 : decode cX9_judge 4 = .ok (.iload_n 1, 1) := by decide +kernel
theorem dX9_judge_5 : decode cX9_judge 5 = .ok (.aload_n 0, 1) := by decide +kernel
theorem dX9_judge_6 : decode cX9_judge 6 = .ok (.getfield 12, 3) := by decide +kernel
theorem dX9_judge_9 : decode cX9_judge 9 = .ok (.getfield 90, 3) := by decide +kernel
theorem dX9_judge_12 : decode cX9_judge 12 = .ok (.invokevirtual 151, 3) := by decide +kernel
theorem dX9_judge_15 : decode cX9_judge 15 = .ok (.ifCond .eq 10, 3) := by decide +kernel
theorem dX9_judge_18 : decode cX9_judge 18 = .ok (.iload_n 2, 1) := by decide +kernel
theorem dX9_judge_19 : decode cX9_judge 19 = .ok (.invokestatic 158, 3) := by decide +kernel
theorem dX9_judge_22 : decode cX9_judge 22 = .ok (.ifCond .ne 9, 3) := by decide +kernel
theorem dX9_judge_25 : decode cX9_judge 25 = .ok (.aload_n 0, 1) := by decide +kernel
theorem dX9_judge_26 : decode cX9_judge 26 = .ok (.iconst (-1), 1) := by decide +kernel
theorem dX9_judge_27 : decode cX9_judge 27 = .ok (.invokevirtual 86, 3) := by decide +kernel
theorem dX9_judge_30 : decode cX9_judge 30 = .ok (.ireturn, 1) := by decide +kernel
theorem dX9_judge_31 : decode cX9_judge 31 = .ok (.aload_n 0, 1) := by decide +kernel
theorem dX9_judge_32 : decode cX9_judge 32 = .ok (.aload_n 0, 1) := by decide +kernel
theorem dX9_judge_33 : decode cX9_judge 33 = .ok (.getfield 113, 3) := by decide +kernel
theorem dX9_judge_36 : decode cX9_judge 36 = .ok (.invokevirtual 140, 3) := by decide +kernel
theorem dX9_judge_39 : decode cX9_judge 39 = .ok (.aload_n 0, 1) := by decide +kernel
theorem dX9_judge_40 : decode cX9_judge 40 = .ok (.getfield 40, 3) := by decide +kernel
theorem dX9_judge_43 : decode cX9_judge 43 = .ok (.aload_n 0, 1) := by decide +kernel
theorem dX9_judge_44 : decode cX9_judge 44 = .ok (.getfield 12, 3) := by decide +kernel
theorem dX9_judge_47 : decode cX9_judge 47 = .ok (.aload_n 0, 1) := by decide +kernel
theorem dX9_judge_48 : decode cX9_judge 48 = .ok (.getfield 68, 3) := by decide +kernel
theorem dX9_judge_51 : decode cX9_judge 51 = .ok (.iload_n 2, 1) := by decide +kernel
theorem dX9_judge_52 : decode cX9_judge 52 = .ok (.invokevirtual 161, 3) := by decide +kernel
theorem dX9_judge_55 : decode cX9_judge 55 = .ok (.ireturn, 1) := by decide +kernel
theorem dX3_number_0 : decode cX3_number 0 = .ok (.iconst 0, 1) := by decide +kernel
theorem dX3_number_1 : decode cX3_number 1 = .ok (.istore_n 1, 1) := by decide +kernel
theorem dX3_number_2 : decode cX3_number 2 = .ok (.iconst 0, 1) := by decide +kernel
theorem dX3_number_3 : decode cX3_number 3 = .ok (.istore_n 2, 1) := by decide +kernel
theorem dX3_number_4 : decode cX3_number 4 = .ok (.iload_n 2, 1) := by decide +kernel
theorem dX3_number_5 : decode cX3_number 5 = .ok (.aload_n 0, 1) := by decide +kernel
theorem dX3_number_6 : decode cX3_number 6 = .ok (.getfield 15, 3) := by decide +kernel
theorem dX3_number_9 : decode cX3_number 9 = .ok (.if_icmp .ge 20, 3) := by decide +kernel
theorem dX3_number_12 : decode cX3_number 12 = .ok (.iload_n 1, 1) := by decide +kernel
theorem dX3_number_13 : decode cX3_number 13 = .ok (.bipush 10, 2) := by decide +kernel
theorem dX3_number_15 : decode cX3_number 15 = .ok (.imul, 1) := by decide +kernel
theorem dX3_number_16 : decode cX3_number 16 = .ok (.aload_n 0, 1) := by decide +kernel
theorem dX3_number_17 : decode cX3_number 17 = .ok (.iload_n 2, 1) := by decide +kernel
theorem dX3_number_18 : decode cX3_number 18 = .ok (.invokevirtual 26, 3) := by decide +kernel
theorem dX3_number_21 : decode cX3_number 21 = .ok (.iadd, 1) := by decide +kernel
theorem dX3_number_22 : decode cX3_number 22 = .ok (.istore_n 1, 1) := by decide +kernel
theorem dX3_number_23 : decode cX3_number 23 = .ok (.iinc 2 1, 3) := by decide +kernel
theorem dX3_number_26 : decode cX3_number 26 = .ok (.goto (-22), 3) := by decide +kernel
theorem dX3_number_29 : decode cX3_number 29 = .ok (.iload_n 1, 1) := by decide +kernel
theorem dX3_number_30 : decode cX3_number 30 = .ok (.ireturn, 1) := by decide +kernel
theorem dX3_copy_0 : decode cX3_copy 0 = .ok (.aload_n 0, 1) := by decide +kernel
theorem dX3_copy_1 : decode cX3_copy 1 = .ok (.aload_n 1, 1) := by decide +kernel
theorem dX3_copy_2 : decode cX3_copy 2 = .ok (.getfield 15, 3) := by decide +kernel
theorem dX3_copy_5 : decode cX3_copy 5 = .ok (.putfield 15, 3) := by decide +kernel
theorem dX3_copy_8 : decode cX3_copy 8 = .ok (.aload_n 0, 1) := by decide +kernel
theorem dX3_copy_9 : decode cX3_copy 9 = .ok (.aload_n 1, 1) := by decide +kernel
theorem dX3_copy_10 : decode cX3_copy 10 = .ok (.getfield 19, 3) := by decide +kernel
theorem dX3_copy_13 : decode cX3_copy 13 = .ok (.putfield 19, 3) := by decide +kernel
theorem dX3_copy_16 : decode cX3_copy 16 = .ok (.iconst 0, 1) := by decide +kernel
theorem dX3_copy_17 : decode cX3_copy 17 = .ok (.istore_n 2, 1) := by decide +kernel
theorem dX3_copy_18 : decode cX3_copy 18 = .ok (.iload_n 2, 1) := by decide +kernel
theorem dX3_copy_19 : decode cX3_copy 19 = .ok (.aload_n 0, 1) := by decide +kernel
theorem dX3_copy_20 : decode cX3_copy 20 = .ok (.getfield 15, 3) := by decide +kernel
theorem dX3_copy_23 : decode cX3_copy 23 = .ok (.if_icmp .ge 22, 3) := by decide +kernel
theorem dX3_copy_26 : decode cX3_copy 26 = .ok (.aload_n 0, 1) := by decide +kernel
theorem dX3_copy_27 : decode cX3_copy 27 = .ok (.getfield 9, 3) := by decide +kernel
theorem dX3_copy_30 : decode cX3_copy 30 = .ok (.iload_n 2, 1) := by decide +kernel
theorem dX3_copy_31 : decode cX3_copy 31 = .ok (.aload_n 1, 1) := by decide +kernel
theorem dX3_copy_32 : decode cX3_copy 32 = .ok (.iload_n 2, 1) := by decide +kernel
theorem dX3_copy_33 : decode cX3_copy 33 = .ok (.invokevirtual 26, 3) := by decide +kernel
theorem dX3_copy_36 : decode cX3_copy 36 = .ok (.invokestatic 22, 3) := by decide +kernel
theorem dX3_copy_39 : decode cX3_copy 39 = .ok (.iinc 2 1, 3) := by decide +kernel
theorem dX3_copy_42 : decode cX3_copy 42 = .ok (.goto (-24), 3) := by decide +kernel
theorem dX3_copy_45 : decode cX3_copy 45 = .ok (.return_, 1) := by decide +kernel
theorem dX3_begin_0 : decode cX3_begin 0 = .ok (.aload_n 0, 1) := by decide +kernel
theorem dX3_begin_1 : decode cX3_begin 1 = .ok (.iload_n 1, 1) := by decide +kernel
theorem dX3_begin_2 : decode cX3_begin 2 = .ok (.putfield 15, 3) := by decide +kernel
theorem dX3_begin_5 : decode cX3_begin 5 = .ok (.aload_n 0, 1) := by decide +kernel
theorem dX3_begin_6 : decode cX3_begin 6 = .ok (.iconst 0, 1) := by decide +kernel
theorem dX3_begin_7 : decode cX3_begin 7 = .ok (.putfield 19, 3) := by decide +kernel
theorem dX3_begin_10 : decode cX3_begin 10 = .ok (.return_, 1) := by decide +kernel
theorem dX3_place_0 : decode cX3_place 0 = .ok (.iload_n 2, 1) := by decide +kernel
theorem dX3_place_1 : decode cX3_place 1 = .ok (.ifCond .ge 28, 3) := by decide +kernel
theorem dX3_place_4 : decode cX3_place 4 = .ok (.aload_n 0, 1) := by decide +kernel
theorem dX3_place_5 : decode cX3_place 5 = .ok (.getfield 9, 3) := by decide +kernel
theorem dX3_place_8 : decode cX3_place 8 = .ok (.iload_n 1, 1) := by decide +kernel
theorem dX3_place_9 : decode cX3_place 9 = .ok (.aload_n 0, 1) := by decide +kernel
theorem dX3_place_10 : decode cX3_place 10 = .ok (.getfield 19, 3) := by decide +kernel
theorem dX3_place_13 : decode cX3_place 13 = .ok (.invokestatic 22, 3) := by decide +kernel
theorem dX3_place_16 : decode cX3_place 16 = .ok (.aload_n 0, 1) := by decide +kernel
theorem dX3_place_17 : decode cX3_place 17 = .ok (.dup, 1) := by decide +kernel
theorem dX3_place_18 : decode cX3_place 18 = .ok (.getfield 19, 3) := by decide +kernel
theorem dX3_place_21 : decode cX3_place 21 = .ok (.iconst 1, 1) := by decide +kernel
theorem dX3_place_22 : decode cX3_place 22 = .ok (.iadd, 1) := by decide +kernel
theorem dX3_place_23 : decode cX3_place 23 = .ok (.putfield 19, 3) := by decide +kernel
theorem dX3_place_26 : decode cX3_place 26 = .ok (.goto 16, 3) := by decide +kernel
theorem dX3_place_29 : decode cX3_place 29 = .ok (.aload_n 0, 1) := by decide +kernel
theorem dX3_place_30 : decode cX3_place 30 = .ok (.getfield 9, 3) := by decide +kernel
theorem dX3_place_33 : decode cX3_place 33 = .ok (.iload_n 1, 1) := by decide +kernel
theorem dX3_place_34 : decode cX3_place 34 = .ok (.aload_n 0, 1) := by decide +kernel
theorem dX3_place_35 : decode cX3_place 35 = .ok (.iload_n 2, 1) := by decide +kernel
theorem dX3_place_36 : decode cX3_place 36 = .ok (.invokevirtual 26, 3) := by decide +kernel
theorem dX3_place_39 : decode cX3_place 39 = .ok (.invokestatic 22, 3) := by decide +kernel
theorem dX3_place_42 : decode cX3_place 42 = .ok (.return_, 1) := by decide +kernel
theorem dX4_split_0 : decode cX4_split 0 = .ok (.aload_n 0, 1) := by decide +kernel
theorem dX4_split_1 : decode cX4_split 1 = .ok (.aload_n 1, 1) := by decide +kernel
theorem dX4_split_2 : decode cX4_split 2 = .ok (.aload_n 2, 1) := by decide +kernel
theorem dX4_split_3 : decode cX4_split 3 = .ok (.iload 4, 2) := by decide +kernel
theorem dX4_split_5 : decode cX4_split 5 = .ok (.invokevirtual 15, 3) := by decide +kernel
theorem dX4_split_8 : decode cX4_split 8 = .ok (.aload_n 3, 1) := by decide +kernel
theorem dX4_split_9 : decode cX4_split 9 = .ok (.aload_n 1, 1) := by decide +kernel
theorem dX4_split_10 : decode cX4_split 10 = .ok (.getfield 19, 3) := by decide +kernel
theorem dX4_split_13 : decode cX4_split 13 = .ok (.invokevirtual 46, 3) := by decide +kernel
theorem dX4_split_16 : decode cX4_split 16 = .ok (.iconst 0, 1) := by decide +kernel
theorem dX4_split_17 : decode cX4_split 17 = .ok (.istore 5, 2) := by decide +kernel
theorem dX4_split_19 : decode cX4_split 19 = .ok (.iload 5, 2) := by decide +kernel
theorem dX4_split_21 : decode cX4_split 21 = .ok (.aload_n 1, 1) := by decide +kernel
theorem dX4_split_22 : decode cX4_split 22 = .ok (.getfield 19, 3) := by decide +kernel
theorem dX4_split_25 : decode cX4_split 25 = .ok (.if_icmp .ge 70, 3) := by decide +kernel
theorem dX4_split_28 : decode cX4_split 28 = .ok (.iconst (-1), 1) := by decide +kernel
theorem dX4_split_29 : decode cX4_split 29 = .ok (.istore 6, 2) := by decide +kernel
theorem dX4_split_31 : decode cX4_split 31 = .ok (.iconst 0, 1) := by decide +kernel
theorem dX4_split_32 : decode cX4_split 32 = .ok (.istore 7, 2) := by decide +kernel
theorem dX4_split_34 : decode cX4_split 34 = .ok (.iload 7, 2) := by decide +kernel
theorem dX4_split_36 : decode cX4_split 36 = .ok (.iload 5, 2) := by decide +kernel
theorem dX4_split_38 : decode cX4_split 38 = .ok (.if_icmp .ge 43, 3) := by decide +kernel
theorem dX4_split_41 : decode cX4_split 41 = .ok (.iload 6, 2) := by decide +kernel
theorem dX4_split_43 : decode cX4_split 43 = .ok (.ifCond .ge 38, 3) := by decide +kernel
theorem dX4_split_46 : decode cX4_split 46 = .ok (.aload_n 2, 1) := by decide +kernel
theorem dX4_split_47 : decode cX4_split 47 = .ok (.iload 5, 2) := by decide +kernel
theorem dX4_split_49 : decode cX4_split 49 = .ok (.iload 7, 2) := by decide +kernel
theorem dX4_split_51 : decode cX4_split 51 = .ok (.invokevirtual 25, 3) := by decide +kernel
theorem dX4_split_54 : decode cX4_split 54 = .ok (.ifCond .eq 21, 3) := by decide +kernel
theorem dX4_split_57 : decode cX4_split 57 = .ok (.aload_n 0, 1) := by decide +kernel
theorem dX4_split_58 : decode cX4_split 58 = .ok (.aload_n 1, 1) := by decide +kernel
theorem dX4_split_59 : decode cX4_split 59 = .ok (.iload 4, 2) := by decide +kernel
theorem dX4_split_61 : decode cX4_split 61 = .ok (.iload 7, 2) := by decide +kernel
theorem dX4_split_63 : decode cX4_split 63 = .ok (.iload 5, 2) := by decide +kernel
theorem dX4_split_65 : decode cX4_split 65 = .ok (.invokevirtual 31, 3) := by decide +kernel
theorem dX4_split_68 : decode cX4_split 68 = .ok (.ifCond .eq 7, 3) := by decide +kernel
theorem dX4_split_71 : decode cX4_split 71 = .ok (.iload 7, 2) := by decide +kernel
theorem dX4_split_73 : decode cX4_split 73 = .ok (.istore 6, 2) := by decide +kernel
theorem dX4_split_75 : decode cX4_split 75 = .ok (.iinc 7 1, 3) := by decide +kernel
theorem dX4_split_78 : decode cX4_split 78 = .ok (.goto (-44), 3) := by decide +kernel
theorem dX4_split_81 : decode cX4_split 81 = .ok (.aload_n 3, 1) := by decide +kernel
theorem dX4_split_82 : decode cX4_split 82 = .ok (.iload 5, 2) := by decide +kernel
theorem dX4_split_84 : decode cX4_split 84 = .ok (.iload 6, 2) := by decide +kernel
theorem dX4_split_86 : decode cX4_split 86 = .ok (.invokevirtual 50, 3) := by decide +kernel
theorem dX4_split_89 : decode cX4_split 89 = .ok (.iinc 5 1, 3) := by decide +kernel
theorem dX4_split_92 : decode cX4_split 92 = .ok (.goto (-73), 3) := by decide +kernel
theorem dX4_split_95 : decode cX4_split 95 = .ok (.return_, 1) := by decide +kernel
theorem dX4_refine_0 : decode cX4_refine 0 = .ok (.iconst 0, 1) := by decide +kernel
theorem dX4_refine_1 : decode cX4_refine 1 = .ok (.istore 5, 2) := by decide +kernel
theorem dX4_refine_3 : decode cX4_refine 3 = .ok (.iload 5, 2) := by decide +kernel
theorem dX4_refine_5 : decode cX4_refine 5 = .ok (.bipush 7, 2) := by decide +kernel
theorem dX4_refine_7 : decode cX4_refine 7 = .ok (.if_icmp .ge 35, 3) := by decide +kernel
theorem dX4_refine_10 : decode cX4_refine 10 = .ok (.aload_n 0, 1) := by decide +kernel
theorem dX4_refine_11 : decode cX4_refine 11 = .ok (.aload_n 1, 1) := by decide +kernel
theorem dX4_refine_12 : decode cX4_refine 12 = .ok (.aload_n 2, 1) := by decide +kernel
theorem dX4_refine_13 : decode cX4_refine 13 = .ok (.aload_n 3, 1) := by decide +kernel
theorem dX4_refine_14 : decode cX4_refine 14 = .ok (.iload 4, 2) := by decide +kernel
theorem dX4_refine_16 : decode cX4_refine 16 = .ok (.invokevirtual 35, 3) := by decide +kernel
theorem dX4_refine_19 : decode cX4_refine 19 = .ok (.aload_n 3, 1) := by decide +kernel
theorem dX4_refine_20 : decode cX4_refine 20 = .ok (.getfield 39, 3) := by decide +kernel
theorem dX4_refine_23 : decode cX4_refine 23 = .ok (.aload_n 2, 1) := by decide +kernel
theorem dX4_refine_24 : decode cX4_refine 24 = .ok (.getfield 39, 3) := by decide +kernel
theorem dX4_refine_27 : decode cX4_refine 27 = .ok (.if_icmp .ne 4, 3) := by decide +kernel
theorem dX4_refine_30 : decode cX4_refine 30 = .ok (.return_, 1) := by decide +kernel
theorem dX4_refine_31 : decode cX4_refine 31 = .ok (.aload_n 2, 1) := by decide +kernel
theorem dX4_refine_32 : decode cX4_refine 32 = .ok (.aload_n 3, 1) := by decide +kernel
theorem dX4_refine_33 : decode cX4_refine 33 = .ok (.invokevirtual 42, 3) := by decide +kernel
theorem dX4_refine_36 : decode cX4_refine 36 = .ok (.iinc 5 1, 3) := by decide +kernel
theorem dX4_refine_39 : decode cX4_refine 39 = .ok (.goto (-36), 3) := by decide +kernel
theorem dX4_refine_42 : decode cX4_refine 42 = .ok (.return_, 1) := by decide +kernel
theorem dX9_coarsest_0 : decode cX9_coarsest 0 = .ok (.aload_n 0, 1) := by decide +kernel
theorem dX9_coarsest_1 : decode cX9_coarsest 1 = .ok (.getfield 68, 3) := by decide +kernel
theorem dX9_coarsest_4 : decode cX9_coarsest 4 = .ok (.iload_n 1, 1) := by decide +kernel
theorem dX9_coarsest_5 : decode cX9_coarsest 5 = .ok (.aload_n 0, 1) := by decide +kernel
theorem dX9_coarsest_6 : decode cX9_coarsest 6 = .ok (.getfield 12, 3) := by decide +kernel
theorem dX9_coarsest_9 : decode cX9_coarsest 9 = .ok (.getfield 90, 3) := by decide +kernel
theorem dX9_coarsest_12 : decode cX9_coarsest 12 = .ok (.invokevirtual 151, 3) := by decide +kernel
theorem dX9_coarsest_15 : decode cX9_coarsest 15 = .ok (.ifCond .eq 10, 3) := by decide +kernel
theorem dX9_coarsest_18 : decode cX9_coarsest 18 = .ok (.iload_n 2, 1) := by decide +kernel
theorem dX9_coarsest_19 : decode cX9_coarsest 19 = .ok (.invokestatic 158, 3) := by decide +kernel
theorem dX9_coarsest_22 : decode cX9_coarsest 22 = .ok (.ifCond .ne 9, 3) := by decide +kernel
theorem dX9_coarsest_25 : decode cX9_coarsest 25 = .ok (.aload_n 0, 1) := by decide +kernel
theorem dX9_coarsest_26 : decode cX9_coarsest 26 = .ok (.iconst (-1), 1) := by decide +kernel
theorem dX9_coarsest_27 : decode cX9_coarsest 27 = .ok (.invokevirtual 86, 3) := by decide +kernel
theorem dX9_coarsest_30 : decode cX9_coarsest 30 = .ok (.ireturn, 1) := by decide +kernel
theorem dX9_coarsest_31 : decode cX9_coarsest 31 = .ok (.aload_n 0, 1) := by decide +kernel
theorem dX9_coarsest_32 : decode cX9_coarsest 32 = .ok (.aload_n 0, 1) := by decide +kernel
theorem dX9_coarsest_33 : decode cX9_coarsest 33 = .ok (.getfield 113, 3) := by decide +kernel
theorem dX9_coarsest_36 : decode cX9_coarsest 36 = .ok (.invokevirtual 140, 3) := by decide +kernel
theorem dX9_coarsest_39 : decode cX9_coarsest 39 = .ok (.aload_n 0, 1) := by decide +kernel
theorem dX9_coarsest_40 : decode cX9_coarsest 40 = .ok (.getfield 40, 3) := by decide +kernel
theorem dX9_coarsest_43 : decode cX9_coarsest 43 = .ok (.aload_n 0, 1) := by decide +kernel
theorem dX9_coarsest_44 : decode cX9_coarsest 44 = .ok (.getfield 12, 3) := by decide +kernel
theorem dX9_coarsest_47 : decode cX9_coarsest 47 = .ok (.aload_n 0, 1) := by decide +kernel
theorem dX9_coarsest_48 : decode cX9_coarsest 48 = .ok (.getfield 68, 3) := by decide +kernel
theorem dX9_coarsest_51 : decode cX9_coarsest 51 = .ok (.aload_n 0, 1) := by decide +kernel
theorem dX9_coarsest_52 : decode cX9_coarsest 52 = .ok (.getfield 72, 3) := by decide +kernel
theorem dX9_coarsest_55 : decode cX9_coarsest 55 = .ok (.iload_n 2, 1) := by decide +kernel
theorem dX9_coarsest_56 : decode cX9_coarsest 56 = .ok (.invokevirtual 165, 3) := by decide +kernel
theorem dX9_coarsest_59 : decode cX9_coarsest 59 = .ok (.aload_n 0, 1) := by decide +kernel
theorem dX9_coarsest_60 : decode cX9_coarsest 60 = .ok (.getfield 68, 3) := by decide +kernel
theorem dX9_coarsest_63 : decode cX9_coarsest 63 = .ok (.invokevirtual 169, 3) := by decide +kernel
theorem dX9_coarsest_66 : decode cX9_coarsest 66 = .ok (.ireturn, 1) := by decide +kernel
theorem dX8_begin_0 : decode cX8_begin 0 = .ok (.aload_n 0, 1) := by decide +kernel
theorem dX8_begin_1 : decode cX8_begin 1 = .ok (.iconst 0, 1) := by decide +kernel
theorem dX8_begin_2 : decode cX8_begin 2 = .ok (.putfield 48, 3) := by decide +kernel
theorem dX8_begin_5 : decode cX8_begin 5 = .ok (.aload_n 0, 1) := by decide +kernel
theorem dX8_begin_6 : decode cX8_begin 6 = .ok (.iconst 0, 1) := by decide +kernel
theorem dX8_begin_7 : decode cX8_begin 7 = .ok (.putfield 58, 3) := by decide +kernel
theorem dX8_begin_10 : decode cX8_begin 10 = .ok (.aload_n 0, 1) := by decide +kernel
theorem dX8_begin_11 : decode cX8_begin 11 = .ok (.getfield 9, 3) := by decide +kernel
theorem dX8_begin_14 : decode cX8_begin 14 = .ok (.iconst 0, 1) := by decide +kernel
theorem dX8_begin_15 : decode cX8_begin 15 = .ok (.iconst (-1), 1) := by decide +kernel
theorem dX8_begin_16 : decode cX8_begin 16 = .ok (.invokestatic 61, 3) := by decide +kernel
theorem dX8_begin_19 : decode cX8_begin 19 = .ok (.return_, 1) := by decide +kernel
theorem dX9_holds_0 : decode cX9_holds 0 = .ok (.iload_n 0, 1) := by decide +kernel
theorem dX9_holds_1 : decode cX9_holds 1 = .ok (.iload_n 1, 1) := by decide +kernel
theorem dX9_holds_2 : decode cX9_holds 2 = .ok (.ishr, 1) := by decide +kernel
theorem dX9_holds_3 : decode cX9_holds 3 = .ok (.iconst 1, 1) := by decide +kernel
theorem dX9_holds_4 : decode cX9_holds 4 = .ok (.iand, 1) := by decide +kernel
theorem dX9_holds_5 : decode cX9_holds 5 = .ok (.ifCond .eq 7, 3) := by decide +kernel
theorem dX9_holds_8 : decode cX9_holds 8 = .ok (.iconst 1, 1) := by decide +kernel
theorem dX9_holds_9 : decode cX9_holds 9 = .ok (.goto 4, 3) := by decide +kernel
theorem dX9_holds_12 : decode cX9_holds 12 = .ok (.iconst 0, 1) := by decide +kernel
theorem dX9_holds_13 : decode cX9_holds 13 = .ok (.ireturn, 1) := by decide +kernel
theorem dX8_keeps_0 : decode cX8_keeps 0 = .ok (.iconst 0, 1) := by decide +kernel
theorem dX8_keeps_1 : decode cX8_keeps 1 = .ok (.istore 5, 2) := by decide +kernel
theorem dX8_keeps_3 : decode cX8_keeps 3 = .ok (.iload 5, 2) := by decide +kernel
theorem dX8_keeps_5 : decode cX8_keeps 5 = .ok (.iconst 3, 1) := by decide +kernel
theorem dX8_keeps_6 : decode cX8_keeps 6 = .ok (.if_icmp .ge 51, 3) := by decide +kernel
theorem dX8_keeps_9 : decode cX8_keeps 9 = .ok (.aload_n 0, 1) := by decide +kernel
theorem dX8_keeps_10 : decode cX8_keeps 10 = .ok (.iload 5, 2) := by decide +kernel
theorem dX8_keeps_12 : decode cX8_keeps 12 = .ok (.iload_n 1, 1) := by decide +kernel
theorem dX8_keeps_13 : decode cX8_keeps 13 = .ok (.iload_n 2, 1) := by decide +kernel
theorem dX8_keeps_14 : decode cX8_keeps 14 = .ok (.invokevirtual 84, 3) := by decide +kernel
theorem dX8_keeps_17 : decode cX8_keeps 17 = .ok (.aload_n 0, 1) := by decide +kernel
theorem dX8_keeps_18 : decode cX8_keeps 18 = .ok (.iload 5, 2) := by decide +kernel
theorem dX8_keeps_20 : decode cX8_keeps 20 = .ok (.iload_n 3, 1) := by decide +kernel
theorem dX8_keeps_21 : decode cX8_keeps 21 = .ok (.iload 4, 2) := by decide +kernel
theorem dX8_keeps_23 : decode cX8_keeps 23 = .ok (.invokevirtual 84, 3) := by decide +kernel
theorem dX8_keeps_26 : decode cX8_keeps 26 = .ok (.if_icmp .ne 23, 3) := by decide +kernel
theorem dX8_keeps_29 : decode cX8_keeps 29 = .ok (.aload_n 0, 1) := by decide +kernel
theorem dX8_keeps_30 : decode cX8_keeps 30 = .ok (.iload 5, 2) := by decide +kernel
theorem dX8_keeps_32 : decode cX8_keeps 32 = .ok (.iload_n 2, 1) := by decide +kernel
theorem dX8_keeps_33 : decode cX8_keeps 33 = .ok (.iload_n 1, 1) := by decide +kernel
theorem dX8_keeps_34 : decode cX8_keeps 34 = .ok (.invokevirtual 84, 3) := by decide +kernel
theorem dX8_keeps_37 : decode cX8_keeps 37 = .ok (.aload_n 0, 1) := by decide +kernel
theorem dX8_keeps_38 : decode cX8_keeps 38 = .ok (.iload 5, 2) := by decide +kernel
theorem dX8_keeps_40 : decode cX8_keeps 40 = .ok (.iload 4, 2) := by decide +kernel
theorem dX8_keeps_42 : decode cX8_keeps 42 = .ok (.iload_n 3, 1) := by decide +kernel
theorem dX8_keeps_43 : decode cX8_keeps 43 = .ok (.invokevirtual 84, 3) := by decide +kernel
theorem dX8_keeps_46 : decode cX8_keeps 46 = .ok (.if_icmp .eq 5, 3) := by decide +kernel
theorem dX8_keeps_49 : decode cX8_keeps 49 = .ok (.iconst 0, 1) := by decide +kernel
theorem dX8_keeps_50 : decode cX8_keeps 50 = .ok (.ireturn, 1) := by decide +kernel
theorem dX8_keeps_51 : decode cX8_keeps 51 = .ok (.iinc 5 1, 3) := by decide +kernel
theorem dX8_keeps_54 : decode cX8_keeps 54 = .ok (.goto (-51), 3) := by decide +kernel
theorem dX8_keeps_57 : decode cX8_keeps 57 = .ok (.iconst 1, 1) := by decide +kernel
theorem dX8_keeps_58 : decode cX8_keeps 58 = .ok (.ireturn, 1) := by decide +kernel
theorem dX8_keepsAhead_0 : decode cX8_keepsAhead 0 = .ok (.aload_n 1, 1) := by decide +kernel
theorem dX8_keepsAhead_1 : decode cX8_keepsAhead 1 = .ok (.aload_n 0, 1) := by decide +kernel
theorem dX8_keepsAhead_2 : decode cX8_keepsAhead 2 = .ok (.getfield 48, 3) := by decide +kernel
theorem dX8_keepsAhead_5 : decode cX8_keepsAhead 5 = .ok (.iload_n 2, 1) := by decide +kernel
theorem dX8_keepsAhead_6 : decode cX8_keepsAhead 6 = .ok (.invokevirtual 41, 3) := by decide +kernel
theorem dX8_keepsAhead_9 : decode cX8_keepsAhead 9 = .ok (.ifCond .ne 5, 3) := by decide +kernel
theorem dX8_keepsAhead_12 : decode cX8_keepsAhead 12 = .ok (.iconst 0, 1) := by decide +kernel
theorem dX8_keepsAhead_13 : decode cX8_keepsAhead 13 = .ok (.ireturn, 1) := by decide +kernel
theorem dX8_keepsAhead_14 : decode cX8_keepsAhead 14 = .ok (.iconst 0, 1) := by decide +kernel
theorem dX8_keepsAhead_15 : decode cX8_keepsAhead 15 = .ok (.istore_n 3, 1) := by decide +kernel
theorem dX8_keepsAhead_16 : decode cX8_keepsAhead 16 = .ok (.iload_n 3, 1) := by decide +kernel
theorem dX8_keepsAhead_17 : decode cX8_keepsAhead 17 = .ok (.aload_n 0, 1) := by decide +kernel
theorem dX8_keepsAhead_18 : decode cX8_keepsAhead 18 = .ok (.getfield 48, 3) := by decide +kernel
theorem dX8_keepsAhead_21 : decode cX8_keepsAhead 21 = .ok (.if_icmp .ge 32, 3) := by decide +kernel
theorem dX8_keepsAhead_24 : decode cX8_keepsAhead 24 = .ok (.aload_n 1, 1) := by decide +kernel
theorem dX8_keepsAhead_25 : decode cX8_keepsAhead 25 = .ok (.aload_n 0, 1) := by decide +kernel
theorem dX8_keepsAhead_26 : decode cX8_keepsAhead 26 = .ok (.getfield 48, 3) := by decide +kernel
theorem dX8_keepsAhead_29 : decode cX8_keepsAhead 29 = .ok (.iload_n 3, 1) := by decide +kernel
theorem dX8_keepsAhead_30 : decode cX8_keepsAhead 30 = .ok (.iload_n 2, 1) := by decide +kernel
theorem dX8_keepsAhead_31 : decode cX8_keepsAhead 31 = .ok (.aload_n 0, 1) := by decide +kernel
theorem dX8_keepsAhead_32 : decode cX8_keepsAhead 32 = .ok (.getfield 9, 3) := by decide +kernel
theorem dX8_keepsAhead_35 : decode cX8_keepsAhead 35 = .ok (.iload_n 3, 1) := by decide +kernel
theorem dX8_keepsAhead_36 : decode cX8_keepsAhead 36 = .ok (.invokestatic 65, 3) := by decide +kernel
theorem dX8_keepsAhead_39 : decode cX8_keepsAhead 39 = .ok (.invokestatic 80, 3) := by decide +kernel
theorem dX8_keepsAhead_42 : decode cX8_keepsAhead 42 = .ok (.ifCond .ne 5, 3) := by decide +kernel
theorem dX8_keepsAhead_45 : decode cX8_keepsAhead 45 = .ok (.iconst 0, 1) := by decide +kernel
theorem dX8_keepsAhead_46 : decode cX8_keepsAhead 46 = .ok (.ireturn, 1) := by decide +kernel
theorem dX8_keepsAhead_47 : decode cX8_keepsAhead 47 = .ok (.iinc 3 1, 3) := by decide +kernel
theorem dX8_keepsAhead_50 : decode cX8_keepsAhead 50 = .ok (.goto (-34), 3) := by decide +kernel
theorem dX8_keepsAhead_53 : decode cX8_keepsAhead 53 = .ok (.iconst 1, 1) := by decide +kernel
theorem dX8_keepsAhead_54 : decode cX8_keepsAhead 54 = .ok (.ireturn, 1) := by decide +kernel
theorem dX8_lift_0 : decode cX8_lift 0 = .ok (.aload_n 0, 1) := by decide +kernel
theorem dX8_lift_1 : decode cX8_lift 1 = .ok (.getfield 9, 3) := by decide +kernel
theorem dX8_lift_4 : decode cX8_lift 4 = .ok (.aload_n 0, 1) := by decide +kernel
theorem dX8_lift_5 : decode cX8_lift 5 = .ok (.getfield 48, 3) := by decide +kernel
theorem dX8_lift_8 : decode cX8_lift 8 = .ok (.invokestatic 65, 3) := by decide +kernel
theorem dX8_lift_11 : decode cX8_lift 11 = .ok (.istore_n 1, 1) := by decide +kernel
theorem dX8_lift_12 : decode cX8_lift 12 = .ok (.iload_n 1, 1) := by decide +kernel
theorem dX8_lift_13 : decode cX8_lift 13 = .ok (.ifCond .lt 17, 3) := by decide +kernel
theorem dX8_lift_16 : decode cX8_lift 16 = .ok (.aload_n 0, 1) := by decide +kernel
theorem dX8_lift_17 : decode cX8_lift 17 = .ok (.dup, 1) := by decide +kernel
theorem dX8_lift_18 : decode cX8_lift 18 = .ok (.getfield 58, 3) := by decide +kernel
theorem dX8_lift_21 : decode cX8_lift 21 = .ok (.iconst 1, 1) := by decide +kernel
theorem dX8_lift_22 : decode cX8_lift 22 = .ok (.iload_n 1, 1) := by decide +kernel
theorem dX8_lift_23 : decode cX8_lift 23 = .ok (.ishl, 1) := by decide +kernel
theorem dX8_lift_24 : decode cX8_lift 24 = .ok (.iconst (-1), 1) := by decide +kernel
theorem dX8_lift_25 : decode cX8_lift 25 = .ok (.ixor, 1) := by decide +kernel
theorem dX8_lift_26 : decode cX8_lift 26 = .ok (.iand, 1) := by decide +kernel
theorem dX8_lift_27 : decode cX8_lift 27 = .ok (.putfield 58, 3) := by decide +kernel
theorem dX8_lift_30 : decode cX8_lift 30 = .ok (.iload_n 1, 1) := by decide +kernel
theorem dX8_lift_31 : decode cX8_lift 31 = .ok (.iconst 1, 1) := by decide +kernel
theorem dX8_lift_32 : decode cX8_lift 32 = .ok (.iadd, 1) := by decide +kernel
theorem dX8_lift_33 : decode cX8_lift 33 = .ok (.ireturn, 1) := by decide +kernel
theorem dX8_nextKeeping_0 : decode cX8_nextKeeping 0 = .ok (.aload_n 0, 1) := by decide +kernel
theorem dX8_nextKeeping_1 : decode cX8_nextKeeping 1 = .ok (.invokevirtual 69, 3) := by decide +kernel
theorem dX8_nextKeeping_4 : decode cX8_nextKeeping 4 = .ok (.istore 5, 2) := by decide +kernel
theorem dX8_nextKeeping_6 : decode cX8_nextKeeping 6 = .ok (.iload 5, 2) := by decide +kernel
theorem dX8_nextKeeping_8 : decode cX8_nextKeeping 8 = .ok (.aload_n 1, 1) := by decide +kernel
theorem dX8_nextKeeping_9 : decode cX8_nextKeeping 9 = .ok (.getfield 21, 3) := by decide +kernel
theorem dX8_nextKeeping_12 : decode cX8_nextKeeping 12 = .ok (.if_icmp .ge 115, 3) := by decide +kernel
theorem dX8_nextKeeping_15 : decode cX8_nextKeeping 15 = .ok (.aload_n 0, 1) := by decide +kernel
theorem dX8_nextKeeping_16 : decode cX8_nextKeeping 16 = .ok (.getfield 48, 3) := by decide +kernel
theorem dX8_nextKeeping_19 : decode cX8_nextKeeping 19 = .ok (.iload_n 2, 1) := by decide +kernel
theorem dX8_nextKeeping_20 : decode cX8_nextKeeping 20 = .ok (.if_icmp .ge 20, 3) := by decide +kernel
theorem dX8_nextKeeping_23 : decode cX8_nextKeeping 23 = .ok (.iload 5, 2) := by decide +kernel
theorem dX8_nextKeeping_25 : decode cX8_nextKeeping 25 = .ok (.aload_n 0, 1) := by decide +kernel
theorem dX8_nextKeeping_26 : decode cX8_nextKeeping 26 = .ok (.getfield 48, 3) := by decide +kernel
theorem dX8_nextKeeping_29 : decode cX8_nextKeeping 29 = .ok (.if_icmp .ne 7, 3) := by decide +kernel
theorem dX8_nextKeeping_32 : decode cX8_nextKeeping 32 = .ok (.iconst 1, 1) := by decide +kernel
theorem dX8_nextKeeping_33 : decode cX8_nextKeeping 33 = .ok (.goto 40, 3) := by decide +kernel
theorem dX8_nextKeeping_36 : decode cX8_nextKeeping 36 = .ok (.iconst 0, 1) := by decide +kernel
theorem dX8_nextKeeping_37 : decode cX8_nextKeeping 37 = .ok (.goto 36, 3) := by decide +kernel
theorem dX8_nextKeeping_40 : decode cX8_nextKeeping 40 = .ok (.aload_n 0, 1) := by decide +kernel
theorem dX8_nextKeeping_41 : decode cX8_nextKeeping 41 = .ok (.getfield 48, 3) := by decide +kernel
theorem dX8_nextKeeping_44 : decode cX8_nextKeeping 44 = .ok (.iload_n 3, 1) := by decide +kernel
theorem dX8_nextKeeping_45 : decode cX8_nextKeeping 45 = .ok (.if_icmp .ne 7, 3) := by decide +kernel
theorem dX8_nextKeeping_48 : decode cX8_nextKeeping 48 = .ok (.iconst 1, 1) := by decide +kernel
theorem dX8_nextKeeping_49 : decode cX8_nextKeeping 49 = .ok (.goto 4, 3) := by decide +kernel
theorem dX8_nextKeeping_52 : decode cX8_nextKeeping 52 = .ok (.iconst 0, 1) := by decide +kernel
theorem dX8_nextKeeping_53 : decode cX8_nextKeeping 53 = .ok (.iload 5, 2) := by decide +kernel
theorem dX8_nextKeeping_55 : decode cX8_nextKeeping 55 = .ok (.iload 4, 2) := by decide +kernel
theorem dX8_nextKeeping_57 : decode cX8_nextKeeping 57 = .ok (.if_icmp .ne 7, 3) := by decide +kernel
theorem dX8_nextKeeping_60 : decode cX8_nextKeeping 60 = .ok (.iconst 1, 1) := by decide +kernel
theorem dX8_nextKeeping_61 : decode cX8_nextKeeping 61 = .ok (.goto 4, 3) := by decide +kernel
theorem dX8_nextKeeping_64 : decode cX8_nextKeeping 64 = .ok (.iconst 0, 1) := by decide +kernel
theorem dX8_nextKeeping_65 : decode cX8_nextKeeping 65 = .ok (.if_icmp .ne 7, 3) := by decide +kernel
theorem dX8_nextKeeping_68 : decode cX8_nextKeeping 68 = .ok (.iconst 1, 1) := by decide +kernel
theorem dX8_nextKeeping_69 : decode cX8_nextKeeping 69 = .ok (.goto 4, 3) := by decide +kernel
theorem dX8_nextKeeping_72 : decode cX8_nextKeeping 72 = .ok (.iconst 0, 1) := by decide +kernel
theorem dX8_nextKeeping_73 : decode cX8_nextKeeping 73 = .ok (.istore 6, 2) := by decide +kernel
theorem dX8_nextKeeping_75 : decode cX8_nextKeeping 75 = .ok (.iload 6, 2) := by decide +kernel
theorem dX8_nextKeeping_77 : decode cX8_nextKeeping 77 = .ok (.ifCond .eq 44, 3) := by decide +kernel
theorem dX8_nextKeeping_80 : decode cX8_nextKeeping 80 = .ok (.aload_n 0, 1) := by decide +kernel
theorem dX8_nextKeeping_81 : decode cX8_nextKeeping 81 = .ok (.getfield 58, 3) := by decide +kernel
theorem dX8_nextKeeping_84 : decode cX8_nextKeeping 84 = .ok (.iload 5, 2) := by decide +kernel
theorem dX8_nextKeeping_86 : decode cX8_nextKeeping 86 = .ok (.invokestatic 73, 3) := by decide +kernel
theorem dX8_nextKeeping_89 : decode cX8_nextKeeping 89 = .ok (.ifCond .ne 32, 3) := by decide +kernel
theorem dX8_nextKeeping_92 : decode cX8_nextKeeping 92 = .ok (.aload_n 0, 1) := by decide +kernel
theorem dX8_nextKeeping_93 : decode cX8_nextKeeping 93 = .ok (.aload_n 1, 1) := by decide +kernel
theorem dX8_nextKeeping_94 : decode cX8_nextKeeping 94 = .ok (.iload 5, 2) := by decide +kernel
theorem dX8_nextKeeping_96 : decode cX8_nextKeeping 96 = .ok (.invokevirtual 76, 3) := by decide +kernel
theorem dX8_nextKeeping_99 : decode cX8_nextKeeping 99 = .ok (.ifCond .eq 22, 3) := by decide +kernel
theorem dX8_nextKeeping_102 : decode cX8_nextKeeping 102 = .ok (.aload_n 1, 1) := by decide +kernel
theorem dX8_nextKeeping_103 : decode cX8_nextKeeping 103 = .ok (.aload_n 0, 1) := by decide +kernel
theorem dX8_nextKeeping_104 : decode cX8_nextKeeping 104 = .ok (.getfield 48, 3) := by decide +kernel
theorem dX8_nextKeeping_107 : decode cX8_nextKeeping 107 = .ok (.iload_n 3, 1) := by decide +kernel
theorem dX8_nextKeeping_108 : decode cX8_nextKeeping 108 = .ok (.iload 5, 2) := by decide +kernel
theorem dX8_nextKeeping_110 : decode cX8_nextKeeping 110 = .ok (.iload 4, 2) := by decide +kernel
theorem dX8_nextKeeping_112 : decode cX8_nextKeeping 112 = .ok (.invokestatic 80, 3) := by decide +kernel
theorem dX8_nextKeeping_115 : decode cX8_nextKeeping 115 = .ok (.ifCond .eq 6, 3) := by decide +kernel
theorem dX8_nextKeeping_118 : decode cX8_nextKeeping 118 = .ok (.iload 5, 2) := by decide +kernel
theorem dX8_nextKeeping_120 : decode cX8_nextKeeping 120 = .ok (.ireturn, 1) := by decide +kernel
theorem dX8_nextKeeping_121 : decode cX8_nextKeeping 121 = .ok (.iinc 5 1, 3) := by decide +kernel
theorem dX8_nextKeeping_124 : decode cX8_nextKeeping 124 = .ok (.goto (-118), 3) := by decide +kernel
theorem dX8_nextKeeping_127 : decode cX8_nextKeeping 127 = .ok (.iconst (-1), 1) := by decide +kernel
theorem dX8_nextKeeping_128 : decode cX8_nextKeeping 128 = .ok (.ireturn, 1) := by decide +kernel
theorem dX8_step_0 : decode cX8_step 0 = .ok (.iload_n 1, 1) := by decide +kernel
theorem dX8_step_1 : decode cX8_step 1 = .ok (.ifCond .ge 14, 3) := by decide +kernel
theorem dX8_step_4 : decode cX8_step 4 = .ok (.aload_n 0, 1) := by decide +kernel
theorem dX8_step_5 : decode cX8_step 5 = .ok (.dup, 1) := by decide +kernel
theorem dX8_step_6 : decode cX8_step 6 = .ok (.getfield 48, 3) := by decide +kernel
theorem dX8_step_9 : decode cX8_step 9 = .ok (.iconst 1, 1) := by decide +kernel
theorem dX8_step_10 : decode cX8_step 10 = .ok (.isub, 1) := by decide +kernel
theorem dX8_step_11 : decode cX8_step 11 = .ok (.putfield 48, 3) := by decide +kernel
theorem dX8_step_14 : decode cX8_step 14 = .ok (.return_, 1) := by decide +kernel
theorem dX8_step_15 : decode cX8_step 15 = .ok (.aload_n 0, 1) := by decide +kernel
theorem dX8_step_16 : decode cX8_step 16 = .ok (.getfield 9, 3) := by decide +kernel
theorem dX8_step_19 : decode cX8_step 19 = .ok (.aload_n 0, 1) := by decide +kernel
theorem dX8_step_20 : decode cX8_step 20 = .ok (.getfield 48, 3) := by decide +kernel
theorem dX8_step_23 : decode cX8_step 23 = .ok (.iload_n 1, 1) := by decide +kernel
theorem dX8_step_24 : decode cX8_step 24 = .ok (.invokestatic 61, 3) := by decide +kernel
theorem dX8_step_27 : decode cX8_step 27 = .ok (.aload_n 0, 1) := by decide +kernel
theorem dX8_step_28 : decode cX8_step 28 = .ok (.dup, 1) := by decide +kernel
theorem dX8_step_29 : decode cX8_step 29 = .ok (.getfield 58, 3) := by decide +kernel
theorem dX8_step_32 : decode cX8_step 32 = .ok (.iconst 1, 1) := by decide +kernel
theorem dX8_step_33 : decode cX8_step 33 = .ok (.iload_n 1, 1) := by decide +kernel
theorem dX8_step_34 : decode cX8_step 34 = .ok (.ishl, 1) := by decide +kernel
theorem dX8_step_35 : decode cX8_step 35 = .ok (.ior, 1) := by decide +kernel
theorem dX8_step_36 : decode cX8_step 36 = .ok (.putfield 58, 3) := by decide +kernel
theorem dX8_step_39 : decode cX8_step 39 = .ok (.aload_n 0, 1) := by decide +kernel
theorem dX8_step_40 : decode cX8_step 40 = .ok (.dup, 1) := by decide +kernel
theorem dX8_step_41 : decode cX8_step 41 = .ok (.getfield 48, 3) := by decide +kernel
theorem dX8_step_44 : decode cX8_step 44 = .ok (.iconst 1, 1) := by decide +kernel
theorem dX8_step_45 : decode cX8_step 45 = .ok (.iadd, 1) := by decide +kernel
theorem dX8_step_46 : decode cX8_step 46 = .ok (.putfield 48, 3) := by decide +kernel
theorem dX8_step_49 : decode cX8_step 49 = .ok (.aload_n 0, 1) := by decide +kernel
theorem dX8_step_50 : decode cX8_step 50 = .ok (.getfield 9, 3) := by decide +kernel
theorem dX8_step_53 : decode cX8_step 53 = .ok (.aload_n 0, 1) := by decide +kernel
theorem dX8_step_54 : decode cX8_step 54 = .ok (.getfield 48, 3) := by decide +kernel
theorem dX8_step_57 : decode cX8_step 57 = .ok (.iconst (-1), 1) := by decide +kernel
theorem dX8_step_58 : decode cX8_step 58 = .ok (.invokestatic 61, 3) := by decide +kernel
theorem dX8_step_61 : decode cX8_step 61 = .ok (.return_, 1) := by decide +kernel
theorem dX8_brings_0 : decode cX8_brings 0 = .ok (.aload_n 1, 1) := by decide +kernel
theorem dX8_brings_1 : decode cX8_brings 1 = .ok (.iload_n 3, 1) := by decide +kernel
theorem dX8_brings_2 : decode cX8_brings 2 = .ok (.iload 4, 2) := by decide +kernel
theorem dX8_brings_4 : decode cX8_brings 4 = .ok (.invokevirtual 41, 3) := by decide +kernel
theorem dX8_brings_7 : decode cX8_brings 7 = .ok (.ifCond .ne 5, 3) := by decide +kernel
theorem dX8_brings_10 : decode cX8_brings 10 = .ok (.iconst 0, 1) := by decide +kernel
theorem dX8_brings_11 : decode cX8_brings 11 = .ok (.ireturn, 1) := by decide +kernel
theorem dX8_brings_12 : decode cX8_brings 12 = .ok (.aload_n 0, 1) := by decide +kernel
theorem dX8_brings_13 : decode cX8_brings 13 = .ok (.invokevirtual 45, 3) := by decide +kernel
theorem dX8_brings_16 : decode cX8_brings 16 = .ok (.iconst 0, 1) := by decide +kernel
theorem dX8_brings_17 : decode cX8_brings 17 = .ok (.istore 5, 2) := by decide +kernel
theorem dX8_brings_19 : decode cX8_brings 19 = .ok (.iload 5, 2) := by decide +kernel
theorem dX8_brings_21 : decode cX8_brings 21 = .ok (.ldc 47, 2) := by decide +kernel
theorem dX8_brings_23 : decode cX8_brings 23 = .ok (.if_icmp .ge 40, 3) := by decide +kernel
theorem dX8_brings_26 : decode cX8_brings 26 = .ok (.aload_n 0, 1) := by decide +kernel
theorem dX8_brings_27 : decode cX8_brings 27 = .ok (.getfield 48, 3) := by decide +kernel
theorem dX8_brings_30 : decode cX8_brings 30 = .ok (.ifCond .lt 33, 3) := by decide +kernel
theorem dX8_brings_33 : decode cX8_brings 33 = .ok (.aload_n 0, 1) := by decide +kernel
theorem dX8_brings_34 : decode cX8_brings 34 = .ok (.getfield 48, 3) := by decide +kernel
theorem dX8_brings_37 : decode cX8_brings 37 = .ok (.aload_n 1, 1) := by decide +kernel
theorem dX8_brings_38 : decode cX8_brings 38 = .ok (.getfield 21, 3) := by decide +kernel
theorem dX8_brings_41 : decode cX8_brings 41 = .ok (.if_icmp .ge 22, 3) := by decide +kernel
theorem dX8_brings_44 : decode cX8_brings 44 = .ok (.aload_n 0, 1) := by decide +kernel
theorem dX8_brings_45 : decode cX8_brings 45 = .ok (.aload_n 0, 1) := by decide +kernel
theorem dX8_brings_46 : decode cX8_brings 46 = .ok (.aload_n 1, 1) := by decide +kernel
theorem dX8_brings_47 : decode cX8_brings 47 = .ok (.iload_n 2, 1) := by decide +kernel
theorem dX8_brings_48 : decode cX8_brings 48 = .ok (.iload_n 3, 1) := by decide +kernel
theorem dX8_brings_49 : decode cX8_brings 49 = .ok (.iload 4, 2) := by decide +kernel
theorem dX8_brings_51 : decode cX8_brings 51 = .ok (.invokevirtual 51, 3) := by decide +kernel
theorem dX8_brings_54 : decode cX8_brings 54 = .ok (.invokevirtual 55, 3) := by decide +kernel
theorem dX8_brings_57 : decode cX8_brings 57 = .ok (.iinc 5 1, 3) := by decide +kernel
theorem dX8_brings_60 : decode cX8_brings 60 = .ok (.goto (-41), 3) := by decide +kernel
theorem dX8_brings_63 : decode cX8_brings 63 = .ok (.aload_n 0, 1) := by decide +kernel
theorem dX8_brings_64 : decode cX8_brings 64 = .ok (.getfield 48, 3) := by decide +kernel
theorem dX8_brings_67 : decode cX8_brings 67 = .ok (.aload_n 1, 1) := by decide +kernel
theorem dX8_brings_68 : decode cX8_brings 68 = .ok (.getfield 21, 3) := by decide +kernel
theorem dX8_brings_71 : decode cX8_brings 71 = .ok (.if_icmp .lt 7, 3) := by decide +kernel
theorem dX8_brings_74 : decode cX8_brings 74 = .ok (.iconst 1, 1) := by decide +kernel
theorem dX8_brings_75 : decode cX8_brings 75 = .ok (.goto 4, 3) := by decide +kernel
theorem dX8_brings_78 : decode cX8_brings 78 = .ok (.iconst 0, 1) := by decide +kernel
theorem dX8_brings_79 : decode cX8_brings 79 = .ok (.ireturn, 1) := by decide +kernel
theorem dX8_howMany_0 : decode cX8_howMany 0 = .ok (.iconst 1, 1) := by decide +kernel
theorem dX8_howMany_1 : decode cX8_howMany 1 = .ok (.istore_n 2, 1) := by decide +kernel
theorem dX8_howMany_2 : decode cX8_howMany 2 = .ok (.iconst 0, 1) := by decide +kernel
theorem dX8_howMany_3 : decode cX8_howMany 3 = .ok (.istore_n 3, 1) := by decide +kernel
theorem dX8_howMany_4 : decode cX8_howMany 4 = .ok (.iload_n 3, 1) := by decide +kernel
theorem dX8_howMany_5 : decode cX8_howMany 5 = .ok (.aload_n 1, 1) := by decide +kernel
theorem dX8_howMany_6 : decode cX8_howMany 6 = .ok (.getfield 21, 3) := by decide +kernel
theorem dX8_howMany_9 : decode cX8_howMany 9 = .ok (.if_icmp .ge 50, 3) := by decide +kernel
theorem dX8_howMany_12 : decode cX8_howMany 12 = .ok (.iconst 0, 1) := by decide +kernel
theorem dX8_howMany_13 : decode cX8_howMany 13 = .ok (.istore 4, 2) := by decide +kernel
theorem dX8_howMany_15 : decode cX8_howMany 15 = .ok (.iload_n 3, 1) := by decide +kernel
theorem dX8_howMany_16 : decode cX8_howMany 16 = .ok (.istore 5, 2) := by decide +kernel
theorem dX8_howMany_18 : decode cX8_howMany 18 = .ok (.iload 5, 2) := by decide +kernel
theorem dX8_howMany_20 : decode cX8_howMany 20 = .ok (.aload_n 1, 1) := by decide +kernel
theorem dX8_howMany_21 : decode cX8_howMany 21 = .ok (.getfield 21, 3) := by decide +kernel
theorem dX8_howMany_24 : decode cX8_howMany 24 = .ok (.if_icmp .ge 24, 3) := by decide +kernel
theorem dX8_howMany_27 : decode cX8_howMany 27 = .ok (.aload_n 0, 1) := by decide +kernel
theorem dX8_howMany_28 : decode cX8_howMany 28 = .ok (.aload_n 1, 1) := by decide +kernel
theorem dX8_howMany_29 : decode cX8_howMany 29 = .ok (.iload_n 3, 1) := by decide +kernel
theorem dX8_howMany_30 : decode cX8_howMany 30 = .ok (.iload_n 3, 1) := by decide +kernel
theorem dX8_howMany_31 : decode cX8_howMany 31 = .ok (.iload 5, 2) := by decide +kernel
theorem dX8_howMany_33 : decode cX8_howMany 33 = .ok (.invokevirtual 27, 3) := by decide +kernel
theorem dX8_howMany_36 : decode cX8_howMany 36 = .ok (.ifCond .eq 6, 3) := by decide +kernel
theorem dX8_howMany_39 : decode cX8_howMany 39 = .ok (.iinc 4 1, 3) := by decide +kernel
theorem dX8_howMany_42 : decode cX8_howMany 42 = .ok (.iinc 5 1, 3) := by decide +kernel
theorem dX8_howMany_45 : decode cX8_howMany 45 = .ok (.goto (-27), 3) := by decide +kernel
theorem dX8_howMany_48 : decode cX8_howMany 48 = .ok (.iload_n 2, 1) := by decide +kernel
theorem dX8_howMany_49 : decode cX8_howMany 49 = .ok (.iload 4, 2) := by decide +kernel
theorem dX8_howMany_51 : decode cX8_howMany 51 = .ok (.imul, 1) := by decide +kernel
theorem dX8_howMany_52 : decode cX8_howMany 52 = .ok (.istore_n 2, 1) := by decide +kernel
theorem dX8_howMany_53 : decode cX8_howMany 53 = .ok (.iinc 3 1, 3) := by decide +kernel
theorem dX8_howMany_56 : decode cX8_howMany 56 = .ok (.goto (-52), 3) := by decide +kernel
theorem dX8_howMany_59 : decode cX8_howMany 59 = .ok (.iload_n 2, 1) := by decide +kernel
theorem dX8_howMany_60 : decode cX8_howMany 60 = .ok (.ireturn, 1) := by decide +kernel
theorem dX9_renamings_0 : decode cX9_renamings 0 = .ok (.aload_n 0, 1) := by decide +kernel
theorem dX9_renamings_1 : decode cX9_renamings 1 = .ok (.aload_n 0, 1) := by decide +kernel
theorem dX9_renamings_2 : decode cX9_renamings 2 = .ok (.getfield 113, 3) := by decide +kernel
theorem dX9_renamings_5 : decode cX9_renamings 5 = .ok (.invokevirtual 140, 3) := by decide +kernel
theorem dX9_renamings_8 : decode cX9_renamings 8 = .ok (.aload_n 0, 1) := by decide +kernel
theorem dX9_renamings_9 : decode cX9_renamings 9 = .ok (.getfield 47, 3) := by decide +kernel
theorem dX9_renamings_12 : decode cX9_renamings 12 = .ok (.aload_n 0, 1) := by decide +kernel
theorem dX9_renamings_13 : decode cX9_renamings 13 = .ok (.getfield 12, 3) := by decide +kernel
theorem dX9_renamings_16 : decode cX9_renamings 16 = .ok (.invokevirtual 173, 3) := by decide +kernel
theorem dX9_renamings_19 : decode cX9_renamings 19 = .ok (.ireturn, 1) := by decide +kernel
theorem dX9_moves_0 : decode cX9_moves 0 = .ok (.aload_n 0, 1) := by decide +kernel
theorem dX9_moves_1 : decode cX9_moves 1 = .ok (.getfield 12, 3) := by decide +kernel
theorem dX9_moves_4 : decode cX9_moves 4 = .ok (.iload_n 1, 1) := by decide +kernel
theorem dX9_moves_5 : decode cX9_moves 5 = .ok (.invokevirtual 98, 3) := by decide +kernel
theorem dX9_moves_8 : decode cX9_moves 8 = .ok (.ifCond .eq 14, 3) := by decide +kernel
theorem dX9_moves_11 : decode cX9_moves 11 = .ok (.aload_n 0, 1) := by decide +kernel
theorem dX9_moves_12 : decode cX9_moves 12 = .ok (.getfield 12, 3) := by decide +kernel
theorem dX9_moves_15 : decode cX9_moves 15 = .ok (.iload_n 2, 1) := by decide +kernel
theorem dX9_moves_16 : decode cX9_moves 16 = .ok (.invokevirtual 98, 3) := by decide +kernel
theorem dX9_moves_19 : decode cX9_moves 19 = .ok (.ifCond .ne 9, 3) := by decide +kernel
theorem dX9_moves_22 : decode cX9_moves 22 = .ok (.aload_n 0, 1) := by decide +kernel
theorem dX9_moves_23 : decode cX9_moves 23 = .ok (.iconst (-1), 1) := by decide +kernel
theorem dX9_moves_24 : decode cX9_moves 24 = .ok (.invokevirtual 86, 3) := by decide +kernel
theorem dX9_moves_27 : decode cX9_moves 27 = .ok (.ireturn, 1) := by decide +kernel
theorem dX9_moves_28 : decode cX9_moves 28 = .ok (.aload_n 0, 1) := by decide +kernel
theorem dX9_moves_29 : decode cX9_moves 29 = .ok (.aload_n 0, 1) := by decide +kernel
theorem dX9_moves_30 : decode cX9_moves 30 = .ok (.getfield 113, 3) := by decide +kernel
theorem dX9_moves_33 : decode cX9_moves 33 = .ok (.invokevirtual 140, 3) := by decide +kernel
theorem dX9_moves_36 : decode cX9_moves 36 = .ok (.aload_n 0, 1) := by decide +kernel
theorem dX9_moves_37 : decode cX9_moves 37 = .ok (.getfield 47, 3) := by decide +kernel
theorem dX9_moves_40 : decode cX9_moves 40 = .ok (.aload_n 0, 1) := by decide +kernel
theorem dX9_moves_41 : decode cX9_moves 41 = .ok (.getfield 12, 3) := by decide +kernel
theorem dX9_moves_44 : decode cX9_moves 44 = .ok (.iconst 0, 1) := by decide +kernel
theorem dX9_moves_45 : decode cX9_moves 45 = .ok (.iload_n 1, 1) := by decide +kernel
theorem dX9_moves_46 : decode cX9_moves 46 = .ok (.iload_n 2, 1) := by decide +kernel
theorem dX9_moves_47 : decode cX9_moves 47 = .ok (.invokevirtual 177, 3) := by decide +kernel
theorem dX9_moves_50 : decode cX9_moves 50 = .ok (.ifCond .eq 7, 3) := by decide +kernel
theorem dX9_moves_53 : decode cX9_moves 53 = .ok (.iconst 1, 1) := by decide +kernel
theorem dX9_moves_54 : decode cX9_moves 54 = .ok (.goto 4, 3) := by decide +kernel
theorem dX9_moves_57 : decode cX9_moves 57 = .ok (.iconst 0, 1) := by decide +kernel
theorem dX9_moves_58 : decode cX9_moves 58 = .ok (.ireturn, 1) := by decide +kernel
theorem dX8_partByOrbit_0 : decode cX8_partByOrbit 0 = .ok (.aload_n 2, 1) := by decide +kernel
theorem dX8_partByOrbit_1 : decode cX8_partByOrbit 1 = .ok (.aload_n 1, 1) := by decide +kernel
theorem dX8_partByOrbit_2 : decode cX8_partByOrbit 2 = .ok (.getfield 21, 3) := by decide +kernel
theorem dX8_partByOrbit_5 : decode cX8_partByOrbit 5 = .ok (.invokevirtual 31, 3) := by decide +kernel
theorem dX8_partByOrbit_8 : decode cX8_partByOrbit 8 = .ok (.iconst 0, 1) := by decide +kernel
theorem dX8_partByOrbit_9 : decode cX8_partByOrbit 9 = .ok (.istore_n 3, 1) := by decide +kernel
theorem dX8_partByOrbit_10 : decode cX8_partByOrbit 10 = .ok (.iload_n 3, 1) := by decide +kernel
theorem dX8_partByOrbit_11 : decode cX8_partByOrbit 11 = .ok (.aload_n 1, 1) := by decide +kernel
theorem dX8_partByOrbit_12 : decode cX8_partByOrbit 12 = .ok (.getfield 21, 3) := by decide +kernel
theorem dX8_partByOrbit_15 : decode cX8_partByOrbit 15 = .ok (.if_icmp .ge 55, 3) := by decide +kernel
theorem dX8_partByOrbit_18 : decode cX8_partByOrbit 18 = .ok (.iconst (-1), 1) := by decide +kernel
theorem dX8_partByOrbit_19 : decode cX8_partByOrbit 19 = .ok (.istore 4, 2) := by decide +kernel
theorem dX8_partByOrbit_21 : decode cX8_partByOrbit 21 = .ok (.iconst 0, 1) := by decide +kernel
theorem dX8_partByOrbit_22 : decode cX8_partByOrbit 22 = .ok (.istore 5, 2) := by decide +kernel
theorem dX8_partByOrbit_24 : decode cX8_partByOrbit 24 = .ok (.iload 5, 2) := by decide +kernel
theorem dX8_partByOrbit_26 : decode cX8_partByOrbit 26 = .ok (.iload_n 3, 1) := by decide +kernel
theorem dX8_partByOrbit_27 : decode cX8_partByOrbit 27 = .ok (.if_icmp .ge 30, 3) := by decide +kernel
theorem dX8_partByOrbit_30 : decode cX8_partByOrbit 30 = .ok (.iload 4, 2) := by decide +kernel
theorem dX8_partByOrbit_32 : decode cX8_partByOrbit 32 = .ok (.ifCond .ge 25, 3) := by decide +kernel
theorem dX8_partByOrbit_35 : decode cX8_partByOrbit 35 = .ok (.aload_n 0, 1) := by decide +kernel
theorem dX8_partByOrbit_36 : decode cX8_partByOrbit 36 = .ok (.aload_n 1, 1) := by decide +kernel
theorem dX8_partByOrbit_37 : decode cX8_partByOrbit 37 = .ok (.iconst 0, 1) := by decide +kernel
theorem dX8_partByOrbit_38 : decode cX8_partByOrbit 38 = .ok (.iload 5, 2) := by decide +kernel
theorem dX8_partByOrbit_40 : decode cX8_partByOrbit 40 = .ok (.iload_n 3, 1) := by decide +kernel
theorem dX8_partByOrbit_41 : decode cX8_partByOrbit 41 = .ok (.invokevirtual 27, 3) := by decide +kernel
theorem dX8_partByOrbit_44 : decode cX8_partByOrbit 44 = .ok (.ifCond .eq 7, 3) := by decide +kernel
theorem dX8_partByOrbit_47 : decode cX8_partByOrbit 47 = .ok (.iload 5, 2) := by decide +kernel
theorem dX8_partByOrbit_49 : decode cX8_partByOrbit 49 = .ok (.istore 4, 2) := by decide +kernel
theorem dX8_partByOrbit_51 : decode cX8_partByOrbit 51 = .ok (.iinc 5 1, 3) := by decide +kernel
theorem dX8_partByOrbit_54 : decode cX8_partByOrbit 54 = .ok (.goto (-30), 3) := by decide +kernel
theorem dX8_partByOrbit_57 : decode cX8_partByOrbit 57 = .ok (.aload_n 2, 1) := by decide +kernel
theorem dX8_partByOrbit_58 : decode cX8_partByOrbit 58 = .ok (.iload_n 3, 1) := by decide +kernel
theorem dX8_partByOrbit_59 : decode cX8_partByOrbit 59 = .ok (.iload 4, 2) := by decide +kernel
theorem dX8_partByOrbit_61 : decode cX8_partByOrbit 61 = .ok (.invokevirtual 37, 3) := by decide +kernel
theorem dX8_partByOrbit_64 : decode cX8_partByOrbit 64 = .ok (.iinc 3 1, 3) := by decide +kernel
theorem dX8_partByOrbit_67 : decode cX8_partByOrbit 67 = .ok (.goto (-57), 3) := by decide +kernel
theorem dX8_partByOrbit_70 : decode cX8_partByOrbit 70 = .ok (.return_, 1) := by decide +kernel
theorem dX9_orbits_0 : decode cX9_orbits 0 = .ok (.aload_n 0, 1) := by decide +kernel
theorem dX9_orbits_1 : decode cX9_orbits 1 = .ok (.aload_n 0, 1) := by decide +kernel
theorem dX9_orbits_2 : decode cX9_orbits 2 = .ok (.getfield 113, 3) := by decide +kernel
theorem dX9_orbits_5 : decode cX9_orbits 5 = .ok (.invokevirtual 140, 3) := by decide +kernel
theorem dX9_orbits_8 : decode cX9_orbits 8 = .ok (.aload_n 0, 1) := by decide +kernel
theorem dX9_orbits_9 : decode cX9_orbits 9 = .ok (.getfield 47, 3) := by decide +kernel
theorem dX9_orbits_12 : decode cX9_orbits 12 = .ok (.aload_n 0, 1) := by decide +kernel
theorem dX9_orbits_13 : decode cX9_orbits 13 = .ok (.getfield 12, 3) := by decide +kernel
theorem dX9_orbits_16 : decode cX9_orbits 16 = .ok (.aload_n 0, 1) := by decide +kernel
theorem dX9_orbits_17 : decode cX9_orbits 17 = .ok (.getfield 75, 3) := by decide +kernel
theorem dX9_orbits_20 : decode cX9_orbits 20 = .ok (.invokevirtual 181, 3) := by decide +kernel
theorem dX9_orbits_23 : decode cX9_orbits 23 = .ok (.aload_n 0, 1) := by decide +kernel
theorem dX9_orbits_24 : decode cX9_orbits 24 = .ok (.getfield 75, 3) := by decide +kernel
theorem dX9_orbits_27 : decode cX9_orbits 27 = .ok (.invokevirtual 169, 3) := by decide +kernel
theorem dX9_orbits_30 : decode cX9_orbits 30 = .ok (.ireturn, 1) := by decide +kernel
theorem dX8_behind_0 : decode cX8_behind 0 = .ok (.lload_n 0, 1) := by decide +kernel
theorem dX8_behind_1 : decode cX8_behind 1 = .ok (.ldc2_w 133, 3) := by decide +kernel
theorem dX8_behind_4 : decode cX8_behind 4 = .ok (.lmul, 1) := by decide +kernel
theorem dX8_behind_5 : decode cX8_behind 5 = .ok (.iload_n 2, 1) := by decide +kernel
theorem dX8_behind_6 : decode cX8_behind 6 = .ok (.i2l, 1) := by decide +kernel
theorem dX8_behind_7 : decode cX8_behind 7 = .ok (.ladd, 1) := by decide +kernel
theorem dX8_behind_8 : decode cX8_behind 8 = .ok (.ldc2_w 135, 3) := by decide +kernel
theorem dX8_behind_11 : decode cX8_behind 11 = .ok (.lrem, 1) := by decide +kernel
theorem dX8_behind_12 : decode cX8_behind 12 = .ok (.lreturn, 1) := by decide +kernel
theorem dX8_bestAsNumber_0 : decode cX8_bestAsNumber 0 = .ok (.lconst 0, 1) := by decide +kernel
theorem dX8_bestAsNumber_1 : decode cX8_bestAsNumber 1 = .ok (.lstore_n 2, 1) := by decide +kernel
theorem dX8_bestAsNumber_2 : decode cX8_bestAsNumber 2 = .ok (.iconst 0, 1) := by decide +kernel
theorem dX8_bestAsNumber_3 : decode cX8_bestAsNumber 3 = .ok (.istore 4, 2) := by decide +kernel
theorem dX8_bestAsNumber_5 : decode cX8_bestAsNumber 5 = .ok (.iload 4, 2) := by decide +kernel
theorem dX8_bestAsNumber_7 : decode cX8_bestAsNumber 7 = .ok (.aload_n 1, 1) := by decide +kernel
theorem dX8_bestAsNumber_8 : decode cX8_bestAsNumber 8 = .ok (.getfield 21, 3) := by decide +kernel
theorem dX8_bestAsNumber_11 : decode cX8_bestAsNumber 11 = .ok (.if_icmp .ge 30, 3) := by decide +kernel
theorem dX8_bestAsNumber_14 : decode cX8_bestAsNumber 14 = .ok (.lload_n 2, 1) := by decide +kernel
theorem dX8_bestAsNumber_15 : decode cX8_bestAsNumber 15 = .ok (.aload_n 1, 1) := by decide +kernel
theorem dX8_bestAsNumber_16 : decode cX8_bestAsNumber 16 = .ok (.getfield 126, 3) := by decide +kernel
theorem dX8_bestAsNumber_19 : decode cX8_bestAsNumber 19 = .ok (.aload_n 0, 1) := by decide +kernel
theorem dX8_bestAsNumber_20 : decode cX8_bestAsNumber 20 = .ok (.getfield 15, 3) := by decide +kernel
theorem dX8_bestAsNumber_23 : decode cX8_bestAsNumber 23 = .ok (.iload 4, 2) := by decide +kernel
theorem dX8_bestAsNumber_25 : decode cX8_bestAsNumber 25 = .ok (.invokestatic 65, 3) := by decide +kernel
theorem dX8_bestAsNumber_28 : decode cX8_bestAsNumber 28 = .ok (.invokestatic 65, 3) := by decide +kernel
theorem dX8_bestAsNumber_31 : decode cX8_bestAsNumber 31 = .ok (.invokestatic 129, 3) := by decide +kernel
theorem dX8_bestAsNumber_34 : decode cX8_bestAsNumber 34 = .ok (.lstore_n 2, 1) := by decide +kernel
theorem dX8_bestAsNumber_35 : decode cX8_bestAsNumber 35 = .ok (.iinc 4 1, 3) := by decide +kernel
theorem dX8_bestAsNumber_38 : decode cX8_bestAsNumber 38 = .ok (.goto (-33), 3) := by decide +kernel
theorem dX8_bestAsNumber_41 : decode cX8_bestAsNumber 41 = .ok (.iconst 0, 1) := by decide +kernel
theorem dX8_bestAsNumber_42 : decode cX8_bestAsNumber 42 = .ok (.istore 4, 2) := by decide +kernel
theorem dX8_bestAsNumber_44 : decode cX8_bestAsNumber 44 = .ok (.iload 4, 2) := by decide +kernel
theorem dX8_bestAsNumber_46 : decode cX8_bestAsNumber 46 = .ok (.iconst 3, 1) := by decide +kernel
theorem dX8_bestAsNumber_47 : decode cX8_bestAsNumber 47 = .ok (.if_icmp .ge 74, 3) := by decide +kernel
theorem dX8_bestAsNumber_50 : decode cX8_bestAsNumber 50 = .ok (.iconst 0, 1) := by decide +kernel
theorem dX8_bestAsNumber_51 : decode cX8_bestAsNumber 51 = .ok (.istore 5, 2) := by decide +kernel
theorem dX8_bestAsNumber_53 : decode cX8_bestAsNumber 53 = .ok (.iload 5, 2) := by decide +kernel
theorem dX8_bestAsNumber_55 : decode cX8_bestAsNumber 55 = .ok (.aload_n 1, 1) := by decide +kernel
theorem dX8_bestAsNumber_56 : decode cX8_bestAsNumber 56 = .ok (.getfield 21, 3) := by decide +kernel
theorem dX8_bestAsNumber_59 : decode cX8_bestAsNumber 59 = .ok (.if_icmp .ge 56, 3) := by decide +kernel
theorem dX8_bestAsNumber_62 : decode cX8_bestAsNumber 62 = .ok (.iconst 0, 1) := by decide +kernel
theorem dX8_bestAsNumber_63 : decode cX8_bestAsNumber 63 = .ok (.istore 6, 2) := by decide +kernel
theorem dX8_bestAsNumber_65 : decode cX8_bestAsNumber 65 = .ok (.iload 6, 2) := by decide +kernel
theorem dX8_bestAsNumber_67 : decode cX8_bestAsNumber 67 = .ok (.aload_n 1, 1) := by decide +kernel
theorem dX8_bestAsNumber_68 : decode cX8_bestAsNumber 68 = .ok (.getfield 21, 3) := by decide +kernel
theorem dX8_bestAsNumber_71 : decode cX8_bestAsNumber 71 = .ok (.if_icmp .ge 38, 3) := by decide +kernel
theorem dX8_bestAsNumber_74 : decode cX8_bestAsNumber 74 = .ok (.lload_n 2, 1) := by decide +kernel
theorem dX8_bestAsNumber_75 : decode cX8_bestAsNumber 75 = .ok (.aload_n 1, 1) := by decide +kernel
theorem dX8_bestAsNumber_76 : decode cX8_bestAsNumber 76 = .ok (.iload 4, 2) := by decide +kernel
theorem dX8_bestAsNumber_78 : decode cX8_bestAsNumber 78 = .ok (.aload_n 0, 1) := by decide +kernel
theorem dX8_bestAsNumber_79 : decode cX8_bestAsNumber 79 = .ok (.getfield 15, 3) := by decide +kernel
theorem dX8_bestAsNumber_82 : decode cX8_bestAsNumber 82 = .ok (.iload 5, 2) := by decide +kernel
theorem dX8_bestAsNumber_84 : decode cX8_bestAsNumber 84 = .ok (.invokestatic 65, 3) := by decide +kernel
theorem dX8_bestAsNumber_87 : decode cX8_bestAsNumber 87 = .ok (.aload_n 0, 1) := by decide +kernel
theorem dX8_bestAsNumber_88 : decode cX8_bestAsNumber 88 = .ok (.getfield 15, 3) := by decide +kernel
theorem dX8_bestAsNumber_91 : decode cX8_bestAsNumber 91 = .ok (.iload 6, 2) := by decide +kernel
theorem dX8_bestAsNumber_93 : decode cX8_bestAsNumber 93 = .ok (.invokestatic 65, 3) := by decide +kernel
theorem dX8_bestAsNumber_96 : decode cX8_bestAsNumber 96 = .ok (.invokevirtual 84, 3) := by decide +kernel
theorem dX8_bestAsNumber_99 : decode cX8_bestAsNumber 99 = .ok (.invokestatic 129, 3) := by decide +kernel
theorem dX8_bestAsNumber_102 : decode cX8_bestAsNumber 102 = .ok (.lstore_n 2, 1) := by decide +kernel
theorem dX8_bestAsNumber_103 : decode cX8_bestAsNumber 103 = .ok (.iinc 6 1, 3) := by decide +kernel
theorem dX8_bestAsNumber_106 : decode cX8_bestAsNumber 106 = .ok (.goto (-41), 3) := by decide +kernel
theorem dX8_bestAsNumber_109 : decode cX8_bestAsNumber 109 = .ok (.iinc 5 1, 3) := by decide +kernel
theorem dX8_bestAsNumber_112 : decode cX8_bestAsNumber 112 = .ok (.goto (-59), 3) := by decide +kernel
theorem dX8_bestAsNumber_115 : decode cX8_bestAsNumber 115 = .ok (.iinc 4 1, 3) := by decide +kernel
theorem dX8_bestAsNumber_118 : decode cX8_bestAsNumber 118 = .ok (.goto (-74), 3) := by decide +kernel
theorem dX8_bestAsNumber_121 : decode cX8_bestAsNumber 121 = .ok (.lload_n 2, 1) := by decide +kernel
theorem dX8_bestAsNumber_122 : decode cX8_bestAsNumber 122 = .ok (.l2i, 1) := by decide +kernel
theorem dX8_bestAsNumber_123 : decode cX8_bestAsNumber 123 = .ok (.ireturn, 1) := by decide +kernel
theorem dX8_findTwins_0 : decode cX8_findTwins 0 = .ok (.iconst 0, 1) := by decide +kernel
theorem dX8_findTwins_1 : decode cX8_findTwins 1 = .ok (.istore_n 2, 1) := by decide +kernel
theorem dX8_findTwins_2 : decode cX8_findTwins 2 = .ok (.iload_n 2, 1) := by decide +kernel
theorem dX8_findTwins_3 : decode cX8_findTwins 3 = .ok (.aload_n 1, 1) := by decide +kernel
theorem dX8_findTwins_4 : decode cX8_findTwins 4 = .ok (.getfield 21, 3) := by decide +kernel
theorem dX8_findTwins_7 : decode cX8_findTwins 7 = .ok (.if_icmp .ge 63, 3) := by decide +kernel
theorem dX8_findTwins_10 : decode cX8_findTwins 10 = .ok (.iconst 0, 1) := by decide +kernel
theorem dX8_findTwins_11 : decode cX8_findTwins 11 = .ok (.istore_n 3, 1) := by decide +kernel
theorem dX8_findTwins_12 : decode cX8_findTwins 12 = .ok (.iconst 0, 1) := by decide +kernel
theorem dX8_findTwins_13 : decode cX8_findTwins 13 = .ok (.istore 4, 2) := by decide +kernel
theorem dX8_findTwins_15 : decode cX8_findTwins 15 = .ok (.iload 4, 2) := by decide +kernel
theorem dX8_findTwins_17 : decode cX8_findTwins 17 = .ok (.iload_n 2, 1) := by decide +kernel
theorem dX8_findTwins_18 : decode cX8_findTwins 18 = .ok (.if_icmp .ge 37, 3) := by decide +kernel
theorem dX8_findTwins_21 : decode cX8_findTwins 21 = .ok (.aload_n 1, 1) := by decide +kernel
theorem dX8_findTwins_22 : decode cX8_findTwins 22 = .ok (.iload_n 2, 1) := by decide +kernel
theorem dX8_findTwins_23 : decode cX8_findTwins 23 = .ok (.iload 4, 2) := by decide +kernel
theorem dX8_findTwins_25 : decode cX8_findTwins 25 = .ok (.invokevirtual 41, 3) := by decide +kernel
theorem dX8_findTwins_28 : decode cX8_findTwins 28 = .ok (.ifCond .eq 21, 3) := by decide +kernel
theorem dX8_findTwins_31 : decode cX8_findTwins 31 = .ok (.aload_n 1, 1) := by decide +kernel
theorem dX8_findTwins_32 : decode cX8_findTwins 32 = .ok (.iload_n 2, 1) := by decide +kernel
theorem dX8_findTwins_33 : decode cX8_findTwins 33 = .ok (.iload 4, 2) := by decide +kernel
theorem dX8_findTwins_35 : decode cX8_findTwins 35 = .ok (.iconst 1, 1) := by decide +kernel
theorem dX8_findTwins_36 : decode cX8_findTwins 36 = .ok (.invokestatic 109, 3) := by decide +kernel
theorem dX8_findTwins_39 : decode cX8_findTwins 39 = .ok (.ifCond .eq 10, 3) := by decide +kernel
theorem dX8_findTwins_42 : decode cX8_findTwins 42 = .ok (.iload_n 3, 1) := by decide +kernel
theorem dX8_findTwins_43 : decode cX8_findTwins 43 = .ok (.iconst 1, 1) := by decide +kernel
theorem dX8_findTwins_44 : decode cX8_findTwins 44 = .ok (.iload 4, 2) := by decide +kernel
theorem dX8_findTwins_46 : decode cX8_findTwins 46 = .ok (.ishl, 1) := by decide +kernel
theorem dX8_findTwins_47 : decode cX8_findTwins 47 = .ok (.ior, 1) := by decide +kernel
theorem dX8_findTwins_48 : decode cX8_findTwins 48 = .ok (.istore_n 3, 1) := by decide +kernel
theorem dX8_findTwins_49 : decode cX8_findTwins 49 = .ok (.iinc 4 1, 3) := by decide +kernel
theorem dX8_findTwins_52 : decode cX8_findTwins 52 = .ok (.goto (-37), 3) := by decide +kernel
theorem dX8_findTwins_55 : decode cX8_findTwins 55 = .ok (.aload_n 0, 1) := by decide +kernel
theorem dX8_findTwins_56 : decode cX8_findTwins 56 = .ok (.getfield 18, 3) := by decide +kernel
theorem dX8_findTwins_59 : decode cX8_findTwins 59 = .ok (.iload_n 2, 1) := by decide +kernel
theorem dX8_findTwins_60 : decode cX8_findTwins 60 = .ok (.iload_n 3, 1) := by decide +kernel
theorem dX8_findTwins_61 : decode cX8_findTwins 61 = .ok (.invokestatic 61, 3) := by decide +kernel
theorem dX8_findTwins_64 : decode cX8_findTwins 64 = .ok (.iinc 2 1, 3) := by decide +kernel
theorem dX8_findTwins_67 : decode cX8_findTwins 67 = .ok (.goto (-65), 3) := by decide +kernel
theorem dX8_findTwins_70 : decode cX8_findTwins 70 = .ok (.return_, 1) := by decide +kernel
theorem dX7_tiesOfKind_0 : decode cX7_tiesOfKind 0 = .ok (.iconst 0, 1) := by decide +kernel
theorem dX7_tiesOfKind_1 : decode cX7_tiesOfKind 1 = .ok (.istore_n 2, 1) := by decide +kernel
theorem dX7_tiesOfKind_2 : decode cX7_tiesOfKind 2 = .ok (.iconst 0, 1) := by decide +kernel
theorem dX7_tiesOfKind_3 : decode cX7_tiesOfKind 3 = .ok (.istore_n 3, 1) := by decide +kernel
theorem dX7_tiesOfKind_4 : decode cX7_tiesOfKind 4 = .ok (.iload_n 3, 1) := by decide +kernel
theorem dX7_tiesOfKind_5 : decode cX7_tiesOfKind 5 = .ok (.aload_n 0, 1) := by decide +kernel
theorem dX7_tiesOfKind_6 : decode cX7_tiesOfKind 6 = .ok (.getfield 18, 3) := by decide +kernel
theorem dX7_tiesOfKind_9 : decode cX7_tiesOfKind 9 = .ok (.if_icmp .ge 19, 3) := by decide +kernel
theorem dX7_tiesOfKind_12 : decode cX7_tiesOfKind 12 = .ok (.iload_n 2, 1) := by decide +kernel
theorem dX7_tiesOfKind_13 : decode cX7_tiesOfKind 13 = .ok (.aload_n 0, 1) := by decide +kernel
theorem dX7_tiesOfKind_14 : decode cX7_tiesOfKind 14 = .ok (.iload_n 1, 1) := by decide +kernel
theorem dX7_tiesOfKind_15 : decode cX7_tiesOfKind 15 = .ok (.iload_n 3, 1) := by decide +kernel
theorem dX7_tiesOfKind_16 : decode cX7_tiesOfKind 16 = .ok (.iconst 0, 1) := by decide +kernel
theorem dX7_tiesOfKind_17 : decode cX7_tiesOfKind 17 = .ok (.invokevirtual 38, 3) := by decide +kernel
theorem dX7_tiesOfKind_20 : decode cX7_tiesOfKind 20 = .ok (.iadd, 1) := by decide +kernel
theorem dX7_tiesOfKind_21 : decode cX7_tiesOfKind 21 = .ok (.istore_n 2, 1) := by decide +kernel
theorem dX7_tiesOfKind_22 : decode cX7_tiesOfKind 22 = .ok (.iinc 3 1, 3) := by decide +kernel
theorem dX7_tiesOfKind_25 : decode cX7_tiesOfKind 25 = .ok (.goto (-21), 3) := by decide +kernel
theorem dX7_tiesOfKind_28 : decode cX7_tiesOfKind 28 = .ok (.iload_n 2, 1) := by decide +kernel
theorem dX7_tiesOfKind_29 : decode cX7_tiesOfKind 29 = .ok (.ireturn, 1) := by decide +kernel
theorem dX8_firstKind_0 : decode cX8_firstKind 0 = .ok (.iconst 0, 1) := by decide +kernel
theorem dX8_firstKind_1 : decode cX8_firstKind 1 = .ok (.istore_n 1, 1) := by decide +kernel
theorem dX8_firstKind_2 : decode cX8_firstKind 2 = .ok (.iload_n 1, 1) := by decide +kernel
theorem dX8_firstKind_3 : decode cX8_firstKind 3 = .ok (.iconst 3, 1) := by decide +kernel
theorem dX8_firstKind_4 : decode cX8_firstKind 4 = .ok (.if_icmp .ge 19, 3) := by decide +kernel
theorem dX8_firstKind_7 : decode cX8_firstKind 7 = .ok (.aload_n 0, 1) := by decide +kernel
theorem dX8_firstKind_8 : decode cX8_firstKind 8 = .ok (.iload_n 1, 1) := by decide +kernel
theorem dX8_firstKind_9 : decode cX8_firstKind 9 = .ok (.invokevirtual 115, 3) := by decide +kernel
theorem dX8_firstKind_12 : decode cX8_firstKind 12 = .ok (.ifCond .le 5, 3) := by decide +kernel
theorem dX8_firstKind_15 : decode cX8_firstKind 15 = .ok (.iload_n 1, 1) := by decide +kernel
theorem dX8_firstKind_16 : decode cX8_firstKind 16 = .ok (.ireturn, 1) := by decide +kernel
theorem dX8_firstKind_17 : decode cX8_firstKind 17 = .ok (.iinc 1 1, 3) := by decide +kernel
theorem dX8_firstKind_20 : decode cX8_firstKind 20 = .ok (.goto (-18), 3) := by decide +kernel
theorem dX8_firstKind_23 : decode cX8_firstKind 23 = .ok (.iconst 0, 1) := by decide +kernel
theorem dX8_firstKind_24 : decode cX8_firstKind 24 = .ok (.ireturn, 1) := by decide +kernel
theorem dX8_keepBest_0 : decode cX8_keepBest 0 = .ok (.iconst 0, 1) := by decide +kernel
theorem dX8_keepBest_1 : decode cX8_keepBest 1 = .ok (.istore_n 2, 1) := by decide +kernel
theorem dX8_keepBest_2 : decode cX8_keepBest 2 = .ok (.iload_n 2, 1) := by decide +kernel
theorem dX8_keepBest_3 : decode cX8_keepBest 3 = .ok (.aload_n 1, 1) := by decide +kernel
theorem dX8_keepBest_4 : decode cX8_keepBest 4 = .ok (.getfield 21, 3) := by decide +kernel
theorem dX8_keepBest_7 : decode cX8_keepBest 7 = .ok (.if_icmp .ge 25, 3) := by decide +kernel
theorem dX8_keepBest_10 : decode cX8_keepBest 10 = .ok (.aload_n 0, 1) := by decide +kernel
theorem dX8_keepBest_11 : decode cX8_keepBest 11 = .ok (.getfield 15, 3) := by decide +kernel
theorem dX8_keepBest_14 : decode cX8_keepBest 14 = .ok (.iload_n 2, 1) := by decide +kernel
theorem dX8_keepBest_15 : decode cX8_keepBest 15 = .ok (.aload_n 0, 1) := by decide +kernel
theorem dX8_keepBest_16 : decode cX8_keepBest 16 = .ok (.getfield 9, 3) := by decide +kernel
theorem dX8_keepBest_19 : decode cX8_keepBest 19 = .ok (.iload_n 2, 1) := by decide +kernel
theorem dX8_keepBest_20 : decode cX8_keepBest 20 = .ok (.invokestatic 65, 3) := by decide +kernel
theorem dX8_keepBest_23 : decode cX8_keepBest 23 = .ok (.invokestatic 61, 3) := by decide +kernel
theorem dX8_keepBest_26 : decode cX8_keepBest 26 = .ok (.iinc 2 1, 3) := by decide +kernel
theorem dX8_keepBest_29 : decode cX8_keepBest 29 = .ok (.goto (-27), 3) := by decide +kernel
theorem dX8_keepBest_32 : decode cX8_keepBest 32 = .ok (.return_, 1) := by decide +kernel
theorem dX8_lessThanBest_0 : decode cX8_lessThanBest 0 = .ok (.iload_n 2, 1) := by decide +kernel
theorem dX8_lessThanBest_1 : decode cX8_lessThanBest 1 = .ok (.istore_n 3, 1) := by decide +kernel
theorem dX8_lessThanBest_2 : decode cX8_lessThanBest 2 = .ok (.iload_n 3, 1) := by decide +kernel
theorem dX8_lessThanBest_3 : decode cX8_lessThanBest 3 = .ok (.iconst 3, 1) := by decide +kernel
theorem dX8_lessThanBest_4 : decode cX8_lessThanBest 4 = .ok (.if_icmp .ge 115, 3) := by decide +kernel
theorem dX8_lessThanBest_7 : decode cX8_lessThanBest 7 = .ok (.iconst 0, 1) := by decide +kernel
theorem dX8_lessThanBest_8 : decode cX8_lessThanBest 8 = .ok (.istore 4, 2) := by decide +kernel
theorem dX8_lessThanBest_10 : decode cX8_lessThanBest 10 = .ok (.iload 4, 2) := by decide +kernel
theorem dX8_lessThanBest_12 : decode cX8_lessThanBest 12 = .ok (.aload_n 1, 1) := by decide +kernel
theorem dX8_lessThanBest_13 : decode cX8_lessThanBest 13 = .ok (.getfield 21, 3) := by decide +kernel
theorem dX8_lessThanBest_16 : decode cX8_lessThanBest 16 = .ok (.if_icmp .ge 97, 3) := by decide +kernel
theorem dX8_lessThanBest_19 : decode cX8_lessThanBest 19 = .ok (.iconst 0, 1) := by decide +kernel
theorem dX8_lessThanBest_20 : decode cX8_lessThanBest 20 = .ok (.istore 5, 2) := by decide +kernel
theorem dX8_lessThanBest_22 : decode cX8_lessThanBest 22 = .ok (.iload 5, 2) := by decide +kernel
theorem dX8_lessThanBest_24 : decode cX8_lessThanBest 24 = .ok (.aload_n 1, 1) := by decide +kernel
theorem dX8_lessThanBest_25 : decode cX8_lessThanBest 25 = .ok (.getfield 21, 3) := by decide +kernel
theorem dX8_lessThanBest_28 : decode cX8_lessThanBest 28 = .ok (.if_icmp .ge 79, 3) := by decide +kernel
theorem dX8_lessThanBest_31 : decode cX8_lessThanBest 31 = .ok (.aload_n 1, 1) := by decide +kernel
theorem dX8_lessThanBest_32 : decode cX8_lessThanBest 32 = .ok (.iload_n 3, 1) := by decide +kernel
theorem dX8_lessThanBest_33 : decode cX8_lessThanBest 33 = .ok (.aload_n 0, 1) := by decide +kernel
theorem dX8_lessThanBest_34 : decode cX8_lessThanBest 34 = .ok (.getfield 9, 3) := by decide +kernel
theorem dX8_lessThanBest_37 : decode cX8_lessThanBest 37 = .ok (.iload 4, 2) := by decide +kernel
theorem dX8_lessThanBest_39 : decode cX8_lessThanBest 39 = .ok (.invokestatic 65, 3) := by decide +kernel
theorem dX8_lessThanBest_42 : decode cX8_lessThanBest 42 = .ok (.aload_n 0, 1) := by decide +kernel
theorem dX8_lessThanBest_43 : decode cX8_lessThanBest 43 = .ok (.getfield 9, 3) := by decide +kernel
theorem dX8_lessThanBest_46 : decode cX8_lessThanBest 46 = .ok (.iload 5, 2) := by decide +kernel
theorem dX8_lessThanBest_48 : decode cX8_lessThanBest 48 = .ok (.invokestatic 65, 3) := by decide +kernel
theorem dX8_lessThanBest_51 : decode cX8_lessThanBest 51 = .ok (.invokevirtual 84, 3) := by decide +kernel
theorem dX8_lessThanBest_54 : decode cX8_lessThanBest 54 = .ok (.istore 6, 2) := by decide +kernel
theorem dX8_lessThanBest_56 : decode cX8_lessThanBest 56 = .ok (.aload_n 1, 1) := by decide +kernel
theorem dX8_lessThanBest_57 : decode cX8_lessThanBest 57 = .ok (.iload_n 3, 1) := by decide +kernel
theorem dX8_lessThanBest_58 : decode cX8_lessThanBest 58 = .ok (.aload_n 0, 1) := by decide +kernel
theorem dX8_lessThanBest_59 : decode cX8_lessThanBest 59 = .ok (.getfield 15, 3) := by decide +kernel
theorem dX8_lessThanBest_62 : decode cX8_lessThanBest 62 = .ok (.iload 4, 2) := by decide +kernel
theorem dX8_lessThanBest_64 : decode cX8_lessThanBest 64 = .ok (.invokestatic 65, 3) := by decide +kernel
theorem dX8_lessThanBest_67 : decode cX8_lessThanBest 67 = .ok (.aload_n 0, 1) := by decide +kernel
theorem dX8_lessThanBest_68 : decode cX8_lessThanBest 68 = .ok (.getfield 15, 3) := by decide +kernel
theorem dX8_lessThanBest_71 : decode cX8_lessThanBest 71 = .ok (.iload 5, 2) := by decide +kernel
theorem dX8_lessThanBest_73 : decode cX8_lessThanBest 73 = .ok (.invokestatic 65, 3) := by decide +kernel
theorem dX8_lessThanBest_76 : decode cX8_lessThanBest 76 = .ok (.invokevirtual 84, 3) := by decide +kernel
theorem dX8_lessThanBest_79 : decode cX8_lessThanBest 79 = .ok (.istore 7, 2) := by decide +kernel
theorem dX8_lessThanBest_81 : decode cX8_lessThanBest 81 = .ok (.iload 6, 2) := by decide +kernel
theorem dX8_lessThanBest_83 : decode cX8_lessThanBest 83 = .ok (.iload 7, 2) := by decide +kernel
theorem dX8_lessThanBest_85 : decode cX8_lessThanBest 85 = .ok (.if_icmp .eq 16, 3) := by decide +kernel
theorem dX8_lessThanBest_88 : decode cX8_lessThanBest 88 = .ok (.iload 6, 2) := by decide +kernel
theorem dX8_lessThanBest_90 : decode cX8_lessThanBest 90 = .ok (.iload 7, 2) := by decide +kernel
theorem dX8_lessThanBest_92 : decode cX8_lessThanBest 92 = .ok (.if_icmp .ge 7, 3) := by decide +kernel
theorem dX8_lessThanBest_95 : decode cX8_lessThanBest 95 = .ok (.iconst 1, 1) := by decide +kernel
theorem dX8_lessThanBest_96 : decode cX8_lessThanBest 96 = .ok (.goto 4, 3) := by decide +kernel
theorem dX8_lessThanBest_99 : decode cX8_lessThanBest 99 = .ok (.iconst 0, 1) := by decide +kernel
theorem dX8_lessThanBest_100 : decode cX8_lessThanBest 100 = .ok (.ireturn, 1) := by decide +kernel
theorem dX8_lessThanBest_101 : decode cX8_lessThanBest 101 = .ok (.iinc 5 1, 3) := by decide +kernel
theorem dX8_lessThanBest_104 : decode cX8_lessThanBest 104 = .ok (.goto (-82), 3) := by decide +kernel
theorem dX8_lessThanBest_107 : decode cX8_lessThanBest 107 = .ok (.iinc 4 1, 3) := by decide +kernel
theorem dX8_lessThanBest_110 : decode cX8_lessThanBest 110 = .ok (.goto (-100), 3) := by decide +kernel
theorem dX8_lessThanBest_113 : decode cX8_lessThanBest 113 = .ok (.iinc 3 1, 3) := by decide +kernel
theorem dX8_lessThanBest_116 : decode cX8_lessThanBest 116 = .ok (.goto (-114), 3) := by decide +kernel
theorem dX8_lessThanBest_119 : decode cX8_lessThanBest 119 = .ok (.iconst 0, 1) := by decide +kernel
theorem dX8_lessThanBest_120 : decode cX8_lessThanBest 120 = .ok (.ireturn, 1) := by decide +kernel
theorem dX8_behindBest_0 : decode cX8_behindBest 0 = .ok (.iconst 1, 1) := by decide +kernel
theorem dX8_behindBest_1 : decode cX8_behindBest 1 = .ok (.istore 4, 2) := by decide +kernel
theorem dX8_behindBest_3 : decode cX8_behindBest 3 = .ok (.iload 4, 2) := by decide +kernel
theorem dX8_behindBest_5 : decode cX8_behindBest 5 = .ok (.aload_n 0, 1) := by decide +kernel
theorem dX8_behindBest_6 : decode cX8_behindBest 6 = .ok (.getfield 48, 3) := by decide +kernel
theorem dX8_behindBest_9 : decode cX8_behindBest 9 = .ok (.if_icmp .gt 90, 3) := by decide +kernel
theorem dX8_behindBest_12 : decode cX8_behindBest 12 = .ok (.aload_n 1, 1) := by decide +kernel
theorem dX8_behindBest_13 : decode cX8_behindBest 13 = .ok (.iload_n 2, 1) := by decide +kernel
theorem dX8_behindBest_14 : decode cX8_behindBest 14 = .ok (.aload_n 0, 1) := by decide +kernel
theorem dX8_behindBest_15 : decode cX8_behindBest 15 = .ok (.getfield 9, 3) := by decide +kernel
theorem dX8_behindBest_18 : decode cX8_behindBest 18 = .ok (.iconst 0, 1) := by decide +kernel
theorem dX8_behindBest_19 : decode cX8_behindBest 19 = .ok (.invokestatic 65, 3) := by decide +kernel
theorem dX8_behindBest_22 : decode cX8_behindBest 22 = .ok (.iload 4, 2) := by decide +kernel
theorem dX8_behindBest_24 : decode cX8_behindBest 24 = .ok (.aload_n 0, 1) := by decide +kernel
theorem dX8_behindBest_25 : decode cX8_behindBest 25 = .ok (.getfield 48, 3) := by decide +kernel
theorem dX8_behindBest_28 : decode cX8_behindBest 28 = .ok (.if_icmp .ne 7, 3) := by decide +kernel
theorem dX8_behindBest_31 : decode cX8_behindBest 31 = .ok (.iload_n 3, 1) := by decide +kernel
theorem dX8_behindBest_32 : decode cX8_behindBest 32 = .ok (.goto 12, 3) := by decide +kernel
theorem dX8_behindBest_35 : decode cX8_behindBest 35 = .ok (.aload_n 0, 1) := by decide +kernel
theorem dX8_behindBest_36 : decode cX8_behindBest 36 = .ok (.getfield 9, 3) := by decide +kernel
theorem dX8_behindBest_39 : decode cX8_behindBest 39 = .ok (.iload 4, 2) := by decide +kernel
theorem dX8_behindBest_41 : decode cX8_behindBest 41 = .ok (.invokestatic 65, 3) := by decide +kernel
theorem dX8_behindBest_44 : decode cX8_behindBest 44 = .ok (.invokevirtual 84, 3) := by decide +kernel
theorem dX8_behindBest_47 : decode cX8_behindBest 47 = .ok (.istore 5, 2) := by decide +kernel
theorem dX8_behindBest_49 : decode cX8_behindBest 49 = .ok (.aload_n 1, 1) := by decide +kernel
theorem dX8_behindBest_50 : decode cX8_behindBest 50 = .ok (.iload_n 2, 1) := by decide +kernel
theorem dX8_behindBest_51 : decode cX8_behindBest 51 = .ok (.aload_n 0, 1) := by decide +kernel
theorem dX8_behindBest_52 : decode cX8_behindBest 52 = .ok (.getfield 15, 3) := by decide +kernel
theorem dX8_behindBest_55 : decode cX8_behindBest 55 = .ok (.iconst 0, 1) := by decide +kernel
theorem dX8_behindBest_56 : decode cX8_behindBest 56 = .ok (.invokestatic 65, 3) := by decide +kernel
theorem dX8_behindBest_59 : decode cX8_behindBest 59 = .ok (.aload_n 0, 1) := by decide +kernel
theorem dX8_behindBest_60 : decode cX8_behindBest 60 = .ok (.getfield 15, 3) := by decide +kernel
theorem dX8_behindBest_63 : decode cX8_behindBest 63 = .ok (.iload 4, 2) := by decide +kernel
theorem dX8_behindBest_65 : decode cX8_behindBest 65 = .ok (.invokestatic 65, 3) := by decide +kernel
theorem dX8_behindBest_68 : decode cX8_behindBest 68 = .ok (.invokevirtual 84, 3) := by decide +kernel
theorem dX8_behindBest_71 : decode cX8_behindBest 71 = .ok (.istore 6, 2) := by decide +kernel
theorem dX8_behindBest_73 : decode cX8_behindBest 73 = .ok (.iload 5, 2) := by decide +kernel
theorem dX8_behindBest_75 : decode cX8_behindBest 75 = .ok (.iload 6, 2) := by decide +kernel
theorem dX8_behindBest_77 : decode cX8_behindBest 77 = .ok (.if_icmp .eq 16, 3) := by decide +kernel
theorem dX8_behindBest_80 : decode cX8_behindBest 80 = .ok (.iload 5, 2) := by decide +kernel
theorem dX8_behindBest_82 : decode cX8_behindBest 82 = .ok (.iload 6, 2) := by decide +kernel
theorem dX8_behindBest_84 : decode cX8_behindBest 84 = .ok (.if_icmp .le 7, 3) := by decide +kernel
theorem dX8_behindBest_87 : decode cX8_behindBest 87 = .ok (.iconst 1, 1) := by decide +kernel
theorem dX8_behindBest_88 : decode cX8_behindBest 88 = .ok (.goto 4, 3) := by decide +kernel
theorem dX8_behindBest_91 : decode cX8_behindBest 91 = .ok (.iconst 0, 1) := by decide +kernel
theorem dX8_behindBest_92 : decode cX8_behindBest 92 = .ok (.ireturn, 1) := by decide +kernel
theorem dX8_behindBest_93 : decode cX8_behindBest 93 = .ok (.iinc 4 1, 3) := by decide +kernel
theorem dX8_behindBest_96 : decode cX8_behindBest 96 = .ok (.goto (-93), 3) := by decide +kernel
theorem dX8_behindBest_99 : decode cX8_behindBest 99 = .ok (.iconst 0, 1) := by decide +kernel
theorem dX8_behindBest_100 : decode cX8_behindBest 100 = .ok (.ireturn, 1) := by decide +kernel
theorem dX8_hasLeastMark_0 : decode cX8_hasLeastMark 0 = .ok (.iconst 0, 1) := by decide +kernel
theorem dX8_hasLeastMark_1 : decode cX8_hasLeastMark 1 = .ok (.istore_n 3, 1) := by decide +kernel
theorem dX8_hasLeastMark_2 : decode cX8_hasLeastMark 2 = .ok (.iload_n 3, 1) := by decide +kernel
theorem dX8_hasLeastMark_3 : decode cX8_hasLeastMark 3 = .ok (.aload_n 1, 1) := by decide +kernel
theorem dX8_hasLeastMark_4 : decode cX8_hasLeastMark 4 = .ok (.getfield 21, 3) := by decide +kernel
theorem dX8_hasLeastMark_7 : decode cX8_hasLeastMark 7 = .ok (.if_icmp .ge 41, 3) := by decide +kernel
theorem dX8_hasLeastMark_10 : decode cX8_hasLeastMark 10 = .ok (.aload_n 0, 1) := by decide +kernel
theorem dX8_hasLeastMark_11 : decode cX8_hasLeastMark 11 = .ok (.getfield 58, 3) := by decide +kernel
theorem dX8_hasLeastMark_14 : decode cX8_hasLeastMark 14 = .ok (.iload_n 3, 1) := by decide +kernel
theorem dX8_hasLeastMark_15 : decode cX8_hasLeastMark 15 = .ok (.invokestatic 73, 3) := by decide +kernel
theorem dX8_hasLeastMark_18 : decode cX8_hasLeastMark 18 = .ok (.ifCond .ne 24, 3) := by decide +kernel
theorem dX8_hasLeastMark_21 : decode cX8_hasLeastMark 21 = .ok (.aload_n 1, 1) := by decide +kernel
theorem dX8_hasLeastMark_22 : decode cX8_hasLeastMark 22 = .ok (.getfield 126, 3) := by decide +kernel
theorem dX8_hasLeastMark_25 : decode cX8_hasLeastMark 25 = .ok (.iload_n 3, 1) := by decide +kernel
theorem dX8_hasLeastMark_26 : decode cX8_hasLeastMark 26 = .ok (.invokestatic 65, 3) := by decide +kernel
theorem dX8_hasLeastMark_29 : decode cX8_hasLeastMark 29 = .ok (.aload_n 1, 1) := by decide +kernel
theorem dX8_hasLeastMark_30 : decode cX8_hasLeastMark 30 = .ok (.getfield 126, 3) := by decide +kernel
theorem dX8_hasLeastMark_33 : decode cX8_hasLeastMark 33 = .ok (.iload_n 2, 1) := by decide +kernel
theorem dX8_hasLeastMark_34 : decode cX8_hasLeastMark 34 = .ok (.invokestatic 65, 3) := by decide +kernel
theorem dX8_hasLeastMark_37 : decode cX8_hasLeastMark 37 = .ok (.if_icmp .ge 5, 3) := by decide +kernel
theorem dX8_hasLeastMark_40 : decode cX8_hasLeastMark 40 = .ok (.iconst 0, 1) := by decide +kernel
theorem dX8_hasLeastMark_41 : decode cX8_hasLeastMark 41 = .ok (.ireturn, 1) := by decide +kernel
theorem dX8_hasLeastMark_42 : decode cX8_hasLeastMark 42 = .ok (.iinc 3 1, 3) := by decide +kernel
theorem dX8_hasLeastMark_45 : decode cX8_hasLeastMark 45 = .ok (.goto (-43), 3) := by decide +kernel
theorem dX8_hasLeastMark_48 : decode cX8_hasLeastMark 48 = .ok (.iconst 1, 1) := by decide +kernel
theorem dX8_hasLeastMark_49 : decode cX8_hasLeastMark 49 = .ok (.ireturn, 1) := by decide +kernel
theorem dX8_nextInRow_0 : decode cX8_nextInRow 0 = .ok (.aload_n 0, 1) := by decide +kernel
theorem dX8_nextInRow_1 : decode cX8_nextInRow 1 = .ok (.invokevirtual 69, 3) := by decide +kernel
theorem dX8_nextInRow_4 : decode cX8_nextInRow 4 = .ok (.istore 4, 2) := by decide +kernel
theorem dX8_nextInRow_6 : decode cX8_nextInRow 6 = .ok (.iload 4, 2) := by decide +kernel
theorem dX8_nextInRow_8 : decode cX8_nextInRow 8 = .ok (.aload_n 1, 1) := by decide +kernel
theorem dX8_nextInRow_9 : decode cX8_nextInRow 9 = .ok (.getfield 21, 3) := by decide +kernel
theorem dX8_nextInRow_12 : decode cX8_nextInRow 12 = .ok (.if_icmp .ge 80, 3) := by decide +kernel
theorem dX8_nextInRow_15 : decode cX8_nextInRow 15 = .ok (.aload_n 0, 1) := by decide +kernel
theorem dX8_nextInRow_16 : decode cX8_nextInRow 16 = .ok (.getfield 58, 3) := by decide +kernel
theorem dX8_nextInRow_19 : decode cX8_nextInRow 19 = .ok (.iload 4, 2) := by decide +kernel
theorem dX8_nextInRow_21 : decode cX8_nextInRow 21 = .ok (.invokestatic 73, 3) := by decide +kernel
theorem dX8_nextInRow_24 : decode cX8_nextInRow 24 = .ok (.ifCond .ne 26, 3) := by decide +kernel
theorem dX8_nextInRow_27 : decode cX8_nextInRow 27 = .ok (.aload_n 0, 1) := by decide +kernel
theorem dX8_nextInRow_28 : decode cX8_nextInRow 28 = .ok (.getfield 18, 3) := by decide +kernel
theorem dX8_nextInRow_31 : decode cX8_nextInRow 31 = .ok (.iload 4, 2) := by decide +kernel
theorem dX8_nextInRow_33 : decode cX8_nextInRow 33 = .ok (.invokestatic 65, 3) := by decide +kernel
theorem dX8_nextInRow_36 : decode cX8_nextInRow 36 = .ok (.aload_n 0, 1) := by decide +kernel
theorem dX8_nextInRow_37 : decode cX8_nextInRow 37 = .ok (.getfield 58, 3) := by decide +kernel
theorem dX8_nextInRow_40 : decode cX8_nextInRow 40 = .ok (.iconst (-1), 1) := by decide +kernel
theorem dX8_nextInRow_41 : decode cX8_nextInRow 41 = .ok (.ixor, 1) := by decide +kernel
theorem dX8_nextInRow_42 : decode cX8_nextInRow 42 = .ok (.iand, 1) := by decide +kernel
theorem dX8_nextInRow_43 : decode cX8_nextInRow 43 = .ok (.ifCond .ne 7, 3) := by decide +kernel
theorem dX8_nextInRow_46 : decode cX8_nextInRow 46 = .ok (.iconst 1, 1) := by decide +kernel
theorem dX8_nextInRow_47 : decode cX8_nextInRow 47 = .ok (.goto 4, 3) := by decide +kernel
theorem dX8_nextInRow_50 : decode cX8_nextInRow 50 = .ok (.iconst 0, 1) := by decide +kernel
theorem dX8_nextInRow_51 : decode cX8_nextInRow 51 = .ok (.istore 5, 2) := by decide +kernel
theorem dX8_nextInRow_53 : decode cX8_nextInRow 53 = .ok (.iload 5, 2) := by decide +kernel
theorem dX8_nextInRow_55 : decode cX8_nextInRow 55 = .ok (.ifCond .eq 31, 3) := by decide +kernel
theorem dX8_nextInRow_58 : decode cX8_nextInRow 58 = .ok (.aload_n 0, 1) := by decide +kernel
theorem dX8_nextInRow_59 : decode cX8_nextInRow 59 = .ok (.aload_n 1, 1) := by decide +kernel
theorem dX8_nextInRow_60 : decode cX8_nextInRow 60 = .ok (.iload 4, 2) := by decide +kernel
theorem dX8_nextInRow_62 : decode cX8_nextInRow 62 = .ok (.invokevirtual 119, 3) := by decide +kernel
theorem dX8_nextInRow_65 : decode cX8_nextInRow 65 = .ok (.ifCond .eq 21, 3) := by decide +kernel
theorem dX8_nextInRow_68 : decode cX8_nextInRow 68 = .ok (.iload_n 3, 1) := by decide +kernel
theorem dX8_nextInRow_69 : decode cX8_nextInRow 69 = .ok (.ifCond .eq 14, 3) := by decide +kernel
theorem dX8_nextInRow_72 : decode cX8_nextInRow 72 = .ok (.aload_n 0, 1) := by decide +kernel
theorem dX8_nextInRow_73 : decode cX8_nextInRow 73 = .ok (.aload_n 1, 1) := by decide +kernel
theorem dX8_nextInRow_74 : decode cX8_nextInRow 74 = .ok (.iload_n 2, 1) := by decide +kernel
theorem dX8_nextInRow_75 : decode cX8_nextInRow 75 = .ok (.iload 4, 2) := by decide +kernel
theorem dX8_nextInRow_77 : decode cX8_nextInRow 77 = .ok (.invokevirtual 122, 3) := by decide +kernel
theorem dX8_nextInRow_80 : decode cX8_nextInRow 80 = .ok (.ifCond .ne 6, 3) := by decide +kernel
theorem dX8_nextInRow_83 : decode cX8_nextInRow 83 = .ok (.iload 4, 2) := by decide +kernel
theorem dX8_nextInRow_85 : decode cX8_nextInRow 85 = .ok (.ireturn, 1) := by decide +kernel
theorem dX8_nextInRow_86 : decode cX8_nextInRow 86 = .ok (.iinc 4 1, 3) := by decide +kernel
theorem dX8_nextInRow_89 : decode cX8_nextInRow 89 = .ok (.goto (-83), 3) := by decide +kernel
theorem dX8_nextInRow_92 : decode cX8_nextInRow 92 = .ok (.iconst (-1), 1) := by decide +kernel
theorem dX8_nextInRow_93 : decode cX8_nextInRow 93 = .ok (.ireturn, 1) := by decide +kernel
theorem dX8_leastRow_0 : decode cX8_leastRow 0 = .ok (.aload_n 0, 1) := by decide +kernel
theorem dX8_leastRow_1 : decode cX8_leastRow 1 = .ok (.aload_n 1, 1) := by decide +kernel
theorem dX8_leastRow_2 : decode cX8_leastRow 2 = .ok (.invokevirtual 88, 3) := by decide +kernel
theorem dX8_leastRow_5 : decode cX8_leastRow 5 = .ok (.aload_n 1, 1) := by decide +kernel
theorem dX8_leastRow_6 : decode cX8_leastRow 6 = .ok (.invokestatic 92, 3) := by decide +kernel
theorem dX8_leastRow_9 : decode cX8_leastRow 9 = .ok (.istore_n 2, 1) := by decide +kernel
theorem dX8_leastRow_10 : decode cX8_leastRow 10 = .ok (.iconst 0, 1) := by decide +kernel
theorem dX8_leastRow_11 : decode cX8_leastRow 11 = .ok (.istore_n 3, 1) := by decide +kernel
theorem dX8_leastRow_12 : decode cX8_leastRow 12 = .ok (.aload_n 0, 1) := by decide +kernel
theorem dX8_leastRow_13 : decode cX8_leastRow 13 = .ok (.invokevirtual 45, 3) := by decide +kernel
theorem dX8_leastRow_16 : decode cX8_leastRow 16 = .ok (.iconst 0, 1) := by decide +kernel
theorem dX8_leastRow_17 : decode cX8_leastRow 17 = .ok (.istore 4, 2) := by decide +kernel
theorem dX8_leastRow_19 : decode cX8_leastRow 19 = .ok (.iload 4, 2) := by decide +kernel
theorem dX8_leastRow_21 : decode cX8_leastRow 21 = .ok (.ldc 47, 2) := by decide +kernel
theorem dX8_leastRow_23 : decode cX8_leastRow 23 = .ok (.if_icmp .ge 71, 3) := by decide +kernel
theorem dX8_leastRow_26 : decode cX8_leastRow 26 = .ok (.aload_n 0, 1) := by decide +kernel
theorem dX8_leastRow_27 : decode cX8_leastRow 27 = .ok (.getfield 48, 3) := by decide +kernel
theorem dX8_leastRow_30 : decode cX8_leastRow 30 = .ok (.ifCond .lt 64, 3) := by decide +kernel
theorem dX8_leastRow_33 : decode cX8_leastRow 33 = .ok (.aload_n 0, 1) := by decide +kernel
theorem dX8_leastRow_34 : decode cX8_leastRow 34 = .ok (.getfield 48, 3) := by decide +kernel
theorem dX8_leastRow_37 : decode cX8_leastRow 37 = .ok (.aload_n 1, 1) := by decide +kernel
theorem dX8_leastRow_38 : decode cX8_leastRow 38 = .ok (.getfield 21, 3) := by decide +kernel
theorem dX8_leastRow_41 : decode cX8_leastRow 41 = .ok (.if_icmp .ge 17, 3) := by decide +kernel
theorem dX8_leastRow_44 : decode cX8_leastRow 44 = .ok (.aload_n 0, 1) := by decide +kernel
theorem dX8_leastRow_45 : decode cX8_leastRow 45 = .ok (.aload_n 0, 1) := by decide +kernel
theorem dX8_leastRow_46 : decode cX8_leastRow 46 = .ok (.aload_n 1, 1) := by decide +kernel
theorem dX8_leastRow_47 : decode cX8_leastRow 47 = .ok (.iload_n 2, 1) := by decide +kernel
theorem dX8_leastRow_48 : decode cX8_leastRow 48 = .ok (.iload_n 3, 1) := by decide +kernel
theorem dX8_leastRow_49 : decode cX8_leastRow 49 = .ok (.invokevirtual 96, 3) := by decide +kernel
theorem dX8_leastRow_52 : decode cX8_leastRow 52 = .ok (.invokevirtual 55, 3) := by decide +kernel
theorem dX8_leastRow_55 : decode cX8_leastRow 55 = .ok (.goto 33, 3) := by decide +kernel
theorem dX8_leastRow_58 : decode cX8_leastRow 58 = .ok (.iload_n 3, 1) := by decide +kernel
theorem dX8_leastRow_59 : decode cX8_leastRow 59 = .ok (.ifCond .eq 12, 3) := by decide +kernel
theorem dX8_leastRow_62 : decode cX8_leastRow 62 = .ok (.aload_n 0, 1) := by decide +kernel
theorem dX8_leastRow_63 : decode cX8_leastRow 63 = .ok (.aload_n 1, 1) := by decide +kernel
theorem dX8_leastRow_64 : decode cX8_leastRow 64 = .ok (.iload_n 2, 1) := by decide +kernel
theorem dX8_leastRow_65 : decode cX8_leastRow 65 = .ok (.invokevirtual 100, 3) := by decide +kernel
theorem dX8_leastRow_68 : decode cX8_leastRow 68 = .ok (.ifCond .eq 8, 3) := by decide +kernel
theorem dX8_leastRow_71 : decode cX8_leastRow 71 = .ok (.aload_n 0, 1) := by decide +kernel
theorem dX8_leastRow_72 : decode cX8_leastRow 72 = .ok (.aload_n 1, 1) := by decide +kernel
theorem dX8_leastRow_73 : decode cX8_leastRow 73 = .ok (.invokevirtual 103, 3) := by decide +kernel
theorem dX8_leastRow_76 : decode cX8_leastRow 76 = .ok (.iconst 1, 1) := by decide +kernel
theorem dX8_leastRow_77 : decode cX8_leastRow 77 = .ok (.istore_n 3, 1) := by decide +kernel
theorem dX8_leastRow_78 : decode cX8_leastRow 78 = .ok (.aload_n 0, 1) := by decide +kernel
theorem dX8_leastRow_79 : decode cX8_leastRow 79 = .ok (.dup, 1) := by decide +kernel
theorem dX8_leastRow_80 : decode cX8_leastRow 80 = .ok (.getfield 48, 3) := by decide +kernel
theorem dX8_leastRow_83 : decode cX8_leastRow 83 = .ok (.iconst 1, 1) := by decide +kernel
theorem dX8_leastRow_84 : decode cX8_leastRow 84 = .ok (.isub, 1) := by decide +kernel
theorem dX8_leastRow_85 : decode cX8_leastRow 85 = .ok (.putfield 48, 3) := by decide +kernel
theorem dX8_leastRow_88 : decode cX8_leastRow 88 = .ok (.iinc 4 1, 3) := by decide +kernel
theorem dX8_leastRow_91 : decode cX8_leastRow 91 = .ok (.goto (-72), 3) := by decide +kernel
theorem dX8_leastRow_94 : decode cX8_leastRow 94 = .ok (.aload_n 0, 1) := by decide +kernel
theorem dX8_leastRow_95 : decode cX8_leastRow 95 = .ok (.aload_n 1, 1) := by decide +kernel
theorem dX8_leastRow_96 : decode cX8_leastRow 96 = .ok (.invokevirtual 106, 3) := by decide +kernel
theorem dX8_leastRow_99 : decode cX8_leastRow 99 = .ok (.ireturn, 1) := by decide +kernel
theorem dX9_form_0 : decode cX9_form 0 = .ok (.aload_n 0, 1) := by decide +kernel
theorem dX9_form_1 : decode cX9_form 1 = .ok (.aload_n 0, 1) := by decide +kernel
theorem dX9_form_2 : decode cX9_form 2 = .ok (.getfield 113, 3) := by decide +kernel
theorem dX9_form_5 : decode cX9_form 5 = .ok (.invokevirtual 140, 3) := by decide +kernel
theorem dX9_form_8 : decode cX9_form 8 = .ok (.aload_n 0, 1) := by decide +kernel
theorem dX9_form_9 : decode cX9_form 9 = .ok (.getfield 47, 3) := by decide +kernel
theorem dX9_form_12 : decode cX9_form 12 = .ok (.aload_n 0, 1) := by decide +kernel
theorem dX9_form_13 : decode cX9_form 13 = .ok (.getfield 12, 3) := by decide +kernel
theorem dX9_form_16 : decode cX9_form 16 = .ok (.invokevirtual 185, 3) := by decide +kernel
theorem dX9_form_19 : decode cX9_form 19 = .ok (.ireturn, 1) := by decide +kernel
theorem dX3_allInOne_0 : decode cX3_allInOne 0 = .ok (.aload_n 0, 1) := by decide +kernel
theorem dX3_allInOne_1 : decode cX3_allInOne 1 = .ok (.iload_n 1, 1) := by decide +kernel
theorem dX3_allInOne_2 : decode cX3_allInOne 2 = .ok (.putfield 15, 3) := by decide +kernel
theorem dX3_allInOne_5 : decode cX3_allInOne 5 = .ok (.aload_n 0, 1) := by decide +kernel
theorem dX3_allInOne_6 : decode cX3_allInOne 6 = .ok (.iconst 1, 1) := by decide +kernel
theorem dX3_allInOne_7 : decode cX3_allInOne 7 = .ok (.putfield 19, 3) := by decide +kernel
theorem dX3_allInOne_10 : decode cX3_allInOne 10 = .ok (.aload_n 0, 1) := by decide +kernel
theorem dX3_allInOne_11 : decode cX3_allInOne 11 = .ok (.getfield 9, 3) := by decide +kernel
theorem dX3_allInOne_14 : decode cX3_allInOne 14 = .ok (.invokestatic 40, 3) := by decide +kernel
theorem dX3_allInOne_17 : decode cX3_allInOne 17 = .ok (.return_, 1) := by decide +kernel
theorem dX9_addTo_0 : decode cX9_addTo 0 = .ok (.aload_n 0, 1) := by decide +kernel
theorem dX9_addTo_1 : decode cX9_addTo 1 = .ok (.iload_n 1, 1) := by decide +kernel
theorem dX9_addTo_2 : decode cX9_addTo 2 = .ok (.aload_n 0, 1) := by decide +kernel
theorem dX9_addTo_3 : decode cX9_addTo 3 = .ok (.iload_n 1, 1) := by decide +kernel
theorem dX9_addTo_4 : decode cX9_addTo 4 = .ok (.invokestatic 105, 3) := by decide +kernel
theorem dX9_addTo_7 : decode cX9_addTo 7 = .ok (.iload_n 2, 1) := by decide +kernel
theorem dX9_addTo_8 : decode cX9_addTo 8 = .ok (.iadd, 1) := by decide +kernel
theorem dX9_addTo_9 : decode cX9_addTo 9 = .ok (.invokestatic 109, 3) := by decide +kernel
theorem dX9_addTo_12 : decode cX9_addTo 12 = .ok (.return_, 1) := by decide +kernel
theorem dX3_topAhead_0 : decode cX3_topAhead 0 = .ok (.iconst 0, 1) := by decide +kernel
theorem dX3_topAhead_1 : decode cX3_topAhead 1 = .ok (.istore_n 2, 1) := by decide +kernel
theorem dX3_topAhead_2 : decode cX3_topAhead 2 = .ok (.iconst 0, 1) := by decide +kernel
theorem dX3_topAhead_3 : decode cX3_topAhead 3 = .ok (.istore_n 3, 1) := by decide +kernel
theorem dX3_topAhead_4 : decode cX3_topAhead 4 = .ok (.iload_n 3, 1) := by decide +kernel
theorem dX3_topAhead_5 : decode cX3_topAhead 5 = .ok (.iload_n 1, 1) := by decide +kernel
theorem dX3_topAhead_6 : decode cX3_topAhead 6 = .ok (.if_icmp .ge 19, 3) := by decide +kernel
theorem dX3_topAhead_9 : decode cX3_topAhead 9 = .ok (.iload_n 2, 1) := by decide +kernel
theorem dX3_topAhead_10 : decode cX3_topAhead 10 = .ok (.aload_n 0, 1) := by decide +kernel
theorem dX3_topAhead_11 : decode cX3_topAhead 11 = .ok (.iload_n 3, 1) := by decide +kernel
theorem dX3_topAhead_12 : decode cX3_topAhead 12 = .ok (.invokevirtual 26, 3) := by decide +kernel
theorem dX3_topAhead_15 : decode cX3_topAhead 15 = .ok (.invokestatic 30, 3) := by decide +kernel
theorem dX3_topAhead_18 : decode cX3_topAhead 18 = .ok (.istore_n 2, 1) := by decide +kernel
theorem dX3_topAhead_19 : decode cX3_topAhead 19 = .ok (.iinc 3 1, 3) := by decide +kernel
theorem dX3_topAhead_22 : decode cX3_topAhead 22 = .ok (.goto (-18), 3) := by decide +kernel
theorem dX3_topAhead_25 : decode cX3_topAhead 25 = .ok (.iload_n 2, 1) := by decide +kernel
theorem dX3_topAhead_26 : decode cX3_topAhead 26 = .ok (.ireturn, 1) := by decide +kernel
theorem dX3_forward_0 : decode cX3_forward 0 = .ok (.aload_n 0, 1) := by decide +kernel
theorem dX3_forward_1 : decode cX3_forward 1 = .ok (.getfield 15, 3) := by decide +kernel
theorem dX3_forward_4 : decode cX3_forward 4 = .ok (.iconst 1, 1) := by decide +kernel
theorem dX3_forward_5 : decode cX3_forward 5 = .ok (.isub, 1) := by decide +kernel
theorem dX3_forward_6 : decode cX3_forward 6 = .ok (.istore_n 1, 1) := by decide +kernel
theorem dX3_forward_7 : decode cX3_forward 7 = .ok (.iload_n 1, 1) := by decide +kernel
theorem dX3_forward_8 : decode cX3_forward 8 = .ok (.ifCond .le 74, 3) := by decide +kernel
theorem dX3_forward_11 : decode cX3_forward 11 = .ok (.aload_n 0, 1) := by decide +kernel
theorem dX3_forward_12 : decode cX3_forward 12 = .ok (.iload_n 1, 1) := by decide +kernel
theorem dX3_forward_13 : decode cX3_forward 13 = .ok (.invokevirtual 26, 3) := by decide +kernel
theorem dX3_forward_16 : decode cX3_forward 16 = .ok (.aload_n 0, 1) := by decide +kernel
theorem dX3_forward_17 : decode cX3_forward 17 = .ok (.iload_n 1, 1) := by decide +kernel
theorem dX3_forward_18 : decode cX3_forward 18 = .ok (.invokevirtual 44, 3) := by decide +kernel
theorem dX3_forward_21 : decode cX3_forward 21 = .ok (.if_icmp .gt 55, 3) := by decide +kernel
theorem dX3_forward_24 : decode cX3_forward 24 = .ok (.aload_n 0, 1) := by decide +kernel
theorem dX3_forward_25 : decode cX3_forward 25 = .ok (.getfield 9, 3) := by decide +kernel
theorem dX3_forward_28 : decode cX3_forward 28 = .ok (.iload_n 1, 1) := by decide +kernel
theorem dX3_forward_29 : decode cX3_forward 29 = .ok (.iconst 1, 1) := by decide +kernel
theorem dX3_forward_30 : decode cX3_forward 30 = .ok (.invokestatic 47, 3) := by decide +kernel
theorem dX3_forward_33 : decode cX3_forward 33 = .ok (.iload_n 1, 1) := by decide +kernel
theorem dX3_forward_34 : decode cX3_forward 34 = .ok (.iconst 1, 1) := by decide +kernel
theorem dX3_forward_35 : decode cX3_forward 35 = .ok (.iadd, 1) := by decide +kernel
theorem dX3_forward_36 : decode cX3_forward 36 = .ok (.istore_n 2, 1) := by decide +kernel
theorem dX3_forward_37 : decode cX3_forward 37 = .ok (.iload_n 2, 1) := by decide +kernel
theorem dX3_forward_38 : decode cX3_forward 38 = .ok (.aload_n 0, 1) := by decide +kernel
theorem dX3_forward_39 : decode cX3_forward 39 = .ok (.getfield 15, 3) := by decide +kernel
theorem dX3_forward_42 : decode cX3_forward 42 = .ok (.if_icmp .ge 18, 3) := by decide +kernel
theorem dX3_forward_45 : decode cX3_forward 45 = .ok (.aload_n 0, 1) := by decide +kernel
theorem dX3_forward_46 : decode cX3_forward 46 = .ok (.getfield 9, 3) := by decide +kernel
theorem dX3_forward_49 : decode cX3_forward 49 = .ok (.iload_n 2, 1) := by decide +kernel
theorem dX3_forward_50 : decode cX3_forward 50 = .ok (.iconst 0, 1) := by decide +kernel
theorem dX3_forward_51 : decode cX3_forward 51 = .ok (.invokestatic 22, 3) := by decide +kernel
theorem dX3_forward_54 : decode cX3_forward 54 = .ok (.iinc 2 1, 3) := by decide +kernel
theorem dX3_forward_57 : decode cX3_forward 57 = .ok (.goto (-20), 3) := by decide +kernel
theorem dX3_forward_60 : decode cX3_forward 60 = .ok (.aload_n 0, 1) := by decide +kernel
theorem dX3_forward_61 : decode cX3_forward 61 = .ok (.aload_n 0, 1) := by decide +kernel
theorem dX3_forward_62 : decode cX3_forward 62 = .ok (.aload_n 0, 1) := by decide +kernel
theorem dX3_forward_63 : decode cX3_forward 63 = .ok (.getfield 15, 3) := by decide +kernel
theorem dX3_forward_66 : decode cX3_forward 66 = .ok (.invokevirtual 44, 3) := by decide +kernel
theorem dX3_forward_69 : decode cX3_forward 69 = .ok (.iconst 1, 1) := by decide +kernel
theorem dX3_forward_70 : decode cX3_forward 70 = .ok (.iadd, 1) := by decide +kernel
theorem dX3_forward_71 : decode cX3_forward 71 = .ok (.putfield 19, 3) := by decide +kernel
theorem dX3_forward_74 : decode cX3_forward 74 = .ok (.iconst 1, 1) := by decide +kernel
theorem dX3_forward_75 : decode cX3_forward 75 = .ok (.ireturn, 1) := by decide +kernel
theorem dX3_forward_76 : decode cX3_forward 76 = .ok (.iinc 1 (-1), 3) := by decide +kernel
theorem dX3_forward_79 : decode cX3_forward 79 = .ok (.goto (-72), 3) := by decide +kernel
theorem dX3_forward_82 : decode cX3_forward 82 = .ok (.iconst 0, 1) := by decide +kernel
theorem dX3_forward_83 : decode cX3_forward 83 = .ok (.ireturn, 1) := by decide +kernel
theorem dX9_next_0 : decode cX9_next 0 = .ok (.iload_n 1, 1) := by decide +kernel
theorem dX9_next_1 : decode cX9_next 1 = .ok (.invokestatic 158, 3) := by decide +kernel
theorem dX9_next_4 : decode cX9_next 4 = .ok (.ifCond .ne 9, 3) := by decide +kernel
theorem dX9_next_7 : decode cX9_next 7 = .ok (.aload_n 0, 1) := by decide +kernel
theorem dX9_next_8 : decode cX9_next 8 = .ok (.iconst (-1), 1) := by decide +kernel
theorem dX9_next_9 : decode cX9_next 9 = .ok (.invokevirtual 86, 3) := by decide +kernel
theorem dX9_next_12 : decode cX9_next 12 = .ok (.ireturn, 1) := by decide +kernel
theorem dX9_next_13 : decode cX9_next 13 = .ok (.iload_n 2, 1) := by decide +kernel
theorem dX9_next_14 : decode cX9_next 14 = .ok (.iconst (-1), 1) := by decide +kernel
theorem dX9_next_15 : decode cX9_next 15 = .ok (.if_icmp .ge 10, 3) := by decide +kernel
theorem dX9_next_18 : decode cX9_next 18 = .ok (.aload_n 0, 1) := by decide +kernel
theorem dX9_next_19 : decode cX9_next 19 = .ok (.bipush (-4), 2) := by decide +kernel
theorem dX9_next_21 : decode cX9_next 21 = .ok (.invokevirtual 86, 3) := by decide +kernel
theorem dX9_next_24 : decode cX9_next 24 = .ok (.ireturn, 1) := by decide +kernel
theorem dX9_next_25 : decode cX9_next 25 = .ok (.aload_n 0, 1) := by decide +kernel
theorem dX9_next_26 : decode cX9_next 26 = .ok (.aload_n 0, 1) := by decide +kernel
theorem dX9_next_27 : decode cX9_next 27 = .ok (.getfield 113, 3) := by decide +kernel
theorem dX9_next_30 : decode cX9_next 30 = .ok (.invokevirtual 140, 3) := by decide +kernel
theorem dX9_next_33 : decode cX9_next 33 = .ok (.aload_n 0, 1) := by decide +kernel
theorem dX9_next_34 : decode cX9_next 34 = .ok (.getfield 68, 3) := by decide +kernel
theorem dX9_next_37 : decode cX9_next 37 = .ok (.aload_n 0, 1) := by decide +kernel
theorem dX9_next_38 : decode cX9_next 38 = .ok (.getfield 12, 3) := by decide +kernel
theorem dX9_next_41 : decode cX9_next 41 = .ok (.getfield 90, 3) := by decide +kernel
theorem dX9_next_44 : decode cX9_next 44 = .ok (.invokevirtual 188, 3) := by decide +kernel
theorem dX9_next_47 : decode cX9_next 47 = .ok (.iconst 1, 1) := by decide +kernel
theorem dX9_next_48 : decode cX9_next 48 = .ok (.istore_n 3, 1) := by decide +kernel
theorem dX9_next_49 : decode cX9_next 49 = .ok (.iconst 0, 1) := by decide +kernel
theorem dX9_next_50 : decode cX9_next 50 = .ok (.istore 4, 2) := by decide +kernel
theorem dX9_next_52 : decode cX9_next 52 = .ok (.iload 4, 2) := by decide +kernel
theorem dX9_next_54 : decode cX9_next 54 = .ok (.sipush 877, 3) := by decide +kernel
theorem dX9_next_57 : decode cX9_next 57 = .ok (.if_icmp .ge 60, 3) := by decide +kernel
theorem dX9_next_60 : decode cX9_next 60 = .ok (.iload_n 3, 1) := by decide +kernel
theorem dX9_next_61 : decode cX9_next 61 = .ok (.ifCond .eq 56, 3) := by decide +kernel
theorem dX9_next_64 : decode cX9_next 64 = .ok (.aload_n 0, 1) := by decide +kernel
theorem dX9_next_65 : decode cX9_next 65 = .ok (.getfield 68, 3) := by decide +kernel
theorem dX9_next_68 : decode cX9_next 68 = .ok (.invokevirtual 169, 3) := by decide +kernel
theorem dX9_next_71 : decode cX9_next 71 = .ok (.istore 5, 2) := by decide +kernel
theorem dX9_next_73 : decode cX9_next 73 = .ok (.iload 5, 2) := by decide +kernel
theorem dX9_next_75 : decode cX9_next 75 = .ok (.iload_n 2, 1) := by decide +kernel
theorem dX9_next_76 : decode cX9_next 76 = .ok (.if_icmp .le 27, 3) := by decide +kernel
theorem dX9_next_79 : decode cX9_next 79 = .ok (.aload_n 0, 1) := by decide +kernel
theorem dX9_next_80 : decode cX9_next 80 = .ok (.getfield 40, 3) := by decide +kernel
theorem dX9_next_83 : decode cX9_next 83 = .ok (.aload_n 0, 1) := by decide +kernel
theorem dX9_next_84 : decode cX9_next 84 = .ok (.getfield 12, 3) := by decide +kernel
theorem dX9_next_87 : decode cX9_next 87 = .ok (.aload_n 0, 1) := by decide +kernel
theorem dX9_next_88 : decode cX9_next 88 = .ok (.getfield 68, 3) := by decide +kernel
theorem dX9_next_91 : decode cX9_next 91 = .ok (.iload_n 1, 1) := by decide +kernel
theorem dX9_next_92 : decode cX9_next 92 = .ok (.invokevirtual 161, 3) := by decide +kernel
theorem dX9_next_95 : decode cX9_next 95 = .ok (.bipush (-9), 2) := by decide +kernel
theorem dX9_next_97 : decode cX9_next 97 = .ok (.if_icmp .ne 6, 3) := by decide +kernel
theorem dX9_next_100 : decode cX9_next 100 = .ok (.iload 5, 2) := by decide +kernel
theorem dX9_next_102 : decode cX9_next 102 = .ok (.ireturn, 1) := by decide +kernel
theorem dX9_next_103 : decode cX9_next 103 = .ok (.aload_n 0, 1) := by decide +kernel
theorem dX9_next_104 : decode cX9_next 104 = .ok (.getfield 68, 3) := by decide +kernel
theorem dX9_next_107 : decode cX9_next 107 = .ok (.invokevirtual 191, 3) := by decide +kernel
theorem dX9_next_110 : decode cX9_next 110 = .ok (.istore_n 3, 1) := by decide +kernel
theorem dX9_next_111 : decode cX9_next 111 = .ok (.iinc 4 1, 3) := by decide +kernel
theorem dX9_next_114 : decode cX9_next 114 = .ok (.goto (-62), 3) := by decide +kernel
theorem dX9_next_117 : decode cX9_next 117 = .ok (.bipush (-9), 2) := by decide +kernel
theorem dX9_next_119 : decode cX9_next 119 = .ok (.ireturn, 1) := by decide +kernel
theorem dX9_all_0 : decode cX9_all 0 = .ok (.iload_n 1, 1) := by decide +kernel
theorem dX9_all_1 : decode cX9_all 1 = .ok (.invokestatic 158, 3) := by decide +kernel
theorem dX9_all_4 : decode cX9_all 4 = .ok (.ifCond .ne 9, 3) := by decide +kernel
theorem dX9_all_7 : decode cX9_all 7 = .ok (.aload_n 0, 1) := by decide +kernel
theorem dX9_all_8 : decode cX9_all 8 = .ok (.iconst (-1), 1) := by decide +kernel
theorem dX9_all_9 : decode cX9_all 9 = .ok (.invokevirtual 86, 3) := by decide +kernel
theorem dX9_all_12 : decode cX9_all 12 = .ok (.ireturn, 1) := by decide +kernel
theorem dX9_all_13 : decode cX9_all 13 = .ok (.aload_n 0, 1) := by decide +kernel
theorem dX9_all_14 : decode cX9_all 14 = .ok (.aload_n 0, 1) := by decide +kernel
theorem dX9_all_15 : decode cX9_all 15 = .ok (.getfield 113, 3) := by decide +kernel
theorem dX9_all_18 : decode cX9_all 18 = .ok (.invokevirtual 140, 3) := by decide +kernel
theorem dX9_all_21 : decode cX9_all 21 = .ok (.aload_n 0, 1) := by decide +kernel
theorem dX9_all_22 : decode cX9_all 22 = .ok (.getfield 68, 3) := by decide +kernel
theorem dX9_all_25 : decode cX9_all 25 = .ok (.aload_n 0, 1) := by decide +kernel
theorem dX9_all_26 : decode cX9_all 26 = .ok (.getfield 12, 3) := by decide +kernel
theorem dX9_all_29 : decode cX9_all 29 = .ok (.getfield 90, 3) := by decide +kernel
theorem dX9_all_32 : decode cX9_all 32 = .ok (.invokevirtual 188, 3) := by decide +kernel
theorem dX9_all_35 : decode cX9_all 35 = .ok (.iconst 0, 1) := by decide +kernel
theorem dX9_all_36 : decode cX9_all 36 = .ok (.istore_n 2, 1) := by decide +kernel
theorem dX9_all_37 : decode cX9_all 37 = .ok (.iconst 1, 1) := by decide +kernel
theorem dX9_all_38 : decode cX9_all 38 = .ok (.istore_n 3, 1) := by decide +kernel
theorem dX9_all_39 : decode cX9_all 39 = .ok (.iconst 0, 1) := by decide +kernel
theorem dX9_all_40 : decode cX9_all 40 = .ok (.istore 4, 2) := by decide +kernel
theorem dX9_all_42 : decode cX9_all 42 = .ok (.iload 4, 2) := by decide +kernel
theorem dX9_all_44 : decode cX9_all 44 = .ok (.sipush 877, 3) := by decide +kernel
theorem dX9_all_47 : decode cX9_all 47 = .ok (.if_icmp .ge 45, 3) := by decide +kernel
theorem dX9_all_50 : decode cX9_all 50 = .ok (.iload_n 3, 1) := by decide +kernel
theorem dX9_all_51 : decode cX9_all 51 = .ok (.ifCond .eq 41, 3) := by decide +kernel
theorem dX9_all_54 : decode cX9_all 54 = .ok (.aload_n 0, 1) := by decide +kernel
theorem dX9_all_55 : decode cX9_all 55 = .ok (.getfield 40, 3) := by decide +kernel
theorem dX9_all_58 : decode cX9_all 58 = .ok (.aload_n 0, 1) := by decide +kernel
theorem dX9_all_59 : decode cX9_all 59 = .ok (.getfield 12, 3) := by decide +kernel
theorem dX9_all_62 : decode cX9_all 62 = .ok (.aload_n 0, 1) := by decide +kernel
theorem dX9_all_63 : decode cX9_all 63 = .ok (.getfield 68, 3) := by decide +kernel
theorem dX9_all_66 : decode cX9_all 66 = .ok (.iload_n 1, 1) := by decide +kernel
theorem dX9_all_67 : decode cX9_all 67 = .ok (.invokevirtual 161, 3) := by decide +kernel
theorem dX9_all_70 : decode cX9_all 70 = .ok (.bipush (-9), 2) := by decide +kernel
theorem dX9_all_72 : decode cX9_all 72 = .ok (.if_icmp .ne 6, 3) := by decide +kernel
theorem dX9_all_75 : decode cX9_all 75 = .ok (.iinc 2 1, 3) := by decide +kernel
theorem dX9_all_78 : decode cX9_all 78 = .ok (.aload_n 0, 1) := by decide +kernel
theorem dX9_all_79 : decode cX9_all 79 = .ok (.getfield 68, 3) := by decide +kernel
theorem dX9_all_82 : decode cX9_all 82 = .ok (.invokevirtual 191, 3) := by decide +kernel
theorem dX9_all_85 : decode cX9_all 85 = .ok (.istore_n 3, 1) := by decide +kernel
theorem dX9_all_86 : decode cX9_all 86 = .ok (.iinc 4 1, 3) := by decide +kernel
theorem dX9_all_89 : decode cX9_all 89 = .ok (.goto (-47), 3) := by decide +kernel
theorem dX9_all_92 : decode cX9_all 92 = .ok (.iload_n 2, 1) := by decide +kernel
theorem dX9_all_93 : decode cX9_all 93 = .ok (.ireturn, 1) := by decide +kernel
theorem dX3_cross_0 : decode cX3_cross 0 = .ok (.aload_n 0, 1) := by decide +kernel
theorem dX3_cross_1 : decode cX3_cross 1 = .ok (.aload_n 1, 1) := by decide +kernel
theorem dX3_cross_2 : decode cX3_cross 2 = .ok (.getfield 15, 3) := by decide +kernel
theorem dX3_cross_5 : decode cX3_cross 5 = .ok (.invokevirtual 62, 3) := by decide +kernel
theorem dX3_cross_8 : decode cX3_cross 8 = .ok (.iconst 0, 1) := by decide +kernel
theorem dX3_cross_9 : decode cX3_cross 9 = .ok (.istore_n 3, 1) := by decide +kernel
theorem dX3_cross_10 : decode cX3_cross 10 = .ok (.iload_n 3, 1) := by decide +kernel
theorem dX3_cross_11 : decode cX3_cross 11 = .ok (.aload_n 0, 1) := by decide +kernel
theorem dX3_cross_12 : decode cX3_cross 12 = .ok (.getfield 15, 3) := by decide +kernel
theorem dX3_cross_15 : decode cX3_cross 15 = .ok (.if_icmp .ge 63, 3) := by decide +kernel
theorem dX3_cross_18 : decode cX3_cross 18 = .ok (.iconst (-1), 1) := by decide +kernel
theorem dX3_cross_19 : decode cX3_cross 19 = .ok (.istore 4, 2) := by decide +kernel
theorem dX3_cross_21 : decode cX3_cross 21 = .ok (.iconst 0, 1) := by decide +kernel
theorem dX3_cross_22 : decode cX3_cross 22 = .ok (.istore 5, 2) := by decide +kernel
theorem dX3_cross_24 : decode cX3_cross 24 = .ok (.iload 5, 2) := by decide +kernel
theorem dX3_cross_26 : decode cX3_cross 26 = .ok (.iload_n 3, 1) := by decide +kernel
theorem dX3_cross_27 : decode cX3_cross 27 = .ok (.if_icmp .ge 38, 3) := by decide +kernel
theorem dX3_cross_30 : decode cX3_cross 30 = .ok (.iload 4, 2) := by decide +kernel
theorem dX3_cross_32 : decode cX3_cross 32 = .ok (.ifCond .ge 33, 3) := by decide +kernel
theorem dX3_cross_35 : decode cX3_cross 35 = .ok (.aload_n 1, 1) := by decide +kernel
theorem dX3_cross_36 : decode cX3_cross 36 = .ok (.iload_n 3, 1) := by decide +kernel
theorem dX3_cross_37 : decode cX3_cross 37 = .ok (.iload 5, 2) := by decide +kernel
theorem dX3_cross_39 : decode cX3_cross 39 = .ok (.invokevirtual 50, 3) := by decide +kernel
theorem dX3_cross_42 : decode cX3_cross 42 = .ok (.ifCond .eq 17, 3) := by decide +kernel
theorem dX3_cross_45 : decode cX3_cross 45 = .ok (.aload_n 2, 1) := by decide +kernel
theorem dX3_cross_46 : decode cX3_cross 46 = .ok (.iload_n 3, 1) := by decide +kernel
theorem dX3_cross_47 : decode cX3_cross 47 = .ok (.iload 5, 2) := by decide +kernel
theorem dX3_cross_49 : decode cX3_cross 49 = .ok (.invokevirtual 50, 3) := by decide +kernel
theorem dX3_cross_52 : decode cX3_cross 52 = .ok (.ifCond .eq 7, 3) := by decide +kernel
theorem dX3_cross_55 : decode cX3_cross 55 = .ok (.iload 5, 2) := by decide +kernel
theorem dX3_cross_57 : decode cX3_cross 57 = .ok (.istore 4, 2) := by decide +kernel
theorem dX3_cross_59 : decode cX3_cross 59 = .ok (.iinc 5 1, 3) := by decide +kernel
theorem dX3_cross_62 : decode cX3_cross 62 = .ok (.goto (-38), 3) := by decide +kernel
theorem dX3_cross_65 : decode cX3_cross 65 = .ok (.aload_n 0, 1) := by decide +kernel
theorem dX3_cross_66 : decode cX3_cross 66 = .ok (.iload_n 3, 1) := by decide +kernel
theorem dX3_cross_67 : decode cX3_cross 67 = .ok (.iload 4, 2) := by decide +kernel
theorem dX3_cross_69 : decode cX3_cross 69 = .ok (.invokevirtual 66, 3) := by decide +kernel
theorem dX3_cross_72 : decode cX3_cross 72 = .ok (.iinc 3 1, 3) := by decide +kernel
theorem dX3_cross_75 : decode cX3_cross 75 = .ok (.goto (-65), 3) := by decide +kernel
theorem dX3_cross_78 : decode cX3_cross 78 = .ok (.return_, 1) := by decide +kernel
theorem dX3_copyRenumbered_0 : decode cX3_copyRenumbered 0 = .ok (.aload_n 0, 1) := by decide +kernel
theorem dX3_copyRenumbered_1 : decode cX3_copyRenumbered 1 = .ok (.aload_n 1, 1) := by decide +kernel
theorem dX3_copyRenumbered_2 : decode cX3_copyRenumbered 2 = .ok (.aload_n 1, 1) := by decide +kernel
theorem dX3_copyRenumbered_3 : decode cX3_copyRenumbered 3 = .ok (.invokevirtual 58, 3) := by decide +kernel
theorem dX3_copyRenumbered_6 : decode cX3_copyRenumbered 6 = .ok (.return_, 1) := by decide +kernel
theorem dX3_rename_0 : decode cX3_rename 0 = .ok (.iconst 0, 1) := by decide +kernel
theorem dX3_rename_1 : decode cX3_rename 1 = .ok (.istore_n 3, 1) := by decide +kernel
theorem dX3_rename_2 : decode cX3_rename 2 = .ok (.iload_n 3, 1) := by decide +kernel
theorem dX3_rename_3 : decode cX3_rename 3 = .ok (.aload_n 0, 1) := by decide +kernel
theorem dX3_rename_4 : decode cX3_rename 4 = .ok (.getfield 15, 3) := by decide +kernel
theorem dX3_rename_7 : decode cX3_rename 7 = .ok (.if_icmp .ge 27, 3) := by decide +kernel
theorem dX3_rename_10 : decode cX3_rename 10 = .ok (.aload_n 0, 1) := by decide +kernel
theorem dX3_rename_11 : decode cX3_rename 11 = .ok (.iload_n 3, 1) := by decide +kernel
theorem dX3_rename_12 : decode cX3_rename 12 = .ok (.invokevirtual 26, 3) := by decide +kernel
theorem dX3_rename_15 : decode cX3_rename 15 = .ok (.iload_n 1, 1) := by decide +kernel
theorem dX3_rename_16 : decode cX3_rename 16 = .ok (.if_icmp .ne 12, 3) := by decide +kernel
theorem dX3_rename_19 : decode cX3_rename 19 = .ok (.aload_n 0, 1) := by decide +kernel
theorem dX3_rename_20 : decode cX3_rename 20 = .ok (.getfield 9, 3) := by decide +kernel
theorem dX3_rename_23 : decode cX3_rename 23 = .ok (.iload_n 3, 1) := by decide +kernel
theorem dX3_rename_24 : decode cX3_rename 24 = .ok (.iload_n 2, 1) := by decide +kernel
theorem dX3_rename_25 : decode cX3_rename 25 = .ok (.invokestatic 22, 3) := by decide +kernel
theorem dX3_rename_28 : decode cX3_rename 28 = .ok (.iinc 3 1, 3) := by decide +kernel
theorem dX3_rename_31 : decode cX3_rename 31 = .ok (.goto (-29), 3) := by decide +kernel
theorem dX3_rename_34 : decode cX3_rename 34 = .ok (.return_, 1) := by decide +kernel
theorem dX3_mergeBy_0 : decode cX3_mergeBy 0 = .ok (.iconst 0, 1) := by decide +kernel
theorem dX3_mergeBy_1 : decode cX3_mergeBy 1 = .ok (.istore_n 2, 1) := by decide +kernel
theorem dX3_mergeBy_2 : decode cX3_mergeBy 2 = .ok (.iload_n 2, 1) := by decide +kernel
theorem dX3_mergeBy_3 : decode cX3_mergeBy 3 = .ok (.aload_n 0, 1) := by decide +kernel
theorem dX3_mergeBy_4 : decode cX3_mergeBy 4 = .ok (.getfield 15, 3) := by decide +kernel
theorem dX3_mergeBy_7 : decode cX3_mergeBy 7 = .ok (.if_icmp .ge 50, 3) := by decide +kernel
theorem dX3_mergeBy_10 : decode cX3_mergeBy 10 = .ok (.iload_n 2, 1) := by decide +kernel
theorem dX3_mergeBy_11 : decode cX3_mergeBy 11 = .ok (.iconst 1, 1) := by decide +kernel
theorem dX3_mergeBy_12 : decode cX3_mergeBy 12 = .ok (.iadd, 1) := by decide +kernel
theorem dX3_mergeBy_13 : decode cX3_mergeBy 13 = .ok (.istore_n 3, 1) := by decide +kernel
theorem dX3_mergeBy_14 : decode cX3_mergeBy 14 = .ok (.iload_n 3, 1) := by decide +kernel
theorem dX3_mergeBy_15 : decode cX3_mergeBy 15 = .ok (.aload_n 0, 1) := by decide +kernel
theorem dX3_mergeBy_16 : decode cX3_mergeBy 16 = .ok (.getfield 15, 3) := by decide +kernel
theorem dX3_mergeBy_19 : decode cX3_mergeBy 19 = .ok (.if_icmp .ge 32, 3) := by decide +kernel
theorem dX3_mergeBy_22 : decode cX3_mergeBy 22 = .ok (.aload_n 1, 1) := by decide +kernel
theorem dX3_mergeBy_23 : decode cX3_mergeBy 23 = .ok (.iload_n 2, 1) := by decide +kernel
theorem dX3_mergeBy_24 : decode cX3_mergeBy 24 = .ok (.iload_n 3, 1) := by decide +kernel
theorem dX3_mergeBy_25 : decode cX3_mergeBy 25 = .ok (.invokevirtual 50, 3) := by decide +kernel
theorem dX3_mergeBy_28 : decode cX3_mergeBy 28 = .ok (.ifCond .eq 17, 3) := by decide +kernel
theorem dX3_mergeBy_31 : decode cX3_mergeBy 31 = .ok (.aload_n 0, 1) := by decide +kernel
theorem dX3_mergeBy_32 : decode cX3_mergeBy 32 = .ok (.aload_n 0, 1) := by decide +kernel
