theorem dX0_init_0 : decode cX0_init 0 = .ok (.aload_n 0, 1) := by decide +kernel
theorem dX0_init_1 : decode cX0_init 1 = .ok (.invokespecial 3, 3) := by decide +kernel
theorem dX0_init_4 : decode cX0_init 4 = .ok (.iload_n 1, 1) := by decide +kernel
theorem dX0_init_5 : decode cX0_init 5 = .ok (.iconst 0, 1) := by decide +kernel
theorem dX0_init_6 : decode cX0_init 6 = .ok (.invokestatic 9, 3) := by decide +kernel
theorem dX0_init_9 : decode cX0_init 9 = .ok (.istore_n 2, 1) := by decide +kernel
theorem dX0_init_10 : decode cX0_init 10 = .ok (.aload_n 0, 1) := by decide +kernel
theorem dX0_init_11 : decode cX0_init 11 = .ok (.iload_n 2, 1) := by decide +kernel
theorem dX0_init_12 : decode cX0_init 12 = .ok (.newarray .int, 2) := by decide +kernel
theorem dX0_init_14 : decode cX0_init 14 = .ok (.putfield 15, 3) := by decide +kernel
theorem dX0_init_17 : decode cX0_init 17 = .ok (.aload_n 0, 1) := by decide +kernel
theorem dX0_init_18 : decode cX0_init 18 = .ok (.iload_n 2, 1) := by decide +kernel
theorem dX0_init_19 : decode cX0_init 19 = .ok (.newarray .int, 2) := by decide +kernel
theorem dX0_init_21 : decode cX0_init 21 = .ok (.putfield 21, 3) := by decide +kernel
theorem dX0_init_24 : decode cX0_init 24 = .ok (.aload_n 0, 1) := by decide +kernel
theorem dX0_init_25 : decode cX0_init 25 = .ok (.iload_n 2, 1) := by decide +kernel
theorem dX0_init_26 : decode cX0_init 26 = .ok (.newarray .int, 2) := by decide +kernel
theorem dX0_init_28 : decode cX0_init 28 = .ok (.putfield 24, 3) := by decide +kernel
theorem dX0_init_31 : decode cX0_init 31 = .ok (.aload_n 0, 1) := by decide +kernel
theorem dX0_init_32 : decode cX0_init 32 = .ok (.iload_n 2, 1) := by decide +kernel
theorem dX0_init_33 : decode cX0_init 33 = .ok (.newarray .int, 2) := by decide +kernel
theorem dX0_init_35 : decode cX0_init 35 = .ok (.putfield 27, 3) := by decide +kernel
theorem dX0_init_38 : decode cX0_init 38 = .ok (.return_, 1) := by decide +kernel
theorem dX0_clear_0 : decode cX0_clear 0 = .ok (.aload_n 0, 1) := by decide +kernel
theorem dX0_clear_1 : decode cX0_clear 1 = .ok (.iconst 0, 1) := by decide +kernel
theorem dX0_clear_2 : decode cX0_clear 2 = .ok (.putfield 30, 3) := by decide +kernel
theorem dX0_clear_5 : decode cX0_clear 5 = .ok (.return_, 1) := by decide +kernel
theorem dX0_size_0 : decode cX0_size 0 = .ok (.aload_n 0, 1) := by decide +kernel
theorem dX0_size_1 : decode cX0_size 1 = .ok (.getfield 30, 3) := by decide +kernel
theorem dX0_size_4 : decode cX0_size 4 = .ok (.ireturn, 1) := by decide +kernel
theorem dX0_has_0 : decode cX0_has 0 = .ok (.iload_n 1, 1) := by decide +kernel
theorem dX0_has_1 : decode cX0_has 1 = .ok (.ifCond .lt 15, 3) := by decide +kernel
theorem dX0_has_4 : decode cX0_has 4 = .ok (.iload_n 1, 1) := by decide +kernel
theorem dX0_has_5 : decode cX0_has 5 = .ok (.aload_n 0, 1) := by decide +kernel
theorem dX0_has_6 : decode cX0_has 6 = .ok (.getfield 30, 3) := by decide +kernel
theorem dX0_has_9 : decode cX0_has 9 = .ok (.if_icmp .ge 7, 3) := by decide +kernel
theorem dX0_has_12 : decode cX0_has 12 = .ok (.iconst 1, 1) := by decide +kernel
theorem dX0_has_13 : decode cX0_has 13 = .ok (.goto 4, 3) := by decide +kernel
theorem dX0_has_16 : decode cX0_has 16 = .ok (.iconst 0, 1) := by decide +kernel
theorem dX0_has_17 : decode cX0_has 17 = .ok (.ireturn, 1) := by decide +kernel
theorem dX0_fromOf_0 : decode cX0_fromOf 0 = .ok (.aload_n 0, 1) := by decide +kernel
theorem dX0_fromOf_1 : decode cX0_fromOf 1 = .ok (.iload_n 1, 1) := by decide +kernel
theorem dX0_fromOf_2 : decode cX0_fromOf 2 = .ok (.invokevirtual 34, 3) := by decide +kernel
theorem dX0_fromOf_5 : decode cX0_fromOf 5 = .ok (.ifCond .eq 12, 3) := by decide +kernel
theorem dX0_fromOf_8 : decode cX0_fromOf 8 = .ok (.aload_n 0, 1) := by decide +kernel
theorem dX0_fromOf_9 : decode cX0_fromOf 9 = .ok (.getfield 15, 3) := by decide +kernel
theorem dX0_fromOf_12 : decode cX0_fromOf 12 = .ok (.iload_n 1, 1) := by decide +kernel
theorem dX0_fromOf_13 : decode cX0_fromOf 13 = .ok (.iaload, 1) := by decide +kernel
theorem dX0_fromOf_14 : decode cX0_fromOf 14 = .ok (.goto 4, 3) := by decide +kernel
theorem dX0_fromOf_17 : decode cX0_fromOf 17 = .ok (.iconst (-1), 1) := by decide +kernel
theorem dX0_fromOf_18 : decode cX0_fromOf 18 = .ok (.ireturn, 1) := by decide +kernel
theorem dX0_latestOf_0 : decode cX0_latestOf 0 = .ok (.aload_n 0, 1) := by decide +kernel
theorem dX0_latestOf_1 : decode cX0_latestOf 1 = .ok (.iload_n 1, 1) := by decide +kernel
theorem dX0_latestOf_2 : decode cX0_latestOf 2 = .ok (.invokevirtual 34, 3) := by decide +kernel
theorem dX0_latestOf_5 : decode cX0_latestOf 5 = .ok (.ifCond .eq 12, 3) := by decide +kernel
theorem dX0_latestOf_8 : decode cX0_latestOf 8 = .ok (.aload_n 0, 1) := by decide +kernel
theorem dX0_latestOf_9 : decode cX0_latestOf 9 = .ok (.getfield 21, 3) := by decide +kernel
theorem dX0_latestOf_12 : decode cX0_latestOf 12 = .ok (.iload_n 1, 1) := by decide +kernel
theorem dX0_latestOf_13 : decode cX0_latestOf 13 = .ok (.iaload, 1) := by decide +kernel
theorem dX0_latestOf_14 : decode cX0_latestOf 14 = .ok (.goto 4, 3) := by decide +kernel
theorem dX0_latestOf_17 : decode cX0_latestOf 17 = .ok (.iconst (-1), 1) := by decide +kernel
theorem dX0_latestOf_18 : decode cX0_latestOf 18 = .ok (.ireturn, 1) := by decide +kernel
theorem dX0_weightOf_0 : decode cX0_weightOf 0 = .ok (.aload_n 0, 1) := by decide +kernel
theorem dX0_weightOf_1 : decode cX0_weightOf 1 = .ok (.iload_n 1, 1) := by decide +kernel
theorem dX0_weightOf_2 : decode cX0_weightOf 2 = .ok (.invokevirtual 34, 3) := by decide +kernel
theorem dX0_weightOf_5 : decode cX0_weightOf 5 = .ok (.ifCond .eq 12, 3) := by decide +kernel
theorem dX0_weightOf_8 : decode cX0_weightOf 8 = .ok (.aload_n 0, 1) := by decide +kernel
theorem dX0_weightOf_9 : decode cX0_weightOf 9 = .ok (.getfield 24, 3) := by decide +kernel
theorem dX0_weightOf_12 : decode cX0_weightOf 12 = .ok (.iload_n 1, 1) := by decide +kernel
theorem dX0_weightOf_13 : decode cX0_weightOf 13 = .ok (.iaload, 1) := by decide +kernel
theorem dX0_weightOf_14 : decode cX0_weightOf 14 = .ok (.goto 4, 3) := by decide +kernel
theorem dX0_weightOf_17 : decode cX0_weightOf 17 = .ok (.iconst (-1), 1) := by decide +kernel
theorem dX0_weightOf_18 : decode cX0_weightOf 18 = .ok (.ireturn, 1) := by decide +kernel
theorem dX0_timerOf_0 : decode cX0_timerOf 0 = .ok (.aload_n 0, 1) := by decide +kernel
theorem dX0_timerOf_1 : decode cX0_timerOf 1 = .ok (.iload_n 1, 1) := by decide +kernel
theorem dX0_timerOf_2 : decode cX0_timerOf 2 = .ok (.invokevirtual 34, 3) := by decide +kernel
theorem dX0_timerOf_5 : decode cX0_timerOf 5 = .ok (.ifCond .eq 12, 3) := by decide +kernel
theorem dX0_timerOf_8 : decode cX0_timerOf 8 = .ok (.aload_n 0, 1) := by decide +kernel
theorem dX0_timerOf_9 : decode cX0_timerOf 9 = .ok (.getfield 27, 3) := by decide +kernel
theorem dX0_timerOf_12 : decode cX0_timerOf 12 = .ok (.iload_n 1, 1) := by decide +kernel
theorem dX0_timerOf_13 : decode cX0_timerOf 13 = .ok (.iaload, 1) := by decide +kernel
theorem dX0_timerOf_14 : decode cX0_timerOf 14 = .ok (.goto 4, 3) := by decide +kernel
theorem dX0_timerOf_17 : decode cX0_timerOf 17 = .ok (.iconst (-1), 1) := by decide +kernel
theorem dX0_timerOf_18 : decode cX0_timerOf 18 = .ok (.ireturn, 1) := by decide +kernel
theorem dX0_add_0 : decode cX0_add 0 = .ok (.aload_n 0, 1) := by decide +kernel
theorem dX0_add_1 : decode cX0_add 1 = .ok (.getfield 30, 3) := by decide +kernel
theorem dX0_add_4 : decode cX0_add 4 = .ok (.aload_n 0, 1) := by decide +kernel
theorem dX0_add_5 : decode cX0_add 5 = .ok (.getfield 15, 3) := by decide +kernel
theorem dX0_add_8 : decode cX0_add 8 = .ok (.arraylength, 1) := by decide +kernel
theorem dX0_add_9 : decode cX0_add 9 = .ok (.if_icmp .ge 54, 3) := by decide +kernel
theorem dX0_add_12 : decode cX0_add 12 = .ok (.aload_n 0, 1) := by decide +kernel
theorem dX0_add_13 : decode cX0_add 13 = .ok (.getfield 15, 3) := by decide +kernel
theorem dX0_add_16 : decode cX0_add 16 = .ok (.aload_n 0, 1) := by decide +kernel
theorem dX0_add_17 : decode cX0_add 17 = .ok (.getfield 30, 3) := by decide +kernel
theorem dX0_add_20 : decode cX0_add 20 = .ok (.iload_n 1, 1) := by decide +kernel
theorem dX0_add_21 : decode cX0_add 21 = .ok (.iastore, 1) := by decide +kernel
theorem dX0_add_22 : decode cX0_add 22 = .ok (.aload_n 0, 1) := by decide +kernel
theorem dX0_add_23 : decode cX0_add 23 = .ok (.getfield 21, 3) := by decide +kernel
theorem dX0_add_26 : decode cX0_add 26 = .ok (.aload_n 0, 1) := by decide +kernel
theorem dX0_add_27 : decode cX0_add 27 = .ok (.getfield 30, 3) := by decide +kernel
theorem dX0_add_30 : decode cX0_add 30 = .ok (.iload_n 2, 1) := by decide +kernel
theorem dX0_add_31 : decode cX0_add 31 = .ok (.iastore, 1) := by decide +kernel
theorem dX0_add_32 : decode cX0_add 32 = .ok (.aload_n 0, 1) := by decide +kernel
theorem dX0_add_33 : decode cX0_add 33 = .ok (.getfield 24, 3) := by decide +kernel
theorem dX0_add_36 : decode cX0_add 36 = .ok (.aload_n 0, 1) := by decide +kernel
theorem dX0_add_37 : decode cX0_add 37 = .ok (.getfield 30, 3) := by decide +kernel
theorem dX0_add_40 : decode cX0_add 40 = .ok (.iload_n 3, 1) := by decide +kernel
theorem dX0_add_41 : decode cX0_add 41 = .ok (.iastore, 1) := by decide +kernel
theorem dX0_add_42 : decode cX0_add 42 = .ok (.aload_n 0, 1) := by decide +kernel
theorem dX0_add_43 : decode cX0_add 43 = .ok (.getfield 27, 3) := by decide +kernel
theorem dX0_add_46 : decode cX0_add 46 = .ok (.aload_n 0, 1) := by decide +kernel
theorem dX0_add_47 : decode cX0_add 47 = .ok (.getfield 30, 3) := by decide +kernel
theorem dX0_add_50 : decode cX0_add 50 = .ok (.iload 4, 2) := by decide +kernel
theorem dX0_add_52 : decode cX0_add 52 = .ok (.iastore, 1) := by decide +kernel
theorem dX0_add_53 : decode cX0_add 53 = .ok (.aload_n 0, 1) := by decide +kernel
theorem dX0_add_54 : decode cX0_add 54 = .ok (.dup, 1) := by decide +kernel
theorem dX0_add_55 : decode cX0_add 55 = .ok (.getfield 30, 3) := by decide +kernel
theorem dX0_add_58 : decode cX0_add 58 = .ok (.iconst 1, 1) := by decide +kernel
theorem dX0_add_59 : decode cX0_add 59 = .ok (.iadd, 1) := by decide +kernel
theorem dX0_add_60 : decode cX0_add 60 = .ok (.putfield 30, 3) := by decide +kernel
theorem dX0_add_63 : decode cX0_add 63 = .ok (.return_, 1) := by decide +kernel
theorem dX0_gather_0 : decode cX0_gather 0 = .ok (.aload_n 0, 1) := by decide +kernel
theorem dX0_gather_1 : decode cX0_gather 1 = .ok (.iconst 0, 1) := by decide +kernel
theorem dX0_gather_2 : decode cX0_gather 2 = .ok (.putfield 30, 3) := by decide +kernel
theorem dX0_gather_5 : decode cX0_gather 5 = .ok (.iconst 0, 1) := by decide +kernel
theorem dX0_gather_6 : decode cX0_gather 6 = .ok (.istore_n 2, 1) := by decide +kernel
theorem dX0_gather_7 : decode cX0_gather 7 = .ok (.iload_n 2, 1) := by decide +kernel
theorem dX0_gather_8 : decode cX0_gather 8 = .ok (.aload_n 1, 1) := by decide +kernel
theorem dX0_gather_9 : decode cX0_gather 9 = .ok (.invokevirtual 38, 3) := by decide +kernel
theorem dX0_gather_12 : decode cX0_gather 12 = .ok (.if_icmp .gt 42, 3) := by decide +kernel
theorem dX0_gather_15 : decode cX0_gather 15 = .ok (.iconst 0, 1) := by decide +kernel
theorem dX0_gather_16 : decode cX0_gather 16 = .ok (.istore_n 3, 1) := by decide +kernel
theorem dX0_gather_17 : decode cX0_gather 17 = .ok (.iload_n 3, 1) := by decide +kernel
theorem dX0_gather_18 : decode cX0_gather 18 = .ok (.aload_n 1, 1) := by decide +kernel
theorem dX0_gather_19 : decode cX0_gather 19 = .ok (.invokevirtual 44, 3) := by decide +kernel
theorem dX0_gather_22 : decode cX0_gather 22 = .ok (.if_icmp .ge 26, 3) := by decide +kernel
theorem dX0_gather_25 : decode cX0_gather 25 = .ok (.aload_n 1, 1) := by decide +kernel
theorem dX0_gather_26 : decode cX0_gather 26 = .ok (.iload_n 3, 1) := by decide +kernel
theorem dX0_gather_27 : decode cX0_gather 27 = .ok (.iload_n 2, 1) := by decide +kernel
theorem dX0_gather_28 : decode cX0_gather 28 = .ok (.invokevirtual 46, 3) := by decide +kernel
theorem dX0_gather_31 : decode cX0_gather 31 = .ok (.ifCond .eq 11, 3) := by decide +kernel
theorem dX0_gather_34 : decode cX0_gather 34 = .ok (.aload_n 0, 1) := by decide +kernel
theorem dX0_gather_35 : decode cX0_gather 35 = .ok (.iload_n 2, 1) := by decide +kernel
theorem dX0_gather_36 : decode cX0_gather 36 = .ok (.iload_n 2, 1) := by decide +kernel
theorem dX0_gather_37 : decode cX0_gather 37 = .ok (.iconst 1, 1) := by decide +kernel
theorem dX0_gather_38 : decode cX0_gather 38 = .ok (.iload_n 3, 1) := by decide +kernel
theorem dX0_gather_39 : decode cX0_gather 39 = .ok (.invokevirtual 50, 3) := by decide +kernel
theorem dX0_gather_42 : decode cX0_gather 42 = .ok (.iinc 3 1, 3) := by decide +kernel
theorem dX0_gather_45 : decode cX0_gather 45 = .ok (.goto (-28), 3) := by decide +kernel
theorem dX0_gather_48 : decode cX0_gather 48 = .ok (.iinc 2 1, 3) := by decide +kernel
theorem dX0_gather_51 : decode cX0_gather 51 = .ok (.goto (-44), 3) := by decide +kernel
theorem dX0_gather_54 : decode cX0_gather 54 = .ok (.return_, 1) := by decide +kernel
theorem dX0_layOut_0 : decode cX0_layOut 0 = .ok (.iconst 0, 1) := by decide +kernel
theorem dX0_layOut_1 : decode cX0_layOut 1 = .ok (.istore_n 2, 1) := by decide +kernel
theorem dX0_layOut_2 : decode cX0_layOut 2 = .ok (.iload_n 2, 1) := by decide +kernel
theorem dX0_layOut_3 : decode cX0_layOut 3 = .ok (.aload_n 0, 1) := by decide +kernel
theorem dX0_layOut_4 : decode cX0_layOut 4 = .ok (.getfield 30, 3) := by decide +kernel
theorem dX0_layOut_7 : decode cX0_layOut 7 = .ok (.if_icmp .ge 56, 3) := by decide +kernel
theorem dX0_layOut_10 : decode cX0_layOut 10 = .ok (.aload_n 1, 1) := by decide +kernel
theorem dX0_layOut_11 : decode cX0_layOut 11 = .ok (.aload_n 0, 1) := by decide +kernel
theorem dX0_layOut_12 : decode cX0_layOut 12 = .ok (.getfield 27, 3) := by decide +kernel
theorem dX0_layOut_15 : decode cX0_layOut 15 = .ok (.iload_n 2, 1) := by decide +kernel
theorem dX0_layOut_16 : decode cX0_layOut 16 = .ok (.iaload, 1) := by decide +kernel
theorem dX0_layOut_17 : decode cX0_layOut 17 = .ok (.invokevirtual 54, 3) := by decide +kernel
theorem dX0_layOut_20 : decode cX0_layOut 20 = .ok (.istore_n 3, 1) := by decide +kernel
theorem dX0_layOut_21 : decode cX0_layOut 21 = .ok (.aload_n 0, 1) := by decide +kernel
theorem dX0_layOut_22 : decode cX0_layOut 22 = .ok (.getfield 21, 3) := by decide +kernel
theorem dX0_layOut_25 : decode cX0_layOut 25 = .ok (.iload_n 2, 1) := by decide +kernel
theorem dX0_layOut_26 : decode cX0_layOut 26 = .ok (.aload_n 0, 1) := by decide +kernel
theorem dX0_layOut_27 : decode cX0_layOut 27 = .ok (.getfield 15, 3) := by decide +kernel
theorem dX0_layOut_30 : decode cX0_layOut 30 = .ok (.iload_n 2, 1) := by decide +kernel
theorem dX0_layOut_31 : decode cX0_layOut 31 = .ok (.iaload, 1) := by decide +kernel
theorem dX0_layOut_32 : decode cX0_layOut 32 = .ok (.aload_n 1, 1) := by decide +kernel
theorem dX0_layOut_33 : decode cX0_layOut 33 = .ok (.iload_n 3, 1) := by decide +kernel
theorem dX0_layOut_34 : decode cX0_layOut 34 = .ok (.invokevirtual 58, 3) := by decide +kernel
theorem dX0_layOut_37 : decode cX0_layOut 37 = .ok (.iadd, 1) := by decide +kernel
theorem dX0_layOut_38 : decode cX0_layOut 38 = .ok (.aload_n 1, 1) := by decide +kernel
theorem dX0_layOut_39 : decode cX0_layOut 39 = .ok (.invokevirtual 38, 3) := by decide +kernel
theorem dX0_layOut_42 : decode cX0_layOut 42 = .ok (.invokestatic 61, 3) := by decide +kernel
theorem dX0_layOut_45 : decode cX0_layOut 45 = .ok (.iastore, 1) := by decide +kernel
theorem dX0_layOut_46 : decode cX0_layOut 46 = .ok (.aload_n 0, 1) := by decide +kernel
theorem dX0_layOut_47 : decode cX0_layOut 47 = .ok (.getfield 24, 3) := by decide +kernel
theorem dX0_layOut_50 : decode cX0_layOut 50 = .ok (.iload_n 2, 1) := by decide +kernel
theorem dX0_layOut_51 : decode cX0_layOut 51 = .ok (.aload_n 1, 1) := by decide +kernel
theorem dX0_layOut_52 : decode cX0_layOut 52 = .ok (.iload_n 3, 1) := by decide +kernel
theorem dX0_layOut_53 : decode cX0_layOut 53 = .ok (.invokevirtual 64, 3) := by decide +kernel
theorem dX0_layOut_56 : decode cX0_layOut 56 = .ok (.iastore, 1) := by decide +kernel
theorem dX0_layOut_57 : decode cX0_layOut 57 = .ok (.iinc 2 1, 3) := by decide +kernel
theorem dX0_layOut_60 : decode cX0_layOut 60 = .ok (.goto (-58), 3) := by decide +kernel
theorem dX0_layOut_63 : decode cX0_layOut 63 = .ok (.return_, 1) := by decide +kernel
theorem dX0_firstDueAt_0 : decode cX0_firstDueAt 0 = .ok (.iconst 0, 1) := by decide +kernel
theorem dX0_firstDueAt_1 : decode cX0_firstDueAt 1 = .ok (.istore_n 3, 1) := by decide +kernel
theorem dX0_firstDueAt_2 : decode cX0_firstDueAt 2 = .ok (.iload_n 3, 1) := by decide +kernel
theorem dX0_firstDueAt_3 : decode cX0_firstDueAt 3 = .ok (.aload_n 0, 1) := by decide +kernel
theorem dX0_firstDueAt_4 : decode cX0_firstDueAt 4 = .ok (.getfield 30, 3) := by decide +kernel
theorem dX0_firstDueAt_7 : decode cX0_firstDueAt 7 = .ok (.if_icmp .ge 31, 3) := by decide +kernel
theorem dX0_firstDueAt_10 : decode cX0_firstDueAt 10 = .ok (.aload_n 0, 1) := by decide +kernel
theorem dX0_firstDueAt_11 : decode cX0_firstDueAt 11 = .ok (.getfield 15, 3) := by decide +kernel
theorem dX0_firstDueAt_14 : decode cX0_firstDueAt 14 = .ok (.iload_n 3, 1) := by decide +kernel
theorem dX0_firstDueAt_15 : decode cX0_firstDueAt 15 = .ok (.iaload, 1) := by decide +kernel
theorem dX0_firstDueAt_16 : decode cX0_firstDueAt 16 = .ok (.iload_n 2, 1) := by decide +kernel
theorem dX0_firstDueAt_17 : decode cX0_firstDueAt 17 = .ok (.if_icmp .le 15, 3) := by decide +kernel
theorem dX0_firstDueAt_20 : decode cX0_firstDueAt 20 = .ok (.aload_n 0, 1) := by decide +kernel
theorem dX0_firstDueAt_21 : decode cX0_firstDueAt 21 = .ok (.getfield 21, 3) := by decide +kernel
theorem dX0_firstDueAt_24 : decode cX0_firstDueAt 24 = .ok (.iload_n 3, 1) := by decide +kernel
theorem dX0_firstDueAt_25 : decode cX0_firstDueAt 25 = .ok (.iaload, 1) := by decide +kernel
theorem dX0_firstDueAt_26 : decode cX0_firstDueAt 26 = .ok (.iload_n 1, 1) := by decide +kernel
theorem dX0_firstDueAt_27 : decode cX0_firstDueAt 27 = .ok (.if_icmp .ne 5, 3) := by decide +kernel
theorem dX0_firstDueAt_30 : decode cX0_firstDueAt 30 = .ok (.iload_n 3, 1) := by decide +kernel
theorem dX0_firstDueAt_31 : decode cX0_firstDueAt 31 = .ok (.ireturn, 1) := by decide +kernel
theorem dX0_firstDueAt_32 : decode cX0_firstDueAt 32 = .ok (.iinc 3 1, 3) := by decide +kernel
theorem dX0_firstDueAt_35 : decode cX0_firstDueAt 35 = .ok (.goto (-33), 3) := by decide +kernel
theorem dX0_firstDueAt_38 : decode cX0_firstDueAt 38 = .ok (.iconst (-1), 1) := by decide +kernel
theorem dX0_firstDueAt_39 : decode cX0_firstDueAt 39 = .ok (.ireturn, 1) := by decide +kernel
theorem dX0_waitsAt_0 : decode cX0_waitsAt 0 = .ok (.iconst 0, 1) := by decide +kernel
theorem dX0_waitsAt_1 : decode cX0_waitsAt 1 = .ok (.istore 4, 2) := by decide +kernel
theorem dX0_waitsAt_3 : decode cX0_waitsAt 3 = .ok (.iload_n 2, 1) := by decide +kernel
theorem dX0_waitsAt_4 : decode cX0_waitsAt 4 = .ok (.iconst 0, 1) := by decide +kernel
theorem dX0_waitsAt_5 : decode cX0_waitsAt 5 = .ok (.invokestatic 9, 3) := by decide +kernel
theorem dX0_waitsAt_8 : decode cX0_waitsAt 8 = .ok (.istore 5, 2) := by decide +kernel
theorem dX0_waitsAt_10 : decode cX0_waitsAt 10 = .ok (.iload 5, 2) := by decide +kernel
theorem dX0_waitsAt_12 : decode cX0_waitsAt 12 = .ok (.iload_n 3, 1) := by decide +kernel
theorem dX0_waitsAt_13 : decode cX0_waitsAt 13 = .ok (.if_icmp .ge 40, 3) := by decide +kernel
theorem dX0_waitsAt_16 : decode cX0_waitsAt 16 = .ok (.iload 5, 2) := by decide +kernel
theorem dX0_waitsAt_18 : decode cX0_waitsAt 18 = .ok (.aload_n 0, 1) := by decide +kernel
theorem dX0_waitsAt_19 : decode cX0_waitsAt 19 = .ok (.getfield 30, 3) := by decide +kernel
theorem dX0_waitsAt_22 : decode cX0_waitsAt 22 = .ok (.if_icmp .ge 31, 3) := by decide +kernel
theorem dX0_waitsAt_25 : decode cX0_waitsAt 25 = .ok (.iload 4, 2) := by decide +kernel
theorem dX0_waitsAt_27 : decode cX0_waitsAt 27 = .ok (.aload_n 0, 1) := by decide +kernel
theorem dX0_waitsAt_28 : decode cX0_waitsAt 28 = .ok (.getfield 24, 3) := by decide +kernel
theorem dX0_waitsAt_31 : decode cX0_waitsAt 31 = .ok (.iload 5, 2) := by decide +kernel
theorem dX0_waitsAt_33 : decode cX0_waitsAt 33 = .ok (.iaload, 1) := by decide +kernel
theorem dX0_waitsAt_34 : decode cX0_waitsAt 34 = .ok (.iload_n 1, 1) := by decide +kernel
theorem dX0_waitsAt_35 : decode cX0_waitsAt 35 = .ok (.aload_n 0, 1) := by decide +kernel
theorem dX0_waitsAt_36 : decode cX0_waitsAt 36 = .ok (.getfield 15, 3) := by decide +kernel
theorem dX0_waitsAt_39 : decode cX0_waitsAt 39 = .ok (.iload 5, 2) := by decide +kernel
theorem dX0_waitsAt_41 : decode cX0_waitsAt 41 = .ok (.iaload, 1) := by decide +kernel
theorem dX0_waitsAt_42 : decode cX0_waitsAt 42 = .ok (.isub, 1) := by decide +kernel
theorem dX0_waitsAt_43 : decode cX0_waitsAt 43 = .ok (.imul, 1) := by decide +kernel
theorem dX0_waitsAt_44 : decode cX0_waitsAt 44 = .ok (.iadd, 1) := by decide +kernel
theorem dX0_waitsAt_45 : decode cX0_waitsAt 45 = .ok (.istore 4, 2) := by decide +kernel
theorem dX0_waitsAt_47 : decode cX0_waitsAt 47 = .ok (.iinc 5 1, 3) := by decide +kernel
theorem dX0_waitsAt_50 : decode cX0_waitsAt 50 = .ok (.goto (-40), 3) := by decide +kernel
theorem dX0_waitsAt_53 : decode cX0_waitsAt 53 = .ok (.iload 4, 2) := by decide +kernel
theorem dX0_waitsAt_55 : decode cX0_waitsAt 55 = .ok (.ireturn, 1) := by decide +kernel
theorem dX0_leastLatest_0 : decode cX0_leastLatest 0 = .ok (.iconst (-1), 1) := by decide +kernel
theorem dX0_leastLatest_1 : decode cX0_leastLatest 1 = .ok (.istore_n 3, 1) := by decide +kernel
theorem dX0_leastLatest_2 : decode cX0_leastLatest 2 = .ok (.iload_n 1, 1) := by decide +kernel
theorem dX0_leastLatest_3 : decode cX0_leastLatest 3 = .ok (.iconst 0, 1) := by decide +kernel
theorem dX0_leastLatest_4 : decode cX0_leastLatest 4 = .ok (.invokestatic 9, 3) := by decide +kernel
theorem dX0_leastLatest_7 : decode cX0_leastLatest 7 = .ok (.istore 4, 2) := by decide +kernel
theorem dX0_leastLatest_9 : decode cX0_leastLatest 9 = .ok (.iload 4, 2) := by decide +kernel
theorem dX0_leastLatest_11 : decode cX0_leastLatest 11 = .ok (.iload_n 2, 1) := by decide +kernel
theorem dX0_leastLatest_12 : decode cX0_leastLatest 12 = .ok (.if_icmp .ge 42, 3) := by decide +kernel
theorem dX0_leastLatest_15 : decode cX0_leastLatest 15 = .ok (.iload 4, 2) := by decide +kernel
theorem dX0_leastLatest_17 : decode cX0_leastLatest 17 = .ok (.aload_n 0, 1) := by decide +kernel
theorem dX0_leastLatest_18 : decode cX0_leastLatest 18 = .ok (.getfield 30, 3) := by decide +kernel
theorem dX0_leastLatest_21 : decode cX0_leastLatest 21 = .ok (.if_icmp .ge 33, 3) := by decide +kernel
theorem dX0_leastLatest_24 : decode cX0_leastLatest 24 = .ok (.iload_n 3, 1) := by decide +kernel
theorem dX0_leastLatest_25 : decode cX0_leastLatest 25 = .ok (.iconst (-1), 1) := by decide +kernel
theorem dX0_leastLatest_26 : decode cX0_leastLatest 26 = .ok (.if_icmp .eq 14, 3) := by decide +kernel
theorem dX0_leastLatest_29 : decode cX0_leastLatest 29 = .ok (.aload_n 0, 1) := by decide +kernel
theorem dX0_leastLatest_30 : decode cX0_leastLatest 30 = .ok (.getfield 21, 3) := by decide +kernel
theorem dX0_leastLatest_33 : decode cX0_leastLatest 33 = .ok (.iload 4, 2) := by decide +kernel
theorem dX0_leastLatest_35 : decode cX0_leastLatest 35 = .ok (.iaload, 1) := by decide +kernel
theorem dX0_leastLatest_36 : decode cX0_leastLatest 36 = .ok (.iload_n 3, 1) := by decide +kernel
theorem dX0_leastLatest_37 : decode cX0_leastLatest 37 = .ok (.if_icmp .ge 11, 3) := by decide +kernel
theorem dX0_leastLatest_40 : decode cX0_leastLatest 40 = .ok (.aload_n 0, 1) := by decide +kernel
theorem dX0_leastLatest_41 : decode cX0_leastLatest 41 = .ok (.getfield 21, 3) := by decide +kernel
theorem dX0_leastLatest_44 : decode cX0_leastLatest 44 = .ok (.iload 4, 2) := by decide +kernel
theorem dX0_leastLatest_46 : decode cX0_leastLatest 46 = .ok (.iaload, 1) := by decide +kernel
theorem dX0_leastLatest_47 : decode cX0_leastLatest 47 = .ok (.istore_n 3, 1) := by decide +kernel
theorem dX0_leastLatest_48 : decode cX0_leastLatest 48 = .ok (.iinc 4 1, 3) := by decide +kernel
theorem dX0_leastLatest_51 : decode cX0_leastLatest 51 = .ok (.goto (-42), 3) := by decide +kernel
theorem dX0_leastLatest_54 : decode cX0_leastLatest 54 = .ok (.iload_n 3, 1) := by decide +kernel
theorem dX0_leastLatest_55 : decode cX0_leastLatest 55 = .ok (.ireturn, 1) := by decide +kernel
theorem dX0_wantWake_0 : decode cX0_wantWake 0 = .ok (.iload 4, 2) := by decide +kernel
theorem dX0_wantWake_2 : decode cX0_wantWake 2 = .ok (.iload 5, 2) := by decide +kernel
theorem dX0_wantWake_4 : decode cX0_wantWake 4 = .ok (.if_icmp .lt 5, 3) := by decide +kernel
theorem dX0_wantWake_7 : decode cX0_wantWake 7 = .ok (.iconst 0, 1) := by decide +kernel
theorem dX0_wantWake_8 : decode cX0_wantWake 8 = .ok (.ireturn, 1) := by decide +kernel
theorem dX0_wantWake_9 : decode cX0_wantWake 9 = .ok (.iload_n 1, 1) := by decide +kernel
theorem dX0_wantWake_10 : decode cX0_wantWake 10 = .ok (.ifCond .eq 15, 3) := by decide +kernel
theorem dX0_wantWake_13 : decode cX0_wantWake 13 = .ok (.aload_n 0, 1) := by decide +kernel
theorem dX0_wantWake_14 : decode cX0_wantWake 14 = .ok (.iload 4, 2) := by decide +kernel
theorem dX0_wantWake_16 : decode cX0_wantWake 16 = .ok (.iload 5, 2) := by decide +kernel
theorem dX0_wantWake_18 : decode cX0_wantWake 18 = .ok (.invokevirtual 67, 3) := by decide +kernel
theorem dX0_wantWake_21 : decode cX0_wantWake 21 = .ok (.iload_n 2, 1) := by decide +kernel
theorem dX0_wantWake_22 : decode cX0_wantWake 22 = .ok (.if_icmp .ne 5, 3) := by decide +kernel
theorem dX0_wantWake_25 : decode cX0_wantWake 25 = .ok (.iconst 1, 1) := by decide +kernel
theorem dX0_wantWake_26 : decode cX0_wantWake 26 = .ok (.ireturn, 1) := by decide +kernel
theorem dX0_wantWake_27 : decode cX0_wantWake 27 = .ok (.iload_n 1, 1) := by decide +kernel
theorem dX0_wantWake_28 : decode cX0_wantWake 28 = .ok (.iconst 2, 1) := by decide +kernel
theorem dX0_wantWake_29 : decode cX0_wantWake 29 = .ok (.if_icmp .ne 22, 3) := by decide +kernel
theorem dX0_wantWake_32 : decode cX0_wantWake 32 = .ok (.aload_n 0, 1) := by decide +kernel
theorem dX0_wantWake_33 : decode cX0_wantWake 33 = .ok (.iload_n 2, 1) := by decide +kernel
theorem dX0_wantWake_34 : decode cX0_wantWake 34 = .ok (.iconst 1, 1) := by decide +kernel
theorem dX0_wantWake_35 : decode cX0_wantWake 35 = .ok (.iadd, 1) := by decide +kernel
theorem dX0_wantWake_36 : decode cX0_wantWake 36 = .ok (.iload 4, 2) := by decide +kernel
theorem dX0_wantWake_38 : decode cX0_wantWake 38 = .ok (.iload 5, 2) := by decide +kernel
theorem dX0_wantWake_40 : decode cX0_wantWake 40 = .ok (.invokevirtual 70, 3) := by decide +kernel
theorem dX0_wantWake_43 : decode cX0_wantWake 43 = .ok (.iload_n 3, 1) := by decide +kernel
theorem dX0_wantWake_44 : decode cX0_wantWake 44 = .ok (.if_icmp .le 7, 3) := by decide +kernel
theorem dX0_wantWake_47 : decode cX0_wantWake 47 = .ok (.iconst 1, 1) := by decide +kernel
theorem dX0_wantWake_48 : decode cX0_wantWake 48 = .ok (.goto 4, 3) := by decide +kernel
theorem dX0_wantWake_51 : decode cX0_wantWake 51 = .ok (.iconst 0, 1) := by decide +kernel
theorem dX0_wantWake_52 : decode cX0_wantWake 52 = .ok (.ireturn, 1) := by decide +kernel
theorem dX1_init_0 : decode cX1_init 0 = .ok (.aload_n 0, 1) := by decide +kernel
theorem dX1_init_1 : decode cX1_init 1 = .ok (.invokespecial 3, 3) := by decide +kernel
theorem dX1_init_4 : decode cX1_init 4 = .ok (.aload_n 0, 1) := by decide +kernel
theorem dX1_init_5 : decode cX1_init 5 = .ok (.new 9, 3) := by decide +kernel
theorem dX1_init_8 : decode cX1_init 8 = .ok (.dup, 1) := by decide +kernel
theorem dX1_init_9 : decode cX1_init 9 = .ok (.sipush 300, 3) := by decide +kernel
theorem dX1_init_12 : decode cX1_init 12 = .ok (.invokespecial 11, 3) := by decide +kernel
theorem dX1_init_15 : decode cX1_init 15 = .ok (.putfield 14, 3) := by decide +kernel
theorem dX1_init_18 : decode cX1_init 18 = .ok (.aload_n 0, 1) := by decide +kernel
theorem dX1_init_19 : decode cX1_init 19 = .ok (.new 20, 3) := by decide +kernel
theorem dX1_init_22 : decode cX1_init 22 = .ok (.dup, 1) := by decide +kernel
theorem dX1_init_23 : decode cX1_init 23 = .ok (.sipush 300, 3) := by decide +kernel
theorem dX1_init_26 : decode cX1_init 26 = .ok (.invokespecial 22, 3) := by decide +kernel
theorem dX1_init_29 : decode cX1_init 29 = .ok (.putfield 23, 3) := by decide +kernel
theorem dX1_init_32 : decode cX1_init 32 = .ok (.aload_n 0, 1) := by decide +kernel
theorem dX1_init_33 : decode cX1_init 33 = .ok (.iconst (-1), 1) := by decide +kernel
theorem dX1_init_34 : decode cX1_init 34 = .ok (.putfield 27, 3) := by decide +kernel
theorem dX1_init_37 : decode cX1_init 37 = .ok (.aload_n 0, 1) := by decide +kernel
theorem dX1_init_38 : decode cX1_init 38 = .ok (.iconst 2, 1) := by decide +kernel
theorem dX1_init_39 : decode cX1_init 39 = .ok (.putfield 31, 3) := by decide +kernel
theorem dX1_init_42 : decode cX1_init 42 = .ok (.return_, 1) := by decide +kernel
theorem dX1_begin_0 : decode cX1_begin 0 = .ok (.aload_n 0, 1) := by decide +kernel
theorem dX1_begin_1 : decode cX1_begin 1 = .ok (.getfield 14, 3) := by decide +kernel
theorem dX1_begin_4 : decode cX1_begin 4 = .ok (.invokevirtual 34, 3) := by decide +kernel
theorem dX1_begin_7 : decode cX1_begin 7 = .ok (.aload_n 0, 1) := by decide +kernel
theorem dX1_begin_8 : decode cX1_begin 8 = .ok (.iconst 0, 1) := by decide +kernel
theorem dX1_begin_9 : decode cX1_begin 9 = .ok (.putfield 37, 3) := by decide +kernel
theorem dX1_begin_12 : decode cX1_begin 12 = .ok (.aload_n 0, 1) := by decide +kernel
theorem dX1_begin_13 : decode cX1_begin 13 = .ok (.iconst 0, 1) := by decide +kernel
theorem dX1_begin_14 : decode cX1_begin 14 = .ok (.putfield 41, 3) := by decide +kernel
theorem dX1_begin_17 : decode cX1_begin 17 = .ok (.aload_n 0, 1) := by decide +kernel
theorem dX1_begin_18 : decode cX1_begin 18 = .ok (.iconst 0, 1) := by decide +kernel
theorem dX1_begin_19 : decode cX1_begin 19 = .ok (.putfield 44, 3) := by decide +kernel
theorem dX1_begin_22 : decode cX1_begin 22 = .ok (.aload_n 0, 1) := by decide +kernel
theorem dX1_begin_23 : decode cX1_begin 23 = .ok (.iconst 0, 1) := by decide +kernel
theorem dX1_begin_24 : decode cX1_begin 24 = .ok (.putfield 47, 3) := by decide +kernel
theorem dX1_begin_27 : decode cX1_begin 27 = .ok (.aload_n 0, 1) := by decide +kernel
theorem dX1_begin_28 : decode cX1_begin 28 = .ok (.iconst 0, 1) := by decide +kernel
theorem dX1_begin_29 : decode cX1_begin 29 = .ok (.putfield 50, 3) := by decide +kernel
theorem dX1_begin_32 : decode cX1_begin 32 = .ok (.aload_n 0, 1) := by decide +kernel
theorem dX1_begin_33 : decode cX1_begin 33 = .ok (.iconst 0, 1) := by decide +kernel
theorem dX1_begin_34 : decode cX1_begin 34 = .ok (.putfield 53, 3) := by decide +kernel
theorem dX1_begin_37 : decode cX1_begin 37 = .ok (.aload_n 0, 1) := by decide +kernel
theorem dX1_begin_38 : decode cX1_begin 38 = .ok (.iconst (-1), 1) := by decide +kernel
theorem dX1_begin_39 : decode cX1_begin 39 = .ok (.putfield 27, 3) := by decide +kernel
theorem dX1_begin_42 : decode cX1_begin 42 = .ok (.aload_n 0, 1) := by decide +kernel
theorem dX1_begin_43 : decode cX1_begin 43 = .ok (.iconst 0, 1) := by decide +kernel
theorem dX1_begin_44 : decode cX1_begin 44 = .ok (.putfield 56, 3) := by decide +kernel
theorem dX1_begin_47 : decode cX1_begin 47 = .ok (.aload_n 0, 1) := by decide +kernel
theorem dX1_begin_48 : decode cX1_begin 48 = .ok (.iconst 2, 1) := by decide +kernel
theorem dX1_begin_49 : decode cX1_begin 49 = .ok (.putfield 31, 3) := by decide +kernel
theorem dX1_begin_52 : decode cX1_begin 52 = .ok (.aload_n 0, 1) := by decide +kernel
theorem dX1_begin_53 : decode cX1_begin 53 = .ok (.aload_n 1, 1) := by decide +kernel
theorem dX1_begin_54 : decode cX1_begin 54 = .ok (.invokevirtual 59, 3) := by decide +kernel
theorem dX1_begin_57 : decode cX1_begin 57 = .ok (.return_, 1) := by decide +kernel
theorem dX1_letCome_0 : decode cX1_letCome 0 = .ok (.aload_n 0, 1) := by decide +kernel
theorem dX1_letCome_1 : decode cX1_letCome 1 = .ok (.getfield 41, 3) := by decide +kernel
theorem dX1_letCome_4 : decode cX1_letCome 4 = .ok (.aload_n 1, 1) := by decide +kernel
theorem dX1_letCome_5 : decode cX1_letCome 5 = .ok (.invokevirtual 63, 3) := by decide +kernel
theorem dX1_letCome_8 : decode cX1_letCome 8 = .ok (.if_icmp .ge 71, 3) := by decide +kernel
theorem dX1_letCome_11 : decode cX1_letCome 11 = .ok (.aload_n 1, 1) := by decide +kernel
theorem dX1_letCome_12 : decode cX1_letCome 12 = .ok (.aload_n 0, 1) := by decide +kernel
theorem dX1_letCome_13 : decode cX1_letCome 13 = .ok (.getfield 41, 3) := by decide +kernel
theorem dX1_letCome_16 : decode cX1_letCome 16 = .ok (.invokevirtual 67, 3) := by decide +kernel
theorem dX1_letCome_19 : decode cX1_letCome 19 = .ok (.aload_n 0, 1) := by decide +kernel
theorem dX1_letCome_20 : decode cX1_letCome 20 = .ok (.getfield 56, 3) := by decide +kernel
theorem dX1_letCome_23 : decode cX1_letCome 23 = .ok (.if_icmp .ne 56, 3) := by decide +kernel
theorem dX1_letCome_26 : decode cX1_letCome 26 = .ok (.aload_n 0, 1) := by decide +kernel
theorem dX1_letCome_27 : decode cX1_letCome 27 = .ok (.getfield 14, 3) := by decide +kernel
theorem dX1_letCome_30 : decode cX1_letCome 30 = .ok (.aload_n 0, 1) := by decide +kernel
theorem dX1_letCome_31 : decode cX1_letCome 31 = .ok (.getfield 56, 3) := by decide +kernel
theorem dX1_letCome_34 : decode cX1_letCome 34 = .ok (.aload_n 1, 1) := by decide +kernel
theorem dX1_letCome_35 : decode cX1_letCome 35 = .ok (.aload_n 0, 1) := by decide +kernel
theorem dX1_letCome_36 : decode cX1_letCome 36 = .ok (.getfield 41, 3) := by decide +kernel
theorem dX1_letCome_39 : decode cX1_letCome 39 = .ok (.invokevirtual 71, 3) := by decide +kernel
theorem dX1_letCome_42 : decode cX1_letCome 42 = .ok (.aload_n 1, 1) := by decide +kernel
theorem dX1_letCome_43 : decode cX1_letCome 43 = .ok (.aload_n 0, 1) := by decide +kernel
theorem dX1_letCome_44 : decode cX1_letCome 44 = .ok (.getfield 41, 3) := by decide +kernel
theorem dX1_letCome_47 : decode cX1_letCome 47 = .ok (.invokevirtual 74, 3) := by decide +kernel
theorem dX1_letCome_50 : decode cX1_letCome 50 = .ok (.aload_n 1, 1) := by decide +kernel
theorem dX1_letCome_51 : decode cX1_letCome 51 = .ok (.aload_n 0, 1) := by decide +kernel
theorem dX1_letCome_52 : decode cX1_letCome 52 = .ok (.getfield 41, 3) := by decide +kernel
theorem dX1_letCome_55 : decode cX1_letCome 55 = .ok (.invokevirtual 77, 3) := by decide +kernel
theorem dX1_letCome_58 : decode cX1_letCome 58 = .ok (.invokevirtual 80, 3) := by decide +kernel
theorem dX1_letCome_61 : decode cX1_letCome 61 = .ok (.aload_n 0, 1) := by decide +kernel
theorem dX1_letCome_62 : decode cX1_letCome 62 = .ok (.iconst 0, 1) := by decide +kernel
theorem dX1_letCome_63 : decode cX1_letCome 63 = .ok (.putfield 37, 3) := by decide +kernel
theorem dX1_letCome_66 : decode cX1_letCome 66 = .ok (.aload_n 0, 1) := by decide +kernel
theorem dX1_letCome_67 : decode cX1_letCome 67 = .ok (.dup, 1) := by decide +kernel
theorem dX1_letCome_68 : decode cX1_letCome 68 = .ok (.getfield 41, 3) := by decide +kernel
theorem dX1_letCome_71 : decode cX1_letCome 71 = .ok (.iconst 1, 1) := by decide +kernel
theorem dX1_letCome_72 : decode cX1_letCome 72 = .ok (.iadd, 1) := by decide +kernel
theorem dX1_letCome_73 : decode cX1_letCome 73 = .ok (.putfield 41, 3) := by decide +kernel
theorem dX1_letCome_76 : decode cX1_letCome 76 = .ok (.goto (-76), 3) := by decide +kernel
theorem dX1_letCome_79 : decode cX1_letCome 79 = .ok (.return_, 1) := by decide +kernel
theorem dX1_passTick_0 : decode cX1_passTick 0 = .ok (.aload_n 0, 1) := by decide +kernel
theorem dX1_passTick_1 : decode cX1_passTick 1 = .ok (.getfield 14, 3) := by decide +kernel
theorem dX1_passTick_4 : decode cX1_passTick 4 = .ok (.aload_n 0, 1) := by decide +kernel
theorem dX1_passTick_5 : decode cX1_passTick 5 = .ok (.getfield 31, 3) := by decide +kernel
theorem dX1_passTick_8 : decode cX1_passTick 8 = .ok (.aload_n 0, 1) := by decide +kernel
theorem dX1_passTick_9 : decode cX1_passTick 9 = .ok (.getfield 56, 3) := by decide +kernel
theorem dX1_passTick_12 : decode cX1_passTick 12 = .ok (.iload_n 2, 1) := by decide +kernel
theorem dX1_passTick_13 : decode cX1_passTick 13 = .ok (.aload_n 0, 1) := by decide +kernel
theorem dX1_passTick_14 : decode cX1_passTick 14 = .ok (.getfield 47, 3) := by decide +kernel
theorem dX1_passTick_17 : decode cX1_passTick 17 = .ok (.aload_n 0, 1) := by decide +kernel
theorem dX1_passTick_18 : decode cX1_passTick 18 = .ok (.getfield 14, 3) := by decide +kernel
theorem dX1_passTick_21 : decode cX1_passTick 21 = .ok (.invokevirtual 63, 3) := by decide +kernel
theorem dX1_passTick_24 : decode cX1_passTick 24 = .ok (.invokevirtual 84, 3) := by decide +kernel
theorem dX1_passTick_27 : decode cX1_passTick 27 = .ok (.istore_n 3, 1) := by decide +kernel
theorem dX1_passTick_28 : decode cX1_passTick 28 = .ok (.iload_n 3, 1) := by decide +kernel
theorem dX1_passTick_29 : decode cX1_passTick 29 = .ok (.ifCond .eq 7, 3) := by decide +kernel
theorem dX1_passTick_32 : decode cX1_passTick 32 = .ok (.aload_n 0, 1) := by decide +kernel
theorem dX1_passTick_33 : decode cX1_passTick 33 = .ok (.invokevirtual 88, 3) := by decide +kernel
theorem dX1_passTick_36 : decode cX1_passTick 36 = .ok (.aload_n 0, 1) := by decide +kernel
theorem dX1_passTick_37 : decode cX1_passTick 37 = .ok (.dup, 1) := by decide +kernel
theorem dX1_passTick_38 : decode cX1_passTick 38 = .ok (.getfield 56, 3) := by decide +kernel
theorem dX1_passTick_41 : decode cX1_passTick 41 = .ok (.iconst 1, 1) := by decide +kernel
theorem dX1_passTick_42 : decode cX1_passTick 42 = .ok (.iadd, 1) := by decide +kernel
theorem dX1_passTick_43 : decode cX1_passTick 43 = .ok (.putfield 56, 3) := by decide +kernel
theorem dX1_passTick_46 : decode cX1_passTick 46 = .ok (.aload_n 0, 1) := by decide +kernel
theorem dX1_passTick_47 : decode cX1_passTick 47 = .ok (.aload_n 1, 1) := by decide +kernel
theorem dX1_passTick_48 : decode cX1_passTick 48 = .ok (.invokevirtual 59, 3) := by decide +kernel
theorem dX1_passTick_51 : decode cX1_passTick 51 = .ok (.iload_n 3, 1) := by decide +kernel
theorem dX1_passTick_52 : decode cX1_passTick 52 = .ok (.ireturn, 1) := by decide +kernel
theorem dX1_wakeHere_0 : decode cX1_wakeHere 0 = .ok (.aload_n 0, 1) := by decide +kernel
theorem dX1_wakeHere_1 : decode cX1_wakeHere 1 = .ok (.dup, 1) := by decide +kernel
theorem dX1_wakeHere_2 : decode cX1_wakeHere 2 = .ok (.getfield 53, 3) := by decide +kernel
theorem dX1_wakeHere_5 : decode cX1_wakeHere 5 = .ok (.aload_n 0, 1) := by decide +kernel
theorem dX1_wakeHere_6 : decode cX1_wakeHere 6 = .ok (.invokevirtual 91, 3) := by decide +kernel
theorem dX1_wakeHere_9 : decode cX1_wakeHere 9 = .ok (.iadd, 1) := by decide +kernel
theorem dX1_wakeHere_10 : decode cX1_wakeHere 10 = .ok (.putfield 53, 3) := by decide +kernel
theorem dX1_wakeHere_13 : decode cX1_wakeHere 13 = .ok (.aload_n 0, 1) := by decide +kernel
theorem dX1_wakeHere_14 : decode cX1_wakeHere 14 = .ok (.aload_n 0, 1) := by decide +kernel
theorem dX1_wakeHere_15 : decode cX1_wakeHere 15 = .ok (.getfield 14, 3) := by decide +kernel
theorem dX1_wakeHere_18 : decode cX1_wakeHere 18 = .ok (.invokevirtual 63, 3) := by decide +kernel
theorem dX1_wakeHere_21 : decode cX1_wakeHere 21 = .ok (.putfield 47, 3) := by decide +kernel
theorem dX1_wakeHere_24 : decode cX1_wakeHere 24 = .ok (.aload_n 0, 1) := by decide +kernel
theorem dX1_wakeHere_25 : decode cX1_wakeHere 25 = .ok (.dup, 1) := by decide +kernel
theorem dX1_wakeHere_26 : decode cX1_wakeHere 26 = .ok (.getfield 50, 3) := by decide +kernel
theorem dX1_wakeHere_29 : decode cX1_wakeHere 29 = .ok (.iconst 1, 1) := by decide +kernel
theorem dX1_wakeHere_30 : decode cX1_wakeHere 30 = .ok (.iadd, 1) := by decide +kernel
theorem dX1_wakeHere_31 : decode cX1_wakeHere 31 = .ok (.putfield 50, 3) := by decide +kernel
theorem dX1_wakeHere_34 : decode cX1_wakeHere 34 = .ok (.aload_n 0, 1) := by decide +kernel
theorem dX1_wakeHere_35 : decode cX1_wakeHere 35 = .ok (.aload_n 0, 1) := by decide +kernel
theorem dX1_wakeHere_36 : decode cX1_wakeHere 36 = .ok (.getfield 56, 3) := by decide +kernel
theorem dX1_wakeHere_39 : decode cX1_wakeHere 39 = .ok (.putfield 27, 3) := by decide +kernel
theorem dX1_wakeHere_42 : decode cX1_wakeHere 42 = .ok (.return_, 1) := by decide +kernel
theorem dX1_addRung_0 : decode cX1_addRung 0 = .ok (.aload_n 0, 1) := by decide +kernel
theorem dX1_addRung_1 : decode cX1_addRung 1 = .ok (.getfield 14, 3) := by decide +kernel
theorem dX1_addRung_4 : decode cX1_addRung 4 = .ok (.aload_n 0, 1) := by decide +kernel
theorem dX1_addRung_5 : decode cX1_addRung 5 = .ok (.getfield 56, 3) := by decide +kernel
theorem dX1_addRung_8 : decode cX1_addRung 8 = .ok (.iload_n 1, 1) := by decide +kernel
theorem dX1_addRung_9 : decode cX1_addRung 9 = .ok (.iload_n 2, 1) := by decide +kernel
theorem dX1_addRung_10 : decode cX1_addRung 10 = .ok (.iconst (-1), 1) := by decide +kernel
theorem dX1_addRung_11 : decode cX1_addRung 11 = .ok (.invokevirtual 80, 3) := by decide +kernel
theorem dX1_addRung_14 : decode cX1_addRung 14 = .ok (.aload_n 0, 1) := by decide +kernel
theorem dX1_addRung_15 : decode cX1_addRung 15 = .ok (.dup, 1) := by decide +kernel
theorem dX1_addRung_16 : decode cX1_addRung 16 = .ok (.getfield 44, 3) := by decide +kernel
theorem dX1_addRung_19 : decode cX1_addRung 19 = .ok (.iconst 1, 1) := by decide +kernel
theorem dX1_addRung_20 : decode cX1_addRung 20 = .ok (.iadd, 1) := by decide +kernel
theorem dX1_addRung_21 : decode cX1_addRung 21 = .ok (.putfield 44, 3) := by decide +kernel
theorem dX1_addRung_24 : decode cX1_addRung 24 = .ok (.aload_n 0, 1) := by decide +kernel
theorem dX1_addRung_25 : decode cX1_addRung 25 = .ok (.iconst 0, 1) := by decide +kernel
theorem dX1_addRung_26 : decode cX1_addRung 26 = .ok (.putfield 37, 3) := by decide +kernel
theorem dX1_addRung_29 : decode cX1_addRung 29 = .ok (.aload_n 0, 1) := by decide +kernel
theorem dX1_addRung_30 : decode cX1_addRung 30 = .ok (.getfield 27, 3) := by decide +kernel
theorem dX1_addRung_33 : decode cX1_addRung 33 = .ok (.aload_n 0, 1) := by decide +kernel
theorem dX1_addRung_34 : decode cX1_addRung 34 = .ok (.getfield 56, 3) := by decide +kernel
theorem dX1_addRung_37 : decode cX1_addRung 37 = .ok (.if_icmp .ne 14, 3) := by decide +kernel
theorem dX1_addRung_40 : decode cX1_addRung 40 = .ok (.aload_n 0, 1) := by decide +kernel
theorem dX1_addRung_41 : decode cX1_addRung 41 = .ok (.aload_n 0, 1) := by decide +kernel
theorem dX1_addRung_42 : decode cX1_addRung 42 = .ok (.getfield 14, 3) := by decide +kernel
theorem dX1_addRung_45 : decode cX1_addRung 45 = .ok (.invokevirtual 63, 3) := by decide +kernel
theorem dX1_addRung_48 : decode cX1_addRung 48 = .ok (.putfield 47, 3) := by decide +kernel
theorem dX1_addRung_51 : decode cX1_addRung 51 = .ok (.return_, 1) := by decide +kernel
theorem dX1_setRule_0 : decode cX1_setRule 0 = .ok (.aload_n 0, 1) := by decide +kernel
theorem dX1_setRule_1 : decode cX1_setRule 1 = .ok (.iload_n 1, 1) := by decide +kernel
theorem dX1_setRule_2 : decode cX1_setRule 2 = .ok (.putfield 31, 3) := by decide +kernel
theorem dX1_setRule_5 : decode cX1_setRule 5 = .ok (.return_, 1) := by decide +kernel
theorem dX1_ruleNow_0 : decode cX1_ruleNow 0 = .ok (.aload_n 0, 1) := by decide +kernel
theorem dX1_ruleNow_1 : decode cX1_ruleNow 1 = .ok (.getfield 31, 3) := by decide +kernel
theorem dX1_ruleNow_4 : decode cX1_ruleNow 4 = .ok (.ireturn, 1) := by decide +kernel
theorem dX1_tick_0 : decode cX1_tick 0 = .ok (.aload_n 0, 1) := by decide +kernel
theorem dX1_tick_1 : decode cX1_tick 1 = .ok (.getfield 56, 3) := by decide +kernel
theorem dX1_tick_4 : decode cX1_tick 4 = .ok (.ireturn, 1) := by decide +kernel
theorem dX1_rungCalls_0 : decode cX1_rungCalls 0 = .ok (.aload_n 0, 1) := by decide +kernel
theorem dX1_rungCalls_1 : decode cX1_rungCalls 1 = .ok (.getfield 44, 3) := by decide +kernel
theorem dX1_rungCalls_4 : decode cX1_rungCalls 4 = .ok (.ireturn, 1) := by decide +kernel
theorem dX1_callsCame_0 : decode cX1_callsCame 0 = .ok (.aload_n 0, 1) := by decide +kernel
theorem dX1_callsCame_1 : decode cX1_callsCame 1 = .ok (.getfield 14, 3) := by decide +kernel
theorem dX1_callsCame_4 : decode cX1_callsCame 4 = .ok (.invokevirtual 63, 3) := by decide +kernel
theorem dX1_callsCame_7 : decode cX1_callsCame 7 = .ok (.ireturn, 1) := by decide +kernel
theorem dX1_openCalls_0 : decode cX1_openCalls 0 = .ok (.aload_n 0, 1) := by decide +kernel
theorem dX1_openCalls_1 : decode cX1_openCalls 1 = .ok (.getfield 14, 3) := by decide +kernel
theorem dX1_openCalls_4 : decode cX1_openCalls 4 = .ok (.invokevirtual 63, 3) := by decide +kernel
theorem dX1_openCalls_7 : decode cX1_openCalls 7 = .ok (.aload_n 0, 1) := by decide +kernel
theorem dX1_openCalls_8 : decode cX1_openCalls 8 = .ok (.getfield 47, 3) := by decide +kernel
theorem dX1_openCalls_11 : decode cX1_openCalls 11 = .ok (.isub, 1) := by decide +kernel
theorem dX1_openCalls_12 : decode cX1_openCalls 12 = .ok (.ireturn, 1) := by decide +kernel
theorem dX1_wakeups_0 : decode cX1_wakeups 0 = .ok (.aload_n 0, 1) := by decide +kernel
theorem dX1_wakeups_1 : decode cX1_wakeups 1 = .ok (.getfield 50, 3) := by decide +kernel
theorem dX1_wakeups_4 : decode cX1_wakeups 4 = .ok (.ireturn, 1) := by decide +kernel
theorem dX1_latestWake_0 : decode cX1_latestWake 0 = .ok (.aload_n 0, 1) := by decide +kernel
theorem dX1_latestWake_1 : decode cX1_latestWake 1 = .ok (.getfield 27, 3) := by decide +kernel
theorem dX1_latestWake_4 : decode cX1_latestWake 4 = .ok (.ireturn, 1) := by decide +kernel
theorem dX1_costSoFar_0 : decode cX1_costSoFar 0 = .ok (.iload_n 1, 1) := by decide +kernel
theorem dX1_costSoFar_1 : decode cX1_costSoFar 1 = .ok (.aload_n 0, 1) := by decide +kernel
theorem dX1_costSoFar_2 : decode cX1_costSoFar 2 = .ok (.getfield 50, 3) := by decide +kernel
theorem dX1_costSoFar_5 : decode cX1_costSoFar 5 = .ok (.imul, 1) := by decide +kernel
theorem dX1_costSoFar_6 : decode cX1_costSoFar 6 = .ok (.aload_n 0, 1) := by decide +kernel
theorem dX1_costSoFar_7 : decode cX1_costSoFar 7 = .ok (.getfield 53, 3) := by decide +kernel
theorem dX1_costSoFar_10 : decode cX1_costSoFar 10 = .ok (.iadd, 1) := by decide +kernel
theorem dX1_costSoFar_11 : decode cX1_costSoFar 11 = .ok (.ireturn, 1) := by decide +kernel
theorem dX1_openWaits_0 : decode cX1_openWaits 0 = .ok (.aload_n 0, 1) := by decide +kernel
theorem dX1_openWaits_1 : decode cX1_openWaits 1 = .ok (.getfield 14, 3) := by decide +kernel
theorem dX1_openWaits_4 : decode cX1_openWaits 4 = .ok (.aload_n 0, 1) := by decide +kernel
theorem dX1_openWaits_5 : decode cX1_openWaits 5 = .ok (.getfield 56, 3) := by decide +kernel
theorem dX1_openWaits_8 : decode cX1_openWaits 8 = .ok (.aload_n 0, 1) := by decide +kernel
theorem dX1_openWaits_9 : decode cX1_openWaits 9 = .ok (.getfield 47, 3) := by decide +kernel
theorem dX1_openWaits_12 : decode cX1_openWaits 12 = .ok (.aload_n 0, 1) := by decide +kernel
theorem dX1_openWaits_13 : decode cX1_openWaits 13 = .ok (.getfield 14, 3) := by decide +kernel
theorem dX1_openWaits_16 : decode cX1_openWaits 16 = .ok (.invokevirtual 63, 3) := by decide +kernel
theorem dX1_openWaits_19 : decode cX1_openWaits 19 = .ok (.invokevirtual 94, 3) := by decide +kernel
theorem dX1_openWaits_22 : decode cX1_openWaits 22 = .ok (.ireturn, 1) := by decide +kernel
theorem dX1_openLatest_0 : decode cX1_openLatest 0 = .ok (.aload_n 0, 1) := by decide +kernel
theorem dX1_openLatest_1 : decode cX1_openLatest 1 = .ok (.getfield 14, 3) := by decide +kernel
theorem dX1_openLatest_4 : decode cX1_openLatest 4 = .ok (.aload_n 0, 1) := by decide +kernel
theorem dX1_openLatest_5 : decode cX1_openLatest 5 = .ok (.getfield 47, 3) := by decide +kernel
theorem dX1_openLatest_8 : decode cX1_openLatest 8 = .ok (.aload_n 0, 1) := by decide +kernel
theorem dX1_openLatest_9 : decode cX1_openLatest 9 = .ok (.getfield 14, 3) := by decide +kernel
theorem dX1_openLatest_12 : decode cX1_openLatest 12 = .ok (.invokevirtual 63, 3) := by decide +kernel
theorem dX1_openLatest_15 : decode cX1_openLatest 15 = .ok (.invokevirtual 98, 3) := by decide +kernel
theorem dX1_openLatest_18 : decode cX1_openLatest 18 = .ok (.ireturn, 1) := by decide +kernel
theorem dX1_hindsight_0 : decode cX1_hindsight 0 = .ok (.aload_n 0, 1) := by decide +kernel
theorem dX1_hindsight_1 : decode cX1_hindsight 1 = .ok (.getfield 37, 3) := by decide +kernel
theorem dX1_hindsight_4 : decode cX1_hindsight 4 = .ok (.ifCond .ne 22, 3) := by decide +kernel
theorem dX1_hindsight_7 : decode cX1_hindsight 7 = .ok (.aload_n 1, 1) := by decide +kernel
theorem dX1_hindsight_8 : decode cX1_hindsight 8 = .ok (.iconst 1, 1) := by decide +kernel
theorem dX1_hindsight_9 : decode cX1_hindsight 9 = .ok (.aload_n 0, 1) := by decide +kernel
theorem dX1_hindsight_10 : decode cX1_hindsight 10 = .ok (.getfield 14, 3) := by decide +kernel
theorem dX1_hindsight_13 : decode cX1_hindsight 13 = .ok (.aload_n 2, 1) := by decide +kernel
theorem dX1_hindsight_14 : decode cX1_hindsight 14 = .ok (.aload_n 0, 1) := by decide +kernel
theorem dX1_hindsight_15 : decode cX1_hindsight 15 = .ok (.getfield 23, 3) := by decide +kernel
theorem dX1_hindsight_18 : decode cX1_hindsight 18 = .ok (.invokevirtual 102, 3) := by decide +kernel
theorem dX1_hindsight_21 : decode cX1_hindsight 21 = .ok (.aload_n 0, 1) := by decide +kernel
theorem dX1_hindsight_22 : decode cX1_hindsight 22 = .ok (.iconst 1, 1) := by decide +kernel
theorem dX1_hindsight_23 : decode cX1_hindsight 23 = .ok (.putfield 37, 3) := by decide +kernel
theorem dX1_hindsight_26 : decode cX1_hindsight 26 = .ok (.aload_n 0, 1) := by decide +kernel
theorem dX1_hindsight_27 : decode cX1_hindsight 27 = .ok (.getfield 23, 3) := by decide +kernel
theorem dX1_hindsight_30 : decode cX1_hindsight 30 = .ok (.areturn, 1) := by decide +kernel
theorem dX1_costOf_0 : decode cX1_costOf 0 = .ok (.aload_n 1, 1) := by decide +kernel
theorem dX1_costOf_1 : decode cX1_costOf 1 = .ok (.aload_n 0, 1) := by decide +kernel
theorem dX1_costOf_2 : decode cX1_costOf 2 = .ok (.getfield 14, 3) := by decide +kernel
theorem dX1_costOf_5 : decode cX1_costOf 5 = .ok (.iload_n 2, 1) := by decide +kernel
theorem dX1_costOf_6 : decode cX1_costOf 6 = .ok (.invokevirtual 108, 3) := by decide +kernel
theorem dX1_costOf_9 : decode cX1_costOf 9 = .ok (.ireturn, 1) := by decide +kernel
theorem dX2_init_0 : decode cX2_init 0 = .ok (.aload_n 0, 1) := by decide +kernel
theorem dX2_init_1 : decode cX2_init 1 = .ok (.invokespecial 3, 3) := by decide +kernel
theorem dX2_init_4 : decode cX2_init 4 = .ok (.aload_n 0, 1) := by decide +kernel
theorem dX2_init_5 : decode cX2_init 5 = .ok (.sipush 302, 3) := by decide +kernel
theorem dX2_init_8 : decode cX2_init 8 = .ok (.newarray .int, 2) := by decide +kernel
theorem dX2_init_10 : decode cX2_init 10 = .ok (.putfield 9, 3) := by decide +kernel
theorem dX2_init_13 : decode cX2_init 13 = .ok (.aload_n 0, 1) := by decide +kernel
theorem dX2_init_14 : decode cX2_init 14 = .ok (.sipush 302, 3) := by decide +kernel
theorem dX2_init_17 : decode cX2_init 17 = .ok (.newarray .int, 2) := by decide +kernel
theorem dX2_init_19 : decode cX2_init 19 = .ok (.putfield 15, 3) := by decide +kernel
theorem dX2_init_22 : decode cX2_init 22 = .ok (.aload_n 0, 1) := by decide +kernel
theorem dX2_init_23 : decode cX2_init 23 = .ok (.sipush 302, 3) := by decide +kernel
theorem dX2_init_26 : decode cX2_init 26 = .ok (.newarray .int, 2) := by decide +kernel
theorem dX2_init_28 : decode cX2_init 28 = .ok (.putfield 18, 3) := by decide +kernel
theorem dX2_init_31 : decode cX2_init 31 = .ok (.return_, 1) := by decide +kernel
theorem dX2_make_0 : decode cX2_make 0 = .ok (.aload 4, 2) := by decide +kernel
theorem dX2_make_2 : decode cX2_make 2 = .ok (.invokevirtual 21, 3) := by decide +kernel
theorem dX2_make_5 : decode cX2_make 5 = .ok (.iload_n 1, 1) := by decide +kernel
theorem dX2_make_6 : decode cX2_make 6 = .ok (.tableswitch 61 0 2 #[26, 36, 36], 26) := by decide +kernel
theorem dX2_make_32 : decode cX2_make 32 = .ok (.aload_n 0, 1) := by decide +kernel
theorem dX2_make_33 : decode cX2_make 33 = .ok (.aload_n 2, 1) := by decide +kernel
theorem dX2_make_34 : decode cX2_make 34 = .ok (.aload 4, 2) := by decide +kernel
theorem dX2_make_36 : decode cX2_make 36 = .ok (.invokevirtual 26, 3) := by decide +kernel
theorem dX2_make_39 : decode cX2_make 39 = .ok (.goto 39, 3) := by decide +kernel
theorem dX2_make_42 : decode cX2_make 42 = .ok (.aload_n 0, 1) := by decide +kernel
theorem dX2_make_43 : decode cX2_make 43 = .ok (.aload_n 2, 1) := by decide +kernel
theorem dX2_make_44 : decode cX2_make 44 = .ok (.aload_n 3, 1) := by decide +kernel
theorem dX2_make_45 : decode cX2_make 45 = .ok (.iload_n 1, 1) := by decide +kernel
theorem dX2_make_46 : decode cX2_make 46 = .ok (.iconst 2, 1) := by decide +kernel
theorem dX2_make_47 : decode cX2_make 47 = .ok (.if_icmp .ne 7, 3) := by decide +kernel
theorem dX2_make_50 : decode cX2_make 50 = .ok (.iconst 1, 1) := by decide +kernel
theorem dX2_make_51 : decode cX2_make 51 = .ok (.goto 4, 3) := by decide +kernel
theorem dX2_make_54 : decode cX2_make 54 = .ok (.iconst 0, 1) := by decide +kernel
theorem dX2_make_55 : decode cX2_make 55 = .ok (.invokevirtual 30, 3) := by decide +kernel
theorem dX2_make_58 : decode cX2_make 58 = .ok (.aload_n 0, 1) := by decide +kernel
theorem dX2_make_59 : decode cX2_make 59 = .ok (.aload 4, 2) := by decide +kernel
theorem dX2_make_61 : decode cX2_make 61 = .ok (.invokevirtual 34, 3) := by decide +kernel
theorem dX2_make_64 : decode cX2_make 64 = .ok (.goto 14, 3) := by decide +kernel
theorem dX2_make_67 : decode cX2_make 67 = .ok (.aload_n 0, 1) := by decide +kernel
theorem dX2_make_68 : decode cX2_make 68 = .ok (.iload_n 1, 1) := by decide +kernel
theorem dX2_make_69 : decode cX2_make 69 = .ok (.iconst 3, 1) := by decide +kernel
theorem dX2_make_70 : decode cX2_make 70 = .ok (.isub, 1) := by decide +kernel
theorem dX2_make_71 : decode cX2_make 71 = .ok (.aload_n 2, 1) := by decide +kernel
theorem dX2_make_72 : decode cX2_make 72 = .ok (.aload_n 3, 1) := by decide +kernel
theorem dX2_make_73 : decode cX2_make 73 = .ok (.aload 4, 2) := by decide +kernel
theorem dX2_make_75 : decode cX2_make 75 = .ok (.invokevirtual 38, 3) := by decide +kernel
theorem dX2_make_78 : decode cX2_make 78 = .ok (.return_, 1) := by decide +kernel
theorem dX2_makeFewest_0 : decode cX2_makeFewest 0 = .ok (.aload_n 1, 1) := by decide +kernel
theorem dX2_makeFewest_1 : decode cX2_makeFewest 1 = .ok (.invokevirtual 42, 3) := by decide +kernel
theorem dX2_makeFewest_4 : decode cX2_makeFewest 4 = .ok (.ifCond .ne 4, 3) := by decide +kernel
theorem dX2_makeFewest_7 : decode cX2_makeFewest 7 = .ok (.return_, 1) := by decide +kernel
theorem dX2_makeFewest_8 : decode cX2_makeFewest 8 = .ok (.aload_n 1, 1) := by decide +kernel
theorem dX2_makeFewest_9 : decode cX2_makeFewest 9 = .ok (.iconst 0, 1) := by decide +kernel
theorem dX2_makeFewest_10 : decode cX2_makeFewest 10 = .ok (.invokevirtual 48, 3) := by decide +kernel
theorem dX2_makeFewest_13 : decode cX2_makeFewest 13 = .ok (.istore_n 3, 1) := by decide +kernel
theorem dX2_makeFewest_14 : decode cX2_makeFewest 14 = .ok (.iconst 1, 1) := by decide +kernel
theorem dX2_makeFewest_15 : decode cX2_makeFewest 15 = .ok (.istore 4, 2) := by decide +kernel
theorem dX2_makeFewest_17 : decode cX2_makeFewest 17 = .ok (.iload 4, 2) := by decide +kernel
theorem dX2_makeFewest_19 : decode cX2_makeFewest 19 = .ok (.aload_n 1, 1) := by decide +kernel
theorem dX2_makeFewest_20 : decode cX2_makeFewest 20 = .ok (.invokevirtual 42, 3) := by decide +kernel
theorem dX2_makeFewest_23 : decode cX2_makeFewest 23 = .ok (.if_icmp .ge 45, 3) := by decide +kernel
theorem dX2_makeFewest_26 : decode cX2_makeFewest 26 = .ok (.aload_n 1, 1) := by decide +kernel
theorem dX2_makeFewest_27 : decode cX2_makeFewest 27 = .ok (.iload 4, 2) := by decide +kernel
theorem dX2_makeFewest_29 : decode cX2_makeFewest 29 = .ok (.invokevirtual 48, 3) := by decide +kernel
theorem dX2_makeFewest_32 : decode cX2_makeFewest 32 = .ok (.istore 5, 2) := by decide +kernel
theorem dX2_makeFewest_34 : decode cX2_makeFewest 34 = .ok (.aload_n 1, 1) := by decide +kernel
theorem dX2_makeFewest_35 : decode cX2_makeFewest 35 = .ok (.iload 4, 2) := by decide +kernel
theorem dX2_makeFewest_37 : decode cX2_makeFewest 37 = .ok (.invokevirtual 52, 3) := by decide +kernel
theorem dX2_makeFewest_40 : decode cX2_makeFewest 40 = .ok (.iload_n 3, 1) := by decide +kernel
theorem dX2_makeFewest_41 : decode cX2_makeFewest 41 = .ok (.if_icmp .le 14, 3) := by decide +kernel
theorem dX2_makeFewest_44 : decode cX2_makeFewest 44 = .ok (.aload_n 2, 1) := by decide +kernel
theorem dX2_makeFewest_45 : decode cX2_makeFewest 45 = .ok (.iload_n 3, 1) := by decide +kernel
theorem dX2_makeFewest_46 : decode cX2_makeFewest 46 = .ok (.invokevirtual 55, 3) := by decide +kernel
theorem dX2_makeFewest_49 : decode cX2_makeFewest 49 = .ok (.iload 5, 2) := by decide +kernel
theorem dX2_makeFewest_51 : decode cX2_makeFewest 51 = .ok (.istore_n 3, 1) := by decide +kernel
theorem dX2_makeFewest_52 : decode cX2_makeFewest 52 = .ok (.goto 10, 3) := by decide +kernel
theorem dX2_makeFewest_55 : decode cX2_makeFewest 55 = .ok (.iload_n 3, 1) := by decide +kernel
theorem dX2_makeFewest_56 : decode cX2_makeFewest 56 = .ok (.iload 5, 2) := by decide +kernel
theorem dX2_makeFewest_58 : decode cX2_makeFewest 58 = .ok (.invokestatic 59, 3) := by decide +kernel
theorem dX2_makeFewest_61 : decode cX2_makeFewest 61 = .ok (.istore_n 3, 1) := by decide +kernel
theorem dX2_makeFewest_62 : decode cX2_makeFewest 62 = .ok (.iinc 4 1, 3) := by decide +kernel
theorem dX2_makeFewest_65 : decode cX2_makeFewest 65 = .ok (.goto (-48), 3) := by decide +kernel
theorem dX2_makeFewest_68 : decode cX2_makeFewest 68 = .ok (.aload_n 2, 1) := by decide +kernel
theorem dX2_makeFewest_69 : decode cX2_makeFewest 69 = .ok (.iload_n 3, 1) := by decide +kernel
theorem dX2_makeFewest_70 : decode cX2_makeFewest 70 = .ok (.invokevirtual 55, 3) := by decide +kernel
theorem dX2_makeFewest_73 : decode cX2_makeFewest 73 = .ok (.return_, 1) := by decide +kernel
theorem dX2_makeLive_0 : decode cX2_makeLive 0 = .ok (.iconst 0, 1) := by decide +kernel
theorem dX2_makeLive_1 : decode cX2_makeLive 1 = .ok (.istore 5, 2) := by decide +kernel
theorem dX2_makeLive_3 : decode cX2_makeLive 3 = .ok (.iconst 0, 1) := by decide +kernel
theorem dX2_makeLive_4 : decode cX2_makeLive 4 = .ok (.istore 6, 2) := by decide +kernel
theorem dX2_makeLive_6 : decode cX2_makeLive 6 = .ok (.iconst 0, 1) := by decide +kernel
theorem dX2_makeLive_7 : decode cX2_makeLive 7 = .ok (.istore 7, 2) := by decide +kernel
theorem dX2_makeLive_9 : decode cX2_makeLive 9 = .ok (.iload 7, 2) := by decide +kernel
theorem dX2_makeLive_11 : decode cX2_makeLive 11 = .ok (.aload_n 3, 1) := by decide +kernel
theorem dX2_makeLive_12 : decode cX2_makeLive 12 = .ok (.invokevirtual 65, 3) := by decide +kernel
theorem dX2_makeLive_15 : decode cX2_makeLive 15 = .ok (.if_icmp .gt 64, 3) := by decide +kernel
theorem dX2_makeLive_18 : decode cX2_makeLive 18 = .ok (.iload 6, 2) := by decide +kernel
theorem dX2_makeLive_20 : decode cX2_makeLive 20 = .ok (.aload_n 2, 1) := by decide +kernel
theorem dX2_makeLive_21 : decode cX2_makeLive 21 = .ok (.invokevirtual 42, 3) := by decide +kernel
theorem dX2_makeLive_24 : decode cX2_makeLive 24 = .ok (.if_icmp .ge 20, 3) := by decide +kernel
theorem dX2_makeLive_27 : decode cX2_makeLive 27 = .ok (.aload_n 2, 1) := by decide +kernel
theorem dX2_makeLive_28 : decode cX2_makeLive 28 = .ok (.iload 6, 2) := by decide +kernel
theorem dX2_makeLive_30 : decode cX2_makeLive 30 = .ok (.invokevirtual 52, 3) := by decide +kernel
theorem dX2_makeLive_33 : decode cX2_makeLive 33 = .ok (.iload 7, 2) := by decide +kernel
theorem dX2_makeLive_35 : decode cX2_makeLive 35 = .ok (.if_icmp .gt 9, 3) := by decide +kernel
theorem dX2_makeLive_38 : decode cX2_makeLive 38 = .ok (.iinc 6 1, 3) := by decide +kernel
theorem dX2_makeLive_41 : decode cX2_makeLive 41 = .ok (.goto (-23), 3) := by decide +kernel
theorem dX2_makeLive_44 : decode cX2_makeLive 44 = .ok (.aload_n 2, 1) := by decide +kernel
theorem dX2_makeLive_45 : decode cX2_makeLive 45 = .ok (.iload_n 1, 1) := by decide +kernel
theorem dX2_makeLive_46 : decode cX2_makeLive 46 = .ok (.iload 7, 2) := by decide +kernel
theorem dX2_makeLive_48 : decode cX2_makeLive 48 = .ok (.aload_n 3, 1) := by decide +kernel
theorem dX2_makeLive_49 : decode cX2_makeLive 49 = .ok (.invokevirtual 70, 3) := by decide +kernel
theorem dX2_makeLive_52 : decode cX2_makeLive 52 = .ok (.iload 5, 2) := by decide +kernel
theorem dX2_makeLive_54 : decode cX2_makeLive 54 = .ok (.iload 6, 2) := by decide +kernel
theorem dX2_makeLive_56 : decode cX2_makeLive 56 = .ok (.invokevirtual 73, 3) := by decide +kernel
theorem dX2_makeLive_59 : decode cX2_makeLive 59 = .ok (.ifCond .eq 14, 3) := by decide +kernel
theorem dX2_makeLive_62 : decode cX2_makeLive 62 = .ok (.aload 4, 2) := by decide +kernel
theorem dX2_makeLive_64 : decode cX2_makeLive 64 = .ok (.iload 7, 2) := by decide +kernel
theorem dX2_makeLive_66 : decode cX2_makeLive 66 = .ok (.invokevirtual 55, 3) := by decide +kernel
theorem dX2_makeLive_69 : decode cX2_makeLive 69 = .ok (.iload 6, 2) := by decide +kernel
theorem dX2_makeLive_71 : decode cX2_makeLive 71 = .ok (.istore 5, 2) := by decide +kernel
theorem dX2_makeLive_73 : decode cX2_makeLive 73 = .ok (.iinc 7 1, 3) := by decide +kernel
theorem dX2_makeLive_76 : decode cX2_makeLive 76 = .ok (.goto (-67), 3) := by decide +kernel
theorem dX2_makeLive_79 : decode cX2_makeLive 79 = .ok (.return_, 1) := by decide +kernel
theorem dX2_solve_0 : decode cX2_solve 0 = .ok (.aload_n 1, 1) := by decide +kernel
theorem dX2_solve_1 : decode cX2_solve 1 = .ok (.invokevirtual 42, 3) := by decide +kernel
theorem dX2_solve_4 : decode cX2_solve 4 = .ok (.istore 4, 2) := by decide +kernel
theorem dX2_solve_6 : decode cX2_solve 6 = .ok (.ldc 77, 2) := by decide +kernel
theorem dX2_solve_8 : decode cX2_solve 8 = .ok (.istore 5, 2) := by decide +kernel
theorem dX2_solve_10 : decode cX2_solve 10 = .ok (.aload_n 2, 1) := by decide +kernel
theorem dX2_solve_11 : decode cX2_solve 11 = .ok (.invokevirtual 65, 3) := by decide +kernel
theorem dX2_solve_14 : decode cX2_solve 14 = .ok (.sipush 300, 3) := by decide +kernel
theorem dX2_solve_17 : decode cX2_solve 17 = .ok (.invokestatic 59, 3) := by decide +kernel
theorem dX2_solve_20 : decode cX2_solve 20 = .ok (.istore 6, 2) := by decide +kernel
theorem dX2_solve_22 : decode cX2_solve 22 = .ok (.iload 6, 2) := by decide +kernel
theorem dX2_solve_24 : decode cX2_solve 24 = .ok (.iconst (-1), 1) := by decide +kernel
theorem dX2_solve_25 : decode cX2_solve 25 = .ok (.if_icmp .lt 113, 3) := by decide +kernel
theorem dX2_solve_28 : decode cX2_solve 28 = .ok (.iload 4, 2) := by decide +kernel
theorem dX2_solve_30 : decode cX2_solve 30 = .ok (.ifCond .le 35, 3) := by decide +kernel
theorem dX2_solve_33 : decode cX2_solve 33 = .ok (.aload_n 1, 1) := by decide +kernel
theorem dX2_solve_34 : decode cX2_solve 34 = .ok (.iload 4, 2) := by decide +kernel
theorem dX2_solve_36 : decode cX2_solve 36 = .ok (.iconst 1, 1) := by decide +kernel
theorem dX2_solve_37 : decode cX2_solve 37 = .ok (.isub, 1) := by decide +kernel
theorem dX2_solve_38 : decode cX2_solve 38 = .ok (.invokevirtual 52, 3) := by decide +kernel
theorem dX2_solve_41 : decode cX2_solve 41 = .ok (.iload 6, 2) := by decide +kernel
theorem dX2_solve_43 : decode cX2_solve 43 = .ok (.if_icmp .le 22, 3) := by decide +kernel
theorem dX2_solve_46 : decode cX2_solve 46 = .ok (.iinc 4 (-1), 3) := by decide +kernel
theorem dX2_solve_49 : decode cX2_solve 49 = .ok (.iload 5, 2) := by decide +kernel
theorem dX2_solve_51 : decode cX2_solve 51 = .ok (.aload_n 1, 1) := by decide +kernel
theorem dX2_solve_52 : decode cX2_solve 52 = .ok (.iload 4, 2) := by decide +kernel
theorem dX2_solve_54 : decode cX2_solve 54 = .ok (.invokevirtual 48, 3) := by decide +kernel
theorem dX2_solve_57 : decode cX2_solve 57 = .ok (.invokestatic 59, 3) := by decide +kernel
theorem dX2_solve_60 : decode cX2_solve 60 = .ok (.istore 5, 2) := by decide +kernel
theorem dX2_solve_62 : decode cX2_solve 62 = .ok (.goto (-34), 3) := by decide +kernel
theorem dX2_solve_65 : decode cX2_solve 65 = .ok (.aload_n 2, 1) := by decide +kernel
theorem dX2_solve_66 : decode cX2_solve 66 = .ok (.invokevirtual 70, 3) := by decide +kernel
theorem dX2_solve_69 : decode cX2_solve 69 = .ok (.istore 7, 2) := by decide +kernel
theorem dX2_solve_71 : decode cX2_solve 71 = .ok (.iload 4, 2) := by decide +kernel
theorem dX2_solve_73 : decode cX2_solve 73 = .ok (.aload_n 1, 1) := by decide +kernel
theorem dX2_solve_74 : decode cX2_solve 74 = .ok (.invokevirtual 42, 3) := by decide +kernel
theorem dX2_solve_77 : decode cX2_solve 77 = .ok (.if_icmp .ne 15, 3) := by decide +kernel
theorem dX2_solve_80 : decode cX2_solve 80 = .ok (.aload_n 0, 1) := by decide +kernel
theorem dX2_solve_81 : decode cX2_solve 81 = .ok (.iload 6, 2) := by decide +kernel
theorem dX2_solve_83 : decode cX2_solve 83 = .ok (.iconst 0, 1) := by decide +kernel
theorem dX2_solve_84 : decode cX2_solve 84 = .ok (.iconst 0, 1) := by decide +kernel
theorem dX2_solve_85 : decode cX2_solve 85 = .ok (.iconst (-1), 1) := by decide +kernel
theorem dX2_solve_86 : decode cX2_solve 86 = .ok (.invokevirtual 78, 3) := by decide +kernel
theorem dX2_solve_89 : decode cX2_solve 89 = .ok (.goto 43, 3) := by decide +kernel
theorem dX2_solve_92 : decode cX2_solve 92 = .ok (.iload_n 3, 1) := by decide +kernel
theorem dX2_solve_93 : decode cX2_solve 93 = .ok (.ifCond .eq 26, 3) := by decide +kernel
theorem dX2_solve_96 : decode cX2_solve 96 = .ok (.aload_n 0, 1) := by decide +kernel
theorem dX2_solve_97 : decode cX2_solve 97 = .ok (.iload 6, 2) := by decide +kernel
theorem dX2_solve_99 : decode cX2_solve 99 = .ok (.aload_n 1, 1) := by decide +kernel
theorem dX2_solve_100 : decode cX2_solve 100 = .ok (.iload 4, 2) := by decide +kernel
theorem dX2_solve_102 : decode cX2_solve 102 = .ok (.invokevirtual 52, 3) := by decide +kernel
theorem dX2_solve_105 : decode cX2_solve 105 = .ok (.iload 5, 2) := by decide +kernel
theorem dX2_solve_107 : decode cX2_solve 107 = .ok (.iload 7, 2) := by decide +kernel
theorem dX2_solve_109 : decode cX2_solve 109 = .ok (.aload_n 2, 1) := by decide +kernel
theorem dX2_solve_110 : decode cX2_solve 110 = .ok (.invokevirtual 82, 3) := by decide +kernel
theorem dX2_solve_113 : decode cX2_solve 113 = .ok (.invokevirtual 85, 3) := by decide +kernel
theorem dX2_solve_116 : decode cX2_solve 116 = .ok (.goto 16, 3) := by decide +kernel
theorem dX2_solve_119 : decode cX2_solve 119 = .ok (.aload_n 0, 1) := by decide +kernel
theorem dX2_solve_120 : decode cX2_solve 120 = .ok (.iload 6, 2) := by decide +kernel
theorem dX2_solve_122 : decode cX2_solve 122 = .ok (.aload_n 1, 1) := by decide +kernel
theorem dX2_solve_123 : decode cX2_solve 123 = .ok (.iload 4, 2) := by decide +kernel
theorem dX2_solve_125 : decode cX2_solve 125 = .ok (.iload 5, 2) := by decide +kernel
theorem dX2_solve_127 : decode cX2_solve 127 = .ok (.iload 7, 2) := by decide +kernel
theorem dX2_solve_129 : decode cX2_solve 129 = .ok (.invokevirtual 89, 3) := by decide +kernel
theorem dX2_solve_132 : decode cX2_solve 132 = .ok (.iinc 6 (-1), 3) := by decide +kernel
theorem dX2_solve_135 : decode cX2_solve 135 = .ok (.goto (-113), 3) := by decide +kernel
theorem dX2_solve_138 : decode cX2_solve 138 = .ok (.return_, 1) := by decide +kernel
theorem dX2_setBest_0 : decode cX2_setBest 0 = .ok (.iload_n 1, 1) := by decide +kernel
theorem dX2_setBest_1 : decode cX2_setBest 1 = .ok (.iconst 1, 1) := by decide +kernel
theorem dX2_setBest_2 : decode cX2_setBest 2 = .ok (.iadd, 1) := by decide +kernel
theorem dX2_setBest_3 : decode cX2_setBest 3 = .ok (.istore 5, 2) := by decide +kernel
theorem dX2_setBest_5 : decode cX2_setBest 5 = .ok (.iload 5, 2) := by decide +kernel
theorem dX2_setBest_7 : decode cX2_setBest 7 = .ok (.ifCond .lt 38, 3) := by decide +kernel
theorem dX2_setBest_10 : decode cX2_setBest 10 = .ok (.iload 5, 2) := by decide +kernel
theorem dX2_setBest_12 : decode cX2_setBest 12 = .ok (.aload_n 0, 1) := by decide +kernel
theorem dX2_setBest_13 : decode cX2_setBest 13 = .ok (.getfield 9, 3) := by decide +kernel
theorem dX2_setBest_16 : decode cX2_setBest 16 = .ok (.arraylength, 1) := by decide +kernel
theorem dX2_setBest_17 : decode cX2_setBest 17 = .ok (.if_icmp .ge 28, 3) := by decide +kernel
theorem dX2_setBest_20 : decode cX2_setBest 20 = .ok (.aload_n 0, 1) := by decide +kernel
theorem dX2_setBest_21 : decode cX2_setBest 21 = .ok (.getfield 9, 3) := by decide +kernel
theorem dX2_setBest_24 : decode cX2_setBest 24 = .ok (.iload 5, 2) := by decide +kernel
theorem dX2_setBest_26 : decode cX2_setBest 26 = .ok (.iload_n 2, 1) := by decide +kernel
theorem dX2_setBest_27 : decode cX2_setBest 27 = .ok (.iastore, 1) := by decide +kernel
theorem dX2_setBest_28 : decode cX2_setBest 28 = .ok (.aload_n 0, 1) := by decide +kernel
theorem dX2_setBest_29 : decode cX2_setBest 29 = .ok (.getfield 15, 3) := by decide +kernel
theorem dX2_setBest_32 : decode cX2_setBest 32 = .ok (.iload 5, 2) := by decide +kernel
theorem dX2_setBest_34 : decode cX2_setBest 34 = .ok (.iload_n 3, 1) := by decide +kernel
theorem dX2_setBest_35 : decode cX2_setBest 35 = .ok (.iastore, 1) := by decide +kernel
theorem dX2_setBest_36 : decode cX2_setBest 36 = .ok (.aload_n 0, 1) := by decide +kernel
theorem dX2_setBest_37 : decode cX2_setBest 37 = .ok (.getfield 18, 3) := by decide +kernel
theorem dX2_setBest_40 : decode cX2_setBest 40 = .ok (.iload 5, 2) := by decide +kernel
theorem dX2_setBest_42 : decode cX2_setBest 42 = .ok (.iload 4, 2) := by decide +kernel
theorem dX2_setBest_44 : decode cX2_setBest 44 = .ok (.iastore, 1) := by decide +kernel
theorem dX2_setBest_45 : decode cX2_setBest 45 = .ok (.return_, 1) := by decide +kernel
theorem dX2_solveEnergy_0 : decode cX2_solveEnergy 0 = .ok (.aload_n 0, 1) := by decide +kernel
theorem dX2_solveEnergy_1 : decode cX2_solveEnergy 1 = .ok (.iload_n 1, 1) := by decide +kernel
theorem dX2_solveEnergy_2 : decode cX2_solveEnergy 2 = .ok (.ldc 77, 2) := by decide +kernel
theorem dX2_solveEnergy_4 : decode cX2_solveEnergy 4 = .ok (.ldc 77, 2) := by decide +kernel
theorem dX2_solveEnergy_6 : decode cX2_solveEnergy 6 = .ok (.iconst (-1), 1) := by decide +kernel
theorem dX2_solveEnergy_7 : decode cX2_solveEnergy 7 = .ok (.invokevirtual 78, 3) := by decide +kernel
theorem dX2_solveEnergy_10 : decode cX2_solveEnergy 10 = .ok (.iload_n 2, 1) := by decide +kernel
theorem dX2_solveEnergy_11 : decode cX2_solveEnergy 11 = .ok (.istore 6, 2) := by decide +kernel
theorem dX2_solveEnergy_13 : decode cX2_solveEnergy 13 = .ok (.iload 6, 2) := by decide +kernel
theorem dX2_solveEnergy_15 : decode cX2_solveEnergy 15 = .ok (.iload_n 3, 1) := by decide +kernel
theorem dX2_solveEnergy_16 : decode cX2_solveEnergy 16 = .ok (.if_icmp .gt 50, 3) := by decide +kernel
theorem dX2_solveEnergy_19 : decode cX2_solveEnergy 19 = .ok (.iload 6, 2) := by decide +kernel
theorem dX2_solveEnergy_21 : decode cX2_solveEnergy 21 = .ok (.sipush 300, 3) := by decide +kernel
theorem dX2_solveEnergy_24 : decode cX2_solveEnergy 24 = .ok (.if_icmp .gt 42, 3) := by decide +kernel
theorem dX2_solveEnergy_27 : decode cX2_solveEnergy 27 = .ok (.iload 5, 2) := by decide +kernel
theorem dX2_solveEnergy_29 : decode cX2_solveEnergy 29 = .ok (.iload 6, 2) := by decide +kernel
theorem dX2_solveEnergy_31 : decode cX2_solveEnergy 31 = .ok (.iload_n 1, 1) := by decide +kernel
theorem dX2_solveEnergy_32 : decode cX2_solveEnergy 32 = .ok (.isub, 1) := by decide +kernel
theorem dX2_solveEnergy_33 : decode cX2_solveEnergy 33 = .ok (.imul, 1) := by decide +kernel
theorem dX2_solveEnergy_34 : decode cX2_solveEnergy 34 = .ok (.istore 7, 2) := by decide +kernel
theorem dX2_solveEnergy_36 : decode cX2_solveEnergy 36 = .ok (.aload_n 0, 1) := by decide +kernel
theorem dX2_solveEnergy_37 : decode cX2_solveEnergy 37 = .ok (.iload_n 1, 1) := by decide +kernel
theorem dX2_solveEnergy_38 : decode cX2_solveEnergy 38 = .ok (.iload 6, 2) := by decide +kernel
theorem dX2_solveEnergy_40 : decode cX2_solveEnergy 40 = .ok (.iload_n 1, 1) := by decide +kernel
theorem dX2_solveEnergy_41 : decode cX2_solveEnergy 41 = .ok (.iconst (-1), 1) := by decide +kernel
theorem dX2_solveEnergy_42 : decode cX2_solveEnergy 42 = .ok (.if_icmp .ne 8, 3) := by decide +kernel
theorem dX2_solveEnergy_45 : decode cX2_solveEnergy 45 = .ok (.iload 4, 2) := by decide +kernel
theorem dX2_solveEnergy_47 : decode cX2_solveEnergy 47 = .ok (.goto 10, 3) := by decide +kernel
theorem dX2_solveEnergy_50 : decode cX2_solveEnergy 50 = .ok (.iload 4, 2) := by decide +kernel
theorem dX2_solveEnergy_52 : decode cX2_solveEnergy 52 = .ok (.iload 7, 2) := by decide +kernel
theorem dX2_solveEnergy_54 : decode cX2_solveEnergy 54 = .ok (.invokestatic 59, 3) := by decide +kernel
theorem dX2_solveEnergy_57 : decode cX2_solveEnergy 57 = .ok (.invokevirtual 93, 3) := by decide +kernel
theorem dX2_solveEnergy_60 : decode cX2_solveEnergy 60 = .ok (.iinc 6 1, 3) := by decide +kernel
theorem dX2_solveEnergy_63 : decode cX2_solveEnergy 63 = .ok (.goto (-50), 3) := by decide +kernel
theorem dX2_solveEnergy_66 : decode cX2_solveEnergy 66 = .ok (.return_, 1) := by decide +kernel
theorem dX2_solveCost_0 : decode cX2_solveCost 0 = .ok (.aload_n 0, 1) := by decide +kernel
theorem dX2_solveCost_1 : decode cX2_solveCost 1 = .ok (.iload_n 1, 1) := by decide +kernel
theorem dX2_solveCost_2 : decode cX2_solveCost 2 = .ok (.ldc 77, 2) := by decide +kernel
theorem dX2_solveCost_4 : decode cX2_solveCost 4 = .ok (.ldc 77, 2) := by decide +kernel
theorem dX2_solveCost_6 : decode cX2_solveCost 6 = .ok (.iconst (-1), 1) := by decide +kernel
theorem dX2_solveCost_7 : decode cX2_solveCost 7 = .ok (.invokevirtual 78, 3) := by decide +kernel
theorem dX2_solveCost_10 : decode cX2_solveCost 10 = .ok (.iload_n 3, 1) := by decide +kernel
theorem dX2_solveCost_11 : decode cX2_solveCost 11 = .ok (.istore 6, 2) := by decide +kernel
theorem dX2_solveCost_13 : decode cX2_solveCost 13 = .ok (.iconst 0, 1) := by decide +kernel
theorem dX2_solveCost_14 : decode cX2_solveCost 14 = .ok (.istore 7, 2) := by decide +kernel
theorem dX2_solveCost_16 : decode cX2_solveCost 16 = .ok (.iconst 0, 1) := by decide +kernel
theorem dX2_solveCost_17 : decode cX2_solveCost 17 = .ok (.istore 8, 2) := by decide +kernel
theorem dX2_solveCost_19 : decode cX2_solveCost 19 = .ok (.aload_n 2, 1) := by decide +kernel
theorem dX2_solveCost_20 : decode cX2_solveCost 20 = .ok (.iload_n 3, 1) := by decide +kernel
theorem dX2_solveCost_21 : decode cX2_solveCost 21 = .ok (.invokevirtual 52, 3) := by decide +kernel
theorem dX2_solveCost_24 : decode cX2_solveCost 24 = .ok (.istore 9, 2) := by decide +kernel
theorem dX2_solveCost_26 : decode cX2_solveCost 26 = .ok (.iload 9, 2) := by decide +kernel
theorem dX2_solveCost_28 : decode cX2_solveCost 28 = .ok (.iload 4, 2) := by decide +kernel
theorem dX2_solveCost_30 : decode cX2_solveCost 30 = .ok (.if_icmp .gt 73, 3) := by decide +kernel
theorem dX2_solveCost_33 : decode cX2_solveCost 33 = .ok (.iload 9, 2) := by decide +kernel
theorem dX2_solveCost_35 : decode cX2_solveCost 35 = .ok (.sipush 300, 3) := by decide +kernel
theorem dX2_solveCost_38 : decode cX2_solveCost 38 = .ok (.if_icmp .gt 65, 3) := by decide +kernel
theorem dX2_solveCost_41 : decode cX2_solveCost 41 = .ok (.iload 8, 2) := by decide +kernel
theorem dX2_solveCost_43 : decode cX2_solveCost 43 = .ok (.iload 7, 2) := by decide +kernel
theorem dX2_solveCost_45 : decode cX2_solveCost 45 = .ok (.iadd, 1) := by decide +kernel
theorem dX2_solveCost_46 : decode cX2_solveCost 46 = .ok (.istore 8, 2) := by decide +kernel
theorem dX2_solveCost_48 : decode cX2_solveCost 48 = .ok (.iload 6, 2) := by decide +kernel
theorem dX2_solveCost_50 : decode cX2_solveCost 50 = .ok (.aload_n 2, 1) := by decide +kernel
theorem dX2_solveCost_51 : decode cX2_solveCost 51 = .ok (.invokevirtual 42, 3) := by decide +kernel
theorem dX2_solveCost_54 : decode cX2_solveCost 54 = .ok (.if_icmp .ge 31, 3) := by decide +kernel
theorem dX2_solveCost_57 : decode cX2_solveCost 57 = .ok (.aload_n 2, 1) := by decide +kernel
theorem dX2_solveCost_58 : decode cX2_solveCost 58 = .ok (.iload 6, 2) := by decide +kernel
theorem dX2_solveCost_60 : decode cX2_solveCost 60 = .ok (.invokevirtual 52, 3) := by decide +kernel
theorem dX2_solveCost_63 : decode cX2_solveCost 63 = .ok (.iload 9, 2) := by decide +kernel
theorem dX2_solveCost_65 : decode cX2_solveCost 65 = .ok (.if_icmp .ne 20, 3) := by decide +kernel
theorem dX2_solveCost_68 : decode cX2_solveCost 68 = .ok (.iload 7, 2) := by decide +kernel
theorem dX2_solveCost_70 : decode cX2_solveCost 70 = .ok (.aload_n 2, 1) := by decide +kernel
theorem dX2_solveCost_71 : decode cX2_solveCost 71 = .ok (.iload 6, 2) := by decide +kernel
theorem dX2_solveCost_73 : decode cX2_solveCost 73 = .ok (.invokevirtual 97, 3) := by decide +kernel
theorem dX2_solveCost_76 : decode cX2_solveCost 76 = .ok (.iadd, 1) := by decide +kernel
theorem dX2_solveCost_77 : decode cX2_solveCost 77 = .ok (.istore 7, 2) := by decide +kernel
theorem dX2_solveCost_79 : decode cX2_solveCost 79 = .ok (.iinc 6 1, 3) := by decide +kernel
theorem dX2_solveCost_82 : decode cX2_solveCost 82 = .ok (.goto (-34), 3) := by decide +kernel
theorem dX2_solveCost_85 : decode cX2_solveCost 85 = .ok (.aload_n 0, 1) := by decide +kernel
theorem dX2_solveCost_86 : decode cX2_solveCost 86 = .ok (.iload_n 1, 1) := by decide +kernel
theorem dX2_solveCost_87 : decode cX2_solveCost 87 = .ok (.iload 9, 2) := by decide +kernel
theorem dX2_solveCost_89 : decode cX2_solveCost 89 = .ok (.iload 5, 2) := by decide +kernel
theorem dX2_solveCost_91 : decode cX2_solveCost 91 = .ok (.iload 8, 2) := by decide +kernel
theorem dX2_solveCost_93 : decode cX2_solveCost 93 = .ok (.iadd, 1) := by decide +kernel
theorem dX2_solveCost_94 : decode cX2_solveCost 94 = .ok (.invokevirtual 93, 3) := by decide +kernel
theorem dX2_solveCost_97 : decode cX2_solveCost 97 = .ok (.iinc 9 1, 3) := by decide +kernel
theorem dX2_solveCost_100 : decode cX2_solveCost 100 = .ok (.goto (-74), 3) := by decide +kernel
theorem dX2_solveCost_103 : decode cX2_solveCost 103 = .ok (.return_, 1) := by decide +kernel
theorem dX2_tryNext_0 : decode cX2_tryNext 0 = .ok (.iload_n 1, 1) := by decide +kernel
theorem dX2_tryNext_1 : decode cX2_tryNext 1 = .ok (.iconst 1, 1) := by decide +kernel
theorem dX2_tryNext_2 : decode cX2_tryNext 2 = .ok (.iadd, 1) := by decide +kernel
theorem dX2_tryNext_3 : decode cX2_tryNext 3 = .ok (.istore 4, 2) := by decide +kernel
theorem dX2_tryNext_5 : decode cX2_tryNext 5 = .ok (.iload_n 2, 1) := by decide +kernel
theorem dX2_tryNext_6 : decode cX2_tryNext 6 = .ok (.iconst 1, 1) := by decide +kernel
theorem dX2_tryNext_7 : decode cX2_tryNext 7 = .ok (.iadd, 1) := by decide +kernel
theorem dX2_tryNext_8 : decode cX2_tryNext 8 = .ok (.istore 5, 2) := by decide +kernel
theorem dX2_tryNext_10 : decode cX2_tryNext 10 = .ok (.iload 4, 2) := by decide +kernel
theorem dX2_tryNext_12 : decode cX2_tryNext 12 = .ok (.ifCond .lt 28, 3) := by decide +kernel
theorem dX2_tryNext_15 : decode cX2_tryNext 15 = .ok (.iload 4, 2) := by decide +kernel
theorem dX2_tryNext_17 : decode cX2_tryNext 17 = .ok (.aload_n 0, 1) := by decide +kernel
theorem dX2_tryNext_18 : decode cX2_tryNext 18 = .ok (.getfield 9, 3) := by decide +kernel
theorem dX2_tryNext_21 : decode cX2_tryNext 21 = .ok (.arraylength, 1) := by decide +kernel
theorem dX2_tryNext_22 : decode cX2_tryNext 22 = .ok (.if_icmp .ge 18, 3) := by decide +kernel
theorem dX2_tryNext_25 : decode cX2_tryNext 25 = .ok (.iload 5, 2) := by decide +kernel
theorem dX2_tryNext_27 : decode cX2_tryNext 27 = .ok (.ifCond .lt 13, 3) := by decide +kernel
theorem dX2_tryNext_30 : decode cX2_tryNext 30 = .ok (.iload 5, 2) := by decide +kernel
theorem dX2_tryNext_32 : decode cX2_tryNext 32 = .ok (.aload_n 0, 1) := by decide +kernel
theorem dX2_tryNext_33 : decode cX2_tryNext 33 = .ok (.getfield 9, 3) := by decide +kernel
theorem dX2_tryNext_36 : decode cX2_tryNext 36 = .ok (.arraylength, 1) := by decide +kernel
theorem dX2_tryNext_37 : decode cX2_tryNext 37 = .ok (.if_icmp .lt 4, 3) := by decide +kernel
theorem dX2_tryNext_40 : decode cX2_tryNext 40 = .ok (.return_, 1) := by decide +kernel
theorem dX2_tryNext_41 : decode cX2_tryNext 41 = .ok (.iload_n 3, 1) := by decide +kernel
theorem dX2_tryNext_42 : decode cX2_tryNext 42 = .ok (.aload_n 0, 1) := by decide +kernel
theorem dX2_tryNext_43 : decode cX2_tryNext 43 = .ok (.getfield 9, 3) := by decide +kernel
theorem dX2_tryNext_46 : decode cX2_tryNext 46 = .ok (.iload 5, 2) := by decide +kernel
theorem dX2_tryNext_48 : decode cX2_tryNext 48 = .ok (.iaload, 1) := by decide +kernel
theorem dX2_tryNext_49 : decode cX2_tryNext 49 = .ok (.iadd, 1) := by decide +kernel
theorem dX2_tryNext_50 : decode cX2_tryNext 50 = .ok (.istore 6, 2) := by decide +kernel
theorem dX2_tryNext_52 : decode cX2_tryNext 52 = .ok (.iconst 1, 1) := by decide +kernel
theorem dX2_tryNext_53 : decode cX2_tryNext 53 = .ok (.aload_n 0, 1) := by decide +kernel
theorem dX2_tryNext_54 : decode cX2_tryNext 54 = .ok (.getfield 15, 3) := by decide +kernel
theorem dX2_tryNext_57 : decode cX2_tryNext 57 = .ok (.iload 5, 2) := by decide +kernel
theorem dX2_tryNext_59 : decode cX2_tryNext 59 = .ok (.iaload, 1) := by decide +kernel
theorem dX2_tryNext_60 : decode cX2_tryNext 60 = .ok (.iadd, 1) := by decide +kernel
theorem dX2_tryNext_61 : decode cX2_tryNext 61 = .ok (.istore 7, 2) := by decide +kernel
theorem dX2_tryNext_63 : decode cX2_tryNext 63 = .ok (.iload 6, 2) := by decide +kernel
theorem dX2_tryNext_65 : decode cX2_tryNext 65 = .ok (.aload_n 0, 1) := by decide +kernel
theorem dX2_tryNext_66 : decode cX2_tryNext 66 = .ok (.getfield 9, 3) := by decide +kernel
theorem dX2_tryNext_69 : decode cX2_tryNext 69 = .ok (.iload 4, 2) := by decide +kernel
theorem dX2_tryNext_71 : decode cX2_tryNext 71 = .ok (.iaload, 1) := by decide +kernel
theorem dX2_tryNext_72 : decode cX2_tryNext 72 = .ok (.if_icmp .lt 27, 3) := by decide +kernel
theorem dX2_tryNext_75 : decode cX2_tryNext 75 = .ok (.iload 6, 2) := by decide +kernel
theorem dX2_tryNext_77 : decode cX2_tryNext 77 = .ok (.aload_n 0, 1) := by decide +kernel
theorem dX2_tryNext_78 : decode cX2_tryNext 78 = .ok (.getfield 9, 3) := by decide +kernel
theorem dX2_tryNext_81 : decode cX2_tryNext 81 = .ok (.iload 4, 2) := by decide +kernel
theorem dX2_tryNext_83 : decode cX2_tryNext 83 = .ok (.iaload, 1) := by decide +kernel
theorem dX2_tryNext_84 : decode cX2_tryNext 84 = .ok (.if_icmp .ne 25, 3) := by decide +kernel
theorem dX2_tryNext_87 : decode cX2_tryNext 87 = .ok (.iload 7, 2) := by decide +kernel
theorem dX2_tryNext_89 : decode cX2_tryNext 89 = .ok (.aload_n 0, 1) := by decide +kernel
theorem dX2_tryNext_90 : decode cX2_tryNext 90 = .ok (.getfield 15, 3) := by decide +kernel
theorem dX2_tryNext_93 : decode cX2_tryNext 93 = .ok (.iload 4, 2) := by decide +kernel
theorem dX2_tryNext_95 : decode cX2_tryNext 95 = .ok (.iaload, 1) := by decide +kernel
theorem dX2_tryNext_96 : decode cX2_tryNext 96 = .ok (.if_icmp .ge 13, 3) := by decide +kernel
theorem dX2_tryNext_99 : decode cX2_tryNext 99 = .ok (.aload_n 0, 1) := by decide +kernel
theorem dX2_tryNext_100 : decode cX2_tryNext 100 = .ok (.iload_n 1, 1) := by decide +kernel
theorem dX2_tryNext_101 : decode cX2_tryNext 101 = .ok (.iload 6, 2) := by decide +kernel
theorem dX2_tryNext_103 : decode cX2_tryNext 103 = .ok (.iload 7, 2) := by decide +kernel
theorem dX2_tryNext_105 : decode cX2_tryNext 105 = .ok (.iload_n 2, 1) := by decide +kernel
theorem dX2_tryNext_106 : decode cX2_tryNext 106 = .ok (.invokevirtual 78, 3) := by decide +kernel
theorem dX2_tryNext_109 : decode cX2_tryNext 109 = .ok (.return_, 1) := by decide +kernel
theorem dX2_follow_0 : decode cX2_follow 0 = .ok (.iconst 0, 1) := by decide +kernel
theorem dX2_follow_1 : decode cX2_follow 1 = .ok (.istore_n 2, 1) := by decide +kernel
theorem dX2_follow_2 : decode cX2_follow 2 = .ok (.iconst 0, 1) := by decide +kernel
theorem dX2_follow_3 : decode cX2_follow 3 = .ok (.istore_n 3, 1) := by decide +kernel
theorem dX2_follow_4 : decode cX2_follow 4 = .ok (.iload_n 3, 1) := by decide +kernel
theorem dX2_follow_5 : decode cX2_follow 5 = .ok (.aload_n 0, 1) := by decide +kernel
theorem dX2_follow_6 : decode cX2_follow 6 = .ok (.getfield 18, 3) := by decide +kernel
theorem dX2_follow_9 : decode cX2_follow 9 = .ok (.arraylength, 1) := by decide +kernel
theorem dX2_follow_10 : decode cX2_follow 10 = .ok (.if_icmp .ge 48, 3) := by decide +kernel
theorem dX2_follow_13 : decode cX2_follow 13 = .ok (.iload_n 2, 1) := by decide +kernel
theorem dX2_follow_14 : decode cX2_follow 14 = .ok (.ifCond .lt 44, 3) := by decide +kernel
theorem dX2_follow_17 : decode cX2_follow 17 = .ok (.iload_n 2, 1) := by decide +kernel
theorem dX2_follow_18 : decode cX2_follow 18 = .ok (.aload_n 0, 1) := by decide +kernel
theorem dX2_follow_19 : decode cX2_follow 19 = .ok (.getfield 18, 3) := by decide +kernel
theorem dX2_follow_22 : decode cX2_follow 22 = .ok (.arraylength, 1) := by decide +kernel
theorem dX2_follow_23 : decode cX2_follow 23 = .ok (.if_icmp .ge 35, 3) := by decide +kernel
theorem dX2_follow_26 : decode cX2_follow 26 = .ok (.aload_n 0, 1) := by decide +kernel
theorem dX2_follow_27 : decode cX2_follow 27 = .ok (.getfield 18, 3) := by decide +kernel
theorem dX2_follow_30 : decode cX2_follow 30 = .ok (.iload_n 2, 1) := by decide +kernel
theorem dX2_follow_31 : decode cX2_follow 31 = .ok (.iaload, 1) := by decide +kernel
theorem dX2_follow_32 : decode cX2_follow 32 = .ok (.istore 4, 2) := by decide +kernel
theorem dX2_follow_34 : decode cX2_follow 34 = .ok (.iload 4, 2) := by decide +kernel
theorem dX2_follow_36 : decode cX2_follow 36 = .ok (.iconst (-1), 1) := by decide +kernel
theorem dX2_follow_37 : decode cX2_follow 37 = .ok (.if_icmp .ne 4, 3) := by decide +kernel
theorem dX2_follow_40 : decode cX2_follow 40 = .ok (.return_, 1) := by decide +kernel
theorem dX2_follow_41 : decode cX2_follow 41 = .ok (.aload_n 1, 1) := by decide +kernel
theorem dX2_follow_42 : decode cX2_follow 42 = .ok (.iload 4, 2) := by decide +kernel
theorem dX2_follow_44 : decode cX2_follow 44 = .ok (.invokevirtual 55, 3) := by decide +kernel
theorem dX2_follow_47 : decode cX2_follow 47 = .ok (.iload 4, 2) := by decide +kernel
theorem dX2_follow_49 : decode cX2_follow 49 = .ok (.iconst 1, 1) := by decide +kernel
theorem dX2_follow_50 : decode cX2_follow 50 = .ok (.iadd, 1) := by decide +kernel
theorem dX2_follow_51 : decode cX2_follow 51 = .ok (.istore_n 2, 1) := by decide +kernel
theorem dX2_follow_52 : decode cX2_follow 52 = .ok (.iinc 3 1, 3) := by decide +kernel
theorem dX2_follow_55 : decode cX2_follow 55 = .ok (.goto (-51), 3) := by decide +kernel
theorem dX2_follow_58 : decode cX2_follow 58 = .ok (.return_, 1) := by decide +kernel
theorem dX3_init_0 : decode cX3_init 0 = .ok (.aload_n 0, 1) := by decide +kernel
theorem dX3_init_1 : decode cX3_init 1 = .ok (.invokespecial 3, 3) := by decide +kernel
theorem dX3_init_4 : decode cX3_init 4 = .ok (.aload_n 0, 1) := by decide +kernel
theorem dX3_init_5 : decode cX3_init 5 = .ok (.new 9, 3) := by decide +kernel
theorem dX3_init_8 : decode cX3_init 8 = .ok (.dup, 1) := by decide +kernel
theorem dX3_init_9 : decode cX3_init 9 = .ok (.invokespecial 11, 3) := by decide +kernel
theorem dX3_init_12 : decode cX3_init 12 = .ok (.putfield 12, 3) := by decide +kernel
theorem dX3_init_15 : decode cX3_init 15 = .ok (.aload_n 0, 1) := by decide +kernel
theorem dX3_init_16 : decode cX3_init 16 = .ok (.iconst (-1), 1) := by decide +kernel
theorem dX3_init_17 : decode cX3_init 17 = .ok (.putfield 18, 3) := by decide +kernel
theorem dX3_init_20 : decode cX3_init 20 = .ok (.return_, 1) := by decide +kernel
theorem dX3_tape_0 : decode cX3_tape 0 = .ok (.aload_n 0, 1) := by decide +kernel
theorem dX3_tape_1 : decode cX3_tape 1 = .ok (.getfield 12, 3) := by decide +kernel
theorem dX3_tape_4 : decode cX3_tape 4 = .ok (.areturn, 1) := by decide +kernel
theorem dX3_latestFault_0 : decode cX3_latestFault 0 = .ok (.aload_n 0, 1) := by decide +kernel
theorem dX3_latestFault_1 : decode cX3_latestFault 1 = .ok (.getfield 22, 3) := by decide +kernel
theorem dX3_latestFault_4 : decode cX3_latestFault 4 = .ok (.ireturn, 1) := by decide +kernel
theorem dX3_faultPlace_0 : decode cX3_faultPlace 0 = .ok (.aload_n 0, 1) := by decide +kernel
theorem dX3_faultPlace_1 : decode cX3_faultPlace 1 = .ok (.getfield 18, 3) := by decide +kernel
theorem dX3_faultPlace_4 : decode cX3_faultPlace 4 = .ok (.ireturn, 1) := by decide +kernel
theorem dX3_read_0 : decode cX3_read 0 = .ok (.aload_n 0, 1) := by decide +kernel
theorem dX3_read_1 : decode cX3_read 1 = .ok (.iconst 0, 1) := by decide +kernel
theorem dX3_read_2 : decode cX3_read 2 = .ok (.putfield 22, 3) := by decide +kernel
theorem dX3_read_5 : decode cX3_read 5 = .ok (.aload_n 0, 1) := by decide +kernel
theorem dX3_read_6 : decode cX3_read 6 = .ok (.iconst (-1), 1) := by decide +kernel
theorem dX3_read_7 : decode cX3_read 7 = .ok (.putfield 18, 3) := by decide +kernel
theorem dX3_read_10 : decode cX3_read 10 = .ok (.aload_n 1, 1) := by decide +kernel
theorem dX3_read_11 : decode cX3_read 11 = .ok (.invokevirtual 25, 3) := by decide +kernel
theorem dX3_read_14 : decode cX3_read 14 = .ok (.aload_n 0, 1) := by decide +kernel
theorem dX3_read_15 : decode cX3_read 15 = .ok (.getfield 12, 3) := by decide +kernel
theorem dX3_read_18 : decode cX3_read 18 = .ok (.invokevirtual 30, 3) := by decide +kernel
theorem dX3_read_21 : decode cX3_read 21 = .ok (.iconst 0, 1) := by decide +kernel
theorem dX3_read_22 : decode cX3_read 22 = .ok (.istore_n 2, 1) := by decide +kernel
theorem dX3_read_23 : decode cX3_read 23 = .ok (.iload_n 2, 1) := by decide +kernel
theorem dX3_read_24 : decode cX3_read 24 = .ok (.sipush 600, 3) := by decide +kernel
theorem dX3_read_27 : decode cX3_read 27 = .ok (.if_icmp .ge 29, 3) := by decide +kernel
theorem dX3_read_30 : decode cX3_read 30 = .ok (.aload_n 0, 1) := by decide +kernel
theorem dX3_read_31 : decode cX3_read 31 = .ok (.getfield 12, 3) := by decide +kernel
theorem dX3_read_34 : decode cX3_read 34 = .ok (.invokevirtual 33, 3) := by decide +kernel
theorem dX3_read_37 : decode cX3_read 37 = .ok (.ifCond .eq 19, 3) := by decide +kernel
theorem dX3_read_40 : decode cX3_read 40 = .ok (.aload_n 0, 1) := by decide +kernel
theorem dX3_read_41 : decode cX3_read 41 = .ok (.aload_n 1, 1) := by decide +kernel
theorem dX3_read_42 : decode cX3_read 42 = .ok (.invokevirtual 37, 3) := by decide +kernel
theorem dX3_read_45 : decode cX3_read 45 = .ok (.ifCond .ne 5, 3) := by decide +kernel
theorem dX3_read_48 : decode cX3_read 48 = .ok (.iconst 0, 1) := by decide +kernel
theorem dX3_read_49 : decode cX3_read 49 = .ok (.ireturn, 1) := by decide +kernel
theorem dX3_read_50 : decode cX3_read 50 = .ok (.iinc 2 1, 3) := by decide +kernel
theorem dX3_read_53 : decode cX3_read 53 = .ok (.goto (-30), 3) := by decide +kernel
theorem dX3_read_56 : decode cX3_read 56 = .ok (.aload_n 1, 1) := by decide +kernel
theorem dX3_read_57 : decode cX3_read 57 = .ok (.invokevirtual 41, 3) := by decide +kernel
theorem dX3_read_60 : decode cX3_read 60 = .ok (.sipush 200, 3) := by decide +kernel
theorem dX3_read_63 : decode cX3_read 63 = .ok (.if_icmp .le 11, 3) := by decide +kernel
theorem dX3_read_66 : decode cX3_read 66 = .ok (.aload_n 0, 1) := by decide +kernel
theorem dX3_read_67 : decode cX3_read 67 = .ok (.iconst 5, 1) := by decide +kernel
theorem dX3_read_68 : decode cX3_read 68 = .ok (.invokevirtual 44, 3) := by decide +kernel
theorem dX3_read_71 : decode cX3_read 71 = .ok (.ifCond .eq 7, 3) := by decide +kernel
theorem dX3_read_74 : decode cX3_read 74 = .ok (.iconst 1, 1) := by decide +kernel
theorem dX3_read_75 : decode cX3_read 75 = .ok (.goto 4, 3) := by decide +kernel
theorem dX3_read_78 : decode cX3_read 78 = .ok (.iconst 0, 1) := by decide +kernel
theorem dX3_read_79 : decode cX3_read 79 = .ok (.ireturn, 1) := by decide +kernel
theorem dX3_fails_0 : decode cX3_fails 0 = .ok (.aload_n 0, 1) := by decide +kernel
theorem dX3_fails_1 : decode cX3_fails 1 = .ok (.iload_n 1, 1) := by decide +kernel
theorem dX3_fails_2 : decode cX3_fails 2 = .ok (.putfield 22, 3) := by decide +kernel
theorem dX3_fails_5 : decode cX3_fails 5 = .ok (.aload_n 0, 1) := by decide +kernel
theorem dX3_fails_6 : decode cX3_fails 6 = .ok (.aload_n 0, 1) := by decide +kernel
theorem dX3_fails_7 : decode cX3_fails 7 = .ok (.getfield 12, 3) := by decide +kernel
theorem dX3_fails_10 : decode cX3_fails 10 = .ok (.invokevirtual 48, 3) := by decide +kernel
theorem dX3_fails_13 : decode cX3_fails 13 = .ok (.putfield 18, 3) := by decide +kernel
theorem dX3_fails_16 : decode cX3_fails 16 = .ok (.iconst 0, 1) := by decide +kernel
theorem dX3_fails_17 : decode cX3_fails 17 = .ok (.ireturn, 1) := by decide +kernel
theorem dX3_line_0 : decode cX3_line 0 = .ok (.aload_n 0, 1) := by decide +kernel
theorem dX3_line_1 : decode cX3_line 1 = .ok (.getfield 12, 3) := by decide +kernel
theorem dX3_line_4 : decode cX3_line 4 = .ok (.invokevirtual 33, 3) := by decide +kernel
theorem dX3_line_7 : decode cX3_line 7 = .ok (.iconst 3, 1) := by decide +kernel
theorem dX3_line_8 : decode cX3_line 8 = .ok (.if_icmp .ne 13, 3) := by decide +kernel
theorem dX3_line_11 : decode cX3_line 11 = .ok (.aload_n 0, 1) := by decide +kernel
theorem dX3_line_12 : decode cX3_line 12 = .ok (.getfield 12, 3) := by decide +kernel
theorem dX3_line_15 : decode cX3_line 15 = .ok (.invokevirtual 51, 3) := by decide +kernel
theorem dX3_line_18 : decode cX3_line 18 = .ok (.goto 4, 3) := by decide +kernel
theorem dX3_line_21 : decode cX3_line 21 = .ok (.iconst (-1), 1) := by decide +kernel
theorem dX3_line_22 : decode cX3_line 22 = .ok (.istore_n 2, 1) := by decide +kernel
theorem dX3_line_23 : decode cX3_line 23 = .ok (.iload_n 2, 1) := by decide +kernel
theorem dX3_line_24 : decode cX3_line 24 = .ok (.lookupswitch 99 #[(505957, 69), (643129, 89), (3540595, 60), (5969497, 79), (17376357, 89), (408362632, 89)], 60) := by decide +kernel
theorem dX3_line_84 : decode cX3_line 84 = .ok (.aload_n 0, 1) := by decide +kernel
theorem dX3_line_85 : decode cX3_line 85 = .ok (.aload_n 1, 1) := by decide +kernel
theorem dX3_line_86 : decode cX3_line 86 = .ok (.invokevirtual 54, 3) := by decide +kernel
theorem dX3_line_89 : decode cX3_line 89 = .ok (.istore_n 3, 1) := by decide +kernel
theorem dX3_line_90 : decode cX3_line 90 = .ok (.goto 39, 3) := by decide +kernel
theorem dX3_line_93 : decode cX3_line 93 = .ok (.aload_n 0, 1) := by decide +kernel
theorem dX3_line_94 : decode cX3_line 94 = .ok (.aload_n 1, 1) := by decide +kernel
theorem dX3_line_95 : decode cX3_line 95 = .ok (.iconst 0, 1) := by decide +kernel
theorem dX3_line_96 : decode cX3_line 96 = .ok (.invokevirtual 57, 3) := by decide +kernel
theorem dX3_line_99 : decode cX3_line 99 = .ok (.istore_n 3, 1) := by decide +kernel
theorem dX3_line_100 : decode cX3_line 100 = .ok (.goto 29, 3) := by decide +kernel
theorem dX3_line_103 : decode cX3_line 103 = .ok (.aload_n 0, 1) := by decide +kernel
theorem dX3_line_104 : decode cX3_line 104 = .ok (.aload_n 1, 1) := by decide +kernel
theorem dX3_line_105 : decode cX3_line 105 = .ok (.iconst 1, 1) := by decide +kernel
theorem dX3_line_106 : decode cX3_line 106 = .ok (.invokevirtual 57, 3) := by decide +kernel
theorem dX3_line_109 : decode cX3_line 109 = .ok (.istore_n 3, 1) := by decide +kernel
theorem dX3_line_110 : decode cX3_line 110 = .ok (.goto 19, 3) := by decide +kernel
theorem dX3_line_113 : decode cX3_line 113 = .ok (.aload_n 0, 1) := by decide +kernel
theorem dX3_line_114 : decode cX3_line 114 = .ok (.aload_n 1, 1) := by decide +kernel
theorem dX3_line_115 : decode cX3_line 115 = .ok (.iload_n 2, 1) := by decide +kernel
theorem dX3_line_116 : decode cX3_line 116 = .ok (.invokevirtual 61, 3) := by decide +kernel
theorem dX3_line_119 : decode cX3_line 119 = .ok (.istore_n 3, 1) := by decide +kernel
theorem dX3_line_120 : decode cX3_line 120 = .ok (.goto 9, 3) := by decide +kernel
theorem dX3_line_123 : decode cX3_line 123 = .ok (.aload_n 0, 1) := by decide +kernel
theorem dX3_line_124 : decode cX3_line 124 = .ok (.iconst 1, 1) := by decide +kernel
theorem dX3_line_125 : decode cX3_line 125 = .ok (.invokevirtual 44, 3) := by decide +kernel
theorem dX3_line_128 : decode cX3_line 128 = .ok (.ireturn, 1) := by decide +kernel
theorem dX3_line_129 : decode cX3_line 129 = .ok (.iload_n 3, 1) := by decide +kernel
theorem dX3_line_130 : decode cX3_line 130 = .ok (.ifCond .eq 14, 3) := by decide +kernel
theorem dX3_line_133 : decode cX3_line 133 = .ok (.aload_n 0, 1) := by decide +kernel
theorem dX3_line_134 : decode cX3_line 134 = .ok (.invokevirtual 65, 3) := by decide +kernel
theorem dX3_line_137 : decode cX3_line 137 = .ok (.ifCond .eq 7, 3) := by decide +kernel
theorem dX3_line_140 : decode cX3_line 140 = .ok (.iconst 1, 1) := by decide +kernel
theorem dX3_line_141 : decode cX3_line 141 = .ok (.goto 4, 3) := by decide +kernel
theorem dX3_line_144 : decode cX3_line 144 = .ok (.iconst 0, 1) := by decide +kernel
theorem dX3_line_145 : decode cX3_line 145 = .ok (.ireturn, 1) := by decide +kernel
theorem dX3_closes_0 : decode cX3_closes 0 = .ok (.aload_n 0, 1) := by decide +kernel
theorem dX3_closes_1 : decode cX3_closes 1 = .ok (.getfield 12, 3) := by decide +kernel
theorem dX3_closes_4 : decode cX3_closes 4 = .ok (.invokevirtual 33, 3) := by decide +kernel
theorem dX3_closes_7 : decode cX3_closes 7 = .ok (.iconst 5, 1) := by decide +kernel
theorem dX3_closes_8 : decode cX3_closes 8 = .ok (.if_icmp .eq 9, 3) := by decide +kernel
theorem dX3_closes_11 : decode cX3_closes 11 = .ok (.aload_n 0, 1) := by decide +kernel
theorem dX3_closes_12 : decode cX3_closes 12 = .ok (.iconst 1, 1) := by decide +kernel
theorem dX3_closes_13 : decode cX3_closes 13 = .ok (.invokevirtual 44, 3) := by decide +kernel
theorem dX3_closes_16 : decode cX3_closes 16 = .ok (.ireturn, 1) := by decide +kernel
theorem dX3_closes_17 : decode cX3_closes 17 = .ok (.aload_n 0, 1) := by decide +kernel
theorem dX3_closes_18 : decode cX3_closes 18 = .ok (.getfield 12, 3) := by decide +kernel
theorem dX3_closes_21 : decode cX3_closes 21 = .ok (.invokevirtual 69, 3) := by decide +kernel
theorem dX3_closes_24 : decode cX3_closes 24 = .ok (.iconst 1, 1) := by decide +kernel
theorem dX3_closes_25 : decode cX3_closes 25 = .ok (.ireturn, 1) := by decide +kernel
theorem dX3_classLine_0 : decode cX3_classLine 0 = .ok (.aload_n 1, 1) := by decide +kernel
theorem dX3_classLine_1 : decode cX3_classLine 1 = .ok (.invokevirtual 72, 3) := by decide +kernel
theorem dX3_classLine_4 : decode cX3_classLine 4 = .ok (.bipush 8, 2) := by decide +kernel
theorem dX3_classLine_6 : decode cX3_classLine 6 = .ok (.if_icmp .lt 9, 3) := by decide +kernel
theorem dX3_classLine_9 : decode cX3_classLine 9 = .ok (.aload_n 0, 1) := by decide +kernel
theorem dX3_classLine_10 : decode cX3_classLine 10 = .ok (.iconst 4, 1) := by decide +kernel
theorem dX3_classLine_11 : decode cX3_classLine 11 = .ok (.invokevirtual 44, 3) := by decide +kernel
theorem dX3_classLine_14 : decode cX3_classLine 14 = .ok (.ireturn, 1) := by decide +kernel
theorem dX3_classLine_15 : decode cX3_classLine 15 = .ok (.aload_n 0, 1) := by decide +kernel
theorem dX3_classLine_16 : decode cX3_classLine 16 = .ok (.getfield 12, 3) := by decide +kernel
theorem dX3_classLine_19 : decode cX3_classLine 19 = .ok (.invokevirtual 69, 3) := by decide +kernel
theorem dX3_classLine_22 : decode cX3_classLine 22 = .ok (.aload_n 0, 1) := by decide +kernel
theorem dX3_classLine_23 : decode cX3_classLine 23 = .ok (.invokevirtual 75, 3) := by decide +kernel
theorem dX3_classLine_26 : decode cX3_classLine 26 = .ok (.ifCond .ne 9, 3) := by decide +kernel
theorem dX3_classLine_29 : decode cX3_classLine 29 = .ok (.aload_n 0, 1) := by decide +kernel
theorem dX3_classLine_30 : decode cX3_classLine 30 = .ok (.iconst 1, 1) := by decide +kernel
theorem dX3_classLine_31 : decode cX3_classLine 31 = .ok (.invokevirtual 44, 3) := by decide +kernel
theorem dX3_classLine_34 : decode cX3_classLine 34 = .ok (.ireturn, 1) := by decide +kernel
theorem dX3_classLine_35 : decode cX3_classLine 35 = .ok (.aload_n 0, 1) := by decide +kernel
theorem dX3_classLine_36 : decode cX3_classLine 36 = .ok (.getfield 12, 3) := by decide +kernel
theorem dX3_classLine_39 : decode cX3_classLine 39 = .ok (.invokevirtual 51, 3) := by decide +kernel
theorem dX3_classLine_42 : decode cX3_classLine 42 = .ok (.istore_n 2, 1) := by decide +kernel
theorem dX3_classLine_43 : decode cX3_classLine 43 = .ok (.aload_n 1, 1) := by decide +kernel
theorem dX3_classLine_44 : decode cX3_classLine 44 = .ok (.iload_n 2, 1) := by decide +kernel
theorem dX3_classLine_45 : decode cX3_classLine 45 = .ok (.invokevirtual 78, 3) := by decide +kernel
theorem dX3_classLine_48 : decode cX3_classLine 48 = .ok (.iconst (-1), 1) := by decide +kernel
theorem dX3_classLine_49 : decode cX3_classLine 49 = .ok (.if_icmp .eq 9, 3) := by decide +kernel
theorem dX3_classLine_52 : decode cX3_classLine 52 = .ok (.aload_n 0, 1) := by decide +kernel
theorem dX3_classLine_53 : decode cX3_classLine 53 = .ok (.iconst 2, 1) := by decide +kernel
theorem dX3_classLine_54 : decode cX3_classLine 54 = .ok (.invokevirtual 44, 3) := by decide +kernel
theorem dX3_classLine_57 : decode cX3_classLine 57 = .ok (.ireturn, 1) := by decide +kernel
theorem dX3_classLine_58 : decode cX3_classLine 58 = .ok (.aload_n 0, 1) := by decide +kernel
theorem dX3_classLine_59 : decode cX3_classLine 59 = .ok (.getfield 12, 3) := by decide +kernel
theorem dX3_classLine_62 : decode cX3_classLine 62 = .ok (.invokevirtual 69, 3) := by decide +kernel
theorem dX3_classLine_65 : decode cX3_classLine 65 = .ok (.iconst (-1), 1) := by decide +kernel
theorem dX3_classLine_66 : decode cX3_classLine 66 = .ok (.istore_n 3, 1) := by decide +kernel
theorem dX3_classLine_67 : decode cX3_classLine 67 = .ok (.aload_n 0, 1) := by decide +kernel
theorem dX3_classLine_68 : decode cX3_classLine 68 = .ok (.getfield 12, 3) := by decide +kernel
theorem dX3_classLine_71 : decode cX3_classLine 71 = .ok (.sipush 486, 3) := by decide +kernel
theorem dX3_classLine_74 : decode cX3_classLine 74 = .ok (.invokevirtual 82, 3) := by decide +kernel
theorem dX3_classLine_77 : decode cX3_classLine 77 = .ok (.ifCond .eq 9, 3) := by decide +kernel
theorem dX3_classLine_80 : decode cX3_classLine 80 = .ok (.aload_n 0, 1) := by decide +kernel
theorem dX3_classLine_81 : decode cX3_classLine 81 = .ok (.aload_n 1, 1) := by decide +kernel
theorem dX3_classLine_82 : decode cX3_classLine 82 = .ok (.invokevirtual 85, 3) := by decide +kernel
theorem dX3_classLine_85 : decode cX3_classLine 85 = .ok (.istore_n 3, 1) := by decide +kernel
theorem dX3_classLine_86 : decode cX3_classLine 86 = .ok (.iconst (-1), 1) := by decide +kernel
theorem dX3_classLine_87 : decode cX3_classLine 87 = .ok (.istore 4, 2) := by decide +kernel
theorem dX3_classLine_89 : decode cX3_classLine 89 = .ok (.aload_n 0, 1) := by decide +kernel
theorem dX3_classLine_90 : decode cX3_classLine 90 = .ok (.getfield 12, 3) := by decide +kernel
theorem dX3_classLine_93 : decode cX3_classLine 93 = .ok (.ldc 89, 2) := by decide +kernel
theorem dX3_classLine_95 : decode cX3_classLine 95 = .ok (.invokevirtual 82, 3) := by decide +kernel
theorem dX3_classLine_98 : decode cX3_classLine 98 = .ok (.ifCond .eq 19, 3) := by decide +kernel
theorem dX3_classLine_101 : decode cX3_classLine 101 = .ok (.aload_n 0, 1) := by decide +kernel
theorem dX3_classLine_102 : decode cX3_classLine 102 = .ok (.getfield 12, 3) := by decide +kernel
theorem dX3_classLine_105 : decode cX3_classLine 105 = .ok (.invokevirtual 69, 3) := by decide +kernel
theorem dX3_classLine_108 : decode cX3_classLine 108 = .ok (.aload_n 0, 1) := by decide +kernel
theorem dX3_classLine_109 : decode cX3_classLine 109 = .ok (.iconst 0, 1) := by decide +kernel
theorem dX3_classLine_110 : decode cX3_classLine 110 = .ok (.bipush 99, 2) := by decide +kernel
theorem dX3_classLine_112 : decode cX3_classLine 112 = .ok (.invokevirtual 90, 3) := by decide +kernel
theorem dX3_classLine_115 : decode cX3_classLine 115 = .ok (.istore 4, 2) := by decide +kernel
theorem dX3_classLine_117 : decode cX3_classLine 117 = .ok (.iconst (-1), 1) := by decide +kernel
theorem dX3_classLine_118 : decode cX3_classLine 118 = .ok (.istore 5, 2) := by decide +kernel
theorem dX3_classLine_120 : decode cX3_classLine 120 = .ok (.aload_n 0, 1) := by decide +kernel
theorem dX3_classLine_121 : decode cX3_classLine 121 = .ok (.getfield 12, 3) := by decide +kernel
theorem dX3_classLine_124 : decode cX3_classLine 124 = .ok (.ldc 94, 2) := by decide +kernel
theorem dX3_classLine_126 : decode cX3_classLine 126 = .ok (.invokevirtual 82, 3) := by decide +kernel
theorem dX3_classLine_129 : decode cX3_classLine 129 = .ok (.ifCond .eq 19, 3) := by decide +kernel
theorem dX3_classLine_132 : decode cX3_classLine 132 = .ok (.aload_n 0, 1) := by decide +kernel
theorem dX3_classLine_133 : decode cX3_classLine 133 = .ok (.getfield 12, 3) := by decide +kernel
theorem dX3_classLine_136 : decode cX3_classLine 136 = .ok (.invokevirtual 69, 3) := by decide +kernel
theorem dX3_classLine_139 : decode cX3_classLine 139 = .ok (.aload_n 0, 1) := by decide +kernel
theorem dX3_classLine_140 : decode cX3_classLine 140 = .ok (.iconst 0, 1) := by decide +kernel
theorem dX3_classLine_141 : decode cX3_classLine 141 = .ok (.bipush 9, 2) := by decide +kernel
theorem dX3_classLine_143 : decode cX3_classLine 143 = .ok (.invokevirtual 90, 3) := by decide +kernel
theorem dX3_classLine_146 : decode cX3_classLine 146 = .ok (.istore 5, 2) := by decide +kernel
theorem dX3_classLine_148 : decode cX3_classLine 148 = .ok (.aload_n 0, 1) := by decide +kernel
theorem dX3_classLine_149 : decode cX3_classLine 149 = .ok (.getfield 22, 3) := by decide +kernel
theorem dX3_classLine_152 : decode cX3_classLine 152 = .ok (.ifCond .eq 5, 3) := by decide +kernel
theorem dX3_classLine_155 : decode cX3_classLine 155 = .ok (.iconst 0, 1) := by decide +kernel
theorem dX3_classLine_156 : decode cX3_classLine 156 = .ok (.ireturn, 1) := by decide +kernel
theorem dX3_classLine_157 : decode cX3_classLine 157 = .ok (.aload_n 1, 1) := by decide +kernel
theorem dX3_classLine_158 : decode cX3_classLine 158 = .ok (.iload_n 2, 1) := by decide +kernel
theorem dX3_classLine_159 : decode cX3_classLine 159 = .ok (.iload_n 3, 1) := by decide +kernel
theorem dX3_classLine_160 : decode cX3_classLine 160 = .ok (.iload 4, 2) := by decide +kernel
theorem dX3_classLine_162 : decode cX3_classLine 162 = .ok (.iload 5, 2) := by decide +kernel
theorem dX3_classLine_164 : decode cX3_classLine 164 = .ok (.invokevirtual 95, 3) := by decide +kernel
theorem dX3_classLine_167 : decode cX3_classLine 167 = .ok (.iconst 1, 1) := by decide +kernel
theorem dX3_classLine_168 : decode cX3_classLine 168 = .ok (.ireturn, 1) := by decide +kernel
theorem dX3_timerLine_0 : decode cX3_timerLine 0 = .ok (.aload_n 1, 1) := by decide +kernel
theorem dX3_timerLine_1 : decode cX3_timerLine 1 = .ok (.invokevirtual 99, 3) := by decide +kernel
theorem dX3_timerLine_4 : decode cX3_timerLine 4 = .ok (.bipush 24, 2) := by decide +kernel
theorem dX3_timerLine_6 : decode cX3_timerLine 6 = .ok (.if_icmp .lt 9, 3) := by decide +kernel
theorem dX3_timerLine_9 : decode cX3_timerLine 9 = .ok (.aload_n 0, 1) := by decide +kernel
theorem dX3_timerLine_10 : decode cX3_timerLine 10 = .ok (.iconst 4, 1) := by decide +kernel
theorem dX3_timerLine_11 : decode cX3_timerLine 11 = .ok (.invokevirtual 44, 3) := by decide +kernel
theorem dX3_timerLine_14 : decode cX3_timerLine 14 = .ok (.ireturn, 1) := by decide +kernel
theorem dX3_timerLine_15 : decode cX3_timerLine 15 = .ok (.aload_n 0, 1) := by decide +kernel
theorem dX3_timerLine_16 : decode cX3_timerLine 16 = .ok (.aload_n 1, 1) := by decide +kernel
theorem dX3_timerLine_17 : decode cX3_timerLine 17 = .ok (.invokevirtual 85, 3) := by decide +kernel
theorem dX3_timerLine_20 : decode cX3_timerLine 20 = .ok (.istore_n 3, 1) := by decide +kernel
theorem dX3_timerLine_21 : decode cX3_timerLine 21 = .ok (.iload_n 2, 1) := by decide +kernel
theorem dX3_timerLine_22 : decode cX3_timerLine 22 = .ok (.ifCond .eq 13, 3) := by decide +kernel
theorem dX3_timerLine_25 : decode cX3_timerLine 25 = .ok (.aload_n 0, 1) := by decide +kernel
theorem dX3_timerLine_26 : decode cX3_timerLine 26 = .ok (.iconst 1, 1) := by decide +kernel
theorem dX3_timerLine_27 : decode cX3_timerLine 27 = .ok (.bipush 60, 2) := by decide +kernel
theorem dX3_timerLine_29 : decode cX3_timerLine 29 = .ok (.invokevirtual 90, 3) := by decide +kernel
theorem dX3_timerLine_32 : decode cX3_timerLine 32 = .ok (.goto 4, 3) := by decide +kernel
theorem dX3_timerLine_35 : decode cX3_timerLine 35 = .ok (.iconst 0, 1) := by decide +kernel
theorem dX3_timerLine_36 : decode cX3_timerLine 36 = .ok (.istore 4, 2) := by decide +kernel
theorem dX3_timerLine_38 : decode cX3_timerLine 38 = .ok (.aload_n 0, 1) := by decide +kernel
theorem dX3_timerLine_39 : decode cX3_timerLine 39 = .ok (.iconst 0, 1) := by decide +kernel
theorem dX3_timerLine_40 : decode cX3_timerLine 40 = .ok (.sipush 300, 3) := by decide +kernel
theorem dX3_timerLine_43 : decode cX3_timerLine 43 = .ok (.invokevirtual 90, 3) := by decide +kernel
theorem dX3_timerLine_46 : decode cX3_timerLine 46 = .ok (.istore 5, 2) := by decide +kernel
theorem dX3_timerLine_48 : decode cX3_timerLine 48 = .ok (.aload_n 0, 1) := by decide +kernel
theorem dX3_timerLine_49 : decode cX3_timerLine 49 = .ok (.getfield 22, 3) := by decide +kernel
theorem dX3_timerLine_52 : decode cX3_timerLine 52 = .ok (.ifCond .eq 5, 3) := by decide +kernel
theorem dX3_timerLine_55 : decode cX3_timerLine 55 = .ok (.iconst 0, 1) := by decide +kernel
theorem dX3_timerLine_56 : decode cX3_timerLine 56 = .ok (.ireturn, 1) := by decide +kernel
theorem dX3_timerLine_57 : decode cX3_timerLine 57 = .ok (.aload_n 1, 1) := by decide +kernel
theorem dX3_timerLine_58 : decode cX3_timerLine 58 = .ok (.iload_n 3, 1) := by decide +kernel
theorem dX3_timerLine_59 : decode cX3_timerLine 59 = .ok (.iload 4, 2) := by decide +kernel
theorem dX3_timerLine_61 : decode cX3_timerLine 61 = .ok (.iload 5, 2) := by decide +kernel
theorem dX3_timerLine_63 : decode cX3_timerLine 63 = .ok (.invokevirtual 102, 3) := by decide +kernel
theorem dX3_timerLine_66 : decode cX3_timerLine 66 = .ok (.iconst 1, 1) := by decide +kernel
theorem dX3_timerLine_67 : decode cX3_timerLine 67 = .ok (.ireturn, 1) := by decide +kernel
theorem dX3_settingLine_0 : decode cX3_settingLine 0 = .ok (.aload_n 0, 1) := by decide +kernel
theorem dX3_settingLine_1 : decode cX3_settingLine 1 = .ok (.getfield 12, 3) := by decide +kernel
theorem dX3_settingLine_4 : decode cX3_settingLine 4 = .ok (.invokevirtual 69, 3) := by decide +kernel
theorem dX3_settingLine_7 : decode cX3_settingLine 7 = .ok (.iload_n 2, 1) := by decide +kernel
theorem dX3_settingLine_8 : decode cX3_settingLine 8 = .ok (.ldc 106, 2) := by decide +kernel
theorem dX3_settingLine_10 : decode cX3_settingLine 10 = .ok (.if_icmp .ne 18, 3) := by decide +kernel
theorem dX3_settingLine_13 : decode cX3_settingLine 13 = .ok (.aload_n 1, 1) := by decide +kernel
theorem dX3_settingLine_14 : decode cX3_settingLine 14 = .ok (.aload_n 0, 1) := by decide +kernel
theorem dX3_settingLine_15 : decode cX3_settingLine 15 = .ok (.iconst 1, 1) := by decide +kernel
theorem dX3_settingLine_16 : decode cX3_settingLine 16 = .ok (.sipush 300, 3) := by decide +kernel
theorem dX3_settingLine_19 : decode cX3_settingLine 19 = .ok (.invokevirtual 90, 3) := by decide +kernel
theorem dX3_settingLine_22 : decode cX3_settingLine 22 = .ok (.invokevirtual 107, 3) := by decide +kernel
theorem dX3_settingLine_25 : decode cX3_settingLine 25 = .ok (.goto 34, 3) := by decide +kernel
theorem dX3_settingLine_28 : decode cX3_settingLine 28 = .ok (.iload_n 2, 1) := by decide +kernel
theorem dX3_settingLine_29 : decode cX3_settingLine 29 = .ok (.ldc 111, 2) := by decide +kernel
theorem dX3_settingLine_31 : decode cX3_settingLine 31 = .ok (.if_icmp .ne 17, 3) := by decide +kernel
theorem dX3_settingLine_34 : decode cX3_settingLine 34 = .ok (.aload_n 1, 1) := by decide +kernel
theorem dX3_settingLine_35 : decode cX3_settingLine 35 = .ok (.aload_n 0, 1) := by decide +kernel
theorem dX3_settingLine_36 : decode cX3_settingLine 36 = .ok (.iconst 1, 1) := by decide +kernel
theorem dX3_settingLine_37 : decode cX3_settingLine 37 = .ok (.bipush 99, 2) := by decide +kernel
theorem dX3_settingLine_39 : decode cX3_settingLine 39 = .ok (.invokevirtual 90, 3) := by decide +kernel
theorem dX3_settingLine_42 : decode cX3_settingLine 42 = .ok (.invokevirtual 112, 3) := by decide +kernel
theorem dX3_settingLine_45 : decode cX3_settingLine 45 = .ok (.goto 14, 3) := by decide +kernel
theorem dX3_settingLine_48 : decode cX3_settingLine 48 = .ok (.aload_n 1, 1) := by decide +kernel
theorem dX3_settingLine_49 : decode cX3_settingLine 49 = .ok (.aload_n 0, 1) := by decide +kernel
theorem dX3_settingLine_50 : decode cX3_settingLine 50 = .ok (.iconst 0, 1) := by decide +kernel
theorem dX3_settingLine_51 : decode cX3_settingLine 51 = .ok (.bipush 20, 2) := by decide +kernel
theorem dX3_settingLine_53 : decode cX3_settingLine 53 = .ok (.invokevirtual 90, 3) := by decide +kernel
theorem dX3_settingLine_56 : decode cX3_settingLine 56 = .ok (.invokevirtual 115, 3) := by decide +kernel
theorem dX3_settingLine_59 : decode cX3_settingLine 59 = .ok (.aload_n 0, 1) := by decide +kernel
theorem dX3_settingLine_60 : decode cX3_settingLine 60 = .ok (.getfield 22, 3) := by decide +kernel
theorem dX3_settingLine_63 : decode cX3_settingLine 63 = .ok (.ifCond .ne 7, 3) := by decide +kernel
theorem dX3_settingLine_66 : decode cX3_settingLine 66 = .ok (.iconst 1, 1) := by decide +kernel
theorem dX3_settingLine_67 : decode cX3_settingLine 67 = .ok (.goto 4, 3) := by decide +kernel
theorem dX3_settingLine_70 : decode cX3_settingLine 70 = .ok (.iconst 0, 1) := by decide +kernel
theorem dX3_settingLine_71 : decode cX3_settingLine 71 = .ok (.ireturn, 1) := by decide +kernel
theorem dX3_takeKind_0 : decode cX3_takeKind 0 = .ok (.aload_n 0, 1) := by decide +kernel
theorem dX3_takeKind_1 : decode cX3_takeKind 1 = .ok (.getfield 12, 3) := by decide +kernel
theorem dX3_takeKind_4 : decode cX3_takeKind 4 = .ok (.invokevirtual 69, 3) := by decide +kernel
theorem dX3_takeKind_7 : decode cX3_takeKind 7 = .ok (.aload_n 0, 1) := by decide +kernel
theorem dX3_takeKind_8 : decode cX3_takeKind 8 = .ok (.invokevirtual 75, 3) := by decide +kernel
theorem dX3_takeKind_11 : decode cX3_takeKind 11 = .ok (.ifCond .ne 11, 3) := by decide +kernel
theorem dX3_takeKind_14 : decode cX3_takeKind 14 = .ok (.aload_n 0, 1) := by decide +kernel
theorem dX3_takeKind_15 : decode cX3_takeKind 15 = .ok (.iconst 1, 1) := by decide +kernel
theorem dX3_takeKind_16 : decode cX3_takeKind 16 = .ok (.invokevirtual 44, 3) := by decide +kernel
theorem dX3_takeKind_19 : decode cX3_takeKind 19 = .ok (.pop, 1) := by decide +kernel
theorem dX3_takeKind_20 : decode cX3_takeKind 20 = .ok (.iconst (-1), 1) := by decide +kernel
theorem dX3_takeKind_21 : decode cX3_takeKind 21 = .ok (.ireturn, 1) := by decide +kernel
theorem dX3_takeKind_22 : decode cX3_takeKind 22 = .ok (.aload_n 1, 1) := by decide +kernel
theorem dX3_takeKind_23 : decode cX3_takeKind 23 = .ok (.aload_n 0, 1) := by decide +kernel
theorem dX3_takeKind_24 : decode cX3_takeKind 24 = .ok (.getfield 12, 3) := by decide +kernel
theorem dX3_takeKind_27 : decode cX3_takeKind 27 = .ok (.invokevirtual 51, 3) := by decide +kernel
theorem dX3_takeKind_30 : decode cX3_takeKind 30 = .ok (.invokevirtual 78, 3) := by decide +kernel
theorem dX3_takeKind_33 : decode cX3_takeKind 33 = .ok (.istore_n 2, 1) := by decide +kernel
theorem dX3_takeKind_34 : decode cX3_takeKind 34 = .ok (.iload_n 2, 1) := by decide +kernel
theorem dX3_takeKind_35 : decode cX3_takeKind 35 = .ok (.iconst (-1), 1) := by decide +kernel
theorem dX3_takeKind_36 : decode cX3_takeKind 36 = .ok (.if_icmp .ne 11, 3) := by decide +kernel
theorem dX3_takeKind_39 : decode cX3_takeKind 39 = .ok (.aload_n 0, 1) := by decide +kernel
theorem dX3_takeKind_40 : decode cX3_takeKind 40 = .ok (.iconst 2, 1) := by decide +kernel
theorem dX3_takeKind_41 : decode cX3_takeKind 41 = .ok (.invokevirtual 44, 3) := by decide +kernel
theorem dX3_takeKind_44 : decode cX3_takeKind 44 = .ok (.pop, 1) := by decide +kernel
theorem dX3_takeKind_45 : decode cX3_takeKind 45 = .ok (.iconst (-1), 1) := by decide +kernel
theorem dX3_takeKind_46 : decode cX3_takeKind 46 = .ok (.ireturn, 1) := by decide +kernel
theorem dX3_takeKind_47 : decode cX3_takeKind 47 = .ok (.aload_n 0, 1) := by decide +kernel
theorem dX3_takeKind_48 : decode cX3_takeKind 48 = .ok (.getfield 12, 3) := by decide +kernel
theorem dX3_takeKind_51 : decode cX3_takeKind 51 = .ok (.invokevirtual 69, 3) := by decide +kernel
theorem dX3_takeKind_54 : decode cX3_takeKind 54 = .ok (.iload_n 2, 1) := by decide +kernel
theorem dX3_takeKind_55 : decode cX3_takeKind 55 = .ok (.ireturn, 1) := by decide +kernel
theorem dX3_takeNumber_0 : decode cX3_takeNumber 0 = .ok (.aload_n 0, 1) := by decide +kernel
theorem dX3_takeNumber_1 : decode cX3_takeNumber 1 = .ok (.getfield 22, 3) := by decide +kernel
theorem dX3_takeNumber_4 : decode cX3_takeNumber 4 = .ok (.ifCond .eq 5, 3) := by decide +kernel
theorem dX3_takeNumber_7 : decode cX3_takeNumber 7 = .ok (.iconst (-1), 1) := by decide +kernel
theorem dX3_takeNumber_8 : decode cX3_takeNumber 8 = .ok (.ireturn, 1) := by decide +kernel
theorem dX3_takeNumber_9 : decode cX3_takeNumber 9 = .ok (.aload_n 0, 1) := by decide +kernel
theorem dX3_takeNumber_10 : decode cX3_takeNumber 10 = .ok (.getfield 12, 3) := by decide +kernel
theorem dX3_takeNumber_13 : decode cX3_takeNumber 13 = .ok (.invokevirtual 51, 3) := by decide +kernel
theorem dX3_takeNumber_16 : decode cX3_takeNumber 16 = .ok (.istore_n 3, 1) := by decide +kernel
theorem dX3_takeNumber_17 : decode cX3_takeNumber 17 = .ok (.aload_n 0, 1) := by decide +kernel
theorem dX3_takeNumber_18 : decode cX3_takeNumber 18 = .ok (.getfield 12, 3) := by decide +kernel
theorem dX3_takeNumber_21 : decode cX3_takeNumber 21 = .ok (.invokevirtual 33, 3) := by decide +kernel
theorem dX3_takeNumber_24 : decode cX3_takeNumber 24 = .ok (.iconst 4, 1) := by decide +kernel
theorem dX3_takeNumber_25 : decode cX3_takeNumber 25 = .ok (.if_icmp .eq 11, 3) := by decide +kernel
theorem dX3_takeNumber_28 : decode cX3_takeNumber 28 = .ok (.aload_n 0, 1) := by decide +kernel
theorem dX3_takeNumber_29 : decode cX3_takeNumber 29 = .ok (.iconst 1, 1) := by decide +kernel
theorem dX3_takeNumber_30 : decode cX3_takeNumber 30 = .ok (.invokevirtual 44, 3) := by decide +kernel
theorem dX3_takeNumber_33 : decode cX3_takeNumber 33 = .ok (.pop, 1) := by decide +kernel
theorem dX3_takeNumber_34 : decode cX3_takeNumber 34 = .ok (.iconst (-1), 1) := by decide +kernel
theorem dX3_takeNumber_35 : decode cX3_takeNumber 35 = .ok (.ireturn, 1) := by decide +kernel
theorem dX3_takeNumber_36 : decode cX3_takeNumber 36 = .ok (.iload_n 3, 1) := by decide +kernel
theorem dX3_takeNumber_37 : decode cX3_takeNumber 37 = .ok (.iload_n 1, 1) := by decide +kernel
theorem dX3_takeNumber_38 : decode cX3_takeNumber 38 = .ok (.if_icmp .lt 8, 3) := by decide +kernel
theorem dX3_takeNumber_41 : decode cX3_takeNumber 41 = .ok (.iload_n 3, 1) := by decide +kernel
theorem dX3_takeNumber_42 : decode cX3_takeNumber 42 = .ok (.iload_n 2, 1) := by decide +kernel
theorem dX3_takeNumber_43 : decode cX3_takeNumber 43 = .ok (.if_icmp .le 11, 3) := by decide +kernel
theorem dX3_takeNumber_46 : decode cX3_takeNumber 46 = .ok (.aload_n 0, 1) := by decide +kernel
theorem dX3_takeNumber_47 : decode cX3_takeNumber 47 = .ok (.iconst 3, 1) := by decide +kernel
theorem dX3_takeNumber_48 : decode cX3_takeNumber 48 = .ok (.invokevirtual 44, 3) := by decide +kernel
theorem dX3_takeNumber_51 : decode cX3_takeNumber 51 = .ok (.pop, 1) := by decide +kernel
theorem dX3_takeNumber_52 : decode cX3_takeNumber 52 = .ok (.iconst (-1), 1) := by decide +kernel
theorem dX3_takeNumber_53 : decode cX3_takeNumber 53 = .ok (.ireturn, 1) := by decide +kernel
theorem dX3_takeNumber_54 : decode cX3_takeNumber 54 = .ok (.aload_n 0, 1) := by decide +kernel
theorem dX3_takeNumber_55 : decode cX3_takeNumber 55 = .ok (.getfield 12, 3) := by decide +kernel
theorem dX3_takeNumber_58 : decode cX3_takeNumber 58 = .ok (.invokevirtual 69, 3) := by decide +kernel
theorem dX3_takeNumber_61 : decode cX3_takeNumber 61 = .ok (.iload_n 3, 1) := by decide +kernel
theorem dX3_takeNumber_62 : decode cX3_takeNumber 62 = .ok (.ireturn, 1) := by decide +kernel
theorem dX3_atName_0 : decode cX3_atName 0 = .ok (.aload_n 0, 1) := by decide +kernel
theorem dX3_atName_1 : decode cX3_atName 1 = .ok (.getfield 12, 3) := by decide +kernel
theorem dX3_atName_4 : decode cX3_atName 4 = .ok (.invokevirtual 33, 3) := by decide +kernel
theorem dX3_atName_7 : decode cX3_atName 7 = .ok (.iconst 3, 1) := by decide +kernel
theorem dX3_atName_8 : decode cX3_atName 8 = .ok (.if_icmp .eq 5, 3) := by decide +kernel
theorem dX3_atName_11 : decode cX3_atName 11 = .ok (.iconst 0, 1) := by decide +kernel
theorem dX3_atName_12 : decode cX3_atName 12 = .ok (.ireturn, 1) := by decide +kernel
theorem dX3_atName_13 : decode cX3_atName 13 = .ok (.aload_n 0, 1) := by decide +kernel
theorem dX3_atName_14 : decode cX3_atName 14 = .ok (.getfield 12, 3) := by decide +kernel
theorem dX3_atName_17 : decode cX3_atName 17 = .ok (.invokevirtual 51, 3) := by decide +kernel
theorem dX3_atName_20 : decode cX3_atName 20 = .ok (.lookupswitch 86 #[(486, 84), (505957, 84), (643129, 84), (3540595, 84), (5969497, 84), (17376357, 84), (20317291, 84), (408362632, 84), (777297172, 84)], 84) := by decide +kernel
theorem dX3_atName_104 : decode cX3_atName 104 = .ok (.iconst 0, 1) := by decide +kernel
theorem dX3_atName_105 : decode cX3_atName 105 = .ok (.ireturn, 1) := by decide +kernel
theorem dX3_atName_106 : decode cX3_atName 106 = .ok (.iconst 1, 1) := by decide +kernel
theorem dX3_atName_107 : decode cX3_atName 107 = .ok (.ireturn, 1) := by decide +kernel
theorem dX4_init_0 : decode cX4_init 0 = .ok (.aload_n 0, 1) := by decide +kernel
theorem dX4_init_1 : decode cX4_init 1 = .ok (.invokespecial 3, 3) := by decide +kernel
theorem dX4_init_4 : decode cX4_init 4 = .ok (.aload_n 0, 1) := by decide +kernel
theorem dX4_init_5 : decode cX4_init 5 = .ok (.sipush 360, 3) := by decide +kernel
theorem dX4_init_8 : decode cX4_init 8 = .ok (.newarray .int, 2) := by decide +kernel
theorem dX4_init_10 : decode cX4_init 10 = .ok (.putfield 9, 3) := by decide +kernel
theorem dX4_init_13 : decode cX4_init 13 = .ok (.aload_n 0, 1) := by decide +kernel
theorem dX4_init_14 : decode cX4_init 14 = .ok (.sipush 360, 3) := by decide +kernel
theorem dX4_init_17 : decode cX4_init 17 = .ok (.newarray .int, 2) := by decide +kernel
theorem dX4_init_19 : decode cX4_init 19 = .ok (.putfield 15, 3) := by decide +kernel
theorem dX4_init_22 : decode cX4_init 22 = .ok (.return_, 1) := by decide +kernel
theorem dX4_exists_0 : decode cX4_exists 0 = .ok (.aload_n 0, 1) := by decide +kernel
theorem dX4_exists_1 : decode cX4_exists 1 = .ok (.getfield 18, 3) := by decide +kernel
theorem dX4_exists_4 : decode cX4_exists 4 = .ok (.ifCond .le 7, 3) := by decide +kernel
theorem dX4_exists_7 : decode cX4_exists 7 = .ok (.iconst 1, 1) := by decide +kernel
theorem dX4_exists_8 : decode cX4_exists 8 = .ok (.goto 4, 3) := by decide +kernel
theorem dX4_exists_11 : decode cX4_exists 11 = .ok (.iconst 0, 1) := by decide +kernel
theorem dX4_exists_12 : decode cX4_exists 12 = .ok (.ireturn, 1) := by decide +kernel
theorem dX4_hyper_0 : decode cX4_hyper 0 = .ok (.aload_n 0, 1) := by decide +kernel
theorem dX4_hyper_1 : decode cX4_hyper 1 = .ok (.getfield 22, 3) := by decide +kernel
theorem dX4_hyper_4 : decode cX4_hyper 4 = .ok (.ireturn, 1) := by decide +kernel
theorem dX4_callsByHyper_0 : decode cX4_callsByHyper 0 = .ok (.aload_n 0, 1) := by decide +kernel
theorem dX4_callsByHyper_1 : decode cX4_callsByHyper 1 = .ok (.getfield 25, 3) := by decide +kernel
theorem dX4_callsByHyper_4 : decode cX4_callsByHyper 4 = .ok (.ireturn, 1) := by decide +kernel
theorem dX4_size_0 : decode cX4_size 0 = .ok (.aload_n 0, 1) := by decide +kernel
theorem dX4_size_1 : decode cX4_size 1 = .ok (.getfield 18, 3) := by decide +kernel
theorem dX4_size_4 : decode cX4_size 4 = .ok (.ireturn, 1) := by decide +kernel
theorem dX4_start_0 : decode cX4_start 0 = .ok (.aload_n 0, 1) := by decide +kernel
theorem dX4_start_1 : decode cX4_start 1 = .ok (.getfield 28, 3) := by decide +kernel
theorem dX4_start_4 : decode cX4_start 4 = .ok (.ireturn, 1) := by decide +kernel
theorem dX4_make_0 : decode cX4_make 0 = .ok (.aload_n 0, 1) := by decide +kernel
theorem dX4_make_1 : decode cX4_make 1 = .ok (.iconst 0, 1) := by decide +kernel
theorem dX4_make_2 : decode cX4_make 2 = .ok (.putfield 18, 3) := by decide +kernel
theorem dX4_make_5 : decode cX4_make 5 = .ok (.aload_n 0, 1) := by decide +kernel
theorem dX4_make_6 : decode cX4_make 6 = .ok (.aload_n 1, 1) := by decide +kernel
theorem dX4_make_7 : decode cX4_make 7 = .ok (.invokestatic 31, 3) := by decide +kernel
theorem dX4_make_10 : decode cX4_make 10 = .ok (.putfield 22, 3) := by decide +kernel
theorem dX4_make_13 : decode cX4_make 13 = .ok (.aload_n 0, 1) := by decide +kernel
theorem dX4_make_14 : decode cX4_make 14 = .ok (.aload_n 0, 1) := by decide +kernel
theorem dX4_make_15 : decode cX4_make 15 = .ok (.aload_n 1, 1) := by decide +kernel
theorem dX4_make_16 : decode cX4_make 16 = .ok (.invokevirtual 35, 3) := by decide +kernel
theorem dX4_make_19 : decode cX4_make 19 = .ok (.putfield 25, 3) := by decide +kernel
theorem dX4_make_22 : decode cX4_make 22 = .ok (.aload_n 0, 1) := by decide +kernel
theorem dX4_make_23 : decode cX4_make 23 = .ok (.getfield 25, 3) := by decide +kernel
theorem dX4_make_26 : decode cX4_make 26 = .ok (.ifCond .eq 13, 3) := by decide +kernel
theorem dX4_make_29 : decode cX4_make 29 = .ok (.aload_n 0, 1) := by decide +kernel
theorem dX4_make_30 : decode cX4_make 30 = .ok (.getfield 25, 3) := by decide +kernel
theorem dX4_make_33 : decode cX4_make 33 = .ok (.sipush 400, 3) := by decide +kernel
theorem dX4_make_36 : decode cX4_make 36 = .ok (.if_icmp .le 4, 3) := by decide +kernel
theorem dX4_make_39 : decode cX4_make 39 = .ok (.return_, 1) := by decide +kernel
theorem dX4_make_40 : decode cX4_make 40 = .ok (.aload_n 0, 1) := by decide +kernel
theorem dX4_make_41 : decode cX4_make 41 = .ok (.aload_n 1, 1) := by decide +kernel
theorem dX4_make_42 : decode cX4_make 42 = .ok (.invokevirtual 38, 3) := by decide +kernel
theorem dX4_make_45 : decode cX4_make 45 = .ok (.aload_n 0, 1) := by decide +kernel
theorem dX4_make_46 : decode cX4_make 46 = .ok (.invokevirtual 42, 3) := by decide +kernel
theorem dX4_make_49 : decode cX4_make 49 = .ok (.aload_n 0, 1) := by decide +kernel
theorem dX4_make_50 : decode cX4_make 50 = .ok (.invokevirtual 45, 3) := by decide +kernel
theorem dX4_make_53 : decode cX4_make 53 = .ok (.return_, 1) := by decide +kernel
theorem dX4_hyperOf_0 : decode cX4_hyperOf 0 = .ok (.iconst 0, 1) := by decide +kernel
theorem dX4_hyperOf_1 : decode cX4_hyperOf 1 = .ok (.istore_n 1, 1) := by decide +kernel
theorem dX4_hyperOf_2 : decode cX4_hyperOf 2 = .ok (.iconst 0, 1) := by decide +kernel
theorem dX4_hyperOf_3 : decode cX4_hyperOf 3 = .ok (.istore_n 2, 1) := by decide +kernel
theorem dX4_hyperOf_4 : decode cX4_hyperOf 4 = .ok (.iload_n 2, 1) := by decide +kernel
theorem dX4_hyperOf_5 : decode cX4_hyperOf 5 = .ok (.aload_n 0, 1) := by decide +kernel
theorem dX4_hyperOf_6 : decode cX4_hyperOf 6 = .ok (.invokevirtual 48, 3) := by decide +kernel
theorem dX4_hyperOf_9 : decode cX4_hyperOf 9 = .ok (.if_icmp .ge 46, 3) := by decide +kernel
theorem dX4_hyperOf_12 : decode cX4_hyperOf 12 = .ok (.aload_n 0, 1) := by decide +kernel
theorem dX4_hyperOf_13 : decode cX4_hyperOf 13 = .ok (.iload_n 2, 1) := by decide +kernel
theorem dX4_hyperOf_14 : decode cX4_hyperOf 14 = .ok (.invokevirtual 54, 3) := by decide +kernel
theorem dX4_hyperOf_17 : decode cX4_hyperOf 17 = .ok (.istore_n 3, 1) := by decide +kernel
theorem dX4_hyperOf_18 : decode cX4_hyperOf 18 = .ok (.iload_n 3, 1) := by decide +kernel
theorem dX4_hyperOf_19 : decode cX4_hyperOf 19 = .ok (.ifCond .le 30, 3) := by decide +kernel
theorem dX4_hyperOf_22 : decode cX4_hyperOf 22 = .ok (.iload_n 1, 1) := by decide +kernel
theorem dX4_hyperOf_23 : decode cX4_hyperOf 23 = .ok (.ifCond .ne 7, 3) := by decide +kernel
theorem dX4_hyperOf_26 : decode cX4_hyperOf 26 = .ok (.iload_n 3, 1) := by decide +kernel
theorem dX4_hyperOf_27 : decode cX4_hyperOf 27 = .ok (.goto 8, 3) := by decide +kernel
theorem dX4_hyperOf_30 : decode cX4_hyperOf 30 = .ok (.iload_n 1, 1) := by decide +kernel
theorem dX4_hyperOf_31 : decode cX4_hyperOf 31 = .ok (.iload_n 3, 1) := by decide +kernel
theorem dX4_hyperOf_32 : decode cX4_hyperOf 32 = .ok (.invokestatic 58, 3) := by decide +kernel
theorem dX4_hyperOf_35 : decode cX4_hyperOf 35 = .ok (.istore_n 1, 1) := by decide +kernel
theorem dX4_hyperOf_36 : decode cX4_hyperOf 36 = .ok (.iload_n 1, 1) := by decide +kernel
theorem dX4_hyperOf_37 : decode cX4_hyperOf 37 = .ok (.ifCond .eq 10, 3) := by decide +kernel
theorem dX4_hyperOf_40 : decode cX4_hyperOf 40 = .ok (.iload_n 1, 1) := by decide +kernel
theorem dX4_hyperOf_41 : decode cX4_hyperOf 41 = .ok (.sipush 360, 3) := by decide +kernel
theorem dX4_hyperOf_44 : decode cX4_hyperOf 44 = .ok (.if_icmp .le 5, 3) := by decide +kernel
theorem dX4_hyperOf_47 : decode cX4_hyperOf 47 = .ok (.iconst 0, 1) := by decide +kernel
theorem dX4_hyperOf_48 : decode cX4_hyperOf 48 = .ok (.ireturn, 1) := by decide +kernel
theorem dX4_hyperOf_49 : decode cX4_hyperOf 49 = .ok (.iinc 2 1, 3) := by decide +kernel
theorem dX4_hyperOf_52 : decode cX4_hyperOf 52 = .ok (.goto (-48), 3) := by decide +kernel
theorem dX4_hyperOf_55 : decode cX4_hyperOf 55 = .ok (.iload_n 1, 1) := by decide +kernel
theorem dX4_hyperOf_56 : decode cX4_hyperOf 56 = .ok (.ireturn, 1) := by decide +kernel
theorem dX4_leastShared_0 : decode cX4_leastShared 0 = .ok (.iconst 1, 1) := by decide +kernel
theorem dX4_leastShared_1 : decode cX4_leastShared 1 = .ok (.istore_n 2, 1) := by decide +kernel
theorem dX4_leastShared_2 : decode cX4_leastShared 2 = .ok (.iload_n 2, 1) := by decide +kernel
theorem dX4_leastShared_3 : decode cX4_leastShared 3 = .ok (.iload_n 1, 1) := by decide +kernel
theorem dX4_leastShared_4 : decode cX4_leastShared 4 = .ok (.if_icmp .gt 25, 3) := by decide +kernel
theorem dX4_leastShared_7 : decode cX4_leastShared 7 = .ok (.iload_n 1, 1) := by decide +kernel
theorem dX4_leastShared_8 : decode cX4_leastShared 8 = .ok (.ifCond .le 15, 3) := by decide +kernel
theorem dX4_leastShared_11 : decode cX4_leastShared 11 = .ok (.iload_n 0, 1) := by decide +kernel
theorem dX4_leastShared_12 : decode cX4_leastShared 12 = .ok (.iload_n 2, 1) := by decide +kernel
theorem dX4_leastShared_13 : decode cX4_leastShared 13 = .ok (.imul, 1) := by decide +kernel
theorem dX4_leastShared_14 : decode cX4_leastShared 14 = .ok (.iload_n 1, 1) := by decide +kernel
theorem dX4_leastShared_15 : decode cX4_leastShared 15 = .ok (.irem, 1) := by decide +kernel
theorem dX4_leastShared_16 : decode cX4_leastShared 16 = .ok (.ifCond .ne 7, 3) := by decide +kernel
theorem dX4_leastShared_19 : decode cX4_leastShared 19 = .ok (.iload_n 0, 1) := by decide +kernel
theorem dX4_leastShared_20 : decode cX4_leastShared 20 = .ok (.iload_n 2, 1) := by decide +kernel
theorem dX4_leastShared_21 : decode cX4_leastShared 21 = .ok (.imul, 1) := by decide +kernel
theorem dX4_leastShared_22 : decode cX4_leastShared 22 = .ok (.ireturn, 1) := by decide +kernel
theorem dX4_leastShared_23 : decode cX4_leastShared 23 = .ok (.iinc 2 1, 3) := by decide +kernel
theorem dX4_leastShared_26 : decode cX4_leastShared 26 = .ok (.goto (-24), 3) := by decide +kernel
theorem dX4_leastShared_29 : decode cX4_leastShared 29 = .ok (.iconst 0, 1) := by decide +kernel
theorem dX4_leastShared_30 : decode cX4_leastShared 30 = .ok (.ireturn, 1) := by decide +kernel
theorem dX4_callsOf_0 : decode cX4_callsOf 0 = .ok (.iconst 0, 1) := by decide +kernel
theorem dX4_callsOf_1 : decode cX4_callsOf 1 = .ok (.istore_n 2, 1) := by decide +kernel
theorem dX4_callsOf_2 : decode cX4_callsOf 2 = .ok (.iconst 0, 1) := by decide +kernel
theorem dX4_callsOf_3 : decode cX4_callsOf 3 = .ok (.istore_n 3, 1) := by decide +kernel
theorem dX4_callsOf_4 : decode cX4_callsOf 4 = .ok (.iload_n 3, 1) := by decide +kernel
theorem dX4_callsOf_5 : decode cX4_callsOf 5 = .ok (.aload_n 1, 1) := by decide +kernel
theorem dX4_callsOf_6 : decode cX4_callsOf 6 = .ok (.invokevirtual 48, 3) := by decide +kernel
theorem dX4_callsOf_9 : decode cX4_callsOf 9 = .ok (.if_icmp .ge 31, 3) := by decide +kernel
theorem dX4_callsOf_12 : decode cX4_callsOf 12 = .ok (.aload_n 1, 1) := by decide +kernel
theorem dX4_callsOf_13 : decode cX4_callsOf 13 = .ok (.iload_n 3, 1) := by decide +kernel
theorem dX4_callsOf_14 : decode cX4_callsOf 14 = .ok (.invokevirtual 54, 3) := by decide +kernel
theorem dX4_callsOf_17 : decode cX4_callsOf 17 = .ok (.istore 4, 2) := by decide +kernel
theorem dX4_callsOf_19 : decode cX4_callsOf 19 = .ok (.iload 4, 2) := by decide +kernel
theorem dX4_callsOf_21 : decode cX4_callsOf 21 = .ok (.ifCond .le 13, 3) := by decide +kernel
theorem dX4_callsOf_24 : decode cX4_callsOf 24 = .ok (.iload_n 2, 1) := by decide +kernel
theorem dX4_callsOf_25 : decode cX4_callsOf 25 = .ok (.aload_n 0, 1) := by decide +kernel
theorem dX4_callsOf_26 : decode cX4_callsOf 26 = .ok (.getfield 22, 3) := by decide +kernel
theorem dX4_callsOf_29 : decode cX4_callsOf 29 = .ok (.iload 4, 2) := by decide +kernel
theorem dX4_callsOf_31 : decode cX4_callsOf 31 = .ok (.idiv, 1) := by decide +kernel
theorem dX4_callsOf_32 : decode cX4_callsOf 32 = .ok (.iadd, 1) := by decide +kernel
theorem dX4_callsOf_33 : decode cX4_callsOf 33 = .ok (.istore_n 2, 1) := by decide +kernel
theorem dX4_callsOf_34 : decode cX4_callsOf 34 = .ok (.iinc 3 1, 3) := by decide +kernel
theorem dX4_callsOf_37 : decode cX4_callsOf 37 = .ok (.goto (-33), 3) := by decide +kernel
theorem dX4_callsOf_40 : decode cX4_callsOf 40 = .ok (.iload_n 2, 1) := by decide +kernel
theorem dX4_callsOf_41 : decode cX4_callsOf 41 = .ok (.ireturn, 1) := by decide +kernel
theorem dX4_fillSlacks_0 : decode cX4_fillSlacks 0 = .ok (.iconst 0, 1) := by decide +kernel
theorem dX4_fillSlacks_1 : decode cX4_fillSlacks 1 = .ok (.istore_n 2, 1) := by decide +kernel
theorem dX4_fillSlacks_2 : decode cX4_fillSlacks 2 = .ok (.iload_n 2, 1) := by decide +kernel
theorem dX4_fillSlacks_3 : decode cX4_fillSlacks 3 = .ok (.aload_n 0, 1) := by decide +kernel
theorem dX4_fillSlacks_4 : decode cX4_fillSlacks 4 = .ok (.getfield 22, 3) := by decide +kernel
theorem dX4_fillSlacks_7 : decode cX4_fillSlacks 7 = .ok (.if_icmp .ge 26, 3) := by decide +kernel
theorem dX4_fillSlacks_10 : decode cX4_fillSlacks 10 = .ok (.iload_n 2, 1) := by decide +kernel
theorem dX4_fillSlacks_11 : decode cX4_fillSlacks 11 = .ok (.aload_n 0, 1) := by decide +kernel
theorem dX4_fillSlacks_12 : decode cX4_fillSlacks 12 = .ok (.getfield 9, 3) := by decide +kernel
theorem dX4_fillSlacks_15 : decode cX4_fillSlacks 15 = .ok (.arraylength, 1) := by decide +kernel
theorem dX4_fillSlacks_16 : decode cX4_fillSlacks 16 = .ok (.if_icmp .ge 17, 3) := by decide +kernel
theorem dX4_fillSlacks_19 : decode cX4_fillSlacks 19 = .ok (.aload_n 0, 1) := by decide +kernel
theorem dX4_fillSlacks_20 : decode cX4_fillSlacks 20 = .ok (.getfield 9, 3) := by decide +kernel
theorem dX4_fillSlacks_23 : decode cX4_fillSlacks 23 = .ok (.iload_n 2, 1) := by decide +kernel
theorem dX4_fillSlacks_24 : decode cX4_fillSlacks 24 = .ok (.ldc 62, 2) := by decide +kernel
theorem dX4_fillSlacks_26 : decode cX4_fillSlacks 26 = .ok (.iastore, 1) := by decide +kernel
theorem dX4_fillSlacks_27 : decode cX4_fillSlacks 27 = .ok (.iinc 2 1, 3) := by decide +kernel
theorem dX4_fillSlacks_30 : decode cX4_fillSlacks 30 = .ok (.goto (-28), 3) := by decide +kernel
theorem dX4_fillSlacks_33 : decode cX4_fillSlacks 33 = .ok (.iconst 0, 1) := by decide +kernel
theorem dX4_fillSlacks_34 : decode cX4_fillSlacks 34 = .ok (.istore_n 2, 1) := by decide +kernel
theorem dX4_fillSlacks_35 : decode cX4_fillSlacks 35 = .ok (.iload_n 2, 1) := by decide +kernel
theorem dX4_fillSlacks_36 : decode cX4_fillSlacks 36 = .ok (.aload_n 1, 1) := by decide +kernel
theorem dX4_fillSlacks_37 : decode cX4_fillSlacks 37 = .ok (.invokevirtual 48, 3) := by decide +kernel
theorem dX4_fillSlacks_40 : decode cX4_fillSlacks 40 = .ok (.if_icmp .ge 94, 3) := by decide +kernel
theorem dX4_fillSlacks_43 : decode cX4_fillSlacks 43 = .ok (.aload_n 1, 1) := by decide +kernel
theorem dX4_fillSlacks_44 : decode cX4_fillSlacks 44 = .ok (.iload_n 2, 1) := by decide +kernel
theorem dX4_fillSlacks_45 : decode cX4_fillSlacks 45 = .ok (.invokevirtual 54, 3) := by decide +kernel
theorem dX4_fillSlacks_48 : decode cX4_fillSlacks 48 = .ok (.istore_n 3, 1) := by decide +kernel
theorem dX4_fillSlacks_49 : decode cX4_fillSlacks 49 = .ok (.iload_n 3, 1) := by decide +kernel
theorem dX4_fillSlacks_50 : decode cX4_fillSlacks 50 = .ok (.ifCond .le 78, 3) := by decide +kernel
theorem dX4_fillSlacks_53 : decode cX4_fillSlacks 53 = .ok (.aload_n 1, 1) := by decide +kernel
theorem dX4_fillSlacks_54 : decode cX4_fillSlacks 54 = .ok (.aload_n 1, 1) := by decide +kernel
theorem dX4_fillSlacks_55 : decode cX4_fillSlacks 55 = .ok (.iload_n 2, 1) := by decide +kernel
theorem dX4_fillSlacks_56 : decode cX4_fillSlacks 56 = .ok (.invokevirtual 63, 3) := by decide +kernel
theorem dX4_fillSlacks_59 : decode cX4_fillSlacks 59 = .ok (.invokevirtual 66, 3) := by decide +kernel
theorem dX4_fillSlacks_62 : decode cX4_fillSlacks 62 = .ok (.istore 4, 2) := by decide +kernel
theorem dX4_fillSlacks_64 : decode cX4_fillSlacks 64 = .ok (.aload_n 1, 1) := by decide +kernel
theorem dX4_fillSlacks_65 : decode cX4_fillSlacks 65 = .ok (.iload_n 2, 1) := by decide +kernel
theorem dX4_fillSlacks_66 : decode cX4_fillSlacks 66 = .ok (.invokevirtual 69, 3) := by decide +kernel
theorem dX4_fillSlacks_69 : decode cX4_fillSlacks 69 = .ok (.iload_n 3, 1) := by decide +kernel
theorem dX4_fillSlacks_70 : decode cX4_fillSlacks 70 = .ok (.irem, 1) := by decide +kernel
theorem dX4_fillSlacks_71 : decode cX4_fillSlacks 71 = .ok (.istore 5, 2) := by decide +kernel
theorem dX4_fillSlacks_73 : decode cX4_fillSlacks 73 = .ok (.iload 5, 2) := by decide +kernel
theorem dX4_fillSlacks_75 : decode cX4_fillSlacks 75 = .ok (.iconst 0, 1) := by decide +kernel
theorem dX4_fillSlacks_76 : decode cX4_fillSlacks 76 = .ok (.invokestatic 72, 3) := by decide +kernel
theorem dX4_fillSlacks_79 : decode cX4_fillSlacks 79 = .ok (.istore 6, 2) := by decide +kernel
theorem dX4_fillSlacks_81 : decode cX4_fillSlacks 81 = .ok (.iload 6, 2) := by decide +kernel
theorem dX4_fillSlacks_83 : decode cX4_fillSlacks 83 = .ok (.aload_n 0, 1) := by decide +kernel
theorem dX4_fillSlacks_84 : decode cX4_fillSlacks 84 = .ok (.getfield 22, 3) := by decide +kernel
theorem dX4_fillSlacks_87 : decode cX4_fillSlacks 87 = .ok (.if_icmp .ge 41, 3) := by decide +kernel
theorem dX4_fillSlacks_90 : decode cX4_fillSlacks 90 = .ok (.iload 6, 2) := by decide +kernel
theorem dX4_fillSlacks_92 : decode cX4_fillSlacks 92 = .ok (.aload_n 0, 1) := by decide +kernel
theorem dX4_fillSlacks_93 : decode cX4_fillSlacks 93 = .ok (.getfield 9, 3) := by decide +kernel
theorem dX4_fillSlacks_96 : decode cX4_fillSlacks 96 = .ok (.arraylength, 1) := by decide +kernel
theorem dX4_fillSlacks_97 : decode cX4_fillSlacks 97 = .ok (.if_icmp .ge 31, 3) := by decide +kernel
theorem dX4_fillSlacks_100 : decode cX4_fillSlacks 100 = .ok (.aload_n 0, 1) := by decide +kernel
theorem dX4_fillSlacks_101 : decode cX4_fillSlacks 101 = .ok (.getfield 9, 3) := by decide +kernel
theorem dX4_fillSlacks_104 : decode cX4_fillSlacks 104 = .ok (.iload 6, 2) := by decide +kernel
theorem dX4_fillSlacks_106 : decode cX4_fillSlacks 106 = .ok (.aload_n 0, 1) := by decide +kernel
theorem dX4_fillSlacks_107 : decode cX4_fillSlacks 107 = .ok (.getfield 9, 3) := by decide +kernel
theorem dX4_fillSlacks_110 : decode cX4_fillSlacks 110 = .ok (.iload 6, 2) := by decide +kernel
theorem dX4_fillSlacks_112 : decode cX4_fillSlacks 112 = .ok (.iaload, 1) := by decide +kernel
theorem dX4_fillSlacks_113 : decode cX4_fillSlacks 113 = .ok (.iload 4, 2) := by decide +kernel
theorem dX4_fillSlacks_115 : decode cX4_fillSlacks 115 = .ok (.invokestatic 77, 3) := by decide +kernel
theorem dX4_fillSlacks_118 : decode cX4_fillSlacks 118 = .ok (.iastore, 1) := by decide +kernel
theorem dX4_fillSlacks_119 : decode cX4_fillSlacks 119 = .ok (.iload 6, 2) := by decide +kernel
theorem dX4_fillSlacks_121 : decode cX4_fillSlacks 121 = .ok (.iload_n 3, 1) := by decide +kernel
theorem dX4_fillSlacks_122 : decode cX4_fillSlacks 122 = .ok (.iadd, 1) := by decide +kernel
theorem dX4_fillSlacks_123 : decode cX4_fillSlacks 123 = .ok (.istore 6, 2) := by decide +kernel
theorem dX4_fillSlacks_125 : decode cX4_fillSlacks 125 = .ok (.goto (-44), 3) := by decide +kernel
theorem dX4_fillSlacks_128 : decode cX4_fillSlacks 128 = .ok (.iinc 2 1, 3) := by decide +kernel
theorem dX4_fillSlacks_131 : decode cX4_fillSlacks 131 = .ok (.goto (-96), 3) := by decide +kernel
theorem dX4_fillSlacks_134 : decode cX4_fillSlacks 134 = .ok (.return_, 1) := by decide +kernel
theorem dX4_fillReach_0 : decode cX4_fillReach 0 = .ok (.ldc 62, 2) := by decide +kernel
theorem dX4_fillReach_2 : decode cX4_fillReach 2 = .ok (.istore_n 1, 1) := by decide +kernel
theorem dX4_fillReach_3 : decode cX4_fillReach 3 = .ok (.iconst 0, 1) := by decide +kernel
theorem dX4_fillReach_4 : decode cX4_fillReach 4 = .ok (.istore_n 2, 1) := by decide +kernel
theorem dX4_fillReach_5 : decode cX4_fillReach 5 = .ok (.iload_n 2, 1) := by decide +kernel
theorem dX4_fillReach_6 : decode cX4_fillReach 6 = .ok (.iconst 2, 1) := by decide +kernel
theorem dX4_fillReach_7 : decode cX4_fillReach 7 = .ok (.if_icmp .ge 59, 3) := by decide +kernel
theorem dX4_fillReach_10 : decode cX4_fillReach 10 = .ok (.aload_n 0, 1) := by decide +kernel
theorem dX4_fillReach_11 : decode cX4_fillReach 11 = .ok (.getfield 22, 3) := by decide +kernel
theorem dX4_fillReach_14 : decode cX4_fillReach 14 = .ok (.aload_n 0, 1) := by decide +kernel
theorem dX4_fillReach_15 : decode cX4_fillReach 15 = .ok (.getfield 15, 3) := by decide +kernel
theorem dX4_fillReach_18 : decode cX4_fillReach 18 = .ok (.arraylength, 1) := by decide +kernel
theorem dX4_fillReach_19 : decode cX4_fillReach 19 = .ok (.invokestatic 77, 3) := by decide +kernel
theorem dX4_fillReach_22 : decode cX4_fillReach 22 = .ok (.iconst 1, 1) := by decide +kernel
theorem dX4_fillReach_23 : decode cX4_fillReach 23 = .ok (.isub, 1) := by decide +kernel
theorem dX4_fillReach_24 : decode cX4_fillReach 24 = .ok (.istore_n 3, 1) := by decide +kernel
theorem dX4_fillReach_25 : decode cX4_fillReach 25 = .ok (.iload_n 3, 1) := by decide +kernel
theorem dX4_fillReach_26 : decode cX4_fillReach 26 = .ok (.ifCond .lt 34, 3) := by decide +kernel
theorem dX4_fillReach_29 : decode cX4_fillReach 29 = .ok (.aload_n 0, 1) := by decide +kernel
theorem dX4_fillReach_30 : decode cX4_fillReach 30 = .ok (.getfield 15, 3) := by decide +kernel
theorem dX4_fillReach_33 : decode cX4_fillReach 33 = .ok (.iload_n 3, 1) := by decide +kernel
theorem dX4_fillReach_34 : decode cX4_fillReach 34 = .ok (.iconst 1, 1) := by decide +kernel
theorem dX4_fillReach_35 : decode cX4_fillReach 35 = .ok (.iload_n 1, 1) := by decide +kernel
theorem dX4_fillReach_36 : decode cX4_fillReach 36 = .ok (.iadd, 1) := by decide +kernel
theorem dX4_fillReach_37 : decode cX4_fillReach 37 = .ok (.iastore, 1) := by decide +kernel
theorem dX4_fillReach_38 : decode cX4_fillReach 38 = .ok (.aload_n 0, 1) := by decide +kernel
theorem dX4_fillReach_39 : decode cX4_fillReach 39 = .ok (.getfield 9, 3) := by decide +kernel
theorem dX4_fillReach_42 : decode cX4_fillReach 42 = .ok (.iload_n 3, 1) := by decide +kernel
theorem dX4_fillReach_43 : decode cX4_fillReach 43 = .ok (.iaload, 1) := by decide +kernel
theorem dX4_fillReach_44 : decode cX4_fillReach 44 = .ok (.aload_n 0, 1) := by decide +kernel
theorem dX4_fillReach_45 : decode cX4_fillReach 45 = .ok (.getfield 15, 3) := by decide +kernel
theorem dX4_fillReach_48 : decode cX4_fillReach 48 = .ok (.iload_n 3, 1) := by decide +kernel
theorem dX4_fillReach_49 : decode cX4_fillReach 49 = .ok (.iaload, 1) := by decide +kernel
theorem dX4_fillReach_50 : decode cX4_fillReach 50 = .ok (.invokestatic 77, 3) := by decide +kernel
theorem dX4_fillReach_53 : decode cX4_fillReach 53 = .ok (.istore_n 1, 1) := by decide +kernel
theorem dX4_fillReach_54 : decode cX4_fillReach 54 = .ok (.iinc 3 (-1), 3) := by decide +kernel
theorem dX4_fillReach_57 : decode cX4_fillReach 57 = .ok (.goto (-32), 3) := by decide +kernel
theorem dX4_fillReach_60 : decode cX4_fillReach 60 = .ok (.iinc 2 1, 3) := by decide +kernel
theorem dX4_fillReach_63 : decode cX4_fillReach 63 = .ok (.goto (-58), 3) := by decide +kernel
theorem dX4_fillReach_66 : decode cX4_fillReach 66 = .ok (.return_, 1) := by decide +kernel
theorem dX4_choose_0 : decode cX4_choose 0 = .ok (.iconst 0, 1) := by decide +kernel
theorem dX4_choose_1 : decode cX4_choose 1 = .ok (.istore_n 1, 1) := by decide +kernel
theorem dX4_choose_2 : decode cX4_choose 2 = .ok (.iload_n 1, 1) := by decide +kernel
theorem dX4_choose_3 : decode cX4_choose 3 = .ok (.aload_n 0, 1) := by decide +kernel
theorem dX4_choose_4 : decode cX4_choose 4 = .ok (.getfield 22, 3) := by decide +kernel
theorem dX4_choose_7 : decode cX4_choose 7 = .ok (.if_icmp .ge 50, 3) := by decide +kernel
theorem dX4_choose_10 : decode cX4_choose 10 = .ok (.iload_n 1, 1) := by decide +kernel
theorem dX4_choose_11 : decode cX4_choose 11 = .ok (.aload_n 0, 1) := by decide +kernel
theorem dX4_choose_12 : decode cX4_choose 12 = .ok (.getfield 15, 3) := by decide +kernel
theorem dX4_choose_15 : decode cX4_choose 15 = .ok (.iconst 0, 1) := by decide +kernel
theorem dX4_choose_16 : decode cX4_choose 16 = .ok (.iaload, 1) := by decide +kernel
theorem dX4_choose_17 : decode cX4_choose 17 = .ok (.if_icmp .gt 40, 3) := by decide +kernel
theorem dX4_choose_20 : decode cX4_choose 20 = .ok (.aload_n 0, 1) := by decide +kernel
theorem dX4_choose_21 : decode cX4_choose 21 = .ok (.iload_n 1, 1) := by decide +kernel
theorem dX4_choose_22 : decode cX4_choose 22 = .ok (.invokevirtual 80, 3) := by decide +kernel
theorem dX4_choose_25 : decode cX4_choose 25 = .ok (.istore_n 2, 1) := by decide +kernel
theorem dX4_choose_26 : decode cX4_choose 26 = .ok (.aload_n 0, 1) := by decide +kernel
theorem dX4_choose_27 : decode cX4_choose 27 = .ok (.getfield 18, 3) := by decide +kernel
theorem dX4_choose_30 : decode cX4_choose 30 = .ok (.ifCond .eq 11, 3) := by decide +kernel
theorem dX4_choose_33 : decode cX4_choose 33 = .ok (.iload_n 2, 1) := by decide +kernel
theorem dX4_choose_34 : decode cX4_choose 34 = .ok (.aload_n 0, 1) := by decide +kernel
theorem dX4_choose_35 : decode cX4_choose 35 = .ok (.getfield 18, 3) := by decide +kernel
theorem dX4_choose_38 : decode cX4_choose 38 = .ok (.if_icmp .ge 13, 3) := by decide +kernel
theorem dX4_choose_41 : decode cX4_choose 41 = .ok (.aload_n 0, 1) := by decide +kernel
theorem dX4_choose_42 : decode cX4_choose 42 = .ok (.iload_n 2, 1) := by decide +kernel
theorem dX4_choose_43 : decode cX4_choose 43 = .ok (.putfield 18, 3) := by decide +kernel
theorem dX4_choose_46 : decode cX4_choose 46 = .ok (.aload_n 0, 1) := by decide +kernel
theorem dX4_choose_47 : decode cX4_choose 47 = .ok (.iload_n 1, 1) := by decide +kernel
theorem dX4_choose_48 : decode cX4_choose 48 = .ok (.putfield 28, 3) := by decide +kernel
theorem dX4_choose_51 : decode cX4_choose 51 = .ok (.iinc 1 1, 3) := by decide +kernel
theorem dX4_choose_54 : decode cX4_choose 54 = .ok (.goto (-52), 3) := by decide +kernel
theorem dX4_choose_57 : decode cX4_choose 57 = .ok (.return_, 1) := by decide +kernel
theorem dX4_wakesFrom_0 : decode cX4_wakesFrom 0 = .ok (.iconst 1, 1) := by decide +kernel
theorem dX4_wakesFrom_1 : decode cX4_wakesFrom 1 = .ok (.istore_n 2, 1) := by decide +kernel
theorem dX4_wakesFrom_2 : decode cX4_wakesFrom 2 = .ok (.iload_n 1, 1) := by decide +kernel
theorem dX4_wakesFrom_3 : decode cX4_wakesFrom 3 = .ok (.istore_n 3, 1) := by decide +kernel
theorem dX4_wakesFrom_4 : decode cX4_wakesFrom 4 = .ok (.iconst 0, 1) := by decide +kernel
theorem dX4_wakesFrom_5 : decode cX4_wakesFrom 5 = .ok (.istore 4, 2) := by decide +kernel
theorem dX4_wakesFrom_7 : decode cX4_wakesFrom 7 = .ok (.iconst 0, 1) := by decide +kernel
theorem dX4_wakesFrom_8 : decode cX4_wakesFrom 8 = .ok (.istore 5, 2) := by decide +kernel
theorem dX4_wakesFrom_10 : decode cX4_wakesFrom 10 = .ok (.iload 5, 2) := by decide +kernel
theorem dX4_wakesFrom_12 : decode cX4_wakesFrom 12 = .ok (.aload_n 0, 1) := by decide +kernel
theorem dX4_wakesFrom_13 : decode cX4_wakesFrom 13 = .ok (.getfield 22, 3) := by decide +kernel
theorem dX4_wakesFrom_16 : decode cX4_wakesFrom 16 = .ok (.if_icmp .ge 58, 3) := by decide +kernel
theorem dX4_wakesFrom_19 : decode cX4_wakesFrom 19 = .ok (.iload_n 3, 1) := by decide +kernel
theorem dX4_wakesFrom_20 : decode cX4_wakesFrom 20 = .ok (.ifCond .lt 54, 3) := by decide +kernel
theorem dX4_wakesFrom_23 : decode cX4_wakesFrom 23 = .ok (.iload_n 3, 1) := by decide +kernel
theorem dX4_wakesFrom_24 : decode cX4_wakesFrom 24 = .ok (.aload_n 0, 1) := by decide +kernel
theorem dX4_wakesFrom_25 : decode cX4_wakesFrom 25 = .ok (.getfield 15, 3) := by decide +kernel
theorem dX4_wakesFrom_28 : decode cX4_wakesFrom 28 = .ok (.arraylength, 1) := by decide +kernel
theorem dX4_wakesFrom_29 : decode cX4_wakesFrom 29 = .ok (.if_icmp .ge 45, 3) := by decide +kernel
theorem dX4_wakesFrom_32 : decode cX4_wakesFrom 32 = .ok (.iload 4, 2) := by decide +kernel
theorem dX4_wakesFrom_34 : decode cX4_wakesFrom 34 = .ok (.aload_n 0, 1) := by decide +kernel
theorem dX4_wakesFrom_35 : decode cX4_wakesFrom 35 = .ok (.getfield 15, 3) := by decide +kernel
theorem dX4_wakesFrom_38 : decode cX4_wakesFrom 38 = .ok (.iload_n 3, 1) := by decide +kernel
theorem dX4_wakesFrom_39 : decode cX4_wakesFrom 39 = .ok (.iaload, 1) := by decide +kernel
theorem dX4_wakesFrom_40 : decode cX4_wakesFrom 40 = .ok (.iadd, 1) := by decide +kernel
theorem dX4_wakesFrom_41 : decode cX4_wakesFrom 41 = .ok (.istore 4, 2) := by decide +kernel
theorem dX4_wakesFrom_43 : decode cX4_wakesFrom 43 = .ok (.iload 4, 2) := by decide +kernel
theorem dX4_wakesFrom_45 : decode cX4_wakesFrom 45 = .ok (.aload_n 0, 1) := by decide +kernel
theorem dX4_wakesFrom_46 : decode cX4_wakesFrom 46 = .ok (.getfield 22, 3) := by decide +kernel
theorem dX4_wakesFrom_49 : decode cX4_wakesFrom 49 = .ok (.if_icmp .lt 6, 3) := by decide +kernel
theorem dX4_wakesFrom_52 : decode cX4_wakesFrom 52 = .ok (.goto 22, 3) := by decide +kernel
theorem dX4_wakesFrom_55 : decode cX4_wakesFrom 55 = .ok (.iinc 2 1, 3) := by decide +kernel
theorem dX4_wakesFrom_58 : decode cX4_wakesFrom 58 = .ok (.iload_n 1, 1) := by decide +kernel
theorem dX4_wakesFrom_59 : decode cX4_wakesFrom 59 = .ok (.iload 4, 2) := by decide +kernel
theorem dX4_wakesFrom_61 : decode cX4_wakesFrom 61 = .ok (.iadd, 1) := by decide +kernel
theorem dX4_wakesFrom_62 : decode cX4_wakesFrom 62 = .ok (.aload_n 0, 1) := by decide +kernel
theorem dX4_wakesFrom_63 : decode cX4_wakesFrom 63 = .ok (.getfield 22, 3) := by decide +kernel
theorem dX4_wakesFrom_66 : decode cX4_wakesFrom 66 = .ok (.irem, 1) := by decide +kernel
theorem dX4_wakesFrom_67 : decode cX4_wakesFrom 67 = .ok (.istore_n 3, 1) := by decide +kernel
theorem dX4_wakesFrom_68 : decode cX4_wakesFrom 68 = .ok (.iinc 5 1, 3) := by decide +kernel
theorem dX4_wakesFrom_71 : decode cX4_wakesFrom 71 = .ok (.goto (-61), 3) := by decide +kernel
theorem dX4_wakesFrom_74 : decode cX4_wakesFrom 74 = .ok (.iload_n 2, 1) := by decide +kernel
theorem dX4_wakesFrom_75 : decode cX4_wakesFrom 75 = .ok (.ireturn, 1) := by decide +kernel
theorem dX4_tickAt_0 : decode cX4_tickAt 0 = .ok (.iload_n 1, 1) := by decide +kernel
theorem dX4_tickAt_1 : decode cX4_tickAt 1 = .ok (.ifCond .lt 11, 3) := by decide +kernel
theorem dX4_tickAt_4 : decode cX4_tickAt 4 = .ok (.iload_n 1, 1) := by decide +kernel
theorem dX4_tickAt_5 : decode cX4_tickAt 5 = .ok (.aload_n 0, 1) := by decide +kernel
theorem dX4_tickAt_6 : decode cX4_tickAt 6 = .ok (.getfield 18, 3) := by decide +kernel
theorem dX4_tickAt_9 : decode cX4_tickAt 9 = .ok (.if_icmp .lt 5, 3) := by decide +kernel
theorem dX4_tickAt_12 : decode cX4_tickAt 12 = .ok (.iconst (-1), 1) := by decide +kernel
theorem dX4_tickAt_13 : decode cX4_tickAt 13 = .ok (.ireturn, 1) := by decide +kernel
theorem dX4_tickAt_14 : decode cX4_tickAt 14 = .ok (.aload_n 0, 1) := by decide +kernel
theorem dX4_tickAt_15 : decode cX4_tickAt 15 = .ok (.getfield 28, 3) := by decide +kernel
theorem dX4_tickAt_18 : decode cX4_tickAt 18 = .ok (.istore_n 2, 1) := by decide +kernel
theorem dX4_tickAt_19 : decode cX4_tickAt 19 = .ok (.iconst 0, 1) := by decide +kernel
theorem dX4_tickAt_20 : decode cX4_tickAt 20 = .ok (.istore_n 3, 1) := by decide +kernel
theorem dX4_tickAt_21 : decode cX4_tickAt 21 = .ok (.iload_n 3, 1) := by decide +kernel
theorem dX4_tickAt_22 : decode cX4_tickAt 22 = .ok (.iload_n 1, 1) := by decide +kernel
theorem dX4_tickAt_23 : decode cX4_tickAt 23 = .ok (.if_icmp .ge 43, 3) := by decide +kernel
theorem dX4_tickAt_26 : decode cX4_tickAt 26 = .ok (.aload_n 0, 1) := by decide +kernel
theorem dX4_tickAt_27 : decode cX4_tickAt 27 = .ok (.getfield 22, 3) := by decide +kernel
theorem dX4_tickAt_30 : decode cX4_tickAt 30 = .ok (.ifCond .le 36, 3) := by decide +kernel
theorem dX4_tickAt_33 : decode cX4_tickAt 33 = .ok (.iload_n 2, 1) := by decide +kernel
theorem dX4_tickAt_34 : decode cX4_tickAt 34 = .ok (.ifCond .lt 32, 3) := by decide +kernel
theorem dX4_tickAt_37 : decode cX4_tickAt 37 = .ok (.iload_n 2, 1) := by decide +kernel
theorem dX4_tickAt_38 : decode cX4_tickAt 38 = .ok (.aload_n 0, 1) := by decide +kernel
theorem dX4_tickAt_39 : decode cX4_tickAt 39 = .ok (.getfield 15, 3) := by decide +kernel
theorem dX4_tickAt_42 : decode cX4_tickAt 42 = .ok (.arraylength, 1) := by decide +kernel
theorem dX4_tickAt_43 : decode cX4_tickAt 43 = .ok (.if_icmp .ge 23, 3) := by decide +kernel
theorem dX4_tickAt_46 : decode cX4_tickAt 46 = .ok (.iload_n 2, 1) := by decide +kernel
theorem dX4_tickAt_47 : decode cX4_tickAt 47 = .ok (.aload_n 0, 1) := by decide +kernel
theorem dX4_tickAt_48 : decode cX4_tickAt 48 = .ok (.getfield 15, 3) := by decide +kernel
theorem dX4_tickAt_51 : decode cX4_tickAt 51 = .ok (.iload_n 2, 1) := by decide +kernel
theorem dX4_tickAt_52 : decode cX4_tickAt 52 = .ok (.iaload, 1) := by decide +kernel
theorem dX4_tickAt_53 : decode cX4_tickAt 53 = .ok (.iadd, 1) := by decide +kernel
theorem dX4_tickAt_54 : decode cX4_tickAt 54 = .ok (.aload_n 0, 1) := by decide +kernel
theorem dX4_tickAt_55 : decode cX4_tickAt 55 = .ok (.getfield 22, 3) := by decide +kernel
theorem dX4_tickAt_58 : decode cX4_tickAt 58 = .ok (.irem, 1) := by decide +kernel
theorem dX4_tickAt_59 : decode cX4_tickAt 59 = .ok (.istore_n 2, 1) := by decide +kernel
theorem dX4_tickAt_60 : decode cX4_tickAt 60 = .ok (.iinc 3 1, 3) := by decide +kernel
theorem dX4_tickAt_63 : decode cX4_tickAt 63 = .ok (.goto (-42), 3) := by decide +kernel
theorem dX4_tickAt_66 : decode cX4_tickAt 66 = .ok (.iload_n 2, 1) := by decide +kernel
theorem dX4_tickAt_67 : decode cX4_tickAt 67 = .ok (.ireturn, 1) := by decide +kernel
theorem dX5_init_0 : decode cX5_init 0 = .ok (.aload_n 0, 1) := by decide +kernel
theorem dX5_init_1 : decode cX5_init 1 = .ok (.invokespecial 3, 3) := by decide +kernel
theorem dX5_init_4 : decode cX5_init 4 = .ok (.aload_n 0, 1) := by decide +kernel
theorem dX5_init_5 : decode cX5_init 5 = .ok (.bipush 8, 2) := by decide +kernel
theorem dX5_init_7 : decode cX5_init 7 = .ok (.newarray .int, 2) := by decide +kernel
theorem dX5_init_9 : decode cX5_init 9 = .ok (.putfield 9, 3) := by decide +kernel
theorem dX5_init_12 : decode cX5_init 12 = .ok (.aload_n 0, 1) := by decide +kernel
theorem dX5_init_13 : decode cX5_init 13 = .ok (.bipush 8, 2) := by decide +kernel
theorem dX5_init_15 : decode cX5_init 15 = .ok (.newarray .int, 2) := by decide +kernel
theorem dX5_init_17 : decode cX5_init 17 = .ok (.putfield 15, 3) := by decide +kernel
theorem dX5_init_20 : decode cX5_init 20 = .ok (.aload_n 0, 1) := by decide +kernel
theorem dX5_init_21 : decode cX5_init 21 = .ok (.bipush 8, 2) := by decide +kernel
theorem dX5_init_23 : decode cX5_init 23 = .ok (.newarray .int, 2) := by decide +kernel
theorem dX5_init_25 : decode cX5_init 25 = .ok (.putfield 18, 3) := by decide +kernel
theorem dX5_init_28 : decode cX5_init 28 = .ok (.aload_n 0, 1) := by decide +kernel
theorem dX5_init_29 : decode cX5_init 29 = .ok (.bipush 8, 2) := by decide +kernel
theorem dX5_init_31 : decode cX5_init 31 = .ok (.newarray .int, 2) := by decide +kernel
theorem dX5_init_33 : decode cX5_init 33 = .ok (.putfield 21, 3) := by decide +kernel
theorem dX5_init_36 : decode cX5_init 36 = .ok (.aload_n 0, 1) := by decide +kernel
theorem dX5_init_37 : decode cX5_init 37 = .ok (.bipush 24, 2) := by decide +kernel
theorem dX5_init_39 : decode cX5_init 39 = .ok (.newarray .int, 2) := by decide +kernel
theorem dX5_init_41 : decode cX5_init 41 = .ok (.putfield 24, 3) := by decide +kernel
theorem dX5_init_44 : decode cX5_init 44 = .ok (.aload_n 0, 1) := by decide +kernel
theorem dX5_init_45 : decode cX5_init 45 = .ok (.bipush 24, 2) := by decide +kernel
theorem dX5_init_47 : decode cX5_init 47 = .ok (.newarray .int, 2) := by decide +kernel
theorem dX5_init_49 : decode cX5_init 49 = .ok (.putfield 27, 3) := by decide +kernel
theorem dX5_init_52 : decode cX5_init 52 = .ok (.aload_n 0, 1) := by decide +kernel
theorem dX5_init_53 : decode cX5_init 53 = .ok (.bipush 24, 2) := by decide +kernel
theorem dX5_init_55 : decode cX5_init 55 = .ok (.newarray .int, 2) := by decide +kernel
theorem dX5_init_57 : decode cX5_init 57 = .ok (.putfield 30, 3) := by decide +kernel
theorem dX5_init_60 : decode cX5_init 60 = .ok (.aload_n 0, 1) := by decide +kernel
theorem dX5_init_61 : decode cX5_init 61 = .ok (.invokevirtual 33, 3) := by decide +kernel
theorem dX5_init_64 : decode cX5_init 64 = .ok (.return_, 1) := by decide +kernel
theorem dX5_clear_0 : decode cX5_clear 0 = .ok (.aload_n 0, 1) := by decide +kernel
theorem dX5_clear_1 : decode cX5_clear 1 = .ok (.iconst 0, 1) := by decide +kernel
theorem dX5_clear_2 : decode cX5_clear 2 = .ok (.putfield 36, 3) := by decide +kernel
theorem dX5_clear_5 : decode cX5_clear 5 = .ok (.aload_n 0, 1) := by decide +kernel
theorem dX5_clear_6 : decode cX5_clear 6 = .ok (.iconst 0, 1) := by decide +kernel
theorem dX5_clear_7 : decode cX5_clear 7 = .ok (.putfield 40, 3) := by decide +kernel
theorem dX5_clear_10 : decode cX5_clear 10 = .ok (.aload_n 0, 1) := by decide +kernel
theorem dX5_clear_11 : decode cX5_clear 11 = .ok (.bipush 60, 2) := by decide +kernel
theorem dX5_clear_13 : decode cX5_clear 13 = .ok (.putfield 43, 3) := by decide +kernel
theorem dX5_clear_16 : decode cX5_clear 16 = .ok (.aload_n 0, 1) := by decide +kernel
theorem dX5_clear_17 : decode cX5_clear 17 = .ok (.bipush 10, 2) := by decide +kernel
theorem dX5_clear_19 : decode cX5_clear 19 = .ok (.putfield 46, 3) := by decide +kernel
theorem dX5_clear_22 : decode cX5_clear 22 = .ok (.aload_n 0, 1) := by decide +kernel
theorem dX5_clear_23 : decode cX5_clear 23 = .ok (.iconst 1, 1) := by decide +kernel
theorem dX5_clear_24 : decode cX5_clear 24 = .ok (.putfield 49, 3) := by decide +kernel
theorem dX5_clear_27 : decode cX5_clear 27 = .ok (.return_, 1) := by decide +kernel
theorem dX5_kinds_0 : decode cX5_kinds 0 = .ok (.aload_n 0, 1) := by decide +kernel
theorem dX5_kinds_1 : decode cX5_kinds 1 = .ok (.getfield 36, 3) := by decide +kernel
theorem dX5_kinds_4 : decode cX5_kinds 4 = .ok (.ireturn, 1) := by decide +kernel
theorem dX5_timers_0 : decode cX5_timers 0 = .ok (.aload_n 0, 1) := by decide +kernel
theorem dX5_timers_1 : decode cX5_timers 1 = .ok (.getfield 40, 3) := by decide +kernel
theorem dX5_timers_4 : decode cX5_timers 4 = .ok (.ireturn, 1) := by decide +kernel
theorem dX5_length_0 : decode cX5_length 0 = .ok (.aload_n 0, 1) := by decide +kernel
theorem dX5_length_1 : decode cX5_length 1 = .ok (.getfield 43, 3) := by decide +kernel
theorem dX5_length_4 : decode cX5_length 4 = .ok (.ireturn, 1) := by decide +kernel
theorem dX5_wakePrice_0 : decode cX5_wakePrice 0 = .ok (.aload_n 0, 1) := by decide +kernel
theorem dX5_wakePrice_1 : decode cX5_wakePrice 1 = .ok (.getfield 46, 3) := by decide +kernel
theorem dX5_wakePrice_4 : decode cX5_wakePrice 4 = .ok (.ireturn, 1) := by decide +kernel
theorem dX5_stay_0 : decode cX5_stay 0 = .ok (.aload_n 0, 1) := by decide +kernel
theorem dX5_stay_1 : decode cX5_stay 1 = .ok (.getfield 49, 3) := by decide +kernel
theorem dX5_stay_4 : decode cX5_stay 4 = .ok (.ireturn, 1) := by decide +kernel
theorem dX5_setLength_0 : decode cX5_setLength 0 = .ok (.aload_n 0, 1) := by decide +kernel
theorem dX5_setLength_1 : decode cX5_setLength 1 = .ok (.iload_n 1, 1) := by decide +kernel
theorem dX5_setLength_2 : decode cX5_setLength 2 = .ok (.putfield 43, 3) := by decide +kernel
theorem dX5_setLength_5 : decode cX5_setLength 5 = .ok (.return_, 1) := by decide +kernel
theorem dX5_setPrice_0 : decode cX5_setPrice 0 = .ok (.aload_n 0, 1) := by decide +kernel
theorem dX5_setPrice_1 : decode cX5_setPrice 1 = .ok (.iload_n 1, 1) := by decide +kernel
theorem dX5_setPrice_2 : decode cX5_setPrice 2 = .ok (.putfield 46, 3) := by decide +kernel
theorem dX5_setPrice_5 : decode cX5_setPrice 5 = .ok (.return_, 1) := by decide +kernel
theorem dX5_setStay_0 : decode cX5_setStay 0 = .ok (.aload_n 0, 1) := by decide +kernel
theorem dX5_setStay_1 : decode cX5_setStay 1 = .ok (.iload_n 1, 1) := by decide +kernel
theorem dX5_setStay_2 : decode cX5_setStay 2 = .ok (.putfield 49, 3) := by decide +kernel
theorem dX5_setStay_5 : decode cX5_setStay 5 = .ok (.return_, 1) := by decide +kernel
theorem dX5_addKind_0 : decode cX5_addKind 0 = .ok (.aload_n 0, 1) := by decide +kernel
theorem dX5_addKind_1 : decode cX5_addKind 1 = .ok (.getfield 36, 3) := by decide +kernel
theorem dX5_addKind_4 : decode cX5_addKind 4 = .ok (.bipush 8, 2) := by decide +kernel
theorem dX5_addKind_6 : decode cX5_addKind 6 = .ok (.if_icmp .ge 54, 3) := by decide +kernel
theorem dX5_addKind_9 : decode cX5_addKind 9 = .ok (.aload_n 0, 1) := by decide +kernel
theorem dX5_addKind_10 : decode cX5_addKind 10 = .ok (.getfield 9, 3) := by decide +kernel
theorem dX5_addKind_13 : decode cX5_addKind 13 = .ok (.aload_n 0, 1) := by decide +kernel
theorem dX5_addKind_14 : decode cX5_addKind 14 = .ok (.getfield 36, 3) := by decide +kernel
theorem dX5_addKind_17 : decode cX5_addKind 17 = .ok (.iload_n 1, 1) := by decide +kernel
theorem dX5_addKind_18 : decode cX5_addKind 18 = .ok (.iastore, 1) := by decide +kernel
theorem dX5_addKind_19 : decode cX5_addKind 19 = .ok (.aload_n 0, 1) := by decide +kernel
theorem dX5_addKind_20 : decode cX5_addKind 20 = .ok (.getfield 15, 3) := by decide +kernel
theorem dX5_addKind_23 : decode cX5_addKind 23 = .ok (.aload_n 0, 1) := by decide +kernel
theorem dX5_addKind_24 : decode cX5_addKind 24 = .ok (.getfield 36, 3) := by decide +kernel
theorem dX5_addKind_27 : decode cX5_addKind 27 = .ok (.iload_n 2, 1) := by decide +kernel
theorem dX5_addKind_28 : decode cX5_addKind 28 = .ok (.iastore, 1) := by decide +kernel
theorem dX5_addKind_29 : decode cX5_addKind 29 = .ok (.aload_n 0, 1) := by decide +kernel
theorem dX5_addKind_30 : decode cX5_addKind 30 = .ok (.getfield 18, 3) := by decide +kernel
theorem dX5_addKind_33 : decode cX5_addKind 33 = .ok (.aload_n 0, 1) := by decide +kernel
theorem dX5_addKind_34 : decode cX5_addKind 34 = .ok (.getfield 36, 3) := by decide +kernel
theorem dX5_addKind_37 : decode cX5_addKind 37 = .ok (.iload_n 3, 1) := by decide +kernel
theorem dX5_addKind_38 : decode cX5_addKind 38 = .ok (.iastore, 1) := by decide +kernel
theorem dX5_addKind_39 : decode cX5_addKind 39 = .ok (.aload_n 0, 1) := by decide +kernel
theorem dX5_addKind_40 : decode cX5_addKind 40 = .ok (.getfield 21, 3) := by decide +kernel
theorem dX5_addKind_43 : decode cX5_addKind 43 = .ok (.aload_n 0, 1) := by decide +kernel
theorem dX5_addKind_44 : decode cX5_addKind 44 = .ok (.getfield 36, 3) := by decide +kernel
theorem dX5_addKind_47 : decode cX5_addKind 47 = .ok (.iload 4, 2) := by decide +kernel
theorem dX5_addKind_49 : decode cX5_addKind 49 = .ok (.iastore, 1) := by decide +kernel
theorem dX5_addKind_50 : decode cX5_addKind 50 = .ok (.aload_n 0, 1) := by decide +kernel
theorem dX5_addKind_51 : decode cX5_addKind 51 = .ok (.dup, 1) := by decide +kernel
theorem dX5_addKind_52 : decode cX5_addKind 52 = .ok (.getfield 36, 3) := by decide +kernel
theorem dX5_addKind_55 : decode cX5_addKind 55 = .ok (.iconst 1, 1) := by decide +kernel
theorem dX5_addKind_56 : decode cX5_addKind 56 = .ok (.iadd, 1) := by decide +kernel
theorem dX5_addKind_57 : decode cX5_addKind 57 = .ok (.putfield 36, 3) := by decide +kernel
theorem dX5_addKind_60 : decode cX5_addKind 60 = .ok (.return_, 1) := by decide +kernel
theorem dX5_addTimer_0 : decode cX5_addTimer 0 = .ok (.aload_n 0, 1) := by decide +kernel
theorem dX5_addTimer_1 : decode cX5_addTimer 1 = .ok (.getfield 40, 3) := by decide +kernel
theorem dX5_addTimer_4 : decode cX5_addTimer 4 = .ok (.bipush 24, 2) := by decide +kernel
theorem dX5_addTimer_6 : decode cX5_addTimer 6 = .ok (.if_icmp .ge 43, 3) := by decide +kernel
theorem dX5_addTimer_9 : decode cX5_addTimer 9 = .ok (.aload_n 0, 1) := by decide +kernel
theorem dX5_addTimer_10 : decode cX5_addTimer 10 = .ok (.getfield 24, 3) := by decide +kernel
theorem dX5_addTimer_13 : decode cX5_addTimer 13 = .ok (.aload_n 0, 1) := by decide +kernel
theorem dX5_addTimer_14 : decode cX5_addTimer 14 = .ok (.getfield 40, 3) := by decide +kernel
theorem dX5_addTimer_17 : decode cX5_addTimer 17 = .ok (.iload_n 1, 1) := by decide +kernel
theorem dX5_addTimer_18 : decode cX5_addTimer 18 = .ok (.iastore, 1) := by decide +kernel
theorem dX5_addTimer_19 : decode cX5_addTimer 19 = .ok (.aload_n 0, 1) := by decide +kernel
theorem dX5_addTimer_20 : decode cX5_addTimer 20 = .ok (.getfield 27, 3) := by decide +kernel
theorem dX5_addTimer_23 : decode cX5_addTimer 23 = .ok (.aload_n 0, 1) := by decide +kernel
theorem dX5_addTimer_24 : decode cX5_addTimer 24 = .ok (.getfield 40, 3) := by decide +kernel
theorem dX5_addTimer_27 : decode cX5_addTimer 27 = .ok (.iload_n 2, 1) := by decide +kernel
theorem dX5_addTimer_28 : decode cX5_addTimer 28 = .ok (.iastore, 1) := by decide +kernel
theorem dX5_addTimer_29 : decode cX5_addTimer 29 = .ok (.aload_n 0, 1) := by decide +kernel
theorem dX5_addTimer_30 : decode cX5_addTimer 30 = .ok (.getfield 30, 3) := by decide +kernel
theorem dX5_addTimer_33 : decode cX5_addTimer 33 = .ok (.aload_n 0, 1) := by decide +kernel
theorem dX5_addTimer_34 : decode cX5_addTimer 34 = .ok (.getfield 40, 3) := by decide +kernel
theorem dX5_addTimer_37 : decode cX5_addTimer 37 = .ok (.iload_n 3, 1) := by decide +kernel
theorem dX5_addTimer_38 : decode cX5_addTimer 38 = .ok (.iastore, 1) := by decide +kernel
theorem dX5_addTimer_39 : decode cX5_addTimer 39 = .ok (.aload_n 0, 1) := by decide +kernel
theorem dX5_addTimer_40 : decode cX5_addTimer 40 = .ok (.dup, 1) := by decide +kernel
theorem dX5_addTimer_41 : decode cX5_addTimer 41 = .ok (.getfield 40, 3) := by decide +kernel
theorem dX5_addTimer_44 : decode cX5_addTimer 44 = .ok (.iconst 1, 1) := by decide +kernel
theorem dX5_addTimer_45 : decode cX5_addTimer 45 = .ok (.iadd, 1) := by decide +kernel
theorem dX5_addTimer_46 : decode cX5_addTimer 46 = .ok (.putfield 40, 3) := by decide +kernel
theorem dX5_addTimer_49 : decode cX5_addTimer 49 = .ok (.return_, 1) := by decide +kernel
theorem dX5_hasKind_0 : decode cX5_hasKind 0 = .ok (.iload_n 1, 1) := by decide +kernel
theorem dX5_hasKind_1 : decode cX5_hasKind 1 = .ok (.ifCond .lt 15, 3) := by decide +kernel
theorem dX5_hasKind_4 : decode cX5_hasKind 4 = .ok (.iload_n 1, 1) := by decide +kernel
theorem dX5_hasKind_5 : decode cX5_hasKind 5 = .ok (.aload_n 0, 1) := by decide +kernel
theorem dX5_hasKind_6 : decode cX5_hasKind 6 = .ok (.getfield 36, 3) := by decide +kernel
theorem dX5_hasKind_9 : decode cX5_hasKind 9 = .ok (.if_icmp .ge 7, 3) := by decide +kernel
theorem dX5_hasKind_12 : decode cX5_hasKind 12 = .ok (.iconst 1, 1) := by decide +kernel
theorem dX5_hasKind_13 : decode cX5_hasKind 13 = .ok (.goto 4, 3) := by decide +kernel
theorem dX5_hasKind_16 : decode cX5_hasKind 16 = .ok (.iconst 0, 1) := by decide +kernel
theorem dX5_hasKind_17 : decode cX5_hasKind 17 = .ok (.ireturn, 1) := by decide +kernel
theorem dX5_hasTimer_0 : decode cX5_hasTimer 0 = .ok (.iload_n 1, 1) := by decide +kernel
theorem dX5_hasTimer_1 : decode cX5_hasTimer 1 = .ok (.ifCond .lt 15, 3) := by decide +kernel
theorem dX5_hasTimer_4 : decode cX5_hasTimer 4 = .ok (.iload_n 1, 1) := by decide +kernel
theorem dX5_hasTimer_5 : decode cX5_hasTimer 5 = .ok (.aload_n 0, 1) := by decide +kernel
theorem dX5_hasTimer_6 : decode cX5_hasTimer 6 = .ok (.getfield 40, 3) := by decide +kernel
theorem dX5_hasTimer_9 : decode cX5_hasTimer 9 = .ok (.if_icmp .ge 7, 3) := by decide +kernel
theorem dX5_hasTimer_12 : decode cX5_hasTimer 12 = .ok (.iconst 1, 1) := by decide +kernel
theorem dX5_hasTimer_13 : decode cX5_hasTimer 13 = .ok (.goto 4, 3) := by decide +kernel
theorem dX5_hasTimer_16 : decode cX5_hasTimer 16 = .ok (.iconst 0, 1) := by decide +kernel
theorem dX5_hasTimer_17 : decode cX5_hasTimer 17 = .ok (.ireturn, 1) := by decide +kernel
theorem dX5_kindNamed_0 : decode cX5_kindNamed 0 = .ok (.iconst 0, 1) := by decide +kernel
theorem dX5_kindNamed_1 : decode cX5_kindNamed 1 = .ok (.istore_n 2, 1) := by decide +kernel
theorem dX5_kindNamed_2 : decode cX5_kindNamed 2 = .ok (.iload_n 2, 1) := by decide +kernel
theorem dX5_kindNamed_3 : decode cX5_kindNamed 3 = .ok (.aload_n 0, 1) := by decide +kernel
theorem dX5_kindNamed_4 : decode cX5_kindNamed 4 = .ok (.getfield 36, 3) := by decide +kernel
theorem dX5_kindNamed_7 : decode cX5_kindNamed 7 = .ok (.if_icmp .ge 21, 3) := by decide +kernel
theorem dX5_kindNamed_10 : decode cX5_kindNamed 10 = .ok (.aload_n 0, 1) := by decide +kernel
theorem dX5_kindNamed_11 : decode cX5_kindNamed 11 = .ok (.getfield 9, 3) := by decide +kernel
theorem dX5_kindNamed_14 : decode cX5_kindNamed 14 = .ok (.iload_n 2, 1) := by decide +kernel
theorem dX5_kindNamed_15 : decode cX5_kindNamed 15 = .ok (.iaload, 1) := by decide +kernel
theorem dX5_kindNamed_16 : decode cX5_kindNamed 16 = .ok (.iload_n 1, 1) := by decide +kernel
theorem dX5_kindNamed_17 : decode cX5_kindNamed 17 = .ok (.if_icmp .ne 5, 3) := by decide +kernel
theorem dX5_kindNamed_20 : decode cX5_kindNamed 20 = .ok (.iload_n 2, 1) := by decide +kernel
theorem dX5_kindNamed_21 : decode cX5_kindNamed 21 = .ok (.ireturn, 1) := by decide +kernel
theorem dX5_kindNamed_22 : decode cX5_kindNamed 22 = .ok (.iinc 2 1, 3) := by decide +kernel
theorem dX5_kindNamed_25 : decode cX5_kindNamed 25 = .ok (.goto (-23), 3) := by decide +kernel
theorem dX5_kindNamed_28 : decode cX5_kindNamed 28 = .ok (.iconst (-1), 1) := by decide +kernel
theorem dX5_kindNamed_29 : decode cX5_kindNamed 29 = .ok (.ireturn, 1) := by decide +kernel
theorem dX5_parentOf_0 : decode cX5_parentOf 0 = .ok (.aload_n 0, 1) := by decide +kernel
theorem dX5_parentOf_1 : decode cX5_parentOf 1 = .ok (.iload_n 1, 1) := by decide +kernel
theorem dX5_parentOf_2 : decode cX5_parentOf 2 = .ok (.invokevirtual 52, 3) := by decide +kernel
theorem dX5_parentOf_5 : decode cX5_parentOf 5 = .ok (.ifCond .eq 12, 3) := by decide +kernel
theorem dX5_parentOf_8 : decode cX5_parentOf 8 = .ok (.aload_n 0, 1) := by decide +kernel
theorem dX5_parentOf_9 : decode cX5_parentOf 9 = .ok (.getfield 15, 3) := by decide +kernel
theorem dX5_parentOf_12 : decode cX5_parentOf 12 = .ok (.iload_n 1, 1) := by decide +kernel
theorem dX5_parentOf_13 : decode cX5_parentOf 13 = .ok (.iaload, 1) := by decide +kernel
theorem dX5_parentOf_14 : decode cX5_parentOf 14 = .ok (.goto 4, 3) := by decide +kernel
theorem dX5_parentOf_17 : decode cX5_parentOf 17 = .ok (.iconst (-1), 1) := by decide +kernel
theorem dX5_parentOf_18 : decode cX5_parentOf 18 = .ok (.ireturn, 1) := by decide +kernel
theorem dX5_ownSlack_0 : decode cX5_ownSlack 0 = .ok (.aload_n 0, 1) := by decide +kernel
theorem dX5_ownSlack_1 : decode cX5_ownSlack 1 = .ok (.iload_n 1, 1) := by decide +kernel
theorem dX5_ownSlack_2 : decode cX5_ownSlack 2 = .ok (.invokevirtual 52, 3) := by decide +kernel
theorem dX5_ownSlack_5 : decode cX5_ownSlack 5 = .ok (.ifCond .eq 12, 3) := by decide +kernel
theorem dX5_ownSlack_8 : decode cX5_ownSlack 8 = .ok (.aload_n 0, 1) := by decide +kernel
theorem dX5_ownSlack_9 : decode cX5_ownSlack 9 = .ok (.getfield 18, 3) := by decide +kernel
theorem dX5_ownSlack_12 : decode cX5_ownSlack 12 = .ok (.iload_n 1, 1) := by decide +kernel
theorem dX5_ownSlack_13 : decode cX5_ownSlack 13 = .ok (.iaload, 1) := by decide +kernel
theorem dX5_ownSlack_14 : decode cX5_ownSlack 14 = .ok (.goto 4, 3) := by decide +kernel
theorem dX5_ownSlack_17 : decode cX5_ownSlack 17 = .ok (.iconst (-1), 1) := by decide +kernel
theorem dX5_ownSlack_18 : decode cX5_ownSlack 18 = .ok (.ireturn, 1) := by decide +kernel
theorem dX5_ownWeight_0 : decode cX5_ownWeight 0 = .ok (.aload_n 0, 1) := by decide +kernel
theorem dX5_ownWeight_1 : decode cX5_ownWeight 1 = .ok (.iload_n 1, 1) := by decide +kernel
theorem dX5_ownWeight_2 : decode cX5_ownWeight 2 = .ok (.invokevirtual 52, 3) := by decide +kernel
theorem dX5_ownWeight_5 : decode cX5_ownWeight 5 = .ok (.ifCond .eq 12, 3) := by decide +kernel
theorem dX5_ownWeight_8 : decode cX5_ownWeight 8 = .ok (.aload_n 0, 1) := by decide +kernel
theorem dX5_ownWeight_9 : decode cX5_ownWeight 9 = .ok (.getfield 21, 3) := by decide +kernel
theorem dX5_ownWeight_12 : decode cX5_ownWeight 12 = .ok (.iload_n 1, 1) := by decide +kernel
theorem dX5_ownWeight_13 : decode cX5_ownWeight 13 = .ok (.iaload, 1) := by decide +kernel
theorem dX5_ownWeight_14 : decode cX5_ownWeight 14 = .ok (.goto 4, 3) := by decide +kernel
theorem dX5_ownWeight_17 : decode cX5_ownWeight 17 = .ok (.iconst (-1), 1) := by decide +kernel
theorem dX5_ownWeight_18 : decode cX5_ownWeight 18 = .ok (.ireturn, 1) := by decide +kernel
theorem dX5_setSlack_0 : decode cX5_setSlack 0 = .ok (.aload_n 0, 1) := by decide +kernel
theorem dX5_setSlack_1 : decode cX5_setSlack 1 = .ok (.iload_n 1, 1) := by decide +kernel
theorem dX5_setSlack_2 : decode cX5_setSlack 2 = .ok (.invokevirtual 52, 3) := by decide +kernel
theorem dX5_setSlack_5 : decode cX5_setSlack 5 = .ok (.ifCond .eq 10, 3) := by decide +kernel
theorem dX5_setSlack_8 : decode cX5_setSlack 8 = .ok (.aload_n 0, 1) := by decide +kernel
theorem dX5_setSlack_9 : decode cX5_setSlack 9 = .ok (.getfield 18, 3) := by decide +kernel
theorem dX5_setSlack_12 : decode cX5_setSlack 12 = .ok (.iload_n 1, 1) := by decide +kernel
theorem dX5_setSlack_13 : decode cX5_setSlack 13 = .ok (.iload_n 2, 1) := by decide +kernel
theorem dX5_setSlack_14 : decode cX5_setSlack 14 = .ok (.iastore, 1) := by decide +kernel
theorem dX5_setSlack_15 : decode cX5_setSlack 15 = .ok (.return_, 1) := by decide +kernel
theorem dX5_slackGiver_0 : decode cX5_slackGiver 0 = .ok (.iload_n 1, 1) := by decide +kernel
theorem dX5_slackGiver_1 : decode cX5_slackGiver 1 = .ok (.istore_n 2, 1) := by decide +kernel
theorem dX5_slackGiver_2 : decode cX5_slackGiver 2 = .ok (.iconst 0, 1) := by decide +kernel
theorem dX5_slackGiver_3 : decode cX5_slackGiver 3 = .ok (.istore_n 3, 1) := by decide +kernel
theorem dX5_slackGiver_4 : decode cX5_slackGiver 4 = .ok (.iload_n 3, 1) := by decide +kernel
theorem dX5_slackGiver_5 : decode cX5_slackGiver 5 = .ok (.bipush 8, 2) := by decide +kernel
theorem dX5_slackGiver_7 : decode cX5_slackGiver 7 = .ok (.if_icmp .ge 36, 3) := by decide +kernel
theorem dX5_slackGiver_10 : decode cX5_slackGiver 10 = .ok (.aload_n 0, 1) := by decide +kernel
theorem dX5_slackGiver_11 : decode cX5_slackGiver 11 = .ok (.iload_n 2, 1) := by decide +kernel
theorem dX5_slackGiver_12 : decode cX5_slackGiver 12 = .ok (.invokevirtual 52, 3) := by decide +kernel
theorem dX5_slackGiver_15 : decode cX5_slackGiver 15 = .ok (.ifCond .eq 28, 3) := by decide +kernel
theorem dX5_slackGiver_18 : decode cX5_slackGiver 18 = .ok (.aload_n 0, 1) := by decide +kernel
theorem dX5_slackGiver_19 : decode cX5_slackGiver 19 = .ok (.getfield 18, 3) := by decide +kernel
theorem dX5_slackGiver_22 : decode cX5_slackGiver 22 = .ok (.iload_n 2, 1) := by decide +kernel
theorem dX5_slackGiver_23 : decode cX5_slackGiver 23 = .ok (.iaload, 1) := by decide +kernel
theorem dX5_slackGiver_24 : decode cX5_slackGiver 24 = .ok (.iconst (-1), 1) := by decide +kernel
theorem dX5_slackGiver_25 : decode cX5_slackGiver 25 = .ok (.if_icmp .eq 5, 3) := by decide +kernel
theorem dX5_slackGiver_28 : decode cX5_slackGiver 28 = .ok (.iload_n 2, 1) := by decide +kernel
theorem dX5_slackGiver_29 : decode cX5_slackGiver 29 = .ok (.ireturn, 1) := by decide +kernel
theorem dX5_slackGiver_30 : decode cX5_slackGiver 30 = .ok (.aload_n 0, 1) := by decide +kernel
theorem dX5_slackGiver_31 : decode cX5_slackGiver 31 = .ok (.getfield 15, 3) := by decide +kernel
theorem dX5_slackGiver_34 : decode cX5_slackGiver 34 = .ok (.iload_n 2, 1) := by decide +kernel
theorem dX5_slackGiver_35 : decode cX5_slackGiver 35 = .ok (.iaload, 1) := by decide +kernel
theorem dX5_slackGiver_36 : decode cX5_slackGiver 36 = .ok (.istore_n 2, 1) := by decide +kernel
theorem dX5_slackGiver_37 : decode cX5_slackGiver 37 = .ok (.iinc 3 1, 3) := by decide +kernel
theorem dX5_slackGiver_40 : decode cX5_slackGiver 40 = .ok (.goto (-36), 3) := by decide +kernel
theorem dX5_slackGiver_43 : decode cX5_slackGiver 43 = .ok (.iconst (-1), 1) := by decide +kernel
theorem dX5_slackGiver_44 : decode cX5_slackGiver 44 = .ok (.ireturn, 1) := by decide +kernel
theorem dX5_slackOf_0 : decode cX5_slackOf 0 = .ok (.aload_n 0, 1) := by decide +kernel
theorem dX5_slackOf_1 : decode cX5_slackOf 1 = .ok (.iload_n 1, 1) := by decide +kernel
theorem dX5_slackOf_2 : decode cX5_slackOf 2 = .ok (.invokevirtual 56, 3) := by decide +kernel
theorem dX5_slackOf_5 : decode cX5_slackOf 5 = .ok (.istore_n 2, 1) := by decide +kernel
theorem dX5_slackOf_6 : decode cX5_slackOf 6 = .ok (.iload_n 2, 1) := by decide +kernel
theorem dX5_slackOf_7 : decode cX5_slackOf 7 = .ok (.iconst (-1), 1) := by decide +kernel
theorem dX5_slackOf_8 : decode cX5_slackOf 8 = .ok (.if_icmp .ne 7, 3) := by decide +kernel
theorem dX5_slackOf_11 : decode cX5_slackOf 11 = .ok (.iconst 0, 1) := by decide +kernel
theorem dX5_slackOf_12 : decode cX5_slackOf 12 = .ok (.goto 8, 3) := by decide +kernel
theorem dX5_slackOf_15 : decode cX5_slackOf 15 = .ok (.aload_n 0, 1) := by decide +kernel
theorem dX5_slackOf_16 : decode cX5_slackOf 16 = .ok (.iload_n 2, 1) := by decide +kernel
theorem dX5_slackOf_17 : decode cX5_slackOf 17 = .ok (.invokevirtual 60, 3) := by decide +kernel
theorem dX5_slackOf_20 : decode cX5_slackOf 20 = .ok (.ireturn, 1) := by decide +kernel
theorem dX5_weightOf_0 : decode cX5_weightOf 0 = .ok (.iload_n 1, 1) := by decide +kernel
theorem dX5_weightOf_1 : decode cX5_weightOf 1 = .ok (.istore_n 2, 1) := by decide +kernel
theorem dX5_weightOf_2 : decode cX5_weightOf 2 = .ok (.iconst 0, 1) := by decide +kernel
theorem dX5_weightOf_3 : decode cX5_weightOf 3 = .ok (.istore_n 3, 1) := by decide +kernel
theorem dX5_weightOf_4 : decode cX5_weightOf 4 = .ok (.iload_n 3, 1) := by decide +kernel
theorem dX5_weightOf_5 : decode cX5_weightOf 5 = .ok (.bipush 8, 2) := by decide +kernel
theorem dX5_weightOf_7 : decode cX5_weightOf 7 = .ok (.if_icmp .ge 41, 3) := by decide +kernel
theorem dX5_weightOf_10 : decode cX5_weightOf 10 = .ok (.aload_n 0, 1) := by decide +kernel
theorem dX5_weightOf_11 : decode cX5_weightOf 11 = .ok (.iload_n 2, 1) := by decide +kernel
theorem dX5_weightOf_12 : decode cX5_weightOf 12 = .ok (.invokevirtual 52, 3) := by decide +kernel
theorem dX5_weightOf_15 : decode cX5_weightOf 15 = .ok (.ifCond .eq 33, 3) := by decide +kernel
theorem dX5_weightOf_18 : decode cX5_weightOf 18 = .ok (.aload_n 0, 1) := by decide +kernel
theorem dX5_weightOf_19 : decode cX5_weightOf 19 = .ok (.getfield 21, 3) := by decide +kernel
theorem dX5_weightOf_22 : decode cX5_weightOf 22 = .ok (.iload_n 2, 1) := by decide +kernel
theorem dX5_weightOf_23 : decode cX5_weightOf 23 = .ok (.iaload, 1) := by decide +kernel
theorem dX5_weightOf_24 : decode cX5_weightOf 24 = .ok (.iconst (-1), 1) := by decide +kernel
theorem dX5_weightOf_25 : decode cX5_weightOf 25 = .ok (.if_icmp .eq 10, 3) := by decide +kernel
theorem dX5_weightOf_28 : decode cX5_weightOf 28 = .ok (.aload_n 0, 1) := by decide +kernel
theorem dX5_weightOf_29 : decode cX5_weightOf 29 = .ok (.getfield 21, 3) := by decide +kernel
theorem dX5_weightOf_32 : decode cX5_weightOf 32 = .ok (.iload_n 2, 1) := by decide +kernel
theorem dX5_weightOf_33 : decode cX5_weightOf 33 = .ok (.iaload, 1) := by decide +kernel
theorem dX5_weightOf_34 : decode cX5_weightOf 34 = .ok (.ireturn, 1) := by decide +kernel
theorem dX5_weightOf_35 : decode cX5_weightOf 35 = .ok (.aload_n 0, 1) := by decide +kernel
theorem dX5_weightOf_36 : decode cX5_weightOf 36 = .ok (.getfield 15, 3) := by decide +kernel
theorem dX5_weightOf_39 : decode cX5_weightOf 39 = .ok (.iload_n 2, 1) := by decide +kernel
theorem dX5_weightOf_40 : decode cX5_weightOf 40 = .ok (.iaload, 1) := by decide +kernel
theorem dX5_weightOf_41 : decode cX5_weightOf 41 = .ok (.istore_n 2, 1) := by decide +kernel
theorem dX5_weightOf_42 : decode cX5_weightOf 42 = .ok (.iinc 3 1, 3) := by decide +kernel
theorem dX5_weightOf_45 : decode cX5_weightOf 45 = .ok (.goto (-41), 3) := by decide +kernel
theorem dX5_weightOf_48 : decode cX5_weightOf 48 = .ok (.iconst 1, 1) := by decide +kernel
theorem dX5_weightOf_49 : decode cX5_weightOf 49 = .ok (.ireturn, 1) := by decide +kernel
theorem dX5_timersOf_0 : decode cX5_timersOf 0 = .ok (.iconst 0, 1) := by decide +kernel
theorem dX5_timersOf_1 : decode cX5_timersOf 1 = .ok (.istore_n 2, 1) := by decide +kernel
theorem dX5_timersOf_2 : decode cX5_timersOf 2 = .ok (.iconst 0, 1) := by decide +kernel
theorem dX5_timersOf_3 : decode cX5_timersOf 3 = .ok (.istore_n 3, 1) := by decide +kernel
theorem dX5_timersOf_4 : decode cX5_timersOf 4 = .ok (.iload_n 3, 1) := by decide +kernel
theorem dX5_timersOf_5 : decode cX5_timersOf 5 = .ok (.aload_n 0, 1) := by decide +kernel
theorem dX5_timersOf_6 : decode cX5_timersOf 6 = .ok (.getfield 40, 3) := by decide +kernel
theorem dX5_timersOf_9 : decode cX5_timersOf 9 = .ok (.if_icmp .ge 22, 3) := by decide +kernel
theorem dX5_timersOf_12 : decode cX5_timersOf 12 = .ok (.aload_n 0, 1) := by decide +kernel
theorem dX5_timersOf_13 : decode cX5_timersOf 13 = .ok (.getfield 24, 3) := by decide +kernel
theorem dX5_timersOf_16 : decode cX5_timersOf 16 = .ok (.iload_n 3, 1) := by decide +kernel
theorem dX5_timersOf_17 : decode cX5_timersOf 17 = .ok (.iaload, 1) := by decide +kernel
theorem dX5_timersOf_18 : decode cX5_timersOf 18 = .ok (.iload_n 1, 1) := by decide +kernel
theorem dX5_timersOf_19 : decode cX5_timersOf 19 = .ok (.if_icmp .ne 6, 3) := by decide +kernel
theorem dX5_timersOf_22 : decode cX5_timersOf 22 = .ok (.iinc 2 1, 3) := by decide +kernel
theorem dX5_timersOf_25 : decode cX5_timersOf 25 = .ok (.iinc 3 1, 3) := by decide +kernel
theorem dX5_timersOf_28 : decode cX5_timersOf 28 = .ok (.goto (-24), 3) := by decide +kernel
theorem dX5_timersOf_31 : decode cX5_timersOf 31 = .ok (.iload_n 2, 1) := by decide +kernel
theorem dX5_timersOf_32 : decode cX5_timersOf 32 = .ok (.ireturn, 1) := by decide +kernel
theorem dX5_heirsOf_0 : decode cX5_heirsOf 0 = .ok (.iconst 0, 1) := by decide +kernel
theorem dX5_heirsOf_1 : decode cX5_heirsOf 1 = .ok (.istore_n 2, 1) := by decide +kernel
theorem dX5_heirsOf_2 : decode cX5_heirsOf 2 = .ok (.iconst 0, 1) := by decide +kernel
theorem dX5_heirsOf_3 : decode cX5_heirsOf 3 = .ok (.istore_n 3, 1) := by decide +kernel
theorem dX5_heirsOf_4 : decode cX5_heirsOf 4 = .ok (.iload_n 3, 1) := by decide +kernel
theorem dX5_heirsOf_5 : decode cX5_heirsOf 5 = .ok (.aload_n 0, 1) := by decide +kernel
theorem dX5_heirsOf_6 : decode cX5_heirsOf 6 = .ok (.getfield 36, 3) := by decide +kernel
theorem dX5_heirsOf_9 : decode cX5_heirsOf 9 = .ok (.if_icmp .ge 24, 3) := by decide +kernel
theorem dX5_heirsOf_12 : decode cX5_heirsOf 12 = .ok (.aload_n 0, 1) := by decide +kernel
theorem dX5_heirsOf_13 : decode cX5_heirsOf 13 = .ok (.iload_n 3, 1) := by decide +kernel
theorem dX5_heirsOf_14 : decode cX5_heirsOf 14 = .ok (.invokevirtual 56, 3) := by decide +kernel
theorem dX5_heirsOf_17 : decode cX5_heirsOf 17 = .ok (.iload_n 1, 1) := by decide +kernel
theorem dX5_heirsOf_18 : decode cX5_heirsOf 18 = .ok (.if_icmp .ne 9, 3) := by decide +kernel
theorem dX5_heirsOf_21 : decode cX5_heirsOf 21 = .ok (.iload_n 2, 1) := by decide +kernel
theorem dX5_heirsOf_22 : decode cX5_heirsOf 22 = .ok (.iconst 1, 1) := by decide +kernel
theorem dX5_heirsOf_23 : decode cX5_heirsOf 23 = .ok (.iload_n 3, 1) := by decide +kernel
theorem dX5_heirsOf_24 : decode cX5_heirsOf 24 = .ok (.ishl, 1) := by decide +kernel
theorem dX5_heirsOf_25 : decode cX5_heirsOf 25 = .ok (.ior, 1) := by decide +kernel
theorem dX5_heirsOf_26 : decode cX5_heirsOf 26 = .ok (.istore_n 2, 1) := by decide +kernel
theorem dX5_heirsOf_27 : decode cX5_heirsOf 27 = .ok (.iinc 3 1, 3) := by decide +kernel
theorem dX5_heirsOf_30 : decode cX5_heirsOf 30 = .ok (.goto (-26), 3) := by decide +kernel
theorem dX5_heirsOf_33 : decode cX5_heirsOf 33 = .ok (.iload_n 2, 1) := by decide +kernel
theorem dX5_heirsOf_34 : decode cX5_heirsOf 34 = .ok (.ireturn, 1) := by decide +kernel
theorem dX5_kindOfTimer_0 : decode cX5_kindOfTimer 0 = .ok (.aload_n 0, 1) := by decide +kernel
theorem dX5_kindOfTimer_1 : decode cX5_kindOfTimer 1 = .ok (.iload_n 1, 1) := by decide +kernel
theorem dX5_kindOfTimer_2 : decode cX5_kindOfTimer 2 = .ok (.invokevirtual 63, 3) := by decide +kernel
theorem dX5_kindOfTimer_5 : decode cX5_kindOfTimer 5 = .ok (.ifCond .eq 12, 3) := by decide +kernel
theorem dX5_kindOfTimer_8 : decode cX5_kindOfTimer 8 = .ok (.aload_n 0, 1) := by decide +kernel
theorem dX5_kindOfTimer_9 : decode cX5_kindOfTimer 9 = .ok (.getfield 24, 3) := by decide +kernel
theorem dX5_kindOfTimer_12 : decode cX5_kindOfTimer 12 = .ok (.iload_n 1, 1) := by decide +kernel
theorem dX5_kindOfTimer_13 : decode cX5_kindOfTimer 13 = .ok (.iaload, 1) := by decide +kernel
theorem dX5_kindOfTimer_14 : decode cX5_kindOfTimer 14 = .ok (.goto 4, 3) := by decide +kernel
theorem dX5_kindOfTimer_17 : decode cX5_kindOfTimer 17 = .ok (.iconst (-1), 1) := by decide +kernel
theorem dX5_kindOfTimer_18 : decode cX5_kindOfTimer 18 = .ok (.ireturn, 1) := by decide +kernel
theorem dX5_periodOf_0 : decode cX5_periodOf 0 = .ok (.aload_n 0, 1) := by decide +kernel
theorem dX5_periodOf_1 : decode cX5_periodOf 1 = .ok (.iload_n 1, 1) := by decide +kernel
theorem dX5_periodOf_2 : decode cX5_periodOf 2 = .ok (.invokevirtual 63, 3) := by decide +kernel
theorem dX5_periodOf_5 : decode cX5_periodOf 5 = .ok (.ifCond .eq 12, 3) := by decide +kernel
theorem dX5_periodOf_8 : decode cX5_periodOf 8 = .ok (.aload_n 0, 1) := by decide +kernel
theorem dX5_periodOf_9 : decode cX5_periodOf 9 = .ok (.getfield 27, 3) := by decide +kernel
theorem dX5_periodOf_12 : decode cX5_periodOf 12 = .ok (.iload_n 1, 1) := by decide +kernel
theorem dX5_periodOf_13 : decode cX5_periodOf 13 = .ok (.iaload, 1) := by decide +kernel
theorem dX5_periodOf_14 : decode cX5_periodOf 14 = .ok (.goto 4, 3) := by decide +kernel
theorem dX5_periodOf_17 : decode cX5_periodOf 17 = .ok (.iconst 0, 1) := by decide +kernel
theorem dX5_periodOf_18 : decode cX5_periodOf 18 = .ok (.ireturn, 1) := by decide +kernel
theorem dX5_tickOf_0 : decode cX5_tickOf 0 = .ok (.aload_n 0, 1) := by decide +kernel
theorem dX5_tickOf_1 : decode cX5_tickOf 1 = .ok (.iload_n 1, 1) := by decide +kernel
theorem dX5_tickOf_2 : decode cX5_tickOf 2 = .ok (.invokevirtual 63, 3) := by decide +kernel
theorem dX5_tickOf_5 : decode cX5_tickOf 5 = .ok (.ifCond .eq 12, 3) := by decide +kernel
theorem dX5_tickOf_8 : decode cX5_tickOf 8 = .ok (.aload_n 0, 1) := by decide +kernel
theorem dX5_tickOf_9 : decode cX5_tickOf 9 = .ok (.getfield 30, 3) := by decide +kernel
theorem dX5_tickOf_12 : decode cX5_tickOf 12 = .ok (.iload_n 1, 1) := by decide +kernel
theorem dX5_tickOf_13 : decode cX5_tickOf 13 = .ok (.iaload, 1) := by decide +kernel
theorem dX5_tickOf_14 : decode cX5_tickOf 14 = .ok (.goto 4, 3) := by decide +kernel
theorem dX5_tickOf_17 : decode cX5_tickOf 17 = .ok (.iconst (-1), 1) := by decide +kernel
theorem dX5_tickOf_18 : decode cX5_tickOf 18 = .ok (.ireturn, 1) := by decide +kernel
theorem dX5_callsAt_0 : decode cX5_callsAt 0 = .ok (.iload_n 2, 1) := by decide +kernel
theorem dX5_callsAt_1 : decode cX5_callsAt 1 = .ok (.aload_n 0, 1) := by decide +kernel
theorem dX5_callsAt_2 : decode cX5_callsAt 2 = .ok (.iload_n 1, 1) := by decide +kernel
theorem dX5_callsAt_3 : decode cX5_callsAt 3 = .ok (.invokevirtual 66, 3) := by decide +kernel
theorem dX5_callsAt_6 : decode cX5_callsAt 6 = .ok (.isub, 1) := by decide +kernel
theorem dX5_callsAt_7 : decode cX5_callsAt 7 = .ok (.istore_n 3, 1) := by decide +kernel
theorem dX5_callsAt_8 : decode cX5_callsAt 8 = .ok (.aload_n 0, 1) := by decide +kernel
theorem dX5_callsAt_9 : decode cX5_callsAt 9 = .ok (.iload_n 1, 1) := by decide +kernel
theorem dX5_callsAt_10 : decode cX5_callsAt 10 = .ok (.invokevirtual 69, 3) := by decide +kernel
theorem dX5_callsAt_13 : decode cX5_callsAt 13 = .ok (.istore 4, 2) := by decide +kernel
theorem dX5_callsAt_15 : decode cX5_callsAt 15 = .ok (.iload_n 3, 1) := by decide +kernel
theorem dX5_callsAt_16 : decode cX5_callsAt 16 = .ok (.ifCond .eq 19, 3) := by decide +kernel
theorem dX5_callsAt_19 : decode cX5_callsAt 19 = .ok (.iload_n 3, 1) := by decide +kernel
theorem dX5_callsAt_20 : decode cX5_callsAt 20 = .ok (.ifCond .le 19, 3) := by decide +kernel
theorem dX5_callsAt_23 : decode cX5_callsAt 23 = .ok (.iload 4, 2) := by decide +kernel
theorem dX5_callsAt_25 : decode cX5_callsAt 25 = .ok (.ifCond .le 14, 3) := by decide +kernel
theorem dX5_callsAt_28 : decode cX5_callsAt 28 = .ok (.iload_n 3, 1) := by decide +kernel
theorem dX5_callsAt_29 : decode cX5_callsAt 29 = .ok (.iload 4, 2) := by decide +kernel
theorem dX5_callsAt_31 : decode cX5_callsAt 31 = .ok (.irem, 1) := by decide +kernel
theorem dX5_callsAt_32 : decode cX5_callsAt 32 = .ok (.ifCond .ne 7, 3) := by decide +kernel
theorem dX5_callsAt_35 : decode cX5_callsAt 35 = .ok (.iconst 1, 1) := by decide +kernel
theorem dX5_callsAt_36 : decode cX5_callsAt 36 = .ok (.goto 4, 3) := by decide +kernel
theorem dX5_callsAt_39 : decode cX5_callsAt 39 = .ok (.iconst 0, 1) := by decide +kernel
theorem dX5_callsAt_40 : decode cX5_callsAt 40 = .ok (.ireturn, 1) := by decide +kernel
theorem dX5_callsInAll_0 : decode cX5_callsInAll 0 = .ok (.iconst 0, 1) := by decide +kernel
theorem dX5_callsInAll_1 : decode cX5_callsInAll 1 = .ok (.istore_n 1, 1) := by decide +kernel
theorem dX5_callsInAll_2 : decode cX5_callsInAll 2 = .ok (.iconst 0, 1) := by decide +kernel
theorem dX5_callsInAll_3 : decode cX5_callsInAll 3 = .ok (.istore_n 2, 1) := by decide +kernel
theorem dX5_callsInAll_4 : decode cX5_callsInAll 4 = .ok (.iload_n 2, 1) := by decide +kernel
theorem dX5_callsInAll_5 : decode cX5_callsInAll 5 = .ok (.aload_n 0, 1) := by decide +kernel
theorem dX5_callsInAll_6 : decode cX5_callsInAll 6 = .ok (.getfield 40, 3) := by decide +kernel
theorem dX5_callsInAll_9 : decode cX5_callsInAll 9 = .ok (.if_icmp .ge 51, 3) := by decide +kernel
theorem dX5_callsInAll_12 : decode cX5_callsInAll 12 = .ok (.aload_n 0, 1) := by decide +kernel
theorem dX5_callsInAll_13 : decode cX5_callsInAll 13 = .ok (.getfield 43, 3) := by decide +kernel
theorem dX5_callsInAll_16 : decode cX5_callsInAll 16 = .ok (.aload_n 0, 1) := by decide +kernel
theorem dX5_callsInAll_17 : decode cX5_callsInAll 17 = .ok (.getfield 30, 3) := by decide +kernel
theorem dX5_callsInAll_20 : decode cX5_callsInAll 20 = .ok (.iload_n 2, 1) := by decide +kernel
theorem dX5_callsInAll_21 : decode cX5_callsInAll 21 = .ok (.iaload, 1) := by decide +kernel
theorem dX5_callsInAll_22 : decode cX5_callsInAll 22 = .ok (.isub, 1) := by decide +kernel
theorem dX5_callsInAll_23 : decode cX5_callsInAll 23 = .ok (.istore_n 3, 1) := by decide +kernel
theorem dX5_callsInAll_24 : decode cX5_callsInAll 24 = .ok (.iload_n 3, 1) := by decide +kernel
theorem dX5_callsInAll_25 : decode cX5_callsInAll 25 = .ok (.ifCond .lt 29, 3) := by decide +kernel
theorem dX5_callsInAll_28 : decode cX5_callsInAll 28 = .ok (.iload_n 1, 1) := by decide +kernel
theorem dX5_callsInAll_29 : decode cX5_callsInAll 29 = .ok (.aload_n 0, 1) := by decide +kernel
theorem dX5_callsInAll_30 : decode cX5_callsInAll 30 = .ok (.getfield 27, 3) := by decide +kernel
theorem dX5_callsInAll_33 : decode cX5_callsInAll 33 = .ok (.iload_n 2, 1) := by decide +kernel
theorem dX5_callsInAll_34 : decode cX5_callsInAll 34 = .ok (.iaload, 1) := by decide +kernel
theorem dX5_callsInAll_35 : decode cX5_callsInAll 35 = .ok (.ifCond .le 16, 3) := by decide +kernel
theorem dX5_callsInAll_38 : decode cX5_callsInAll 38 = .ok (.iconst 1, 1) := by decide +kernel
theorem dX5_callsInAll_39 : decode cX5_callsInAll 39 = .ok (.iload_n 3, 1) := by decide +kernel
theorem dX5_callsInAll_40 : decode cX5_callsInAll 40 = .ok (.aload_n 0, 1) := by decide +kernel
theorem dX5_callsInAll_41 : decode cX5_callsInAll 41 = .ok (.getfield 27, 3) := by decide +kernel
theorem dX5_callsInAll_44 : decode cX5_callsInAll 44 = .ok (.iload_n 2, 1) := by decide +kernel
theorem dX5_callsInAll_45 : decode cX5_callsInAll 45 = .ok (.iaload, 1) := by decide +kernel
theorem dX5_callsInAll_46 : decode cX5_callsInAll 46 = .ok (.idiv, 1) := by decide +kernel
theorem dX5_callsInAll_47 : decode cX5_callsInAll 47 = .ok (.iadd, 1) := by decide +kernel
theorem dX5_callsInAll_48 : decode cX5_callsInAll 48 = .ok (.goto 4, 3) := by decide +kernel
theorem dX5_callsInAll_51 : decode cX5_callsInAll 51 = .ok (.iconst 1, 1) := by decide +kernel
theorem dX5_callsInAll_52 : decode cX5_callsInAll 52 = .ok (.iadd, 1) := by decide +kernel
theorem dX5_callsInAll_53 : decode cX5_callsInAll 53 = .ok (.istore_n 1, 1) := by decide +kernel
theorem dX5_callsInAll_54 : decode cX5_callsInAll 54 = .ok (.iinc 2 1, 3) := by decide +kernel
theorem dX5_callsInAll_57 : decode cX5_callsInAll 57 = .ok (.goto (-53), 3) := by decide +kernel
theorem dX5_callsInAll_60 : decode cX5_callsInAll 60 = .ok (.iload_n 1, 1) := by decide +kernel
theorem dX5_callsInAll_61 : decode cX5_callsInAll 61 = .ok (.ireturn, 1) := by decide +kernel
theorem dX6_init_0 : decode cX6_init 0 = .ok (.aload_n 0, 1) := by decide +kernel
theorem dX6_init_1 : decode cX6_init 1 = .ok (.invokespecial 3, 3) := by decide +kernel
theorem dX6_init_4 : decode cX6_init 4 = .ok (.aload_n 0, 1) := by decide +kernel
theorem dX6_init_5 : decode cX6_init 5 = .ok (.sipush 600, 3) := by decide +kernel
theorem dX6_init_8 : decode cX6_init 8 = .ok (.newarray .byte, 2) := by decide +kernel
theorem dX6_init_10 : decode cX6_init 10 = .ok (.putfield 9, 3) := by decide +kernel
theorem dX6_init_13 : decode cX6_init 13 = .ok (.return_, 1) := by decide +kernel
theorem dX6_size_0 : decode cX6_size 0 = .ok (.aload_n 0, 1) := by decide +kernel
theorem dX6_size_1 : decode cX6_size 1 = .ok (.getfield 15, 3) := by decide +kernel
theorem dX6_size_4 : decode cX6_size 4 = .ok (.ireturn, 1) := by decide +kernel
theorem dX6_addNumber_0 : decode cX6_addNumber 0 = .ok (.bipush 24, 2) := by decide +kernel
theorem dX6_addNumber_2 : decode cX6_addNumber 2 = .ok (.istore_n 2, 1) := by decide +kernel
theorem dX6_addNumber_3 : decode cX6_addNumber 3 = .ok (.iload_n 2, 1) := by decide +kernel
theorem dX6_addNumber_4 : decode cX6_addNumber 4 = .ok (.ifCond .lt 44, 3) := by decide +kernel
theorem dX6_addNumber_7 : decode cX6_addNumber 7 = .ok (.aload_n 0, 1) := by decide +kernel
theorem dX6_addNumber_8 : decode cX6_addNumber 8 = .ok (.getfield 15, 3) := by decide +kernel
theorem dX6_addNumber_11 : decode cX6_addNumber 11 = .ok (.aload_n 0, 1) := by decide +kernel
theorem dX6_addNumber_12 : decode cX6_addNumber 12 = .ok (.getfield 9, 3) := by decide +kernel
theorem dX6_addNumber_15 : decode cX6_addNumber 15 = .ok (.arraylength, 1) := by decide +kernel
theorem dX6_addNumber_16 : decode cX6_addNumber 16 = .ok (.if_icmp .ge 26, 3) := by decide +kernel
theorem dX6_addNumber_19 : decode cX6_addNumber 19 = .ok (.aload_n 0, 1) := by decide +kernel
theorem dX6_addNumber_20 : decode cX6_addNumber 20 = .ok (.getfield 9, 3) := by decide +kernel
theorem dX6_addNumber_23 : decode cX6_addNumber 23 = .ok (.aload_n 0, 1) := by decide +kernel
theorem dX6_addNumber_24 : decode cX6_addNumber 24 = .ok (.getfield 15, 3) := by decide +kernel
theorem dX6_addNumber_27 : decode cX6_addNumber 27 = .ok (.iload_n 1, 1) := by decide +kernel
theorem dX6_addNumber_28 : decode cX6_addNumber 28 = .ok (.iload_n 2, 1) := by decide +kernel
theorem dX6_addNumber_29 : decode cX6_addNumber 29 = .ok (.iushr, 1) := by decide +kernel
theorem dX6_addNumber_30 : decode cX6_addNumber 30 = .ok (.i2b, 1) := by decide +kernel
theorem dX6_addNumber_31 : decode cX6_addNumber 31 = .ok (.bastore, 1) := by decide +kernel
theorem dX6_addNumber_32 : decode cX6_addNumber 32 = .ok (.aload_n 0, 1) := by decide +kernel
theorem dX6_addNumber_33 : decode cX6_addNumber 33 = .ok (.dup, 1) := by decide +kernel
theorem dX6_addNumber_34 : decode cX6_addNumber 34 = .ok (.getfield 15, 3) := by decide +kernel
theorem dX6_addNumber_37 : decode cX6_addNumber 37 = .ok (.iconst 1, 1) := by decide +kernel
theorem dX6_addNumber_38 : decode cX6_addNumber 38 = .ok (.iadd, 1) := by decide +kernel
theorem dX6_addNumber_39 : decode cX6_addNumber 39 = .ok (.putfield 15, 3) := by decide +kernel
theorem dX6_addNumber_42 : decode cX6_addNumber 42 = .ok (.iinc 2 (-8), 3) := by decide +kernel
theorem dX6_addNumber_45 : decode cX6_addNumber 45 = .ok (.goto (-42), 3) := by decide +kernel
theorem dX6_addNumber_48 : decode cX6_addNumber 48 = .ok (.return_, 1) := by decide +kernel
theorem dX6_cut_0 : decode cX6_cut 0 = .ok (.aload_n 0, 1) := by decide +kernel
theorem dX6_cut_1 : decode cX6_cut 1 = .ok (.iconst 0, 1) := by decide +kernel
theorem dX6_cut_2 : decode cX6_cut 2 = .ok (.iload_n 1, 1) := by decide +kernel
theorem dX6_cut_3 : decode cX6_cut 3 = .ok (.aload_n 0, 1) := by decide +kernel
theorem dX6_cut_4 : decode cX6_cut 4 = .ok (.getfield 15, 3) := by decide +kernel
theorem dX6_cut_7 : decode cX6_cut 7 = .ok (.invokestatic 19, 3) := by decide +kernel
theorem dX6_cut_10 : decode cX6_cut 10 = .ok (.invokestatic 25, 3) := by decide +kernel
theorem dX6_cut_13 : decode cX6_cut 13 = .ok (.putfield 15, 3) := by decide +kernel
theorem dX6_cut_16 : decode cX6_cut 16 = .ok (.return_, 1) := by decide +kernel
theorem dX6_rewind_0 : decode cX6_rewind 0 = .ok (.aload_n 0, 1) := by decide +kernel
theorem dX6_rewind_1 : decode cX6_rewind 1 = .ok (.iconst 0, 1) := by decide +kernel
theorem dX6_rewind_2 : decode cX6_rewind 2 = .ok (.putfield 28, 3) := by decide +kernel
theorem dX6_rewind_5 : decode cX6_rewind 5 = .ok (.aload_n 0, 1) := by decide +kernel
theorem dX6_rewind_6 : decode cX6_rewind 6 = .ok (.invokevirtual 31, 3) := by decide +kernel
theorem dX6_rewind_9 : decode cX6_rewind 9 = .ok (.return_, 1) := by decide +kernel
theorem dX6_advance_0 : decode cX6_advance 0 = .ok (.aload_n 0, 1) := by decide +kernel
theorem dX6_advance_1 : decode cX6_advance 1 = .ok (.getfield 28, 3) := by decide +kernel
theorem dX6_advance_4 : decode cX6_advance 4 = .ok (.aload_n 0, 1) := by decide +kernel
theorem dX6_advance_5 : decode cX6_advance 5 = .ok (.getfield 15, 3) := by decide +kernel
theorem dX6_advance_8 : decode cX6_advance 8 = .ok (.if_icmp .ge 28, 3) := by decide +kernel
theorem dX6_advance_11 : decode cX6_advance 11 = .ok (.aload_n 0, 1) := by decide +kernel
theorem dX6_advance_12 : decode cX6_advance 12 = .ok (.aload_n 0, 1) := by decide +kernel
theorem dX6_advance_13 : decode cX6_advance 13 = .ok (.getfield 28, 3) := by decide +kernel
theorem dX6_advance_16 : decode cX6_advance 16 = .ok (.invokevirtual 34, 3) := by decide +kernel
theorem dX6_advance_19 : decode cX6_advance 19 = .ok (.iconst 2, 1) := by decide +kernel
theorem dX6_advance_20 : decode cX6_advance 20 = .ok (.if_icmp .ne 16, 3) := by decide +kernel
theorem dX6_advance_23 : decode cX6_advance 23 = .ok (.aload_n 0, 1) := by decide +kernel
theorem dX6_advance_24 : decode cX6_advance 24 = .ok (.dup, 1) := by decide +kernel
theorem dX6_advance_25 : decode cX6_advance 25 = .ok (.getfield 28, 3) := by decide +kernel
theorem dX6_advance_28 : decode cX6_advance 28 = .ok (.iconst 1, 1) := by decide +kernel
theorem dX6_advance_29 : decode cX6_advance 29 = .ok (.iadd, 1) := by decide +kernel
theorem dX6_advance_30 : decode cX6_advance 30 = .ok (.putfield 28, 3) := by decide +kernel
theorem dX6_advance_33 : decode cX6_advance 33 = .ok (.goto (-33), 3) := by decide +kernel
theorem dX6_advance_36 : decode cX6_advance 36 = .ok (.aload_n 0, 1) := by decide +kernel
theorem dX6_advance_37 : decode cX6_advance 37 = .ok (.aload_n 0, 1) := by decide +kernel
theorem dX6_advance_38 : decode cX6_advance 38 = .ok (.getfield 28, 3) := by decide +kernel
theorem dX6_advance_41 : decode cX6_advance 41 = .ok (.putfield 38, 3) := by decide +kernel
theorem dX6_advance_44 : decode cX6_advance 44 = .ok (.aload_n 0, 1) := by decide +kernel
theorem dX6_advance_45 : decode cX6_advance 45 = .ok (.aload_n 0, 1) := by decide +kernel
theorem dX6_advance_46 : decode cX6_advance 46 = .ok (.aload_n 0, 1) := by decide +kernel
theorem dX6_advance_47 : decode cX6_advance 47 = .ok (.getfield 38, 3) := by decide +kernel
theorem dX6_advance_50 : decode cX6_advance 50 = .ok (.invokevirtual 34, 3) := by decide +kernel
theorem dX6_advance_53 : decode cX6_advance 53 = .ok (.putfield 41, 3) := by decide +kernel
theorem dX6_advance_56 : decode cX6_advance 56 = .ok (.aload_n 0, 1) := by decide +kernel
theorem dX6_advance_57 : decode cX6_advance 57 = .ok (.iconst 0, 1) := by decide +kernel
theorem dX6_advance_58 : decode cX6_advance 58 = .ok (.putfield 44, 3) := by decide +kernel
theorem dX6_advance_61 : decode cX6_advance 61 = .ok (.aload_n 0, 1) := by decide +kernel
theorem dX6_advance_62 : decode cX6_advance 62 = .ok (.getfield 41, 3) := by decide +kernel
theorem dX6_advance_65 : decode cX6_advance 65 = .ok (.iconst 3, 1) := by decide +kernel
theorem dX6_advance_66 : decode cX6_advance 66 = .ok (.if_icmp .eq 11, 3) := by decide +kernel
theorem dX6_advance_69 : decode cX6_advance 69 = .ok (.aload_n 0, 1) := by decide +kernel
theorem dX6_advance_70 : decode cX6_advance 70 = .ok (.getfield 41, 3) := by decide +kernel
theorem dX6_advance_73 : decode cX6_advance 73 = .ok (.iconst 4, 1) := by decide +kernel
theorem dX6_advance_74 : decode cX6_advance 74 = .ok (.if_icmp .ne 135, 3) := by decide +kernel
theorem dX6_advance_77 : decode cX6_advance 77 = .ok (.aload_n 0, 1) := by decide +kernel
theorem dX6_advance_78 : decode cX6_advance 78 = .ok (.getfield 28, 3) := by decide +kernel
theorem dX6_advance_81 : decode cX6_advance 81 = .ok (.aload_n 0, 1) := by decide +kernel
theorem dX6_advance_82 : decode cX6_advance 82 = .ok (.getfield 15, 3) := by decide +kernel
theorem dX6_advance_85 : decode cX6_advance 85 = .ok (.if_icmp .ge 88, 3) := by decide +kernel
theorem dX6_advance_88 : decode cX6_advance 88 = .ok (.aload_n 0, 1) := by decide +kernel
theorem dX6_advance_89 : decode cX6_advance 89 = .ok (.aload_n 0, 1) := by decide +kernel
theorem dX6_advance_90 : decode cX6_advance 90 = .ok (.getfield 28, 3) := by decide +kernel
theorem dX6_advance_93 : decode cX6_advance 93 = .ok (.invokevirtual 34, 3) := by decide +kernel
theorem dX6_advance_96 : decode cX6_advance 96 = .ok (.aload_n 0, 1) := by decide +kernel
theorem dX6_advance_97 : decode cX6_advance 97 = .ok (.getfield 41, 3) := by decide +kernel
theorem dX6_advance_100 : decode cX6_advance 100 = .ok (.if_icmp .ne 73, 3) := by decide +kernel
theorem dX6_advance_103 : decode cX6_advance 103 = .ok (.aload_n 0, 1) := by decide +kernel
theorem dX6_advance_104 : decode cX6_advance 104 = .ok (.aload_n 0, 1) := by decide +kernel
theorem dX6_advance_105 : decode cX6_advance 105 = .ok (.getfield 41, 3) := by decide +kernel
theorem dX6_advance_108 : decode cX6_advance 108 = .ok (.iconst 3, 1) := by decide +kernel
theorem dX6_advance_109 : decode cX6_advance 109 = .ok (.if_icmp .ne 28, 3) := by decide +kernel
theorem dX6_advance_112 : decode cX6_advance 112 = .ok (.aload_n 0, 1) := by decide +kernel
theorem dX6_advance_113 : decode cX6_advance 113 = .ok (.getfield 44, 3) := by decide +kernel
theorem dX6_advance_116 : decode cX6_advance 116 = .ok (.bipush 32, 2) := by decide +kernel
theorem dX6_advance_118 : decode cX6_advance 118 = .ok (.imul, 1) := by decide +kernel
theorem dX6_advance_119 : decode cX6_advance 119 = .ok (.aload_n 0, 1) := by decide +kernel
theorem dX6_advance_120 : decode cX6_advance 120 = .ok (.getfield 9, 3) := by decide +kernel
theorem dX6_advance_123 : decode cX6_advance 123 = .ok (.aload_n 0, 1) := by decide +kernel
theorem dX6_advance_124 : decode cX6_advance 124 = .ok (.getfield 28, 3) := by decide +kernel
theorem dX6_advance_127 : decode cX6_advance 127 = .ok (.baload, 1) := by decide +kernel
theorem dX6_advance_128 : decode cX6_advance 128 = .ok (.bipush 97, 2) := by decide +kernel
theorem dX6_advance_130 : decode cX6_advance 130 = .ok (.isub, 1) := by decide +kernel
theorem dX6_advance_131 : decode cX6_advance 131 = .ok (.iconst 1, 1) := by decide +kernel
theorem dX6_advance_132 : decode cX6_advance 132 = .ok (.iadd, 1) := by decide +kernel
theorem dX6_advance_133 : decode cX6_advance 133 = .ok (.iadd, 1) := by decide +kernel
theorem dX6_advance_134 : decode cX6_advance 134 = .ok (.goto 23, 3) := by decide +kernel
theorem dX6_advance_137 : decode cX6_advance 137 = .ok (.aload_n 0, 1) := by decide +kernel
theorem dX6_advance_138 : decode cX6_advance 138 = .ok (.getfield 44, 3) := by decide +kernel
theorem dX6_advance_141 : decode cX6_advance 141 = .ok (.bipush 10, 2) := by decide +kernel
theorem dX6_advance_143 : decode cX6_advance 143 = .ok (.imul, 1) := by decide +kernel
theorem dX6_advance_144 : decode cX6_advance 144 = .ok (.aload_n 0, 1) := by decide +kernel
theorem dX6_advance_145 : decode cX6_advance 145 = .ok (.getfield 9, 3) := by decide +kernel
theorem dX6_advance_148 : decode cX6_advance 148 = .ok (.aload_n 0, 1) := by decide +kernel
theorem dX6_advance_149 : decode cX6_advance 149 = .ok (.getfield 28, 3) := by decide +kernel
theorem dX6_advance_152 : decode cX6_advance 152 = .ok (.baload, 1) := by decide +kernel
theorem dX6_advance_153 : decode cX6_advance 153 = .ok (.bipush 48, 2) := by decide +kernel
theorem dX6_advance_155 : decode cX6_advance 155 = .ok (.isub, 1) := by decide +kernel
theorem dX6_advance_156 : decode cX6_advance 156 = .ok (.iadd, 1) := by decide +kernel
theorem dX6_advance_157 : decode cX6_advance 157 = .ok (.putfield 44, 3) := by decide +kernel
theorem dX6_advance_160 : decode cX6_advance 160 = .ok (.aload_n 0, 1) := by decide +kernel
theorem dX6_advance_161 : decode cX6_advance 161 = .ok (.dup, 1) := by decide +kernel
theorem dX6_advance_162 : decode cX6_advance 162 = .ok (.getfield 28, 3) := by decide +kernel
theorem dX6_advance_165 : decode cX6_advance 165 = .ok (.iconst 1, 1) := by decide +kernel
theorem dX6_advance_166 : decode cX6_advance 166 = .ok (.iadd, 1) := by decide +kernel
theorem dX6_advance_167 : decode cX6_advance 167 = .ok (.putfield 28, 3) := by decide +kernel
theorem dX6_advance_170 : decode cX6_advance 170 = .ok (.goto (-93), 3) := by decide +kernel
theorem dX6_advance_173 : decode cX6_advance 173 = .ok (.aload_n 0, 1) := by decide +kernel
theorem dX6_advance_174 : decode cX6_advance 174 = .ok (.getfield 41, 3) := by decide +kernel
theorem dX6_advance_177 : decode cX6_advance 177 = .ok (.iconst 3, 1) := by decide +kernel
theorem dX6_advance_178 : decode cX6_advance 178 = .ok (.if_icmp .ne 8, 3) := by decide +kernel
theorem dX6_advance_181 : decode cX6_advance 181 = .ok (.bipush 6, 2) := by decide +kernel
theorem dX6_advance_183 : decode cX6_advance 183 = .ok (.goto 4, 3) := by decide +kernel
theorem dX6_advance_186 : decode cX6_advance 186 = .ok (.iconst 3, 1) := by decide +kernel
theorem dX6_advance_187 : decode cX6_advance 187 = .ok (.istore_n 1, 1) := by decide +kernel
theorem dX6_advance_188 : decode cX6_advance 188 = .ok (.aload_n 0, 1) := by decide +kernel
theorem dX6_advance_189 : decode cX6_advance 189 = .ok (.getfield 28, 3) := by decide +kernel
theorem dX6_advance_192 : decode cX6_advance 192 = .ok (.aload_n 0, 1) := by decide +kernel
theorem dX6_advance_193 : decode cX6_advance 193 = .ok (.getfield 38, 3) := by decide +kernel
theorem dX6_advance_196 : decode cX6_advance 196 = .ok (.isub, 1) := by decide +kernel
theorem dX6_advance_197 : decode cX6_advance 197 = .ok (.iload_n 1, 1) := by decide +kernel
theorem dX6_advance_198 : decode cX6_advance 198 = .ok (.if_icmp .le 8, 3) := by decide +kernel
theorem dX6_advance_201 : decode cX6_advance 201 = .ok (.aload_n 0, 1) := by decide +kernel
theorem dX6_advance_202 : decode cX6_advance 202 = .ok (.iconst 1, 1) := by decide +kernel
theorem dX6_advance_203 : decode cX6_advance 203 = .ok (.putfield 41, 3) := by decide +kernel
theorem dX6_advance_206 : decode cX6_advance 206 = .ok (.goto 20, 3) := by decide +kernel
theorem dX6_advance_209 : decode cX6_advance 209 = .ok (.aload_n 0, 1) := by decide +kernel
theorem dX6_advance_210 : decode cX6_advance 210 = .ok (.getfield 41, 3) := by decide +kernel
theorem dX6_advance_213 : decode cX6_advance 213 = .ok (.ifCond .eq 13, 3) := by decide +kernel
theorem dX6_advance_216 : decode cX6_advance 216 = .ok (.aload_n 0, 1) := by decide +kernel
theorem dX6_advance_217 : decode cX6_advance 217 = .ok (.dup, 1) := by decide +kernel
theorem dX6_advance_218 : decode cX6_advance 218 = .ok (.getfield 28, 3) := by decide +kernel
theorem dX6_advance_221 : decode cX6_advance 221 = .ok (.iconst 1, 1) := by decide +kernel
theorem dX6_advance_222 : decode cX6_advance 222 = .ok (.iadd, 1) := by decide +kernel
theorem dX6_advance_223 : decode cX6_advance 223 = .ok (.putfield 28, 3) := by decide +kernel
theorem dX6_advance_226 : decode cX6_advance 226 = .ok (.return_, 1) := by decide +kernel
theorem dX6_sortAt_0 : decode cX6_sortAt 0 = .ok (.iload_n 1, 1) := by decide +kernel
theorem dX6_sortAt_1 : decode cX6_sortAt 1 = .ok (.ifCond .lt 20, 3) := by decide +kernel
theorem dX6_sortAt_4 : decode cX6_sortAt 4 = .ok (.iload_n 1, 1) := by decide +kernel
theorem dX6_sortAt_5 : decode cX6_sortAt 5 = .ok (.aload_n 0, 1) := by decide +kernel
theorem dX6_sortAt_6 : decode cX6_sortAt 6 = .ok (.getfield 15, 3) := by decide +kernel
theorem dX6_sortAt_9 : decode cX6_sortAt 9 = .ok (.if_icmp .ge 12, 3) := by decide +kernel
theorem dX6_sortAt_12 : decode cX6_sortAt 12 = .ok (.iload_n 1, 1) := by decide +kernel
theorem dX6_sortAt_13 : decode cX6_sortAt 13 = .ok (.aload_n 0, 1) := by decide +kernel
theorem dX6_sortAt_14 : decode cX6_sortAt 14 = .ok (.getfield 9, 3) := by decide +kernel
theorem dX6_sortAt_17 : decode cX6_sortAt 17 = .ok (.arraylength, 1) := by decide +kernel
theorem dX6_sortAt_18 : decode cX6_sortAt 18 = .ok (.if_icmp .lt 5, 3) := by decide +kernel
theorem dX6_sortAt_21 : decode cX6_sortAt 21 = .ok (.iconst 0, 1) := by decide +kernel
theorem dX6_sortAt_22 : decode cX6_sortAt 22 = .ok (.ireturn, 1) := by decide +kernel
theorem dX6_sortAt_23 : decode cX6_sortAt 23 = .ok (.aload_n 0, 1) := by decide +kernel
theorem dX6_sortAt_24 : decode cX6_sortAt 24 = .ok (.getfield 9, 3) := by decide +kernel
theorem dX6_sortAt_27 : decode cX6_sortAt 27 = .ok (.iload_n 1, 1) := by decide +kernel
theorem dX6_sortAt_28 : decode cX6_sortAt 28 = .ok (.baload, 1) := by decide +kernel
theorem dX6_sortAt_29 : decode cX6_sortAt 29 = .ok (.istore_n 2, 1) := by decide +kernel
theorem dX6_sortAt_30 : decode cX6_sortAt 30 = .ok (.iload_n 2, 1) := by decide +kernel
theorem dX6_sortAt_31 : decode cX6_sortAt 31 = .ok (.bipush 97, 2) := by decide +kernel
theorem dX6_sortAt_33 : decode cX6_sortAt 33 = .ok (.if_icmp .lt 11, 3) := by decide +kernel
theorem dX6_sortAt_36 : decode cX6_sortAt 36 = .ok (.iload_n 2, 1) := by decide +kernel
theorem dX6_sortAt_37 : decode cX6_sortAt 37 = .ok (.bipush 122, 2) := by decide +kernel
theorem dX6_sortAt_39 : decode cX6_sortAt 39 = .ok (.if_icmp .gt 5, 3) := by decide +kernel
theorem dX6_sortAt_42 : decode cX6_sortAt 42 = .ok (.iconst 3, 1) := by decide +kernel
theorem dX6_sortAt_43 : decode cX6_sortAt 43 = .ok (.ireturn, 1) := by decide +kernel
theorem dX6_sortAt_44 : decode cX6_sortAt 44 = .ok (.iload_n 2, 1) := by decide +kernel
theorem dX6_sortAt_45 : decode cX6_sortAt 45 = .ok (.bipush 48, 2) := by decide +kernel
theorem dX6_sortAt_47 : decode cX6_sortAt 47 = .ok (.if_icmp .lt 11, 3) := by decide +kernel
theorem dX6_sortAt_50 : decode cX6_sortAt 50 = .ok (.iload_n 2, 1) := by decide +kernel
theorem dX6_sortAt_51 : decode cX6_sortAt 51 = .ok (.bipush 57, 2) := by decide +kernel
theorem dX6_sortAt_53 : decode cX6_sortAt 53 = .ok (.if_icmp .gt 5, 3) := by decide +kernel
theorem dX6_sortAt_56 : decode cX6_sortAt 56 = .ok (.iconst 4, 1) := by decide +kernel
theorem dX6_sortAt_57 : decode cX6_sortAt 57 = .ok (.ireturn, 1) := by decide +kernel
theorem dX6_sortAt_58 : decode cX6_sortAt 58 = .ok (.iload_n 2, 1) := by decide +kernel
theorem dX6_sortAt_59 : decode cX6_sortAt 59 = .ok (.bipush 59, 2) := by decide +kernel
theorem dX6_sortAt_61 : decode cX6_sortAt 61 = .ok (.if_icmp .ne 5, 3) := by decide +kernel
theorem dX6_sortAt_64 : decode cX6_sortAt 64 = .ok (.iconst 5, 1) := by decide +kernel
theorem dX6_sortAt_65 : decode cX6_sortAt 65 = .ok (.ireturn, 1) := by decide +kernel
theorem dX6_sortAt_66 : decode cX6_sortAt 66 = .ok (.iload_n 2, 1) := by decide +kernel
theorem dX6_sortAt_67 : decode cX6_sortAt 67 = .ok (.bipush 32, 2) := by decide +kernel
theorem dX6_sortAt_69 : decode cX6_sortAt 69 = .ok (.if_icmp .eq 9, 3) := by decide +kernel
theorem dX6_sortAt_72 : decode cX6_sortAt 72 = .ok (.iload_n 2, 1) := by decide +kernel
theorem dX6_sortAt_73 : decode cX6_sortAt 73 = .ok (.bipush 10, 2) := by decide +kernel
theorem dX6_sortAt_75 : decode cX6_sortAt 75 = .ok (.if_icmp .ne 7, 3) := by decide +kernel
theorem dX6_sortAt_78 : decode cX6_sortAt 78 = .ok (.iconst 2, 1) := by decide +kernel
theorem dX6_sortAt_79 : decode cX6_sortAt 79 = .ok (.goto 4, 3) := by decide +kernel
theorem dX6_sortAt_82 : decode cX6_sortAt 82 = .ok (.iconst 1, 1) := by decide +kernel
theorem dX6_sortAt_83 : decode cX6_sortAt 83 = .ok (.ireturn, 1) := by decide +kernel
theorem dX6_type_0 : decode cX6_type 0 = .ok (.aload_n 0, 1) := by decide +kernel
theorem dX6_type_1 : decode cX6_type 1 = .ok (.getfield 41, 3) := by decide +kernel
theorem dX6_type_4 : decode cX6_type 4 = .ok (.ireturn, 1) := by decide +kernel
theorem dX6_value_0 : decode cX6_value 0 = .ok (.aload_n 0, 1) := by decide +kernel
theorem dX6_value_1 : decode cX6_value 1 = .ok (.getfield 44, 3) := by decide +kernel
theorem dX6_value_4 : decode cX6_value 4 = .ok (.ireturn, 1) := by decide +kernel
theorem dX6_start_0 : decode cX6_start 0 = .ok (.aload_n 0, 1) := by decide +kernel
theorem dX6_start_1 : decode cX6_start 1 = .ok (.getfield 38, 3) := by decide +kernel
theorem dX6_start_4 : decode cX6_start 4 = .ok (.ireturn, 1) := by decide +kernel
theorem dX6_reads_0 : decode cX6_reads 0 = .ok (.aload_n 0, 1) := by decide +kernel
theorem dX6_reads_1 : decode cX6_reads 1 = .ok (.getfield 41, 3) := by decide +kernel
theorem dX6_reads_4 : decode cX6_reads 4 = .ok (.iconst 3, 1) := by decide +kernel
theorem dX6_reads_5 : decode cX6_reads 5 = .ok (.if_icmp .ne 15, 3) := by decide +kernel
theorem dX6_reads_8 : decode cX6_reads 8 = .ok (.aload_n 0, 1) := by decide +kernel
theorem dX6_reads_9 : decode cX6_reads 9 = .ok (.getfield 44, 3) := by decide +kernel
theorem dX6_reads_12 : decode cX6_reads 12 = .ok (.iload_n 1, 1) := by decide +kernel
theorem dX6_reads_13 : decode cX6_reads 13 = .ok (.if_icmp .ne 7, 3) := by decide +kernel
theorem dX6_reads_16 : decode cX6_reads 16 = .ok (.iconst 1, 1) := by decide +kernel
theorem dX6_reads_17 : decode cX6_reads 17 = .ok (.goto 4, 3) := by decide +kernel
theorem dX6_reads_20 : decode cX6_reads 20 = .ok (.iconst 0, 1) := by decide +kernel
theorem dX6_reads_21 : decode cX6_reads 21 = .ok (.ireturn, 1) := by decide +kernel
theorem dX7_init_0 : decode cX7_init 0 = .ok (.aload_n 0, 1) := by decide +kernel
theorem dX7_init_1 : decode cX7_init 1 = .ok (.invokespecial 3, 3) := by decide +kernel
theorem dX7_init_4 : decode cX7_init 4 = .ok (.aload_n 0, 1) := by decide +kernel
theorem dX7_init_5 : decode cX7_init 5 = .ok (.iload_n 1, 1) := by decide +kernel
theorem dX7_init_6 : decode cX7_init 6 = .ok (.iconst 0, 1) := by decide +kernel
theorem dX7_init_7 : decode cX7_init 7 = .ok (.invokestatic 9, 3) := by decide +kernel
theorem dX7_init_10 : decode cX7_init 10 = .ok (.newarray .int, 2) := by decide +kernel
theorem dX7_init_12 : decode cX7_init 12 = .ok (.putfield 15, 3) := by decide +kernel
theorem dX7_init_15 : decode cX7_init 15 = .ok (.return_, 1) := by decide +kernel
theorem dX7_clear_0 : decode cX7_clear 0 = .ok (.aload_n 0, 1) := by decide +kernel
theorem dX7_clear_1 : decode cX7_clear 1 = .ok (.iconst 0, 1) := by decide +kernel
theorem dX7_clear_2 : decode cX7_clear 2 = .ok (.putfield 21, 3) := by decide +kernel
theorem dX7_clear_5 : decode cX7_clear 5 = .ok (.return_, 1) := by decide +kernel
theorem dX7_add_0 : decode cX7_add 0 = .ok (.aload_n 0, 1) := by decide +kernel
theorem dX7_add_1 : decode cX7_add 1 = .ok (.getfield 21, 3) := by decide +kernel
theorem dX7_add_4 : decode cX7_add 4 = .ok (.aload_n 0, 1) := by decide +kernel
theorem dX7_add_5 : decode cX7_add 5 = .ok (.getfield 15, 3) := by decide +kernel
theorem dX7_add_8 : decode cX7_add 8 = .ok (.arraylength, 1) := by decide +kernel
theorem dX7_add_9 : decode cX7_add 9 = .ok (.if_icmp .ge 23, 3) := by decide +kernel
theorem dX7_add_12 : decode cX7_add 12 = .ok (.aload_n 0, 1) := by decide +kernel
theorem dX7_add_13 : decode cX7_add 13 = .ok (.getfield 15, 3) := by decide +kernel
theorem dX7_add_16 : decode cX7_add 16 = .ok (.aload_n 0, 1) := by decide +kernel
theorem dX7_add_17 : decode cX7_add 17 = .ok (.getfield 21, 3) := by decide +kernel
theorem dX7_add_20 : decode cX7_add 20 = .ok (.iload_n 1, 1) := by decide +kernel
theorem dX7_add_21 : decode cX7_add 21 = .ok (.iastore, 1) := by decide +kernel
theorem dX7_add_22 : decode cX7_add 22 = .ok (.aload_n 0, 1) := by decide +kernel
theorem dX7_add_23 : decode cX7_add 23 = .ok (.dup, 1) := by decide +kernel
theorem dX7_add_24 : decode cX7_add 24 = .ok (.getfield 21, 3) := by decide +kernel
theorem dX7_add_27 : decode cX7_add 27 = .ok (.iconst 1, 1) := by decide +kernel
theorem dX7_add_28 : decode cX7_add 28 = .ok (.iadd, 1) := by decide +kernel
theorem dX7_add_29 : decode cX7_add 29 = .ok (.putfield 21, 3) := by decide +kernel
theorem dX7_add_32 : decode cX7_add 32 = .ok (.return_, 1) := by decide +kernel
theorem dX7_size_0 : decode cX7_size 0 = .ok (.aload_n 0, 1) := by decide +kernel
theorem dX7_size_1 : decode cX7_size 1 = .ok (.getfield 21, 3) := by decide +kernel
theorem dX7_size_4 : decode cX7_size 4 = .ok (.ireturn, 1) := by decide +kernel
theorem dX7_has_0 : decode cX7_has 0 = .ok (.iload_n 1, 1) := by decide +kernel
theorem dX7_has_1 : decode cX7_has 1 = .ok (.ifCond .lt 15, 3) := by decide +kernel
theorem dX7_has_4 : decode cX7_has 4 = .ok (.iload_n 1, 1) := by decide +kernel
theorem dX7_has_5 : decode cX7_has 5 = .ok (.aload_n 0, 1) := by decide +kernel
theorem dX7_has_6 : decode cX7_has 6 = .ok (.getfield 21, 3) := by decide +kernel
theorem dX7_has_9 : decode cX7_has 9 = .ok (.if_icmp .ge 7, 3) := by decide +kernel
theorem dX7_has_12 : decode cX7_has 12 = .ok (.iconst 1, 1) := by decide +kernel
theorem dX7_has_13 : decode cX7_has 13 = .ok (.goto 4, 3) := by decide +kernel
theorem dX7_has_16 : decode cX7_has 16 = .ok (.iconst 0, 1) := by decide +kernel
theorem dX7_has_17 : decode cX7_has 17 = .ok (.ireturn, 1) := by decide +kernel
theorem dX7_tickAt_0 : decode cX7_tickAt 0 = .ok (.aload_n 0, 1) := by decide +kernel
theorem dX7_tickAt_1 : decode cX7_tickAt 1 = .ok (.iload_n 1, 1) := by decide +kernel
theorem dX7_tickAt_2 : decode cX7_tickAt 2 = .ok (.invokevirtual 25, 3) := by decide +kernel
theorem dX7_tickAt_5 : decode cX7_tickAt 5 = .ok (.ifCond .eq 12, 3) := by decide +kernel
theorem dX7_tickAt_8 : decode cX7_tickAt 8 = .ok (.aload_n 0, 1) := by decide +kernel
theorem dX7_tickAt_9 : decode cX7_tickAt 9 = .ok (.getfield 15, 3) := by decide +kernel
theorem dX7_tickAt_12 : decode cX7_tickAt 12 = .ok (.iload_n 1, 1) := by decide +kernel
theorem dX7_tickAt_13 : decode cX7_tickAt 13 = .ok (.iaload, 1) := by decide +kernel
theorem dX7_tickAt_14 : decode cX7_tickAt 14 = .ok (.goto 4, 3) := by decide +kernel
theorem dX7_tickAt_17 : decode cX7_tickAt 17 = .ok (.iconst (-1), 1) := by decide +kernel
theorem dX7_tickAt_18 : decode cX7_tickAt 18 = .ok (.ireturn, 1) := by decide +kernel
theorem dX7_firstFrom_0 : decode cX7_firstFrom 0 = .ok (.iconst 0, 1) := by decide +kernel
theorem dX7_firstFrom_1 : decode cX7_firstFrom 1 = .ok (.istore_n 2, 1) := by decide +kernel
theorem dX7_firstFrom_2 : decode cX7_firstFrom 2 = .ok (.aload_n 0, 1) := by decide +kernel
theorem dX7_firstFrom_3 : decode cX7_firstFrom 3 = .ok (.getfield 21, 3) := by decide +kernel
theorem dX7_firstFrom_6 : decode cX7_firstFrom 6 = .ok (.istore_n 3, 1) := by decide +kernel
theorem dX7_firstFrom_7 : decode cX7_firstFrom 7 = .ok (.iconst 0, 1) := by decide +kernel
theorem dX7_firstFrom_8 : decode cX7_firstFrom 8 = .ok (.istore 4, 2) := by decide +kernel
theorem dX7_firstFrom_10 : decode cX7_firstFrom 10 = .ok (.iload 4, 2) := by decide +kernel
theorem dX7_firstFrom_12 : decode cX7_firstFrom 12 = .ok (.aload_n 0, 1) := by decide +kernel
theorem dX7_firstFrom_13 : decode cX7_firstFrom 13 = .ok (.getfield 15, 3) := by decide +kernel
theorem dX7_firstFrom_16 : decode cX7_firstFrom 16 = .ok (.arraylength, 1) := by decide +kernel
theorem dX7_firstFrom_17 : decode cX7_firstFrom 17 = .ok (.if_icmp .ge 43, 3) := by decide +kernel
theorem dX7_firstFrom_20 : decode cX7_firstFrom 20 = .ok (.iload_n 2, 1) := by decide +kernel
theorem dX7_firstFrom_21 : decode cX7_firstFrom 21 = .ok (.iload_n 3, 1) := by decide +kernel
theorem dX7_firstFrom_22 : decode cX7_firstFrom 22 = .ok (.if_icmp .ge 38, 3) := by decide +kernel
theorem dX7_firstFrom_25 : decode cX7_firstFrom 25 = .ok (.iload_n 2, 1) := by decide +kernel
theorem dX7_firstFrom_26 : decode cX7_firstFrom 26 = .ok (.iload_n 3, 1) := by decide +kernel
theorem dX7_firstFrom_27 : decode cX7_firstFrom 27 = .ok (.iadd, 1) := by decide +kernel
theorem dX7_firstFrom_28 : decode cX7_firstFrom 28 = .ok (.iconst 2, 1) := by decide +kernel
theorem dX7_firstFrom_29 : decode cX7_firstFrom 29 = .ok (.idiv, 1) := by decide +kernel
theorem dX7_firstFrom_30 : decode cX7_firstFrom 30 = .ok (.istore 5, 2) := by decide +kernel
theorem dX7_firstFrom_32 : decode cX7_firstFrom 32 = .ok (.aload_n 0, 1) := by decide +kernel
theorem dX7_firstFrom_33 : decode cX7_firstFrom 33 = .ok (.getfield 15, 3) := by decide +kernel
theorem dX7_firstFrom_36 : decode cX7_firstFrom 36 = .ok (.iload 5, 2) := by decide +kernel
theorem dX7_firstFrom_38 : decode cX7_firstFrom 38 = .ok (.iaload, 1) := by decide +kernel
theorem dX7_firstFrom_39 : decode cX7_firstFrom 39 = .ok (.iload_n 1, 1) := by decide +kernel
theorem dX7_firstFrom_40 : decode cX7_firstFrom 40 = .ok (.if_icmp .lt 9, 3) := by decide +kernel
theorem dX7_firstFrom_43 : decode cX7_firstFrom 43 = .ok (.iload 5, 2) := by decide +kernel
theorem dX7_firstFrom_45 : decode cX7_firstFrom 45 = .ok (.istore_n 3, 1) := by decide +kernel
theorem dX7_firstFrom_46 : decode cX7_firstFrom 46 = .ok (.goto 8, 3) := by decide +kernel
theorem dX7_firstFrom_49 : decode cX7_firstFrom 49 = .ok (.iload 5, 2) := by decide +kernel
theorem dX7_firstFrom_51 : decode cX7_firstFrom 51 = .ok (.iconst 1, 1) := by decide +kernel
theorem dX7_firstFrom_52 : decode cX7_firstFrom 52 = .ok (.iadd, 1) := by decide +kernel
theorem dX7_firstFrom_53 : decode cX7_firstFrom 53 = .ok (.istore_n 2, 1) := by decide +kernel
theorem dX7_firstFrom_54 : decode cX7_firstFrom 54 = .ok (.iinc 4 1, 3) := by decide +kernel
theorem dX7_firstFrom_57 : decode cX7_firstFrom 57 = .ok (.goto (-47), 3) := by decide +kernel
theorem dX7_firstFrom_60 : decode cX7_firstFrom 60 = .ok (.iload_n 2, 1) := by decide +kernel
theorem dX7_firstFrom_61 : decode cX7_firstFrom 61 = .ok (.aload_n 0, 1) := by decide +kernel
theorem dX7_firstFrom_62 : decode cX7_firstFrom 62 = .ok (.getfield 21, 3) := by decide +kernel
theorem dX7_firstFrom_65 : decode cX7_firstFrom 65 = .ok (.if_icmp .ge 12, 3) := by decide +kernel
theorem dX7_firstFrom_68 : decode cX7_firstFrom 68 = .ok (.aload_n 0, 1) := by decide +kernel
theorem dX7_firstFrom_69 : decode cX7_firstFrom 69 = .ok (.getfield 15, 3) := by decide +kernel
theorem dX7_firstFrom_72 : decode cX7_firstFrom 72 = .ok (.iload_n 2, 1) := by decide +kernel
theorem dX7_firstFrom_73 : decode cX7_firstFrom 73 = .ok (.iaload, 1) := by decide +kernel
theorem dX7_firstFrom_74 : decode cX7_firstFrom 74 = .ok (.goto 4, 3) := by decide +kernel
theorem dX7_firstFrom_77 : decode cX7_firstFrom 77 = .ok (.iconst (-1), 1) := by decide +kernel
theorem dX7_firstFrom_78 : decode cX7_firstFrom 78 = .ok (.ireturn, 1) := by decide +kernel
theorem dX7_costFor_0 : decode cX7_costFor 0 = .ok (.iload_n 2, 1) := by decide +kernel
theorem dX7_costFor_1 : decode cX7_costFor 1 = .ok (.aload_n 0, 1) := by decide +kernel
theorem dX7_costFor_2 : decode cX7_costFor 2 = .ok (.getfield 21, 3) := by decide +kernel
theorem dX7_costFor_5 : decode cX7_costFor 5 = .ok (.imul, 1) := by decide +kernel
theorem dX7_costFor_6 : decode cX7_costFor 6 = .ok (.aload_n 0, 1) := by decide +kernel
theorem dX7_costFor_7 : decode cX7_costFor 7 = .ok (.aload_n 1, 1) := by decide +kernel
theorem dX7_costFor_8 : decode cX7_costFor 8 = .ok (.invokevirtual 29, 3) := by decide +kernel
theorem dX7_costFor_11 : decode cX7_costFor 11 = .ok (.iadd, 1) := by decide +kernel
theorem dX7_costFor_12 : decode cX7_costFor 12 = .ok (.ireturn, 1) := by decide +kernel
theorem dX7_waitsOf_0 : decode cX7_waitsOf 0 = .ok (.iconst 0, 1) := by decide +kernel
theorem dX7_waitsOf_1 : decode cX7_waitsOf 1 = .ok (.istore_n 2, 1) := by decide +kernel
theorem dX7_waitsOf_2 : decode cX7_waitsOf 2 = .ok (.iconst 0, 1) := by decide +kernel
theorem dX7_waitsOf_3 : decode cX7_waitsOf 3 = .ok (.istore_n 3, 1) := by decide +kernel
theorem dX7_waitsOf_4 : decode cX7_waitsOf 4 = .ok (.iload_n 3, 1) := by decide +kernel
theorem dX7_waitsOf_5 : decode cX7_waitsOf 5 = .ok (.aload_n 1, 1) := by decide +kernel
theorem dX7_waitsOf_6 : decode cX7_waitsOf 6 = .ok (.invokevirtual 33, 3) := by decide +kernel
theorem dX7_waitsOf_9 : decode cX7_waitsOf 9 = .ok (.if_icmp .ge 24, 3) := by decide +kernel
theorem dX7_waitsOf_12 : decode cX7_waitsOf 12 = .ok (.iload_n 2, 1) := by decide +kernel
theorem dX7_waitsOf_13 : decode cX7_waitsOf 13 = .ok (.aload_n 1, 1) := by decide +kernel
theorem dX7_waitsOf_14 : decode cX7_waitsOf 14 = .ok (.iload_n 3, 1) := by decide +kernel
theorem dX7_waitsOf_15 : decode cX7_waitsOf 15 = .ok (.invokevirtual 38, 3) := by decide +kernel
theorem dX7_waitsOf_18 : decode cX7_waitsOf 18 = .ok (.aload_n 0, 1) := by decide +kernel
theorem dX7_waitsOf_19 : decode cX7_waitsOf 19 = .ok (.aload_n 1, 1) := by decide +kernel
theorem dX7_waitsOf_20 : decode cX7_waitsOf 20 = .ok (.iload_n 3, 1) := by decide +kernel
theorem dX7_waitsOf_21 : decode cX7_waitsOf 21 = .ok (.invokevirtual 42, 3) := by decide +kernel
theorem dX7_waitsOf_24 : decode cX7_waitsOf 24 = .ok (.imul, 1) := by decide +kernel
theorem dX7_waitsOf_25 : decode cX7_waitsOf 25 = .ok (.iadd, 1) := by decide +kernel
theorem dX7_waitsOf_26 : decode cX7_waitsOf 26 = .ok (.istore_n 2, 1) := by decide +kernel
theorem dX7_waitsOf_27 : decode cX7_waitsOf 27 = .ok (.iinc 3 1, 3) := by decide +kernel
theorem dX7_waitsOf_30 : decode cX7_waitsOf 30 = .ok (.goto (-26), 3) := by decide +kernel
theorem dX7_waitsOf_33 : decode cX7_waitsOf 33 = .ok (.iload_n 2, 1) := by decide +kernel
theorem dX7_waitsOf_34 : decode cX7_waitsOf 34 = .ok (.ireturn, 1) := by decide +kernel
theorem dX7_waitOf_0 : decode cX7_waitOf 0 = .ok (.aload_n 1, 1) := by decide +kernel
theorem dX7_waitOf_1 : decode cX7_waitOf 1 = .ok (.iload_n 2, 1) := by decide +kernel
theorem dX7_waitOf_2 : decode cX7_waitOf 2 = .ok (.invokevirtual 46, 3) := by decide +kernel
theorem dX7_waitOf_5 : decode cX7_waitOf 5 = .ok (.istore_n 3, 1) := by decide +kernel
theorem dX7_waitOf_6 : decode cX7_waitOf 6 = .ok (.aload_n 0, 1) := by decide +kernel
theorem dX7_waitOf_7 : decode cX7_waitOf 7 = .ok (.iload_n 3, 1) := by decide +kernel
theorem dX7_waitOf_8 : decode cX7_waitOf 8 = .ok (.invokevirtual 49, 3) := by decide +kernel
theorem dX7_waitOf_11 : decode cX7_waitOf 11 = .ok (.iload_n 3, 1) := by decide +kernel
theorem dX7_waitOf_12 : decode cX7_waitOf 12 = .ok (.isub, 1) := by decide +kernel
theorem dX7_waitOf_13 : decode cX7_waitOf 13 = .ok (.iconst 0, 1) := by decide +kernel
theorem dX7_waitOf_14 : decode cX7_waitOf 14 = .ok (.invokestatic 9, 3) := by decide +kernel
theorem dX7_waitOf_17 : decode cX7_waitOf 17 = .ok (.ireturn, 1) := by decide +kernel
theorem dX7_longestWait_0 : decode cX7_longestWait 0 = .ok (.iconst 0, 1) := by decide +kernel
theorem dX7_longestWait_1 : decode cX7_longestWait 1 = .ok (.istore_n 2, 1) := by decide +kernel
theorem dX7_longestWait_2 : decode cX7_longestWait 2 = .ok (.iconst 0, 1) := by decide +kernel
theorem dX7_longestWait_3 : decode cX7_longestWait 3 = .ok (.istore_n 3, 1) := by decide +kernel
theorem dX7_longestWait_4 : decode cX7_longestWait 4 = .ok (.iload_n 3, 1) := by decide +kernel
theorem dX7_longestWait_5 : decode cX7_longestWait 5 = .ok (.aload_n 1, 1) := by decide +kernel
theorem dX7_longestWait_6 : decode cX7_longestWait 6 = .ok (.invokevirtual 33, 3) := by decide +kernel
theorem dX7_longestWait_9 : decode cX7_longestWait 9 = .ok (.if_icmp .ge 20, 3) := by decide +kernel
theorem dX7_longestWait_12 : decode cX7_longestWait 12 = .ok (.iload_n 2, 1) := by decide +kernel
theorem dX7_longestWait_13 : decode cX7_longestWait 13 = .ok (.aload_n 0, 1) := by decide +kernel
theorem dX7_longestWait_14 : decode cX7_longestWait 14 = .ok (.aload_n 1, 1) := by decide +kernel
theorem dX7_longestWait_15 : decode cX7_longestWait 15 = .ok (.iload_n 3, 1) := by decide +kernel
theorem dX7_longestWait_16 : decode cX7_longestWait 16 = .ok (.invokevirtual 42, 3) := by decide +kernel
theorem dX7_longestWait_19 : decode cX7_longestWait 19 = .ok (.invokestatic 9, 3) := by decide +kernel
theorem dX7_longestWait_22 : decode cX7_longestWait 22 = .ok (.istore_n 2, 1) := by decide +kernel
theorem dX7_longestWait_23 : decode cX7_longestWait 23 = .ok (.iinc 3 1, 3) := by decide +kernel
theorem dX7_longestWait_26 : decode cX7_longestWait 26 = .ok (.goto (-22), 3) := by decide +kernel
theorem dX7_longestWait_29 : decode cX7_longestWait 29 = .ok (.iload_n 2, 1) := by decide +kernel
theorem dX7_longestWait_30 : decode cX7_longestWait 30 = .ok (.ireturn, 1) := by decide +kernel
theorem dX7_mostAnswered_0 : decode cX7_mostAnswered 0 = .ok (.iconst 0, 1) := by decide +kernel
theorem dX7_mostAnswered_1 : decode cX7_mostAnswered 1 = .ok (.istore_n 2, 1) := by decide +kernel
theorem dX7_mostAnswered_2 : decode cX7_mostAnswered 2 = .ok (.iconst 0, 1) := by decide +kernel
theorem dX7_mostAnswered_3 : decode cX7_mostAnswered 3 = .ok (.istore_n 3, 1) := by decide +kernel
theorem dX7_mostAnswered_4 : decode cX7_mostAnswered 4 = .ok (.iconst (-1), 1) := by decide +kernel
theorem dX7_mostAnswered_5 : decode cX7_mostAnswered 5 = .ok (.istore 4, 2) := by decide +kernel
theorem dX7_mostAnswered_7 : decode cX7_mostAnswered 7 = .ok (.iconst 0, 1) := by decide +kernel
theorem dX7_mostAnswered_8 : decode cX7_mostAnswered 8 = .ok (.istore 5, 2) := by decide +kernel
theorem dX7_mostAnswered_10 : decode cX7_mostAnswered 10 = .ok (.iload 5, 2) := by decide +kernel
theorem dX7_mostAnswered_12 : decode cX7_mostAnswered 12 = .ok (.aload_n 1, 1) := by decide +kernel
theorem dX7_mostAnswered_13 : decode cX7_mostAnswered 13 = .ok (.invokevirtual 33, 3) := by decide +kernel
theorem dX7_mostAnswered_16 : decode cX7_mostAnswered 16 = .ok (.if_icmp .ge 46, 3) := by decide +kernel
theorem dX7_mostAnswered_19 : decode cX7_mostAnswered 19 = .ok (.aload_n 0, 1) := by decide +kernel
theorem dX7_mostAnswered_20 : decode cX7_mostAnswered 20 = .ok (.aload_n 1, 1) := by decide +kernel
theorem dX7_mostAnswered_21 : decode cX7_mostAnswered 21 = .ok (.iload 5, 2) := by decide +kernel
theorem dX7_mostAnswered_23 : decode cX7_mostAnswered 23 = .ok (.invokevirtual 46, 3) := by decide +kernel
theorem dX7_mostAnswered_26 : decode cX7_mostAnswered 26 = .ok (.invokevirtual 49, 3) := by decide +kernel
theorem dX7_mostAnswered_29 : decode cX7_mostAnswered 29 = .ok (.istore 6, 2) := by decide +kernel
theorem dX7_mostAnswered_31 : decode cX7_mostAnswered 31 = .ok (.iload 6, 2) := by decide +kernel
theorem dX7_mostAnswered_33 : decode cX7_mostAnswered 33 = .ok (.iload 4, 2) := by decide +kernel
theorem dX7_mostAnswered_35 : decode cX7_mostAnswered 35 = .ok (.if_icmp .ne 9, 3) := by decide +kernel
theorem dX7_mostAnswered_38 : decode cX7_mostAnswered 38 = .ok (.iload_n 3, 1) := by decide +kernel
theorem dX7_mostAnswered_39 : decode cX7_mostAnswered 39 = .ok (.iconst 1, 1) := by decide +kernel
theorem dX7_mostAnswered_40 : decode cX7_mostAnswered 40 = .ok (.iadd, 1) := by decide +kernel
theorem dX7_mostAnswered_41 : decode cX7_mostAnswered 41 = .ok (.goto 4, 3) := by decide +kernel
theorem dX7_mostAnswered_44 : decode cX7_mostAnswered 44 = .ok (.iconst 1, 1) := by decide +kernel
theorem dX7_mostAnswered_45 : decode cX7_mostAnswered 45 = .ok (.istore_n 3, 1) := by decide +kernel
theorem dX7_mostAnswered_46 : decode cX7_mostAnswered 46 = .ok (.iload 6, 2) := by decide +kernel
theorem dX7_mostAnswered_48 : decode cX7_mostAnswered 48 = .ok (.istore 4, 2) := by decide +kernel
theorem dX7_mostAnswered_50 : decode cX7_mostAnswered 50 = .ok (.iload_n 2, 1) := by decide +kernel
theorem dX7_mostAnswered_51 : decode cX7_mostAnswered 51 = .ok (.iload_n 3, 1) := by decide +kernel
theorem dX7_mostAnswered_52 : decode cX7_mostAnswered 52 = .ok (.invokestatic 9, 3) := by decide +kernel
theorem dX7_mostAnswered_55 : decode cX7_mostAnswered 55 = .ok (.istore_n 2, 1) := by decide +kernel
theorem dX7_mostAnswered_56 : decode cX7_mostAnswered 56 = .ok (.iinc 5 1, 3) := by decide +kernel
theorem dX7_mostAnswered_59 : decode cX7_mostAnswered 59 = .ok (.goto (-49), 3) := by decide +kernel
theorem dX7_mostAnswered_62 : decode cX7_mostAnswered 62 = .ok (.iload_n 2, 1) := by decide +kernel
theorem dX7_mostAnswered_63 : decode cX7_mostAnswered 63 = .ok (.ireturn, 1) := by decide +kernel
theorem dX7_energy_0 : decode cX7_energy 0 = .ok (.aload_n 0, 1) := by decide +kernel
theorem dX7_energy_1 : decode cX7_energy 1 = .ok (.getfield 21, 3) := by decide +kernel
theorem dX7_energy_4 : decode cX7_energy 4 = .ok (.ifCond .le 7, 3) := by decide +kernel
theorem dX7_energy_7 : decode cX7_energy 7 = .ok (.iload_n 1, 1) := by decide +kernel
theorem dX7_energy_8 : decode cX7_energy 8 = .ok (.goto 4, 3) := by decide +kernel
theorem dX7_energy_11 : decode cX7_energy 11 = .ok (.iconst 0, 1) := by decide +kernel
theorem dX7_energy_12 : decode cX7_energy 12 = .ok (.istore_n 3, 1) := by decide +kernel
theorem dX7_energy_13 : decode cX7_energy 13 = .ok (.iconst 1, 1) := by decide +kernel
theorem dX7_energy_14 : decode cX7_energy 14 = .ok (.istore 4, 2) := by decide +kernel
theorem dX7_energy_16 : decode cX7_energy 16 = .ok (.iload 4, 2) := by decide +kernel
theorem dX7_energy_18 : decode cX7_energy 18 = .ok (.aload_n 0, 1) := by decide +kernel
theorem dX7_energy_19 : decode cX7_energy 19 = .ok (.getfield 21, 3) := by decide +kernel
theorem dX7_energy_22 : decode cX7_energy 22 = .ok (.if_icmp .ge 35, 3) := by decide +kernel
theorem dX7_energy_25 : decode cX7_energy 25 = .ok (.iload_n 3, 1) := by decide +kernel
theorem dX7_energy_26 : decode cX7_energy 26 = .ok (.iload_n 1, 1) := by decide +kernel
theorem dX7_energy_27 : decode cX7_energy 27 = .ok (.iload_n 2, 1) := by decide +kernel
theorem dX7_energy_28 : decode cX7_energy 28 = .ok (.aload_n 0, 1) := by decide +kernel
theorem dX7_energy_29 : decode cX7_energy 29 = .ok (.getfield 15, 3) := by decide +kernel
theorem dX7_energy_32 : decode cX7_energy 32 = .ok (.iload 4, 2) := by decide +kernel
theorem dX7_energy_34 : decode cX7_energy 34 = .ok (.iaload, 1) := by decide +kernel
theorem dX7_energy_35 : decode cX7_energy 35 = .ok (.aload_n 0, 1) := by decide +kernel
theorem dX7_energy_36 : decode cX7_energy 36 = .ok (.getfield 15, 3) := by decide +kernel
theorem dX7_energy_39 : decode cX7_energy 39 = .ok (.iload 4, 2) := by decide +kernel
theorem dX7_energy_41 : decode cX7_energy 41 = .ok (.iconst 1, 1) := by decide +kernel
theorem dX7_energy_42 : decode cX7_energy 42 = .ok (.isub, 1) := by decide +kernel
theorem dX7_energy_43 : decode cX7_energy 43 = .ok (.iaload, 1) := by decide +kernel
theorem dX7_energy_44 : decode cX7_energy 44 = .ok (.isub, 1) := by decide +kernel
theorem dX7_energy_45 : decode cX7_energy 45 = .ok (.imul, 1) := by decide +kernel
theorem dX7_energy_46 : decode cX7_energy 46 = .ok (.invokestatic 52, 3) := by decide +kernel
theorem dX7_energy_49 : decode cX7_energy 49 = .ok (.iadd, 1) := by decide +kernel
theorem dX7_energy_50 : decode cX7_energy 50 = .ok (.istore_n 3, 1) := by decide +kernel
theorem dX7_energy_51 : decode cX7_energy 51 = .ok (.iinc 4 1, 3) := by decide +kernel
theorem dX7_energy_54 : decode cX7_energy 54 = .ok (.goto (-38), 3) := by decide +kernel
theorem dX7_energy_57 : decode cX7_energy 57 = .ok (.iload_n 3, 1) := by decide +kernel
theorem dX7_energy_58 : decode cX7_energy 58 = .ok (.ireturn, 1) := by decide +kernel
theorem dX7_liveEnergy_0 : decode cX7_liveEnergy 0 = .ok (.aload_n 0, 1) := by decide +kernel
theorem dX7_liveEnergy_1 : decode cX7_liveEnergy 1 = .ok (.getfield 21, 3) := by decide +kernel
theorem dX7_liveEnergy_4 : decode cX7_liveEnergy 4 = .ok (.ifCond .ne 5, 3) := by decide +kernel
theorem dX7_liveEnergy_7 : decode cX7_liveEnergy 7 = .ok (.iconst 0, 1) := by decide +kernel
theorem dX7_liveEnergy_8 : decode cX7_liveEnergy 8 = .ok (.ireturn, 1) := by decide +kernel
theorem dX7_liveEnergy_9 : decode cX7_liveEnergy 9 = .ok (.iload_n 2, 1) := by decide +kernel
theorem dX7_liveEnergy_10 : decode cX7_liveEnergy 10 = .ok (.ifCond .le 9, 3) := by decide +kernel
theorem dX7_liveEnergy_13 : decode cX7_liveEnergy 13 = .ok (.iload_n 1, 1) := by decide +kernel
theorem dX7_liveEnergy_14 : decode cX7_liveEnergy 14 = .ok (.iload_n 2, 1) := by decide +kernel
theorem dX7_liveEnergy_15 : decode cX7_liveEnergy 15 = .ok (.idiv, 1) := by decide +kernel
theorem dX7_liveEnergy_16 : decode cX7_liveEnergy 16 = .ok (.goto 5, 3) := by decide +kernel
theorem dX7_liveEnergy_19 : decode cX7_liveEnergy 19 = .ok (.ldc 55, 2) := by decide +kernel
theorem dX7_liveEnergy_21 : decode cX7_liveEnergy 21 = .ok (.istore 4, 2) := by decide +kernel
theorem dX7_liveEnergy_23 : decode cX7_liveEnergy 23 = .ok (.iload_n 1, 1) := by decide +kernel
theorem dX7_liveEnergy_24 : decode cX7_liveEnergy 24 = .ok (.istore 5, 2) := by decide +kernel
theorem dX7_liveEnergy_26 : decode cX7_liveEnergy 26 = .ok (.iconst 1, 1) := by decide +kernel
theorem dX7_liveEnergy_27 : decode cX7_liveEnergy 27 = .ok (.istore 6, 2) := by decide +kernel
theorem dX7_liveEnergy_29 : decode cX7_liveEnergy 29 = .ok (.iload 6, 2) := by decide +kernel
theorem dX7_liveEnergy_31 : decode cX7_liveEnergy 31 = .ok (.aload_n 0, 1) := by decide +kernel
theorem dX7_liveEnergy_32 : decode cX7_liveEnergy 32 = .ok (.getfield 21, 3) := by decide +kernel
theorem dX7_liveEnergy_35 : decode cX7_liveEnergy 35 = .ok (.if_icmp .ge 53, 3) := by decide +kernel
theorem dX7_liveEnergy_38 : decode cX7_liveEnergy 38 = .ok (.aload_n 0, 1) := by decide +kernel
theorem dX7_liveEnergy_39 : decode cX7_liveEnergy 39 = .ok (.getfield 15, 3) := by decide +kernel
theorem dX7_liveEnergy_42 : decode cX7_liveEnergy 42 = .ok (.iload 6, 2) := by decide +kernel
theorem dX7_liveEnergy_44 : decode cX7_liveEnergy 44 = .ok (.iaload, 1) := by decide +kernel
theorem dX7_liveEnergy_45 : decode cX7_liveEnergy 45 = .ok (.aload_n 0, 1) := by decide +kernel
theorem dX7_liveEnergy_46 : decode cX7_liveEnergy 46 = .ok (.getfield 15, 3) := by decide +kernel
theorem dX7_liveEnergy_49 : decode cX7_liveEnergy 49 = .ok (.iload 6, 2) := by decide +kernel
theorem dX7_liveEnergy_51 : decode cX7_liveEnergy 51 = .ok (.iconst 1, 1) := by decide +kernel
theorem dX7_liveEnergy_52 : decode cX7_liveEnergy 52 = .ok (.isub, 1) := by decide +kernel
theorem dX7_liveEnergy_53 : decode cX7_liveEnergy 53 = .ok (.iaload, 1) := by decide +kernel
theorem dX7_liveEnergy_54 : decode cX7_liveEnergy 54 = .ok (.isub, 1) := by decide +kernel
theorem dX7_liveEnergy_55 : decode cX7_liveEnergy 55 = .ok (.istore 7, 2) := by decide +kernel
theorem dX7_liveEnergy_57 : decode cX7_liveEnergy 57 = .ok (.iload 5, 2) := by decide +kernel
theorem dX7_liveEnergy_59 : decode cX7_liveEnergy 59 = .ok (.iload 7, 2) := by decide +kernel
theorem dX7_liveEnergy_61 : decode cX7_liveEnergy 61 = .ok (.iload 4, 2) := by decide +kernel
theorem dX7_liveEnergy_63 : decode cX7_liveEnergy 63 = .ok (.if_icmp .gt 10, 3) := by decide +kernel
theorem dX7_liveEnergy_66 : decode cX7_liveEnergy 66 = .ok (.iload_n 2, 1) := by decide +kernel
theorem dX7_liveEnergy_67 : decode cX7_liveEnergy 67 = .ok (.iload 7, 2) := by decide +kernel
theorem dX7_liveEnergy_69 : decode cX7_liveEnergy 69 = .ok (.imul, 1) := by decide +kernel
theorem dX7_liveEnergy_70 : decode cX7_liveEnergy 70 = .ok (.goto 9, 3) := by decide +kernel
theorem dX7_liveEnergy_73 : decode cX7_liveEnergy 73 = .ok (.iload_n 2, 1) := by decide +kernel
theorem dX7_liveEnergy_74 : decode cX7_liveEnergy 74 = .ok (.iload 4, 2) := by decide +kernel
theorem dX7_liveEnergy_76 : decode cX7_liveEnergy 76 = .ok (.imul, 1) := by decide +kernel
theorem dX7_liveEnergy_77 : decode cX7_liveEnergy 77 = .ok (.iload_n 1, 1) := by decide +kernel
theorem dX7_liveEnergy_78 : decode cX7_liveEnergy 78 = .ok (.iadd, 1) := by decide +kernel
theorem dX7_liveEnergy_79 : decode cX7_liveEnergy 79 = .ok (.iadd, 1) := by decide +kernel
theorem dX7_liveEnergy_80 : decode cX7_liveEnergy 80 = .ok (.istore 5, 2) := by decide +kernel
theorem dX7_liveEnergy_82 : decode cX7_liveEnergy 82 = .ok (.iinc 6 1, 3) := by decide +kernel
theorem dX7_liveEnergy_85 : decode cX7_liveEnergy 85 = .ok (.goto (-56), 3) := by decide +kernel
theorem dX7_liveEnergy_88 : decode cX7_liveEnergy 88 = .ok (.iload 5, 2) := by decide +kernel
theorem dX7_liveEnergy_90 : decode cX7_liveEnergy 90 = .ok (.iload_n 2, 1) := by decide +kernel
theorem dX7_liveEnergy_91 : decode cX7_liveEnergy 91 = .ok (.iload 4, 2) := by decide +kernel
theorem dX7_liveEnergy_93 : decode cX7_liveEnergy 93 = .ok (.iload_n 3, 1) := by decide +kernel
theorem dX7_liveEnergy_94 : decode cX7_liveEnergy 94 = .ok (.aload_n 0, 1) := by decide +kernel
theorem dX7_liveEnergy_95 : decode cX7_liveEnergy 95 = .ok (.aload_n 0, 1) := by decide +kernel
theorem dX7_liveEnergy_96 : decode cX7_liveEnergy 96 = .ok (.getfield 21, 3) := by decide +kernel
theorem dX7_liveEnergy_99 : decode cX7_liveEnergy 99 = .ok (.iconst 1, 1) := by decide +kernel
theorem dX7_liveEnergy_100 : decode cX7_liveEnergy 100 = .ok (.isub, 1) := by decide +kernel
theorem dX7_liveEnergy_101 : decode cX7_liveEnergy 101 = .ok (.invokevirtual 56, 3) := by decide +kernel
theorem dX7_liveEnergy_104 : decode cX7_liveEnergy 104 = .ok (.isub, 1) := by decide +kernel
theorem dX7_liveEnergy_105 : decode cX7_liveEnergy 105 = .ok (.invokestatic 52, 3) := by decide +kernel
theorem dX7_liveEnergy_108 : decode cX7_liveEnergy 108 = .ok (.imul, 1) := by decide +kernel
theorem dX7_liveEnergy_109 : decode cX7_liveEnergy 109 = .ok (.iadd, 1) := by decide +kernel
theorem dX7_liveEnergy_110 : decode cX7_liveEnergy 110 = .ok (.ireturn, 1) := by decide +kernel
theorem dX8_init_0 : decode cX8_init 0 = .ok (.aload_n 0, 1) := by decide +kernel
theorem dX8_init_1 : decode cX8_init 1 = .ok (.invokespecial 1, 3) := by decide +kernel
theorem dX8_init_4 : decode cX8_init 4 = .ok (.aload_n 0, 1) := by decide +kernel
theorem dX8_init_5 : decode cX8_init 5 = .ok (.new 7, 3) := by decide +kernel
theorem dX8_init_8 : decode cX8_init 8 = .ok (.dup, 1) := by decide +kernel
theorem dX8_init_9 : decode cX8_init 9 = .ok (.invokespecial 9, 3) := by decide +kernel
theorem dX8_init_12 : decode cX8_init 12 = .ok (.putfield 10, 3) := by decide +kernel
theorem dX8_init_15 : decode cX8_init 15 = .ok (.aload_n 0, 1) := by decide +kernel
theorem dX8_init_16 : decode cX8_init 16 = .ok (.aload_n 0, 1) := by decide +kernel
theorem dX8_init_17 : decode cX8_init 17 = .ok (.getfield 10, 3) := by decide +kernel
theorem dX8_init_20 : decode cX8_init 20 = .ok (.invokevirtual 16, 3) := by decide +kernel
theorem dX8_init_23 : decode cX8_init 23 = .ok (.putfield 20, 3) := by decide +kernel
theorem dX8_init_26 : decode cX8_init 26 = .ok (.aload_n 0, 1) := by decide +kernel
theorem dX8_init_27 : decode cX8_init 27 = .ok (.new 23, 3) := by decide +kernel
theorem dX8_init_30 : decode cX8_init 30 = .ok (.dup, 1) := by decide +kernel
theorem dX8_init_31 : decode cX8_init 31 = .ok (.invokespecial 25, 3) := by decide +kernel
theorem dX8_init_34 : decode cX8_init 34 = .ok (.putfield 26, 3) := by decide +kernel
theorem dX8_init_37 : decode cX8_init 37 = .ok (.aload_n 0, 1) := by decide +kernel
theorem dX8_init_38 : decode cX8_init 38 = .ok (.new 23, 3) := by decide +kernel
theorem dX8_init_41 : decode cX8_init 41 = .ok (.dup, 1) := by decide +kernel
theorem dX8_init_42 : decode cX8_init 42 = .ok (.invokespecial 25, 3) := by decide +kernel
theorem dX8_init_45 : decode cX8_init 45 = .ok (.putfield 30, 3) := by decide +kernel
theorem dX8_init_48 : decode cX8_init 48 = .ok (.aload_n 0, 1) := by decide +kernel
theorem dX8_init_49 : decode cX8_init 49 = .ok (.new 33, 3) := by decide +kernel
theorem dX8_init_52 : decode cX8_init 52 = .ok (.dup, 1) := by decide +kernel
theorem dX8_init_53 : decode cX8_init 53 = .ok (.sipush 200, 3) := by decide +kernel
theorem dX8_init_56 : decode cX8_init 56 = .ok (.invokespecial 35, 3) := by decide +kernel
theorem dX8_init_59 : decode cX8_init 59 = .ok (.putfield 38, 3) := by decide +kernel
theorem dX8_init_62 : decode cX8_init 62 = .ok (.aload_n 0, 1) := by decide +kernel
theorem dX8_init_63 : decode cX8_init 63 = .ok (.bipush 6, 2) := by decide +kernel
theorem dX8_init_65 : decode cX8_init 65 = .ok (.anewarray 42, 3) := by decide +kernel
theorem dX8_init_68 : decode cX8_init 68 = .ok (.putfield 44, 3) := by decide +kernel
theorem dX8_init_71 : decode cX8_init 71 = .ok (.iconst 0, 1) := by decide +kernel
theorem dX8_init_72 : decode cX8_init 72 = .ok (.istore_n 1, 1) := by decide +kernel
theorem dX8_init_73 : decode cX8_init 73 = .ok (.iload_n 1, 1) := by decide +kernel
theorem dX8_init_74 : decode cX8_init 74 = .ok (.aload_n 0, 1) := by decide +kernel
theorem dX8_init_75 : decode cX8_init 75 = .ok (.getfield 44, 3) := by decide +kernel
theorem dX8_init_78 : decode cX8_init 78 = .ok (.arraylength, 1) := by decide +kernel
theorem dX8_init_79 : decode cX8_init 79 = .ok (.if_icmp .ge 25, 3) := by decide +kernel
theorem dX8_init_82 : decode cX8_init 82 = .ok (.aload_n 0, 1) := by decide +kernel
theorem dX8_init_83 : decode cX8_init 83 = .ok (.getfield 44, 3) := by decide +kernel
theorem dX8_init_86 : decode cX8_init 86 = .ok (.iload_n 1, 1) := by decide +kernel
theorem dX8_init_87 : decode cX8_init 87 = .ok (.new 42, 3) := by decide +kernel
theorem dX8_init_90 : decode cX8_init 90 = .ok (.dup, 1) := by decide +kernel
theorem dX8_init_91 : decode cX8_init 91 = .ok (.sipush 200, 3) := by decide +kernel
theorem dX8_init_94 : decode cX8_init 94 = .ok (.invokespecial 48, 3) := by decide +kernel
theorem dX8_init_97 : decode cX8_init 97 = .ok (.aastore, 1) := by decide +kernel
theorem dX8_init_98 : decode cX8_init 98 = .ok (.iinc 1 1, 3) := by decide +kernel
theorem dX8_init_101 : decode cX8_init 101 = .ok (.goto (-28), 3) := by decide +kernel
theorem dX8_init_104 : decode cX8_init 104 = .ok (.aload_n 0, 1) := by decide +kernel
theorem dX8_init_105 : decode cX8_init 105 = .ok (.bipush 6, 2) := by decide +kernel
theorem dX8_init_107 : decode cX8_init 107 = .ok (.newarray .boolean, 2) := by decide +kernel
theorem dX8_init_109 : decode cX8_init 109 = .ok (.putfield 49, 3) := by decide +kernel
theorem dX8_init_112 : decode cX8_init 112 = .ok (.aload_n 0, 1) := by decide +kernel
theorem dX8_init_113 : decode cX8_init 113 = .ok (.new 53, 3) := by decide +kernel
theorem dX8_init_116 : decode cX8_init 116 = .ok (.dup, 1) := by decide +kernel
theorem dX8_init_117 : decode cX8_init 117 = .ok (.invokespecial 55, 3) := by decide +kernel
theorem dX8_init_120 : decode cX8_init 120 = .ok (.putfield 56, 3) := by decide +kernel
theorem dX8_init_123 : decode cX8_init 123 = .ok (.aload_n 0, 1) := by decide +kernel
theorem dX8_init_124 : decode cX8_init 124 = .ok (.new 60, 3) := by decide +kernel
theorem dX8_init_127 : decode cX8_init 127 = .ok (.dup, 1) := by decide +kernel
theorem dX8_init_128 : decode cX8_init 128 = .ok (.invokespecial 62, 3) := by decide +kernel
theorem dX8_init_131 : decode cX8_init 131 = .ok (.putfield 63, 3) := by decide +kernel
theorem dX8_init_134 : decode cX8_init 134 = .ok (.aload_n 0, 1) := by decide +kernel
theorem dX8_init_135 : decode cX8_init 135 = .ok (.new 67, 3) := by decide +kernel
theorem dX8_init_138 : decode cX8_init 138 = .ok (.dup, 1) := by decide +kernel
theorem dX8_init_139 : decode cX8_init 139 = .ok (.invokespecial 69, 3) := by decide +kernel
theorem dX8_init_142 : decode cX8_init 142 = .ok (.putfield 70, 3) := by decide +kernel
theorem dX8_init_145 : decode cX8_init 145 = .ok (.aload_n 0, 1) := by decide +kernel
theorem dX8_init_146 : decode cX8_init 146 = .ok (.new 33, 3) := by decide +kernel
theorem dX8_init_149 : decode cX8_init 149 = .ok (.dup, 1) := by decide +kernel
theorem dX8_init_150 : decode cX8_init 150 = .ok (.sipush 200, 3) := by decide +kernel
theorem dX8_init_153 : decode cX8_init 153 = .ok (.invokespecial 35, 3) := by decide +kernel
theorem dX8_init_156 : decode cX8_init 156 = .ok (.putfield 74, 3) := by decide +kernel
theorem dX8_init_159 : decode cX8_init 159 = .ok (.aload_n 0, 1) := by decide +kernel
theorem dX8_init_160 : decode cX8_init 160 = .ok (.new 42, 3) := by decide +kernel
theorem dX8_init_163 : decode cX8_init 163 = .ok (.dup, 1) := by decide +kernel
theorem dX8_init_164 : decode cX8_init 164 = .ok (.sipush 200, 3) := by decide +kernel
theorem dX8_init_167 : decode cX8_init 167 = .ok (.invokespecial 48, 3) := by decide +kernel
theorem dX8_init_170 : decode cX8_init 170 = .ok (.putfield 77, 3) := by decide +kernel
theorem dX8_init_173 : decode cX8_init 173 = .ok (.aload_n 0, 1) := by decide +kernel
theorem dX8_init_174 : decode cX8_init 174 = .ok (.new 67, 3) := by decide +kernel
theorem dX8_init_177 : decode cX8_init 177 = .ok (.dup, 1) := by decide +kernel
theorem dX8_init_178 : decode cX8_init 178 = .ok (.invokespecial 69, 3) := by decide +kernel
theorem dX8_init_181 : decode cX8_init 181 = .ok (.putfield 81, 3) := by decide +kernel
theorem dX8_init_184 : decode cX8_init 184 = .ok (.return_, 1) := by decide +kernel
theorem dX8_feed_0 : decode cX8_feed 0 = .ok (.aload_n 0, 1) := by decide +kernel
theorem dX8_feed_1 : decode cX8_feed 1 = .ok (.getfield 20, 3) := by decide +kernel
theorem dX8_feed_4 : decode cX8_feed 4 = .ok (.invokevirtual 84, 3) := by decide +kernel
theorem dX8_feed_7 : decode cX8_feed 7 = .ok (.bipush 20, 2) := by decide +kernel
theorem dX8_feed_9 : decode cX8_feed 9 = .ok (.iadd, 1) := by decide +kernel
theorem dX8_feed_10 : decode cX8_feed 10 = .ok (.sipush 600, 3) := by decide +kernel
theorem dX8_feed_13 : decode cX8_feed 13 = .ok (.if_icmp .le 5, 3) := by decide +kernel
theorem dX8_feed_16 : decode cX8_feed 16 = .ok (.iconst (-1), 1) := by decide +kernel
theorem dX8_feed_17 : decode cX8_feed 17 = .ok (.ireturn, 1) := by decide +kernel
theorem dX8_feed_18 : decode cX8_feed 18 = .ok (.aload_n 0, 1) := by decide +kernel
theorem dX8_feed_19 : decode cX8_feed 19 = .ok (.getfield 20, 3) := by decide +kernel
theorem dX8_feed_22 : decode cX8_feed 22 = .ok (.iload_n 1, 1) := by decide +kernel
theorem dX8_feed_23 : decode cX8_feed 23 = .ok (.invokevirtual 90, 3) := by decide +kernel
theorem dX8_feed_26 : decode cX8_feed 26 = .ok (.aload_n 0, 1) := by decide +kernel
theorem dX8_feed_27 : decode cX8_feed 27 = .ok (.getfield 20, 3) := by decide +kernel
theorem dX8_feed_30 : decode cX8_feed 30 = .ok (.iload_n 2, 1) := by decide +kernel
theorem dX8_feed_31 : decode cX8_feed 31 = .ok (.invokevirtual 90, 3) := by decide +kernel
theorem dX8_feed_34 : decode cX8_feed 34 = .ok (.aload_n 0, 1) := by decide +kernel
theorem dX8_feed_35 : decode cX8_feed 35 = .ok (.getfield 20, 3) := by decide +kernel
theorem dX8_feed_38 : decode cX8_feed 38 = .ok (.iload_n 3, 1) := by decide +kernel
theorem dX8_feed_39 : decode cX8_feed 39 = .ok (.invokevirtual 90, 3) := by decide +kernel
theorem dX8_feed_42 : decode cX8_feed 42 = .ok (.aload_n 0, 1) := by decide +kernel
theorem dX8_feed_43 : decode cX8_feed 43 = .ok (.getfield 20, 3) := by decide +kernel
theorem dX8_feed_46 : decode cX8_feed 46 = .ok (.iload 4, 2) := by decide +kernel
theorem dX8_feed_48 : decode cX8_feed 48 = .ok (.invokevirtual 90, 3) := by decide +kernel
theorem dX8_feed_51 : decode cX8_feed 51 = .ok (.aload_n 0, 1) := by decide +kernel
theorem dX8_feed_52 : decode cX8_feed 52 = .ok (.getfield 20, 3) := by decide +kernel
theorem dX8_feed_55 : decode cX8_feed 55 = .ok (.iload 5, 2) := by decide +kernel
theorem dX8_feed_57 : decode cX8_feed 57 = .ok (.invokevirtual 90, 3) := by decide +kernel
theorem dX8_feed_60 : decode cX8_feed 60 = .ok (.aload_n 0, 1) := by decide +kernel
theorem dX8_feed_61 : decode cX8_feed 61 = .ok (.getfield 20, 3) := by decide +kernel
theorem dX8_feed_64 : decode cX8_feed 64 = .ok (.invokevirtual 84, 3) := by decide +kernel
theorem dX8_feed_67 : decode cX8_feed 67 = .ok (.ireturn, 1) := by decide +kernel
theorem dX8_end_0 : decode cX8_end 0 = .ok (.iload_n 1, 1) := by decide +kernel
theorem dX8_end_1 : decode cX8_end 1 = .ok (.ifCond .lt 14, 3) := by decide +kernel
theorem dX8_end_4 : decode cX8_end 4 = .ok (.iload_n 1, 1) := by decide +kernel
theorem dX8_end_5 : decode cX8_end 5 = .ok (.aload_n 0, 1) := by decide +kernel
theorem dX8_end_6 : decode cX8_end 6 = .ok (.getfield 20, 3) := by decide +kernel
theorem dX8_end_9 : decode cX8_end 9 = .ok (.invokevirtual 84, 3) := by decide +kernel
theorem dX8_end_12 : decode cX8_end 12 = .ok (.if_icmp .le 5, 3) := by decide +kernel
theorem dX8_end_15 : decode cX8_end 15 = .ok (.iconst (-1), 1) := by decide +kernel
theorem dX8_end_16 : decode cX8_end 16 = .ok (.ireturn, 1) := by decide +kernel
theorem dX8_end_17 : decode cX8_end 17 = .ok (.aload_n 0, 1) := by decide +kernel
theorem dX8_end_18 : decode cX8_end 18 = .ok (.getfield 20, 3) := by decide +kernel
theorem dX8_end_21 : decode cX8_end 21 = .ok (.iload_n 1, 1) := by decide +kernel
theorem dX8_end_22 : decode cX8_end 22 = .ok (.invokevirtual 93, 3) := by decide +kernel
theorem dX8_end_25 : decode cX8_end 25 = .ok (.iload_n 1, 1) := by decide +kernel
theorem dX8_end_26 : decode cX8_end 26 = .ok (.ireturn, 1) := by decide +kernel
theorem dX8_text_0 : decode cX8_text 0 = .ok (.aload_n 0, 1) := by decide +kernel
theorem dX8_text_1 : decode cX8_text 1 = .ok (.getfield 10, 3) := by decide +kernel
theorem dX8_text_4 : decode cX8_text 4 = .ok (.aload_n 0, 1) := by decide +kernel
theorem dX8_text_5 : decode cX8_text 5 = .ok (.getfield 30, 3) := by decide +kernel
theorem dX8_text_8 : decode cX8_text 8 = .ok (.invokevirtual 96, 3) := by decide +kernel
theorem dX8_text_11 : decode cX8_text 11 = .ok (.istore_n 1, 1) := by decide +kernel
theorem dX8_text_12 : decode cX8_text 12 = .ok (.aload_n 0, 1) := by decide +kernel
theorem dX8_text_13 : decode cX8_text 13 = .ok (.getfield 20, 3) := by decide +kernel
theorem dX8_text_16 : decode cX8_text 16 = .ok (.iconst 0, 1) := by decide +kernel
theorem dX8_text_17 : decode cX8_text 17 = .ok (.invokevirtual 93, 3) := by decide +kernel
theorem dX8_text_20 : decode cX8_text 20 = .ok (.iload_n 1, 1) := by decide +kernel
theorem dX8_text_21 : decode cX8_text 21 = .ok (.ifCond .ne 5, 3) := by decide +kernel
theorem dX8_text_24 : decode cX8_text 24 = .ok (.iconst (-1), 1) := by decide +kernel
theorem dX8_text_25 : decode cX8_text 25 = .ok (.ireturn, 1) := by decide +kernel
theorem dX8_text_26 : decode cX8_text 26 = .ok (.aload_n 0, 1) := by decide +kernel
theorem dX8_text_27 : decode cX8_text 27 = .ok (.getfield 26, 3) := by decide +kernel
theorem dX8_text_30 : decode cX8_text 30 = .ok (.astore_n 2, 1) := by decide +kernel
theorem dX8_text_31 : decode cX8_text 31 = .ok (.aload_n 0, 1) := by decide +kernel
theorem dX8_text_32 : decode cX8_text 32 = .ok (.aload_n 0, 1) := by decide +kernel
theorem dX8_text_33 : decode cX8_text 33 = .ok (.getfield 30, 3) := by decide +kernel
theorem dX8_text_36 : decode cX8_text 36 = .ok (.putfield 26, 3) := by decide +kernel
theorem dX8_text_39 : decode cX8_text 39 = .ok (.aload_n 0, 1) := by decide +kernel
theorem dX8_text_40 : decode cX8_text 40 = .ok (.aload_n 2, 1) := by decide +kernel
theorem dX8_text_41 : decode cX8_text 41 = .ok (.putfield 30, 3) := by decide +kernel
theorem dX8_text_44 : decode cX8_text 44 = .ok (.aload_n 0, 1) := by decide +kernel
theorem dX8_text_45 : decode cX8_text 45 = .ok (.getfield 38, 3) := by decide +kernel
theorem dX8_text_48 : decode cX8_text 48 = .ok (.aload_n 0, 1) := by decide +kernel
theorem dX8_text_49 : decode cX8_text 49 = .ok (.getfield 26, 3) := by decide +kernel
theorem dX8_text_52 : decode cX8_text 52 = .ok (.invokevirtual 100, 3) := by decide +kernel
theorem dX8_text_55 : decode cX8_text 55 = .ok (.aload_n 0, 1) := by decide +kernel
theorem dX8_text_56 : decode cX8_text 56 = .ok (.getfield 74, 3) := by decide +kernel
theorem dX8_text_59 : decode cX8_text 59 = .ok (.aload_n 0, 1) := by decide +kernel
theorem dX8_text_60 : decode cX8_text 60 = .ok (.getfield 26, 3) := by decide +kernel
theorem dX8_text_63 : decode cX8_text 63 = .ok (.invokevirtual 100, 3) := by decide +kernel
theorem dX8_text_66 : decode cX8_text 66 = .ok (.aload_n 0, 1) := by decide +kernel
theorem dX8_text_67 : decode cX8_text 67 = .ok (.invokevirtual 104, 3) := by decide +kernel
theorem dX8_text_70 : decode cX8_text 70 = .ok (.aload_n 0, 1) := by decide +kernel
theorem dX8_text_71 : decode cX8_text 71 = .ok (.getfield 63, 3) := by decide +kernel
theorem dX8_text_74 : decode cX8_text 74 = .ok (.aload_n 0, 1) := by decide +kernel
theorem dX8_text_75 : decode cX8_text 75 = .ok (.getfield 38, 3) := by decide +kernel
theorem dX8_text_78 : decode cX8_text 78 = .ok (.invokevirtual 107, 3) := by decide +kernel
theorem dX8_text_81 : decode cX8_text 81 = .ok (.aload_n 0, 1) := by decide +kernel
theorem dX8_text_82 : decode cX8_text 82 = .ok (.getfield 26, 3) := by decide +kernel
theorem dX8_text_85 : decode cX8_text 85 = .ok (.invokevirtual 111, 3) := by decide +kernel
theorem dX8_text_88 : decode cX8_text 88 = .ok (.ireturn, 1) := by decide +kernel
theorem dX8_fault_0 : decode cX8_fault 0 = .ok (.iload_n 1, 1) := by decide +kernel
theorem dX8_fault_1 : decode cX8_fault 1 = .ok (.lookupswitch 43 #[(0, 27), (1, 35)], 27) := by decide +kernel
theorem dX8_fault_28 : decode cX8_fault 28 = .ok (.aload_n 0, 1) := by decide +kernel
theorem dX8_fault_29 : decode cX8_fault 29 = .ok (.getfield 10, 3) := by decide +kernel
theorem dX8_fault_32 : decode cX8_fault 32 = .ok (.invokevirtual 114, 3) := by decide +kernel
theorem dX8_fault_35 : decode cX8_fault 35 = .ok (.ireturn, 1) := by decide +kernel
theorem dX8_fault_36 : decode cX8_fault 36 = .ok (.aload_n 0, 1) := by decide +kernel
theorem dX8_fault_37 : decode cX8_fault 37 = .ok (.getfield 10, 3) := by decide +kernel
theorem dX8_fault_40 : decode cX8_fault 40 = .ok (.invokevirtual 117, 3) := by decide +kernel
theorem dX8_fault_43 : decode cX8_fault 43 = .ok (.ireturn, 1) := by decide +kernel
theorem dX8_fault_44 : decode cX8_fault 44 = .ok (.iconst (-1), 1) := by decide +kernel
theorem dX8_fault_45 : decode cX8_fault 45 = .ok (.ireturn, 1) := by decide +kernel
theorem dX8_count_0 : decode cX8_count 0 = .ok (.iload_n 1, 1) := by decide +kernel
theorem dX8_count_1 : decode cX8_count 1 = .ok (.tableswitch 123 0 8 #[51, 59, 67, 75, 83, 91, 99, 107, 115], 51) := by decide +kernel
theorem dX8_count_52 : decode cX8_count 52 = .ok (.aload_n 0, 1) := by decide +kernel
theorem dX8_count_53 : decode cX8_count 53 = .ok (.getfield 26, 3) := by decide +kernel
theorem dX8_count_56 : decode cX8_count 56 = .ok (.invokevirtual 120, 3) := by decide +kernel
theorem dX8_count_59 : decode cX8_count 59 = .ok (.ireturn, 1) := by decide +kernel
theorem dX8_count_60 : decode cX8_count 60 = .ok (.aload_n 0, 1) := by decide +kernel
theorem dX8_count_61 : decode cX8_count 61 = .ok (.getfield 26, 3) := by decide +kernel
theorem dX8_count_64 : decode cX8_count 64 = .ok (.invokevirtual 111, 3) := by decide +kernel
theorem dX8_count_67 : decode cX8_count 67 = .ok (.ireturn, 1) := by decide +kernel
theorem dX8_count_68 : decode cX8_count 68 = .ok (.aload_n 0, 1) := by decide +kernel
theorem dX8_count_69 : decode cX8_count 69 = .ok (.getfield 38, 3) := by decide +kernel
theorem dX8_count_72 : decode cX8_count 72 = .ok (.invokevirtual 123, 3) := by decide +kernel
theorem dX8_count_75 : decode cX8_count 75 = .ok (.ireturn, 1) := by decide +kernel
theorem dX8_count_76 : decode cX8_count 76 = .ok (.aload_n 0, 1) := by decide +kernel
theorem dX8_count_77 : decode cX8_count 77 = .ok (.getfield 26, 3) := by decide +kernel
theorem dX8_count_80 : decode cX8_count 80 = .ok (.invokevirtual 124, 3) := by decide +kernel
theorem dX8_count_83 : decode cX8_count 83 = .ok (.ireturn, 1) := by decide +kernel
theorem dX8_count_84 : decode cX8_count 84 = .ok (.aload_n 0, 1) := by decide +kernel
theorem dX8_count_85 : decode cX8_count 85 = .ok (.getfield 26, 3) := by decide +kernel
theorem dX8_count_88 : decode cX8_count 88 = .ok (.invokevirtual 127, 3) := by decide +kernel
theorem dX8_count_91 : decode cX8_count 91 = .ok (.ireturn, 1) := by decide +kernel
theorem dX8_count_92 : decode cX8_count 92 = .ok (.aload_n 0, 1) := by decide +kernel
theorem dX8_count_93 : decode cX8_count 93 = .ok (.getfield 26, 3) := by decide +kernel
theorem dX8_count_96 : decode cX8_count 96 = .ok (.invokevirtual 130, 3) := by decide +kernel
theorem dX8_count_99 : decode cX8_count 99 = .ok (.ireturn, 1) := by decide +kernel
theorem dX8_count_100 : decode cX8_count 100 = .ok (.aload_n 0, 1) := by decide +kernel
theorem dX8_count_101 : decode cX8_count 101 = .ok (.getfield 63, 3) := by decide +kernel
theorem dX8_count_104 : decode cX8_count 104 = .ok (.invokevirtual 133, 3) := by decide +kernel
theorem dX8_count_107 : decode cX8_count 107 = .ok (.ireturn, 1) := by decide +kernel
theorem dX8_count_108 : decode cX8_count 108 = .ok (.aload_n 0, 1) := by decide +kernel
theorem dX8_count_109 : decode cX8_count 109 = .ok (.getfield 63, 3) := by decide +kernel
theorem dX8_count_112 : decode cX8_count 112 = .ok (.invokevirtual 136, 3) := by decide +kernel
theorem dX8_count_115 : decode cX8_count 115 = .ok (.ireturn, 1) := by decide +kernel
theorem dX8_count_116 : decode cX8_count 116 = .ok (.aload_n 0, 1) := by decide +kernel
theorem dX8_count_117 : decode cX8_count 117 = .ok (.getfield 20, 3) := by decide +kernel
theorem dX8_count_120 : decode cX8_count 120 = .ok (.invokevirtual 84, 3) := by decide +kernel
theorem dX8_count_123 : decode cX8_count 123 = .ok (.ireturn, 1) := by decide +kernel
theorem dX8_count_124 : decode cX8_count 124 = .ok (.iconst (-1), 1) := by decide +kernel
theorem dX8_count_125 : decode cX8_count 125 = .ok (.ireturn, 1) := by decide +kernel
theorem dX8_kind_0 : decode cX8_kind 0 = .ok (.aload_n 0, 1) := by decide +kernel
theorem dX8_kind_1 : decode cX8_kind 1 = .ok (.getfield 26, 3) := by decide +kernel
theorem dX8_kind_4 : decode cX8_kind 4 = .ok (.iload_n 1, 1) := by decide +kernel
theorem dX8_kind_5 : decode cX8_kind 5 = .ok (.invokevirtual 139, 3) := by decide +kernel
theorem dX8_kind_8 : decode cX8_kind 8 = .ok (.ifCond .ne 5, 3) := by decide +kernel
theorem dX8_kind_11 : decode cX8_kind 11 = .ok (.iconst (-1), 1) := by decide +kernel
theorem dX8_kind_12 : decode cX8_kind 12 = .ok (.ireturn, 1) := by decide +kernel
theorem dX8_kind_13 : decode cX8_kind 13 = .ok (.iload_n 2, 1) := by decide +kernel
theorem dX8_kind_14 : decode cX8_kind 14 = .ok (.tableswitch 105 0 6 #[42, 51, 60, 69, 78, 87, 96], 42) := by decide +kernel
theorem dX8_kind_56 : decode cX8_kind 56 = .ok (.aload_n 0, 1) := by decide +kernel
theorem dX8_kind_57 : decode cX8_kind 57 = .ok (.getfield 26, 3) := by decide +kernel
theorem dX8_kind_60 : decode cX8_kind 60 = .ok (.iload_n 1, 1) := by decide +kernel
theorem dX8_kind_61 : decode cX8_kind 61 = .ok (.invokevirtual 143, 3) := by decide +kernel
theorem dX8_kind_64 : decode cX8_kind 64 = .ok (.ireturn, 1) := by decide +kernel
theorem dX8_kind_65 : decode cX8_kind 65 = .ok (.aload_n 0, 1) := by decide +kernel
theorem dX8_kind_66 : decode cX8_kind 66 = .ok (.getfield 26, 3) := by decide +kernel
theorem dX8_kind_69 : decode cX8_kind 69 = .ok (.iload_n 1, 1) := by decide +kernel
theorem dX8_kind_70 : decode cX8_kind 70 = .ok (.invokevirtual 147, 3) := by decide +kernel
theorem dX8_kind_73 : decode cX8_kind 73 = .ok (.ireturn, 1) := by decide +kernel
theorem dX8_kind_74 : decode cX8_kind 74 = .ok (.aload_n 0, 1) := by decide +kernel
theorem dX8_kind_75 : decode cX8_kind 75 = .ok (.getfield 26, 3) := by decide +kernel
theorem dX8_kind_78 : decode cX8_kind 78 = .ok (.iload_n 1, 1) := by decide +kernel
theorem dX8_kind_79 : decode cX8_kind 79 = .ok (.invokevirtual 150, 3) := by decide +kernel
theorem dX8_kind_82 : decode cX8_kind 82 = .ok (.ireturn, 1) := by decide +kernel
theorem dX8_kind_83 : decode cX8_kind 83 = .ok (.aload_n 0, 1) := by decide +kernel
theorem dX8_kind_84 : decode cX8_kind 84 = .ok (.getfield 26, 3) := by decide +kernel
theorem dX8_kind_87 : decode cX8_kind 87 = .ok (.iload_n 1, 1) := by decide +kernel
theorem dX8_kind_88 : decode cX8_kind 88 = .ok (.invokevirtual 153, 3) := by decide +kernel
theorem dX8_kind_91 : decode cX8_kind 91 = .ok (.ireturn, 1) := by decide +kernel
theorem dX8_kind_92 : decode cX8_kind 92 = .ok (.aload_n 0, 1) := by decide +kernel
theorem dX8_kind_93 : decode cX8_kind 93 = .ok (.getfield 26, 3) := by decide +kernel
theorem dX8_kind_96 : decode cX8_kind 96 = .ok (.iload_n 1, 1) := by decide +kernel
theorem dX8_kind_97 : decode cX8_kind 97 = .ok (.invokevirtual 156, 3) := by decide +kernel
theorem dX8_kind_100 : decode cX8_kind 100 = .ok (.ireturn, 1) := by decide +kernel
theorem dX8_kind_101 : decode cX8_kind 101 = .ok (.aload_n 0, 1) := by decide +kernel
theorem dX8_kind_102 : decode cX8_kind 102 = .ok (.getfield 26, 3) := by decide +kernel
theorem dX8_kind_105 : decode cX8_kind 105 = .ok (.iload_n 1, 1) := by decide +kernel
theorem dX8_kind_106 : decode cX8_kind 106 = .ok (.invokevirtual 159, 3) := by decide +kernel
theorem dX8_kind_109 : decode cX8_kind 109 = .ok (.ireturn, 1) := by decide +kernel
theorem dX8_kind_110 : decode cX8_kind 110 = .ok (.aload_n 0, 1) := by decide +kernel
theorem dX8_kind_111 : decode cX8_kind 111 = .ok (.getfield 26, 3) := by decide +kernel
theorem dX8_kind_114 : decode cX8_kind 114 = .ok (.iload_n 1, 1) := by decide +kernel
theorem dX8_kind_115 : decode cX8_kind 115 = .ok (.invokevirtual 162, 3) := by decide +kernel
theorem dX8_kind_118 : decode cX8_kind 118 = .ok (.ireturn, 1) := by decide +kernel
theorem dX8_kind_119 : decode cX8_kind 119 = .ok (.iconst (-1), 1) := by decide +kernel
theorem dX8_kind_120 : decode cX8_kind 120 = .ok (.ireturn, 1) := by decide +kernel
theorem dX8_slacken_0 : decode cX8_slacken 0 = .ok (.aload_n 0, 1) := by decide +kernel
theorem dX8_slacken_1 : decode cX8_slacken 1 = .ok (.getfield 26, 3) := by decide +kernel
theorem dX8_slacken_4 : decode cX8_slacken 4 = .ok (.iload_n 1, 1) := by decide +kernel
theorem dX8_slacken_5 : decode cX8_slacken 5 = .ok (.invokevirtual 139, 3) := by decide +kernel
theorem dX8_slacken_8 : decode cX8_slacken 8 = .ok (.ifCond .eq 26, 3) := by decide +kernel
theorem dX8_slacken_11 : decode cX8_slacken 11 = .ok (.iload_n 2, 1) := by decide +kernel
theorem dX8_slacken_12 : decode cX8_slacken 12 = .ok (.iconst (-1), 1) := by decide +kernel
theorem dX8_slacken_13 : decode cX8_slacken 13 = .ok (.if_icmp .lt 21, 3) := by decide +kernel
theorem dX8_slacken_16 : decode cX8_slacken 16 = .ok (.iload_n 2, 1) := by decide +kernel
theorem dX8_slacken_17 : decode cX8_slacken 17 = .ok (.bipush 99, 2) := by decide +kernel
theorem dX8_slacken_19 : decode cX8_slacken 19 = .ok (.if_icmp .gt 15, 3) := by decide +kernel
theorem dX8_slacken_22 : decode cX8_slacken 22 = .ok (.iload_n 2, 1) := by decide +kernel
theorem dX8_slacken_23 : decode cX8_slacken 23 = .ok (.aload_n 0, 1) := by decide +kernel
theorem dX8_slacken_24 : decode cX8_slacken 24 = .ok (.getfield 26, 3) := by decide +kernel
theorem dX8_slacken_27 : decode cX8_slacken 27 = .ok (.iload_n 1, 1) := by decide +kernel
theorem dX8_slacken_28 : decode cX8_slacken 28 = .ok (.invokevirtual 153, 3) := by decide +kernel
theorem dX8_slacken_31 : decode cX8_slacken 31 = .ok (.if_icmp .ne 5, 3) := by decide +kernel
theorem dX8_slacken_34 : decode cX8_slacken 34 = .ok (.iconst 0, 1) := by decide +kernel
theorem dX8_slacken_35 : decode cX8_slacken 35 = .ok (.ireturn, 1) := by decide +kernel
theorem dX8_slacken_36 : decode cX8_slacken 36 = .ok (.aload_n 0, 1) := by decide +kernel
theorem dX8_slacken_37 : decode cX8_slacken 37 = .ok (.getfield 26, 3) := by decide +kernel
theorem dX8_slacken_40 : decode cX8_slacken 40 = .ok (.iload_n 1, 1) := by decide +kernel
theorem dX8_slacken_41 : decode cX8_slacken 41 = .ok (.iload_n 2, 1) := by decide +kernel
theorem dX8_slacken_42 : decode cX8_slacken 42 = .ok (.invokevirtual 165, 3) := by decide +kernel
theorem dX8_slacken_45 : decode cX8_slacken 45 = .ok (.aload_n 0, 1) := by decide +kernel
theorem dX8_slacken_46 : decode cX8_slacken 46 = .ok (.invokevirtual 104, 3) := by decide +kernel
theorem dX8_slacken_49 : decode cX8_slacken 49 = .ok (.iconst 1, 1) := by decide +kernel
theorem dX8_slacken_50 : decode cX8_slacken 50 = .ok (.ireturn, 1) := by decide +kernel
theorem dX8_call_0 : decode cX8_call 0 = .ok (.aload_n 0, 1) := by decide +kernel
theorem dX8_call_1 : decode cX8_call 1 = .ok (.getfield 38, 3) := by decide +kernel
theorem dX8_call_4 : decode cX8_call 4 = .ok (.iload_n 1, 1) := by decide +kernel
theorem dX8_call_5 : decode cX8_call 5 = .ok (.invokevirtual 169, 3) := by decide +kernel
theorem dX8_call_8 : decode cX8_call 8 = .ok (.ifCond .ne 5, 3) := by decide +kernel
theorem dX8_call_11 : decode cX8_call 11 = .ok (.iconst (-1), 1) := by decide +kernel
theorem dX8_call_12 : decode cX8_call 12 = .ok (.ireturn, 1) := by decide +kernel
theorem dX8_call_13 : decode cX8_call 13 = .ok (.iload_n 2, 1) := by decide +kernel
theorem dX8_call_14 : decode cX8_call 14 = .ok (.tableswitch 66 0 3 #[30, 39, 48, 57], 30) := by decide +kernel
theorem dX8_call_44 : decode cX8_call 44 = .ok (.aload_n 0, 1) := by decide +kernel
theorem dX8_call_45 : decode cX8_call 45 = .ok (.getfield 38, 3) := by decide +kernel
theorem dX8_call_48 : decode cX8_call 48 = .ok (.iload_n 1, 1) := by decide +kernel
theorem dX8_call_49 : decode cX8_call 49 = .ok (.invokevirtual 172, 3) := by decide +kernel
theorem dX8_call_52 : decode cX8_call 52 = .ok (.ireturn, 1) := by decide +kernel
theorem dX8_call_53 : decode cX8_call 53 = .ok (.aload_n 0, 1) := by decide +kernel
theorem dX8_call_54 : decode cX8_call 54 = .ok (.getfield 38, 3) := by decide +kernel
theorem dX8_call_57 : decode cX8_call 57 = .ok (.iload_n 1, 1) := by decide +kernel
theorem dX8_call_58 : decode cX8_call 58 = .ok (.invokevirtual 175, 3) := by decide +kernel
theorem dX8_call_61 : decode cX8_call 61 = .ok (.ireturn, 1) := by decide +kernel
theorem dX8_call_62 : decode cX8_call 62 = .ok (.aload_n 0, 1) := by decide +kernel
theorem dX8_call_63 : decode cX8_call 63 = .ok (.getfield 38, 3) := by decide +kernel
theorem dX8_call_66 : decode cX8_call 66 = .ok (.iload_n 1, 1) := by decide +kernel
theorem dX8_call_67 : decode cX8_call 67 = .ok (.invokevirtual 178, 3) := by decide +kernel
theorem dX8_call_70 : decode cX8_call 70 = .ok (.ireturn, 1) := by decide +kernel
theorem dX8_call_71 : decode cX8_call 71 = .ok (.aload_n 0, 1) := by decide +kernel
theorem dX8_call_72 : decode cX8_call 72 = .ok (.getfield 38, 3) := by decide +kernel
theorem dX8_call_75 : decode cX8_call 75 = .ok (.iload_n 1, 1) := by decide +kernel
theorem dX8_call_76 : decode cX8_call 76 = .ok (.invokevirtual 179, 3) := by decide +kernel
theorem dX8_call_79 : decode cX8_call 79 = .ok (.ireturn, 1) := by decide +kernel
theorem dX8_call_80 : decode cX8_call 80 = .ok (.iconst (-1), 1) := by decide +kernel
theorem dX8_call_81 : decode cX8_call 81 = .ok (.ireturn, 1) := by decide +kernel
theorem dX8_wakes_0 : decode cX8_wakes 0 = .ok (.aload_n 0, 1) := by decide +kernel
theorem dX8_wakes_1 : decode cX8_wakes 1 = .ok (.iload_n 1, 1) := by decide +kernel
theorem dX8_wakes_2 : decode cX8_wakes 2 = .ok (.invokevirtual 182, 3) := by decide +kernel
theorem dX8_wakes_5 : decode cX8_wakes 5 = .ok (.astore_n 2, 1) := by decide +kernel
theorem dX8_wakes_6 : decode cX8_wakes 6 = .ok (.aload_n 2, 1) := by decide +kernel
theorem dX8_wakes_7 : decode cX8_wakes 7 = .ok (.ifnonnull 7, 3) := by decide +kernel
theorem dX8_wakes_10 : decode cX8_wakes 10 = .ok (.iconst (-1), 1) := by decide +kernel
theorem dX8_wakes_11 : decode cX8_wakes 11 = .ok (.goto 7, 3) := by decide +kernel
theorem dX8_wakes_14 : decode cX8_wakes 14 = .ok (.aload_n 2, 1) := by decide +kernel
theorem dX8_wakes_15 : decode cX8_wakes 15 = .ok (.invokevirtual 186, 3) := by decide +kernel
theorem dX8_wakes_18 : decode cX8_wakes 18 = .ok (.ireturn, 1) := by decide +kernel
theorem dX8_wake_0 : decode cX8_wake 0 = .ok (.aload_n 0, 1) := by decide +kernel
theorem dX8_wake_1 : decode cX8_wake 1 = .ok (.iload_n 1, 1) := by decide +kernel
theorem dX8_wake_2 : decode cX8_wake 2 = .ok (.invokevirtual 182, 3) := by decide +kernel
theorem dX8_wake_5 : decode cX8_wake 5 = .ok (.astore_n 3, 1) := by decide +kernel
theorem dX8_wake_6 : decode cX8_wake 6 = .ok (.aload_n 3, 1) := by decide +kernel
theorem dX8_wake_7 : decode cX8_wake 7 = .ok (.ifnonnull 7, 3) := by decide +kernel
theorem dX8_wake_10 : decode cX8_wake 10 = .ok (.iconst (-1), 1) := by decide +kernel
theorem dX8_wake_11 : decode cX8_wake 11 = .ok (.goto 8, 3) := by decide +kernel
theorem dX8_wake_14 : decode cX8_wake 14 = .ok (.aload_n 3, 1) := by decide +kernel
theorem dX8_wake_15 : decode cX8_wake 15 = .ok (.iload_n 2, 1) := by decide +kernel
theorem dX8_wake_16 : decode cX8_wake 16 = .ok (.invokevirtual 187, 3) := by decide +kernel
theorem dX8_wake_19 : decode cX8_wake 19 = .ok (.ireturn, 1) := by decide +kernel
theorem dX8_price_0 : decode cX8_price 0 = .ok (.aload_n 0, 1) := by decide +kernel
theorem dX8_price_1 : decode cX8_price 1 = .ok (.iload_n 1, 1) := by decide +kernel
theorem dX8_price_2 : decode cX8_price 2 = .ok (.invokevirtual 182, 3) := by decide +kernel
theorem dX8_price_5 : decode cX8_price 5 = .ok (.astore_n 3, 1) := by decide +kernel
theorem dX8_price_6 : decode cX8_price 6 = .ok (.aload_n 3, 1) := by decide +kernel
theorem dX8_price_7 : decode cX8_price 7 = .ok (.ifnonnull 5, 3) := by decide +kernel
theorem dX8_price_10 : decode cX8_price 10 = .ok (.iconst (-1), 1) := by decide +kernel
theorem dX8_price_11 : decode cX8_price 11 = .ok (.ireturn, 1) := by decide +kernel
theorem dX8_price_12 : decode cX8_price 12 = .ok (.iload_n 2, 1) := by decide +kernel
theorem dX8_price_13 : decode cX8_price 13 = .ok (.tableswitch 127 0 5 #[39, 55, 64, 83, 109, 118], 39) := by decide +kernel
theorem dX8_price_52 : decode cX8_price 52 = .ok (.aload_n 3, 1) := by decide +kernel
theorem dX8_price_53 : decode cX8_price 53 = .ok (.aload_n 0, 1) := by decide +kernel
theorem dX8_price_54 : decode cX8_price 54 = .ok (.getfield 38, 3) := by decide +kernel
theorem dX8_price_57 : decode cX8_price 57 = .ok (.aload_n 0, 1) := by decide +kernel
theorem dX8_price_58 : decode cX8_price 58 = .ok (.getfield 26, 3) := by decide +kernel
theorem dX8_price_61 : decode cX8_price 61 = .ok (.invokevirtual 127, 3) := by decide +kernel
theorem dX8_price_64 : decode cX8_price 64 = .ok (.invokevirtual 190, 3) := by decide +kernel
theorem dX8_price_67 : decode cX8_price 67 = .ok (.ireturn, 1) := by decide +kernel
theorem dX8_price_68 : decode cX8_price 68 = .ok (.aload_n 3, 1) := by decide +kernel
theorem dX8_price_69 : decode cX8_price 69 = .ok (.aload_n 0, 1) := by decide +kernel
theorem dX8_price_70 : decode cX8_price 70 = .ok (.getfield 38, 3) := by decide +kernel
theorem dX8_price_73 : decode cX8_price 73 = .ok (.invokevirtual 194, 3) := by decide +kernel
theorem dX8_price_76 : decode cX8_price 76 = .ok (.ireturn, 1) := by decide +kernel
theorem dX8_price_77 : decode cX8_price 77 = .ok (.aload_n 3, 1) := by decide +kernel
theorem dX8_price_78 : decode cX8_price 78 = .ok (.aload_n 0, 1) := by decide +kernel
theorem dX8_price_79 : decode cX8_price 79 = .ok (.getfield 26, 3) := by decide +kernel
theorem dX8_price_82 : decode cX8_price 82 = .ok (.invokevirtual 127, 3) := by decide +kernel
theorem dX8_price_85 : decode cX8_price 85 = .ok (.aload_n 0, 1) := by decide +kernel
theorem dX8_price_86 : decode cX8_price 86 = .ok (.getfield 26, 3) := by decide +kernel
theorem dX8_price_89 : decode cX8_price 89 = .ok (.invokevirtual 130, 3) := by decide +kernel
theorem dX8_price_92 : decode cX8_price 92 = .ok (.invokevirtual 198, 3) := by decide +kernel
theorem dX8_price_95 : decode cX8_price 95 = .ok (.ireturn, 1) := by decide +kernel
theorem dX8_price_96 : decode cX8_price 96 = .ok (.aload_n 3, 1) := by decide +kernel
theorem dX8_price_97 : decode cX8_price 97 = .ok (.aload_n 0, 1) := by decide +kernel
theorem dX8_price_98 : decode cX8_price 98 = .ok (.getfield 26, 3) := by decide +kernel
theorem dX8_price_101 : decode cX8_price 101 = .ok (.invokevirtual 127, 3) := by decide +kernel
theorem dX8_price_104 : decode cX8_price 104 = .ok (.aload_n 0, 1) := by decide +kernel
theorem dX8_price_105 : decode cX8_price 105 = .ok (.getfield 26, 3) := by decide +kernel
theorem dX8_price_108 : decode cX8_price 108 = .ok (.invokevirtual 130, 3) := by decide +kernel
theorem dX8_price_111 : decode cX8_price 111 = .ok (.aload_n 0, 1) := by decide +kernel
theorem dX8_price_112 : decode cX8_price 112 = .ok (.getfield 26, 3) := by decide +kernel
theorem dX8_price_115 : decode cX8_price 115 = .ok (.invokevirtual 124, 3) := by decide +kernel
theorem dX8_price_118 : decode cX8_price 118 = .ok (.invokevirtual 202, 3) := by decide +kernel
theorem dX8_price_121 : decode cX8_price 121 = .ok (.ireturn, 1) := by decide +kernel
theorem dX8_price_122 : decode cX8_price 122 = .ok (.aload_n 3, 1) := by decide +kernel
theorem dX8_price_123 : decode cX8_price 123 = .ok (.aload_n 0, 1) := by decide +kernel
theorem dX8_price_124 : decode cX8_price 124 = .ok (.getfield 38, 3) := by decide +kernel
theorem dX8_price_127 : decode cX8_price 127 = .ok (.invokevirtual 206, 3) := by decide +kernel
theorem dX8_price_130 : decode cX8_price 130 = .ok (.ireturn, 1) := by decide +kernel
theorem dX8_price_131 : decode cX8_price 131 = .ok (.aload_n 3, 1) := by decide +kernel
theorem dX8_price_132 : decode cX8_price 132 = .ok (.aload_n 0, 1) := by decide +kernel
theorem dX8_price_133 : decode cX8_price 133 = .ok (.getfield 38, 3) := by decide +kernel
theorem dX8_price_136 : decode cX8_price 136 = .ok (.invokevirtual 209, 3) := by decide +kernel
theorem dX8_price_139 : decode cX8_price 139 = .ok (.ireturn, 1) := by decide +kernel
theorem dX8_price_140 : decode cX8_price 140 = .ok (.iconst (-1), 1) := by decide +kernel
theorem dX8_price_141 : decode cX8_price 141 = .ok (.ireturn, 1) := by decide +kernel
theorem dX8_proof_0 : decode cX8_proof 0 = .ok (.aload_n 0, 1) := by decide +kernel
theorem dX8_proof_1 : decode cX8_proof 1 = .ok (.iconst 0, 1) := by decide +kernel
theorem dX8_proof_2 : decode cX8_proof 2 = .ok (.invokevirtual 182, 3) := by decide +kernel
theorem dX8_proof_5 : decode cX8_proof 5 = .ok (.astore_n 2, 1) := by decide +kernel
theorem dX8_proof_6 : decode cX8_proof 6 = .ok (.aload_n 2, 1) := by decide +kernel
theorem dX8_proof_7 : decode cX8_proof 7 = .ok (.ifnull 11, 3) := by decide +kernel
theorem dX8_proof_10 : decode cX8_proof 10 = .ok (.aload_n 2, 1) := by decide +kernel
theorem dX8_proof_11 : decode cX8_proof 11 = .ok (.iload_n 1, 1) := by decide +kernel
theorem dX8_proof_12 : decode cX8_proof 12 = .ok (.invokevirtual 212, 3) := by decide +kernel
theorem dX8_proof_15 : decode cX8_proof 15 = .ok (.ifCond .ne 5, 3) := by decide +kernel
theorem dX8_proof_18 : decode cX8_proof 18 = .ok (.iconst (-1), 1) := by decide +kernel
theorem dX8_proof_19 : decode cX8_proof 19 = .ok (.ireturn, 1) := by decide +kernel
theorem dX8_proof_20 : decode cX8_proof 20 = .ok (.aload_n 0, 1) := by decide +kernel
theorem dX8_proof_21 : decode cX8_proof 21 = .ok (.getfield 38, 3) := by decide +kernel
theorem dX8_proof_24 : decode cX8_proof 24 = .ok (.aload_n 2, 1) := by decide +kernel
theorem dX8_proof_25 : decode cX8_proof 25 = .ok (.iload_n 1, 1) := by decide +kernel
theorem dX8_proof_26 : decode cX8_proof 26 = .ok (.invokevirtual 187, 3) := by decide +kernel
theorem dX8_proof_29 : decode cX8_proof 29 = .ok (.aload_n 2, 1) := by decide +kernel
theorem dX8_proof_30 : decode cX8_proof 30 = .ok (.iload_n 1, 1) := by decide +kernel
theorem dX8_proof_31 : decode cX8_proof 31 = .ok (.iconst 1, 1) := by decide +kernel
theorem dX8_proof_32 : decode cX8_proof 32 = .ok (.isub, 1) := by decide +kernel
theorem dX8_proof_33 : decode cX8_proof 33 = .ok (.invokevirtual 187, 3) := by decide +kernel
theorem dX8_proof_36 : decode cX8_proof 36 = .ok (.invokevirtual 213, 3) := by decide +kernel
theorem dX8_proof_39 : decode cX8_proof 39 = .ok (.ireturn, 1) := by decide +kernel
theorem dX8_answer_0 : decode cX8_answer 0 = .ok (.aload_n 0, 1) := by decide +kernel
theorem dX8_answer_1 : decode cX8_answer 1 = .ok (.iload_n 1, 1) := by decide +kernel
theorem dX8_answer_2 : decode cX8_answer 2 = .ok (.invokevirtual 182, 3) := by decide +kernel
theorem dX8_answer_5 : decode cX8_answer 5 = .ok (.astore_n 3, 1) := by decide +kernel
theorem dX8_answer_6 : decode cX8_answer 6 = .ok (.aload_n 3, 1) := by decide +kernel
theorem dX8_answer_7 : decode cX8_answer 7 = .ok (.ifnull 14, 3) := by decide +kernel
theorem dX8_answer_10 : decode cX8_answer 10 = .ok (.aload_n 0, 1) := by decide +kernel
theorem dX8_answer_11 : decode cX8_answer 11 = .ok (.getfield 38, 3) := by decide +kernel
theorem dX8_answer_14 : decode cX8_answer 14 = .ok (.iload_n 2, 1) := by decide +kernel
theorem dX8_answer_15 : decode cX8_answer 15 = .ok (.invokevirtual 169, 3) := by decide +kernel
theorem dX8_answer_18 : decode cX8_answer 18 = .ok (.ifCond .ne 5, 3) := by decide +kernel
theorem dX8_answer_21 : decode cX8_answer 21 = .ok (.iconst (-1), 1) := by decide +kernel
theorem dX8_answer_22 : decode cX8_answer 22 = .ok (.ireturn, 1) := by decide +kernel
theorem dX8_answer_23 : decode cX8_answer 23 = .ok (.aload_n 3, 1) := by decide +kernel
theorem dX8_answer_24 : decode cX8_answer 24 = .ok (.aload_n 0, 1) := by decide +kernel
theorem dX8_answer_25 : decode cX8_answer 25 = .ok (.getfield 38, 3) := by decide +kernel
theorem dX8_answer_28 : decode cX8_answer 28 = .ok (.iload_n 2, 1) := by decide +kernel
theorem dX8_answer_29 : decode cX8_answer 29 = .ok (.invokevirtual 172, 3) := by decide +kernel
theorem dX8_answer_32 : decode cX8_answer 32 = .ok (.invokevirtual 216, 3) := by decide +kernel
theorem dX8_answer_35 : decode cX8_answer 35 = .ok (.ireturn, 1) := by decide +kernel
theorem dX8_rule_0 : decode cX8_rule 0 = .ok (.iload_n 1, 1) := by decide +kernel
theorem dX8_rule_1 : decode cX8_rule 1 = .ok (.ifCond .lt 19, 3) := by decide +kernel
theorem dX8_rule_4 : decode cX8_rule 4 = .ok (.iload_n 1, 1) := by decide +kernel
theorem dX8_rule_5 : decode cX8_rule 5 = .ok (.iconst 2, 1) := by decide +kernel
theorem dX8_rule_6 : decode cX8_rule 6 = .ok (.if_icmp .gt 14, 3) := by decide +kernel
theorem dX8_rule_9 : decode cX8_rule 9 = .ok (.iload_n 1, 1) := by decide +kernel
theorem dX8_rule_10 : decode cX8_rule 10 = .ok (.aload_n 0, 1) := by decide +kernel
theorem dX8_rule_11 : decode cX8_rule 11 = .ok (.getfield 63, 3) := by decide +kernel
theorem dX8_rule_14 : decode cX8_rule 14 = .ok (.invokevirtual 136, 3) := by decide +kernel
theorem dX8_rule_17 : decode cX8_rule 17 = .ok (.if_icmp .ne 5, 3) := by decide +kernel
theorem dX8_rule_20 : decode cX8_rule 20 = .ok (.iconst 0, 1) := by decide +kernel
theorem dX8_rule_21 : decode cX8_rule 21 = .ok (.ireturn, 1) := by decide +kernel
theorem dX8_rule_22 : decode cX8_rule 22 = .ok (.aload_n 0, 1) := by decide +kernel
theorem dX8_rule_23 : decode cX8_rule 23 = .ok (.getfield 63, 3) := by decide +kernel
theorem dX8_rule_26 : decode cX8_rule 26 = .ok (.iload_n 1, 1) := by decide +kernel
theorem dX8_rule_27 : decode cX8_rule 27 = .ok (.invokevirtual 219, 3) := by decide +kernel
theorem dX8_rule_30 : decode cX8_rule 30 = .ok (.iconst 1, 1) := by decide +kernel
theorem dX8_rule_31 : decode cX8_rule 31 = .ok (.ireturn, 1) := by decide +kernel
theorem dX8_go_0 : decode cX8_go 0 = .ok (.iload_n 1, 1) := by decide +kernel
theorem dX8_go_1 : decode cX8_go 1 = .ok (.iconst 1, 1) := by decide +kernel
theorem dX8_go_2 : decode cX8_go 2 = .ok (.if_icmp .lt 17, 3) := by decide +kernel
theorem dX8_go_5 : decode cX8_go 5 = .ok (.iload_n 1, 1) := by decide +kernel
theorem dX8_go_6 : decode cX8_go 6 = .ok (.sipush 300, 3) := by decide +kernel
theorem dX8_go_9 : decode cX8_go 9 = .ok (.if_icmp .gt 10, 3) := by decide +kernel
theorem dX8_go_12 : decode cX8_go 12 = .ok (.aload_n 0, 1) := by decide +kernel
theorem dX8_go_13 : decode cX8_go 13 = .ok (.invokevirtual 222, 3) := by decide +kernel
theorem dX8_go_16 : decode cX8_go 16 = .ok (.ifCond .eq 5, 3) := by decide +kernel
theorem dX8_go_19 : decode cX8_go 19 = .ok (.iconst (-1), 1) := by decide +kernel
theorem dX8_go_20 : decode cX8_go 20 = .ok (.ireturn, 1) := by decide +kernel
theorem dX8_go_21 : decode cX8_go 21 = .ok (.iconst 0, 1) := by decide +kernel
theorem dX8_go_22 : decode cX8_go 22 = .ok (.istore_n 2, 1) := by decide +kernel
theorem dX8_go_23 : decode cX8_go 23 = .ok (.iconst 0, 1) := by decide +kernel
theorem dX8_go_24 : decode cX8_go 24 = .ok (.istore_n 3, 1) := by decide +kernel
theorem dX8_go_25 : decode cX8_go 25 = .ok (.iload_n 3, 1) := by decide +kernel
theorem dX8_go_26 : decode cX8_go 26 = .ok (.iload_n 1, 1) := by decide +kernel
theorem dX8_go_27 : decode cX8_go 27 = .ok (.if_icmp .ge 40, 3) := by decide +kernel
theorem dX8_go_30 : decode cX8_go 30 = .ok (.aload_n 0, 1) := by decide +kernel
theorem dX8_go_31 : decode cX8_go 31 = .ok (.invokevirtual 222, 3) := by decide +kernel
theorem dX8_go_34 : decode cX8_go 34 = .ok (.ifCond .ne 33, 3) := by decide +kernel
theorem dX8_go_37 : decode cX8_go 37 = .ok (.aload_n 0, 1) := by decide +kernel
theorem dX8_go_38 : decode cX8_go 38 = .ok (.getfield 63, 3) := by decide +kernel
theorem dX8_go_41 : decode cX8_go 41 = .ok (.aload_n 0, 1) := by decide +kernel
theorem dX8_go_42 : decode cX8_go 42 = .ok (.getfield 38, 3) := by decide +kernel
theorem dX8_go_45 : decode cX8_go 45 = .ok (.aload_n 0, 1) := by decide +kernel
theorem dX8_go_46 : decode cX8_go 46 = .ok (.getfield 26, 3) := by decide +kernel
theorem dX8_go_49 : decode cX8_go 49 = .ok (.invokevirtual 127, 3) := by decide +kernel
theorem dX8_go_52 : decode cX8_go 52 = .ok (.invokevirtual 226, 3) := by decide +kernel
theorem dX8_go_55 : decode cX8_go 55 = .ok (.ifCond .eq 6, 3) := by decide +kernel
theorem dX8_go_58 : decode cX8_go 58 = .ok (.iinc 2 1, 3) := by decide +kernel
theorem dX8_go_61 : decode cX8_go 61 = .ok (.iinc 3 1, 3) := by decide +kernel
theorem dX8_go_64 : decode cX8_go 64 = .ok (.goto (-39), 3) := by decide +kernel
theorem dX8_go_67 : decode cX8_go 67 = .ok (.iload_n 2, 1) := by decide +kernel
theorem dX8_go_68 : decode cX8_go 68 = .ok (.ireturn, 1) := by decide +kernel
theorem dX8_ring_0 : decode cX8_ring 0 = .ok (.aload_n 0, 1) := by decide +kernel
theorem dX8_ring_1 : decode cX8_ring 1 = .ok (.getfield 26, 3) := by decide +kernel
theorem dX8_ring_4 : decode cX8_ring 4 = .ok (.iload_n 1, 1) := by decide +kernel
theorem dX8_ring_5 : decode cX8_ring 5 = .ok (.invokevirtual 139, 3) := by decide +kernel
theorem dX8_ring_8 : decode cX8_ring 8 = .ok (.ifCond .eq 22, 3) := by decide +kernel
theorem dX8_ring_11 : decode cX8_ring 11 = .ok (.aload_n 0, 1) := by decide +kernel
theorem dX8_ring_12 : decode cX8_ring 12 = .ok (.invokevirtual 222, 3) := by decide +kernel
theorem dX8_ring_15 : decode cX8_ring 15 = .ok (.ifCond .ne 15, 3) := by decide +kernel
theorem dX8_ring_18 : decode cX8_ring 18 = .ok (.aload_n 0, 1) := by decide +kernel
theorem dX8_ring_19 : decode cX8_ring 19 = .ok (.getfield 63, 3) := by decide +kernel
theorem dX8_ring_22 : decode cX8_ring 22 = .ok (.invokevirtual 230, 3) := by decide +kernel
theorem dX8_ring_25 : decode cX8_ring 25 = .ok (.bipush 100, 2) := by decide +kernel
theorem dX8_ring_27 : decode cX8_ring 27 = .ok (.if_icmp .lt 5, 3) := by decide +kernel
theorem dX8_ring_30 : decode cX8_ring 30 = .ok (.iconst (-1), 1) := by decide +kernel
theorem dX8_ring_31 : decode cX8_ring 31 = .ok (.ireturn, 1) := by decide +kernel
theorem dX8_ring_32 : decode cX8_ring 32 = .ok (.aload_n 0, 1) := by decide +kernel
theorem dX8_ring_33 : decode cX8_ring 33 = .ok (.getfield 63, 3) := by decide +kernel
theorem dX8_ring_36 : decode cX8_ring 36 = .ok (.invokevirtual 133, 3) := by decide +kernel
theorem dX8_ring_39 : decode cX8_ring 39 = .ok (.aload_n 0, 1) := by decide +kernel
theorem dX8_ring_40 : decode cX8_ring 40 = .ok (.getfield 26, 3) := by decide +kernel
theorem dX8_ring_43 : decode cX8_ring 43 = .ok (.iload_n 1, 1) := by decide +kernel
theorem dX8_ring_44 : decode cX8_ring 44 = .ok (.invokevirtual 147, 3) := by decide +kernel
theorem dX8_ring_47 : decode cX8_ring 47 = .ok (.iadd, 1) := by decide +kernel
theorem dX8_ring_48 : decode cX8_ring 48 = .ok (.aload_n 0, 1) := by decide +kernel
theorem dX8_ring_49 : decode cX8_ring 49 = .ok (.getfield 26, 3) := by decide +kernel
theorem dX8_ring_52 : decode cX8_ring 52 = .ok (.invokevirtual 124, 3) := by decide +kernel
theorem dX8_ring_55 : decode cX8_ring 55 = .ok (.invokestatic 233, 3) := by decide +kernel
theorem dX8_ring_58 : decode cX8_ring 58 = .ok (.istore_n 2, 1) := by decide +kernel
theorem dX8_ring_59 : decode cX8_ring 59 = .ok (.aload_n 0, 1) := by decide +kernel
theorem dX8_ring_60 : decode cX8_ring 60 = .ok (.getfield 63, 3) := by decide +kernel
theorem dX8_ring_63 : decode cX8_ring 63 = .ok (.iload_n 2, 1) := by decide +kernel
theorem dX8_ring_64 : decode cX8_ring 64 = .ok (.aload_n 0, 1) := by decide +kernel
theorem dX8_ring_65 : decode cX8_ring 65 = .ok (.getfield 26, 3) := by decide +kernel
theorem dX8_ring_68 : decode cX8_ring 68 = .ok (.iload_n 1, 1) := by decide +kernel
theorem dX8_ring_69 : decode cX8_ring 69 = .ok (.invokevirtual 150, 3) := by decide +kernel
theorem dX8_ring_72 : decode cX8_ring 72 = .ok (.invokevirtual 238, 3) := by decide +kernel
theorem dX8_ring_75 : decode cX8_ring 75 = .ok (.iload_n 2, 1) := by decide +kernel
theorem dX8_ring_76 : decode cX8_ring 76 = .ok (.ireturn, 1) := by decide +kernel
theorem dX8_now_0 : decode cX8_now 0 = .ok (.aload_n 0, 1) := by decide +kernel
theorem dX8_now_1 : decode cX8_now 1 = .ok (.getfield 63, 3) := by decide +kernel
theorem dX8_now_4 : decode cX8_now 4 = .ok (.invokevirtual 241, 3) := by decide +kernel
theorem dX8_now_7 : decode cX8_now 7 = .ok (.istore_n 1, 1) := by decide +kernel
theorem dX8_now_8 : decode cX8_now 8 = .ok (.iload_n 1, 1) := by decide +kernel
theorem dX8_now_9 : decode cX8_now 9 = .ok (.ifCond .ne 5, 3) := by decide +kernel
theorem dX8_now_12 : decode cX8_now 12 = .ok (.iconst (-1), 1) := by decide +kernel
theorem dX8_now_13 : decode cX8_now 13 = .ok (.ireturn, 1) := by decide +kernel
theorem dX8_now_14 : decode cX8_now 14 = .ok (.aload_n 0, 1) := by decide +kernel
theorem dX8_now_15 : decode cX8_now 15 = .ok (.getfield 63, 3) := by decide +kernel
theorem dX8_now_18 : decode cX8_now 18 = .ok (.invokevirtual 244, 3) := by decide +kernel
theorem dX8_now_21 : decode cX8_now 21 = .ok (.iload_n 1, 1) := by decide +kernel
theorem dX8_now_22 : decode cX8_now 22 = .ok (.ireturn, 1) := by decide +kernel
theorem dX8_hand_0 : decode cX8_hand 0 = .ok (.iload_n 1, 1) := by decide +kernel
theorem dX8_hand_1 : decode cX8_hand 1 = .ok (.tableswitch 163 0 8 #[51, 59, 67, 75, 90, 98, 106, 114, 144], 51) := by decide +kernel
theorem dX8_hand_52 : decode cX8_hand 52 = .ok (.aload_n 0, 1) := by decide +kernel
theorem dX8_hand_53 : decode cX8_hand 53 = .ok (.getfield 63, 3) := by decide +kernel
theorem dX8_hand_56 : decode cX8_hand 56 = .ok (.invokevirtual 247, 3) := by decide +kernel
theorem dX8_hand_59 : decode cX8_hand 59 = .ok (.ireturn, 1) := by decide +kernel
theorem dX8_hand_60 : decode cX8_hand 60 = .ok (.aload_n 0, 1) := by decide +kernel
theorem dX8_hand_61 : decode cX8_hand 61 = .ok (.getfield 63, 3) := by decide +kernel
theorem dX8_hand_64 : decode cX8_hand 64 = .ok (.invokevirtual 241, 3) := by decide +kernel
theorem dX8_hand_67 : decode cX8_hand 67 = .ok (.ireturn, 1) := by decide +kernel
theorem dX8_hand_68 : decode cX8_hand 68 = .ok (.aload_n 0, 1) := by decide +kernel
theorem dX8_hand_69 : decode cX8_hand 69 = .ok (.getfield 63, 3) := by decide +kernel
theorem dX8_hand_72 : decode cX8_hand 72 = .ok (.invokevirtual 250, 3) := by decide +kernel
theorem dX8_hand_75 : decode cX8_hand 75 = .ok (.ireturn, 1) := by decide +kernel
theorem dX8_hand_76 : decode cX8_hand 76 = .ok (.aload_n 0, 1) := by decide +kernel
theorem dX8_hand_77 : decode cX8_hand 77 = .ok (.getfield 63, 3) := by decide +kernel
theorem dX8_hand_80 : decode cX8_hand 80 = .ok (.aload_n 0, 1) := by decide +kernel
theorem dX8_hand_81 : decode cX8_hand 81 = .ok (.getfield 26, 3) := by decide +kernel
theorem dX8_hand_84 : decode cX8_hand 84 = .ok (.invokevirtual 127, 3) := by decide +kernel
theorem dX8_hand_87 : decode cX8_hand 87 = .ok (.invokevirtual 253, 3) := by decide +kernel
theorem dX8_hand_90 : decode cX8_hand 90 = .ok (.ireturn, 1) := by decide +kernel
theorem dX8_hand_91 : decode cX8_hand 91 = .ok (.aload_n 0, 1) := by decide +kernel
theorem dX8_hand_92 : decode cX8_hand 92 = .ok (.getfield 63, 3) := by decide +kernel
theorem dX8_hand_95 : decode cX8_hand 95 = .ok (.invokevirtual 256, 3) := by decide +kernel
theorem dX8_hand_98 : decode cX8_hand 98 = .ok (.ireturn, 1) := by decide +kernel
theorem dX8_hand_99 : decode cX8_hand 99 = .ok (.aload_n 0, 1) := by decide +kernel
theorem dX8_hand_100 : decode cX8_hand 100 = .ok (.getfield 63, 3) := by decide +kernel
theorem dX8_hand_103 : decode cX8_hand 103 = .ok (.invokevirtual 259, 3) := by decide +kernel
theorem dX8_hand_106 : decode cX8_hand 106 = .ok (.ireturn, 1) := by decide +kernel
theorem dX8_hand_107 : decode cX8_hand 107 = .ok (.aload_n 0, 1) := by decide +kernel
theorem dX8_hand_108 : decode cX8_hand 108 = .ok (.getfield 63, 3) := by decide +kernel
theorem dX8_hand_111 : decode cX8_hand 111 = .ok (.invokevirtual 262, 3) := by decide +kernel
theorem dX8_hand_114 : decode cX8_hand 114 = .ok (.ireturn, 1) := by decide +kernel
theorem dX8_hand_115 : decode cX8_hand 115 = .ok (.aload_n 0, 1) := by decide +kernel
theorem dX8_hand_116 : decode cX8_hand 116 = .ok (.getfield 63, 3) := by decide +kernel
theorem dX8_hand_119 : decode cX8_hand 119 = .ok (.aload_n 0, 1) := by decide +kernel
theorem dX8_hand_120 : decode cX8_hand 120 = .ok (.getfield 63, 3) := by decide +kernel
theorem dX8_hand_123 : decode cX8_hand 123 = .ok (.aload_n 0, 1) := by decide +kernel
theorem dX8_hand_124 : decode cX8_hand 124 = .ok (.getfield 56, 3) := by decide +kernel
theorem dX8_hand_127 : decode cX8_hand 127 = .ok (.aload_n 0, 1) := by decide +kernel
theorem dX8_hand_128 : decode cX8_hand 128 = .ok (.getfield 26, 3) := by decide +kernel
theorem dX8_hand_131 : decode cX8_hand 131 = .ok (.invokevirtual 265, 3) := by decide +kernel
theorem dX8_hand_134 : decode cX8_hand 134 = .ok (.aload_n 0, 1) := by decide +kernel
theorem dX8_hand_135 : decode cX8_hand 135 = .ok (.getfield 26, 3) := by decide +kernel
theorem dX8_hand_138 : decode cX8_hand 138 = .ok (.invokevirtual 127, 3) := by decide +kernel
theorem dX8_hand_141 : decode cX8_hand 141 = .ok (.invokevirtual 269, 3) := by decide +kernel
theorem dX8_hand_144 : decode cX8_hand 144 = .ok (.ireturn, 1) := by decide +kernel
theorem dX8_hand_145 : decode cX8_hand 145 = .ok (.aload_n 0, 1) := by decide +kernel
theorem dX8_hand_146 : decode cX8_hand 146 = .ok (.getfield 63, 3) := by decide +kernel
theorem dX8_hand_149 : decode cX8_hand 149 = .ok (.aload_n 0, 1) := by decide +kernel
theorem dX8_hand_150 : decode cX8_hand 150 = .ok (.getfield 56, 3) := by decide +kernel
theorem dX8_hand_153 : decode cX8_hand 153 = .ok (.aload_n 0, 1) := by decide +kernel
theorem dX8_hand_154 : decode cX8_hand 154 = .ok (.getfield 26, 3) := by decide +kernel
theorem dX8_hand_157 : decode cX8_hand 157 = .ok (.invokevirtual 265, 3) := by decide +kernel
theorem dX8_hand_160 : decode cX8_hand 160 = .ok (.invokevirtual 186, 3) := by decide +kernel
theorem dX8_hand_163 : decode cX8_hand 163 = .ok (.ireturn, 1) := by decide +kernel
theorem dX8_hand_164 : decode cX8_hand 164 = .ok (.iconst (-1), 1) := by decide +kernel
theorem dX8_hand_165 : decode cX8_hand 165 = .ok (.ireturn, 1) := by decide +kernel
theorem dX8_round_0 : decode cX8_round 0 = .ok (.aload_n 0, 1) := by decide +kernel
theorem dX8_round_1 : decode cX8_round 1 = .ok (.invokevirtual 273, 3) := by decide +kernel
theorem dX8_round_4 : decode cX8_round 4 = .ok (.astore_n 2, 1) := by decide +kernel
theorem dX8_round_5 : decode cX8_round 5 = .ok (.aload_n 2, 1) := by decide +kernel
theorem dX8_round_6 : decode cX8_round 6 = .ok (.invokevirtual 277, 3) := by decide +kernel
theorem dX8_round_9 : decode cX8_round 9 = .ok (.ifCond .ne 5, 3) := by decide +kernel
theorem dX8_round_12 : decode cX8_round 12 = .ok (.iconst (-1), 1) := by decide +kernel
theorem dX8_round_13 : decode cX8_round 13 = .ok (.ireturn, 1) := by decide +kernel
theorem dX8_round_14 : decode cX8_round 14 = .ok (.iload_n 1, 1) := by decide +kernel
theorem dX8_round_15 : decode cX8_round 15 = .ok (.tableswitch 49 0 3 #[29, 34, 39, 44], 29) := by decide +kernel
theorem dX8_round_44 : decode cX8_round 44 = .ok (.aload_n 2, 1) := by decide +kernel
theorem dX8_round_45 : decode cX8_round 45 = .ok (.invokevirtual 280, 3) := by decide +kernel
theorem dX8_round_48 : decode cX8_round 48 = .ok (.ireturn, 1) := by decide +kernel
theorem dX8_round_49 : decode cX8_round 49 = .ok (.aload_n 2, 1) := by decide +kernel
theorem dX8_round_50 : decode cX8_round 50 = .ok (.invokevirtual 283, 3) := by decide +kernel
theorem dX8_round_53 : decode cX8_round 53 = .ok (.ireturn, 1) := by decide +kernel
theorem dX8_round_54 : decode cX8_round 54 = .ok (.aload_n 2, 1) := by decide +kernel
theorem dX8_round_55 : decode cX8_round 55 = .ok (.invokevirtual 286, 3) := by decide +kernel
theorem dX8_round_58 : decode cX8_round 58 = .ok (.ireturn, 1) := by decide +kernel
theorem dX8_round_59 : decode cX8_round 59 = .ok (.aload_n 2, 1) := by decide +kernel
theorem dX8_round_60 : decode cX8_round 60 = .ok (.invokevirtual 287, 3) := by decide +kernel
theorem dX8_round_63 : decode cX8_round 63 = .ok (.ireturn, 1) := by decide +kernel
theorem dX8_round_64 : decode cX8_round 64 = .ok (.iconst (-1), 1) := by decide +kernel
theorem dX8_round_65 : decode cX8_round 65 = .ok (.ireturn, 1) := by decide +kernel
theorem dX8_roundAt_0 : decode cX8_roundAt 0 = .ok (.aload_n 0, 1) := by decide +kernel
theorem dX8_roundAt_1 : decode cX8_roundAt 1 = .ok (.invokevirtual 273, 3) := by decide +kernel
theorem dX8_roundAt_4 : decode cX8_roundAt 4 = .ok (.iload_n 1, 1) := by decide +kernel
theorem dX8_roundAt_5 : decode cX8_roundAt 5 = .ok (.invokevirtual 290, 3) := by decide +kernel
theorem dX8_roundAt_8 : decode cX8_roundAt 8 = .ok (.ireturn, 1) := by decide +kernel
theorem dX8_would_0 : decode cX8_would 0 = .ok (.aload_n 0, 1) := by decide +kernel
theorem dX8_would_1 : decode cX8_would 1 = .ok (.getfield 26, 3) := by decide +kernel
theorem dX8_would_4 : decode cX8_would 4 = .ok (.iload_n 1, 1) := by decide +kernel
theorem dX8_would_5 : decode cX8_would 5 = .ok (.invokevirtual 139, 3) := by decide +kernel
theorem dX8_would_8 : decode cX8_would 8 = .ok (.ifCond .eq 22, 3) := by decide +kernel
theorem dX8_would_11 : decode cX8_would 11 = .ok (.iload_n 2, 1) := by decide +kernel
theorem dX8_would_12 : decode cX8_would 12 = .ok (.ifCond .lt 18, 3) := by decide +kernel
theorem dX8_would_15 : decode cX8_would 15 = .ok (.iload_n 2, 1) := by decide +kernel
theorem dX8_would_16 : decode cX8_would 16 = .ok (.bipush 99, 2) := by decide +kernel
theorem dX8_would_18 : decode cX8_would 18 = .ok (.if_icmp .gt 12, 3) := by decide +kernel
theorem dX8_would_21 : decode cX8_would 21 = .ok (.iload_n 3, 1) := by decide +kernel
theorem dX8_would_22 : decode cX8_would 22 = .ok (.ifCond .lt 8, 3) := by decide +kernel
theorem dX8_would_25 : decode cX8_would 25 = .ok (.iload_n 3, 1) := by decide +kernel
theorem dX8_would_26 : decode cX8_would 26 = .ok (.iconst 3, 1) := by decide +kernel
theorem dX8_would_27 : decode cX8_would 27 = .ok (.if_icmp .le 5, 3) := by decide +kernel
theorem dX8_would_30 : decode cX8_would 30 = .ok (.iconst (-1), 1) := by decide +kernel
theorem dX8_would_31 : decode cX8_would 31 = .ok (.ireturn, 1) := by decide +kernel
theorem dX8_would_32 : decode cX8_would 32 = .ok (.aload_n 0, 1) := by decide +kernel
theorem dX8_would_33 : decode cX8_would 33 = .ok (.iload_n 1, 1) := by decide +kernel
theorem dX8_would_34 : decode cX8_would 34 = .ok (.iload_n 2, 1) := by decide +kernel
theorem dX8_would_35 : decode cX8_would 35 = .ok (.iload_n 3, 1) := by decide +kernel
theorem dX8_would_36 : decode cX8_would 36 = .ok (.invokevirtual 291, 3) := by decide +kernel
theorem dX8_would_39 : decode cX8_would 39 = .ok (.ireturn, 1) := by decide +kernel
theorem dX8_enough_0 : decode cX8_enough 0 = .ok (.aload_n 0, 1) := by decide +kernel
theorem dX8_enough_1 : decode cX8_enough 1 = .ok (.getfield 26, 3) := by decide +kernel
theorem dX8_enough_4 : decode cX8_enough 4 = .ok (.iload_n 1, 1) := by decide +kernel
theorem dX8_enough_5 : decode cX8_enough 5 = .ok (.invokevirtual 139, 3) := by decide +kernel
theorem dX8_enough_8 : decode cX8_enough 8 = .ok (.ifCond .ne 5, 3) := by decide +kernel
theorem dX8_enough_11 : decode cX8_enough 11 = .ok (.iconst (-1), 1) := by decide +kernel
theorem dX8_enough_12 : decode cX8_enough 12 = .ok (.ireturn, 1) := by decide +kernel
theorem dX8_enough_13 : decode cX8_enough 13 = .ok (.iconst 0, 1) := by decide +kernel
theorem dX8_enough_14 : decode cX8_enough 14 = .ok (.istore_n 3, 1) := by decide +kernel
theorem dX8_enough_15 : decode cX8_enough 15 = .ok (.bipush 100, 2) := by decide +kernel
theorem dX8_enough_17 : decode cX8_enough 17 = .ok (.istore 4, 2) := by decide +kernel
theorem dX8_enough_19 : decode cX8_enough 19 = .ok (.iconst 0, 1) := by decide +kernel
theorem dX8_enough_20 : decode cX8_enough 20 = .ok (.istore 5, 2) := by decide +kernel
theorem dX8_enough_22 : decode cX8_enough 22 = .ok (.iload 5, 2) := by decide +kernel
theorem dX8_enough_24 : decode cX8_enough 24 = .ok (.bipush 99, 2) := by decide +kernel
theorem dX8_enough_26 : decode cX8_enough 26 = .ok (.if_icmp .gt 47, 3) := by decide +kernel
theorem dX8_enough_29 : decode cX8_enough 29 = .ok (.iload_n 3, 1) := by decide +kernel
theorem dX8_enough_30 : decode cX8_enough 30 = .ok (.iload 4, 2) := by decide +kernel
theorem dX8_enough_32 : decode cX8_enough 32 = .ok (.if_icmp .ge 41, 3) := by decide +kernel
theorem dX8_enough_35 : decode cX8_enough 35 = .ok (.iload_n 3, 1) := by decide +kernel
theorem dX8_enough_36 : decode cX8_enough 36 = .ok (.iload 4, 2) := by decide +kernel
theorem dX8_enough_38 : decode cX8_enough 38 = .ok (.iadd, 1) := by decide +kernel
theorem dX8_enough_39 : decode cX8_enough 39 = .ok (.iconst 2, 1) := by decide +kernel
theorem dX8_enough_40 : decode cX8_enough 40 = .ok (.idiv, 1) := by decide +kernel
theorem dX8_enough_41 : decode cX8_enough 41 = .ok (.istore 6, 2) := by decide +kernel
theorem dX8_enough_43 : decode cX8_enough 43 = .ok (.aload_n 0, 1) := by decide +kernel
theorem dX8_enough_44 : decode cX8_enough 44 = .ok (.iload_n 1, 1) := by decide +kernel
theorem dX8_enough_45 : decode cX8_enough 45 = .ok (.iload 6, 2) := by decide +kernel
theorem dX8_enough_47 : decode cX8_enough 47 = .ok (.iconst 0, 1) := by decide +kernel
theorem dX8_enough_48 : decode cX8_enough 48 = .ok (.invokevirtual 291, 3) := by decide +kernel
theorem dX8_enough_51 : decode cX8_enough 51 = .ok (.iload_n 2, 1) := by decide +kernel
theorem dX8_enough_52 : decode cX8_enough 52 = .ok (.if_icmp .gt 10, 3) := by decide +kernel
theorem dX8_enough_55 : decode cX8_enough 55 = .ok (.iload 6, 2) := by decide +kernel
theorem dX8_enough_57 : decode cX8_enough 57 = .ok (.istore 4, 2) := by decide +kernel
theorem dX8_enough_59 : decode cX8_enough 59 = .ok (.goto 8, 3) := by decide +kernel
theorem dX8_enough_62 : decode cX8_enough 62 = .ok (.iload 6, 2) := by decide +kernel
theorem dX8_enough_64 : decode cX8_enough 64 = .ok (.iconst 1, 1) := by decide +kernel
theorem dX8_enough_65 : decode cX8_enough 65 = .ok (.iadd, 1) := by decide +kernel
theorem dX8_enough_66 : decode cX8_enough 66 = .ok (.istore_n 3, 1) := by decide +kernel
theorem dX8_enough_67 : decode cX8_enough 67 = .ok (.iinc 5 1, 3) := by decide +kernel
theorem dX8_enough_70 : decode cX8_enough 70 = .ok (.goto (-48), 3) := by decide +kernel
theorem dX8_enough_73 : decode cX8_enough 73 = .ok (.iload_n 3, 1) := by decide +kernel
theorem dX8_enough_74 : decode cX8_enough 74 = .ok (.bipush 99, 2) := by decide +kernel
theorem dX8_enough_76 : decode cX8_enough 76 = .ok (.if_icmp .le 7, 3) := by decide +kernel
theorem dX8_enough_79 : decode cX8_enough 79 = .ok (.iconst (-1), 1) := by decide +kernel
theorem dX8_enough_80 : decode cX8_enough 80 = .ok (.goto 4, 3) := by decide +kernel
theorem dX8_enough_83 : decode cX8_enough 83 = .ok (.iload_n 3, 1) := by decide +kernel
theorem dX8_enough_84 : decode cX8_enough 84 = .ok (.ireturn, 1) := by decide +kernel
theorem dX8_takeClasses_0 : decode cX8_takeClasses 0 = .ok (.aload_n 0, 1) := by decide +kernel
theorem dX8_takeClasses_1 : decode cX8_takeClasses 1 = .ok (.getfield 38, 3) := by decide +kernel
theorem dX8_takeClasses_4 : decode cX8_takeClasses 4 = .ok (.aload_n 0, 1) := by decide +kernel
theorem dX8_takeClasses_5 : decode cX8_takeClasses 5 = .ok (.getfield 26, 3) := by decide +kernel
theorem dX8_takeClasses_8 : decode cX8_takeClasses 8 = .ok (.invokevirtual 294, 3) := by decide +kernel
theorem dX8_takeClasses_11 : decode cX8_takeClasses 11 = .ok (.iconst 0, 1) := by decide +kernel
theorem dX8_takeClasses_12 : decode cX8_takeClasses 12 = .ok (.istore_n 1, 1) := by decide +kernel
theorem dX8_takeClasses_13 : decode cX8_takeClasses 13 = .ok (.iload_n 1, 1) := by decide +kernel
theorem dX8_takeClasses_14 : decode cX8_takeClasses 14 = .ok (.aload_n 0, 1) := by decide +kernel
theorem dX8_takeClasses_15 : decode cX8_takeClasses 15 = .ok (.getfield 49, 3) := by decide +kernel
theorem dX8_takeClasses_18 : decode cX8_takeClasses 18 = .ok (.arraylength, 1) := by decide +kernel
theorem dX8_takeClasses_19 : decode cX8_takeClasses 19 = .ok (.if_icmp .ge 16, 3) := by decide +kernel
theorem dX8_takeClasses_22 : decode cX8_takeClasses 22 = .ok (.aload_n 0, 1) := by decide +kernel
theorem dX8_takeClasses_23 : decode cX8_takeClasses 23 = .ok (.getfield 49, 3) := by decide +kernel
theorem dX8_takeClasses_26 : decode cX8_takeClasses 26 = .ok (.iload_n 1, 1) := by decide +kernel
theorem dX8_takeClasses_27 : decode cX8_takeClasses 27 = .ok (.iconst 0, 1) := by decide +kernel
theorem dX8_takeClasses_28 : decode cX8_takeClasses 28 = .ok (.bastore, 1) := by decide +kernel
theorem dX8_takeClasses_29 : decode cX8_takeClasses 29 = .ok (.iinc 1 1, 3) := by decide +kernel
theorem dX8_takeClasses_32 : decode cX8_takeClasses 32 = .ok (.goto (-19), 3) := by decide +kernel
theorem dX8_takeClasses_35 : decode cX8_takeClasses 35 = .ok (.aload_n 0, 1) := by decide +kernel
theorem dX8_takeClasses_36 : decode cX8_takeClasses 36 = .ok (.iconst 0, 1) := by decide +kernel
theorem dX8_takeClasses_37 : decode cX8_takeClasses 37 = .ok (.putfield 297, 3) := by decide +kernel
theorem dX8_takeClasses_40 : decode cX8_takeClasses 40 = .ok (.return_, 1) := by decide +kernel
theorem dX8_planOf_0 : decode cX8_planOf 0 = .ok (.iload_n 1, 1) := by decide +kernel
theorem dX8_planOf_1 : decode cX8_planOf 1 = .ok (.ifCond .lt 21, 3) := by decide +kernel
theorem dX8_planOf_4 : decode cX8_planOf 4 = .ok (.iload_n 1, 1) := by decide +kernel
theorem dX8_planOf_5 : decode cX8_planOf 5 = .ok (.aload_n 0, 1) := by decide +kernel
theorem dX8_planOf_6 : decode cX8_planOf 6 = .ok (.getfield 44, 3) := by decide +kernel
theorem dX8_planOf_9 : decode cX8_planOf 9 = .ok (.arraylength, 1) := by decide +kernel
theorem dX8_planOf_10 : decode cX8_planOf 10 = .ok (.if_icmp .ge 12, 3) := by decide +kernel
theorem dX8_planOf_13 : decode cX8_planOf 13 = .ok (.iload_n 1, 1) := by decide +kernel
theorem dX8_planOf_14 : decode cX8_planOf 14 = .ok (.aload_n 0, 1) := by decide +kernel
theorem dX8_planOf_15 : decode cX8_planOf 15 = .ok (.getfield 49, 3) := by decide +kernel
theorem dX8_planOf_18 : decode cX8_planOf 18 = .ok (.arraylength, 1) := by decide +kernel
theorem dX8_planOf_19 : decode cX8_planOf 19 = .ok (.if_icmp .lt 5, 3) := by decide +kernel
theorem dX8_planOf_22 : decode cX8_planOf 22 = .ok (.aconst_null, 1) := by decide +kernel
theorem dX8_planOf_23 : decode cX8_planOf 23 = .ok (.areturn, 1) := by decide +kernel
theorem dX8_planOf_24 : decode cX8_planOf 24 = .ok (.aload_n 0, 1) := by decide +kernel
theorem dX8_planOf_25 : decode cX8_planOf 25 = .ok (.getfield 44, 3) := by decide +kernel
theorem dX8_planOf_28 : decode cX8_planOf 28 = .ok (.iload_n 1, 1) := by decide +kernel
theorem dX8_planOf_29 : decode cX8_planOf 29 = .ok (.aaload, 1) := by decide +kernel
theorem dX8_planOf_30 : decode cX8_planOf 30 = .ok (.astore_n 2, 1) := by decide +kernel
theorem dX8_planOf_31 : decode cX8_planOf 31 = .ok (.aload_n 2, 1) := by decide +kernel
theorem dX8_planOf_32 : decode cX8_planOf 32 = .ok (.ifnull 36, 3) := by decide +kernel
theorem dX8_planOf_35 : decode cX8_planOf 35 = .ok (.aload_n 0, 1) := by decide +kernel
theorem dX8_planOf_36 : decode cX8_planOf 36 = .ok (.getfield 49, 3) := by decide +kernel
theorem dX8_planOf_39 : decode cX8_planOf 39 = .ok (.iload_n 1, 1) := by decide +kernel
theorem dX8_planOf_40 : decode cX8_planOf 40 = .ok (.baload, 1) := by decide +kernel
theorem dX8_planOf_41 : decode cX8_planOf 41 = .ok (.ifCond .ne 27, 3) := by decide +kernel
theorem dX8_planOf_44 : decode cX8_planOf 44 = .ok (.aload_n 0, 1) := by decide +kernel
theorem dX8_planOf_45 : decode cX8_planOf 45 = .ok (.getfield 56, 3) := by decide +kernel
theorem dX8_planOf_48 : decode cX8_planOf 48 = .ok (.iload_n 1, 1) := by decide +kernel
theorem dX8_planOf_49 : decode cX8_planOf 49 = .ok (.aload_n 0, 1) := by decide +kernel
theorem dX8_planOf_50 : decode cX8_planOf 50 = .ok (.getfield 38, 3) := by decide +kernel
theorem dX8_planOf_53 : decode cX8_planOf 53 = .ok (.aload_n 0, 1) := by decide +kernel
theorem dX8_planOf_54 : decode cX8_planOf 54 = .ok (.getfield 26, 3) := by decide +kernel
theorem dX8_planOf_57 : decode cX8_planOf 57 = .ok (.aload_n 2, 1) := by decide +kernel
theorem dX8_planOf_58 : decode cX8_planOf 58 = .ok (.invokevirtual 301, 3) := by decide +kernel
theorem dX8_planOf_61 : decode cX8_planOf 61 = .ok (.aload_n 0, 1) := by decide +kernel
theorem dX8_planOf_62 : decode cX8_planOf 62 = .ok (.getfield 49, 3) := by decide +kernel
theorem dX8_planOf_65 : decode cX8_planOf 65 = .ok (.iload_n 1, 1) := by decide +kernel
theorem dX8_planOf_66 : decode cX8_planOf 66 = .ok (.iconst 1, 1) := by decide +kernel
theorem dX8_planOf_67 : decode cX8_planOf 67 = .ok (.bastore, 1) := by decide +kernel
theorem dX8_planOf_68 : decode cX8_planOf 68 = .ok (.aload_n 2, 1) := by decide +kernel
theorem dX8_planOf_69 : decode cX8_planOf 69 = .ok (.areturn, 1) := by decide +kernel
theorem dX8_roundMade_0 : decode cX8_roundMade 0 = .ok (.aload_n 0, 1) := by decide +kernel
theorem dX8_roundMade_1 : decode cX8_roundMade 1 = .ok (.getfield 297, 3) := by decide +kernel
theorem dX8_roundMade_4 : decode cX8_roundMade 4 = .ok (.ifCond .ne 19, 3) := by decide +kernel
theorem dX8_roundMade_7 : decode cX8_roundMade 7 = .ok (.aload_n 0, 1) := by decide +kernel
theorem dX8_roundMade_8 : decode cX8_roundMade 8 = .ok (.getfield 70, 3) := by decide +kernel
theorem dX8_roundMade_11 : decode cX8_roundMade 11 = .ok (.aload_n 0, 1) := by decide +kernel
theorem dX8_roundMade_12 : decode cX8_roundMade 12 = .ok (.getfield 26, 3) := by decide +kernel
theorem dX8_roundMade_15 : decode cX8_roundMade 15 = .ok (.invokevirtual 305, 3) := by decide +kernel
theorem dX8_roundMade_18 : decode cX8_roundMade 18 = .ok (.aload_n 0, 1) := by decide +kernel
theorem dX8_roundMade_19 : decode cX8_roundMade 19 = .ok (.iconst 1, 1) := by decide +kernel
theorem dX8_roundMade_20 : decode cX8_roundMade 20 = .ok (.putfield 297, 3) := by decide +kernel
theorem dX8_roundMade_23 : decode cX8_roundMade 23 = .ok (.aload_n 0, 1) := by decide +kernel
theorem dX8_roundMade_24 : decode cX8_roundMade 24 = .ok (.getfield 70, 3) := by decide +kernel
theorem dX8_roundMade_27 : decode cX8_roundMade 27 = .ok (.areturn, 1) := by decide +kernel
theorem dX8_supposed_0 : decode cX8_supposed 0 = .ok (.aload_n 0, 1) := by decide +kernel
theorem dX8_supposed_1 : decode cX8_supposed 1 = .ok (.getfield 26, 3) := by decide +kernel
theorem dX8_supposed_4 : decode cX8_supposed 4 = .ok (.iload_n 1, 1) := by decide +kernel
theorem dX8_supposed_5 : decode cX8_supposed 5 = .ok (.invokevirtual 153, 3) := by decide +kernel
theorem dX8_supposed_8 : decode cX8_supposed 8 = .ok (.istore 4, 2) := by decide +kernel
theorem dX8_supposed_10 : decode cX8_supposed 10 = .ok (.aload_n 0, 1) := by decide +kernel
theorem dX8_supposed_11 : decode cX8_supposed 11 = .ok (.getfield 26, 3) := by decide +kernel
theorem dX8_supposed_14 : decode cX8_supposed 14 = .ok (.iload_n 1, 1) := by decide +kernel
theorem dX8_supposed_15 : decode cX8_supposed 15 = .ok (.iload_n 2, 1) := by decide +kernel
theorem dX8_supposed_16 : decode cX8_supposed 16 = .ok (.invokevirtual 165, 3) := by decide +kernel
theorem dX8_supposed_19 : decode cX8_supposed 19 = .ok (.iload_n 3, 1) := by decide +kernel
theorem dX8_supposed_20 : decode cX8_supposed 20 = .ok (.iconst 3, 1) := by decide +kernel
theorem dX8_supposed_21 : decode cX8_supposed 21 = .ok (.if_icmp .ne 17, 3) := by decide +kernel
theorem dX8_supposed_24 : decode cX8_supposed 24 = .ok (.aload_n 0, 1) := by decide +kernel
theorem dX8_supposed_25 : decode cX8_supposed 25 = .ok (.getfield 81, 3) := by decide +kernel
theorem dX8_supposed_28 : decode cX8_supposed 28 = .ok (.aload_n 0, 1) := by decide +kernel
theorem dX8_supposed_29 : decode cX8_supposed 29 = .ok (.getfield 26, 3) := by decide +kernel
theorem dX8_supposed_32 : decode cX8_supposed 32 = .ok (.invokevirtual 305, 3) := by decide +kernel
theorem dX8_supposed_35 : decode cX8_supposed 35 = .ok (.goto 34, 3) := by decide +kernel
theorem dX8_supposed_38 : decode cX8_supposed 38 = .ok (.aload_n 0, 1) := by decide +kernel
theorem dX8_supposed_39 : decode cX8_supposed 39 = .ok (.getfield 74, 3) := by decide +kernel
theorem dX8_supposed_42 : decode cX8_supposed 42 = .ok (.aload_n 0, 1) := by decide +kernel
theorem dX8_supposed_43 : decode cX8_supposed 43 = .ok (.getfield 26, 3) := by decide +kernel
theorem dX8_supposed_46 : decode cX8_supposed 46 = .ok (.invokevirtual 294, 3) := by decide +kernel
theorem dX8_supposed_49 : decode cX8_supposed 49 = .ok (.aload_n 0, 1) := by decide +kernel
theorem dX8_supposed_50 : decode cX8_supposed 50 = .ok (.getfield 56, 3) := by decide +kernel
theorem dX8_supposed_53 : decode cX8_supposed 53 = .ok (.iload_n 3, 1) := by decide +kernel
theorem dX8_supposed_54 : decode cX8_supposed 54 = .ok (.aload_n 0, 1) := by decide +kernel
theorem dX8_supposed_55 : decode cX8_supposed 55 = .ok (.getfield 74, 3) := by decide +kernel
theorem dX8_supposed_58 : decode cX8_supposed 58 = .ok (.aload_n 0, 1) := by decide +kernel
theorem dX8_supposed_59 : decode cX8_supposed 59 = .ok (.getfield 26, 3) := by decide +kernel
theorem dX8_supposed_62 : decode cX8_supposed 62 = .ok (.aload_n 0, 1) := by decide +kernel
theorem dX8_supposed_63 : decode cX8_supposed 63 = .ok (.getfield 77, 3) := by decide +kernel
theorem dX8_supposed_66 : decode cX8_supposed 66 = .ok (.invokevirtual 301, 3) := by decide +kernel
theorem dX8_supposed_69 : decode cX8_supposed 69 = .ok (.aload_n 0, 1) := by decide +kernel
theorem dX8_supposed_70 : decode cX8_supposed 70 = .ok (.getfield 26, 3) := by decide +kernel
theorem dX8_supposed_73 : decode cX8_supposed 73 = .ok (.iload_n 1, 1) := by decide +kernel
theorem dX8_supposed_74 : decode cX8_supposed 74 = .ok (.iload 4, 2) := by decide +kernel
theorem dX8_supposed_76 : decode cX8_supposed 76 = .ok (.invokevirtual 165, 3) := by decide +kernel
theorem dX8_supposed_79 : decode cX8_supposed 79 = .ok (.iload_n 3, 1) := by decide +kernel
theorem dX8_supposed_80 : decode cX8_supposed 80 = .ok (.tableswitch 77 0 2 #[28, 36, 55], 28) := by decide +kernel
theorem dX8_supposed_108 : decode cX8_supposed 108 = .ok (.aload_n 0, 1) := by decide +kernel
theorem dX8_supposed_109 : decode cX8_supposed 109 = .ok (.getfield 77, 3) := by decide +kernel
theorem dX8_supposed_112 : decode cX8_supposed 112 = .ok (.invokevirtual 186, 3) := by decide +kernel
theorem dX8_supposed_115 : decode cX8_supposed 115 = .ok (.ireturn, 1) := by decide +kernel
theorem dX8_supposed_116 : decode cX8_supposed 116 = .ok (.aload_n 0, 1) := by decide +kernel
theorem dX8_supposed_117 : decode cX8_supposed 117 = .ok (.getfield 77, 3) := by decide +kernel
theorem dX8_supposed_120 : decode cX8_supposed 120 = .ok (.aload_n 0, 1) := by decide +kernel
theorem dX8_supposed_121 : decode cX8_supposed 121 = .ok (.getfield 74, 3) := by decide +kernel
theorem dX8_supposed_124 : decode cX8_supposed 124 = .ok (.aload_n 0, 1) := by decide +kernel
theorem dX8_supposed_125 : decode cX8_supposed 125 = .ok (.getfield 26, 3) := by decide +kernel
theorem dX8_supposed_128 : decode cX8_supposed 128 = .ok (.invokevirtual 127, 3) := by decide +kernel
theorem dX8_supposed_131 : decode cX8_supposed 131 = .ok (.invokevirtual 190, 3) := by decide +kernel
theorem dX8_supposed_134 : decode cX8_supposed 134 = .ok (.ireturn, 1) := by decide +kernel
theorem dX8_supposed_135 : decode cX8_supposed 135 = .ok (.aload_n 0, 1) := by decide +kernel
theorem dX8_supposed_136 : decode cX8_supposed 136 = .ok (.getfield 77, 3) := by decide +kernel
theorem dX8_supposed_139 : decode cX8_supposed 139 = .ok (.aload_n 0, 1) := by decide +kernel
theorem dX8_supposed_140 : decode cX8_supposed 140 = .ok (.getfield 26, 3) := by decide +kernel
theorem dX8_supposed_143 : decode cX8_supposed 143 = .ok (.invokevirtual 127, 3) := by decide +kernel
theorem dX8_supposed_146 : decode cX8_supposed 146 = .ok (.aload_n 0, 1) := by decide +kernel
theorem dX8_supposed_147 : decode cX8_supposed 147 = .ok (.getfield 26, 3) := by decide +kernel
theorem dX8_supposed_150 : decode cX8_supposed 150 = .ok (.invokevirtual 130, 3) := by decide +kernel
theorem dX8_supposed_153 : decode cX8_supposed 153 = .ok (.invokevirtual 198, 3) := by decide +kernel
theorem dX8_supposed_156 : decode cX8_supposed 156 = .ok (.ireturn, 1) := by decide +kernel
theorem dX8_supposed_157 : decode cX8_supposed 157 = .ok (.aload_n 0, 1) := by decide +kernel
theorem dX8_supposed_158 : decode cX8_supposed 158 = .ok (.getfield 81, 3) := by decide +kernel
theorem dX8_supposed_161 : decode cX8_supposed 161 = .ok (.invokevirtual 277, 3) := by decide +kernel
theorem dX8_supposed_164 : decode cX8_supposed 164 = .ok (.ifCond .eq 13, 3) := by decide +kernel
theorem dX8_supposed_167 : decode cX8_supposed 167 = .ok (.aload_n 0, 1) := by decide +kernel
theorem dX8_supposed_168 : decode cX8_supposed 168 = .ok (.getfield 81, 3) := by decide +kernel
theorem dX8_supposed_171 : decode cX8_supposed 171 = .ok (.invokevirtual 286, 3) := by decide +kernel
theorem dX8_supposed_174 : decode cX8_supposed 174 = .ok (.goto 4, 3) := by decide +kernel
theorem dX8_supposed_177 : decode cX8_supposed 177 = .ok (.iconst (-1), 1) := by decide +kernel
theorem dX8_supposed_178 : decode cX8_supposed 178 = .ok (.ireturn, 1) := by decide +kernel
theorem dX8_handEnded_0 : decode cX8_handEnded 0 = .ok (.aload_n 0, 1) := by decide +kernel
theorem dX8_handEnded_1 : decode cX8_handEnded 1 = .ok (.getfield 63, 3) := by decide +kernel
theorem dX8_handEnded_4 : decode cX8_handEnded 4 = .ok (.invokevirtual 133, 3) := by decide +kernel
theorem dX8_handEnded_7 : decode cX8_handEnded 7 = .ok (.aload_n 0, 1) := by decide +kernel
theorem dX8_handEnded_8 : decode cX8_handEnded 8 = .ok (.getfield 26, 3) := by decide +kernel
theorem dX8_handEnded_11 : decode cX8_handEnded 11 = .ok (.invokevirtual 124, 3) := by decide +kernel
theorem dX8_handEnded_14 : decode cX8_handEnded 14 = .ok (.if_icmp .le 7, 3) := by decide +kernel
theorem dX8_handEnded_17 : decode cX8_handEnded 17 = .ok (.iconst 1, 1) := by decide +kernel
theorem dX8_handEnded_18 : decode cX8_handEnded 18 = .ok (.goto 4, 3) := by decide +kernel
theorem dX8_handEnded_21 : decode cX8_handEnded 21 = .ok (.iconst 0, 1) := by decide +kernel
theorem dX8_handEnded_22 : decode cX8_handEnded 22 = .ok (.ireturn, 1) := by decide +kernel
