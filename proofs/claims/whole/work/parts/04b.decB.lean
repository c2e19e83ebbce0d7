theorem dX9_init_0 : decode cX9_init 0 = .ok (.aload_n 0, 1) := by decide +kernel
theorem dX9_init_1 : decode cX9_init 1 = .ok (.invokespecial 1, 3) := by decide +kernel
theorem dX9_init_4 : decode cX9_init 4 = .ok (.aload_n 0, 1) := by decide +kernel
theorem dX9_init_5 : decode cX9_init 5 = .ok (.sipush 202, 3) := by decide +kernel
theorem dX9_init_8 : decode cX9_init 8 = .ok (.newarray .int, 2) := by decide +kernel
theorem dX9_init_10 : decode cX9_init 10 = .ok (.putfield 7, 3) := by decide +kernel
theorem dX9_init_13 : decode cX9_init 13 = .ok (.aload_n 0, 1) := by decide +kernel
theorem dX9_init_14 : decode cX9_init 14 = .ok (.sipush 600, 3) := by decide +kernel
theorem dX9_init_17 : decode cX9_init 17 = .ok (.newarray .int, 2) := by decide +kernel
theorem dX9_init_19 : decode cX9_init 19 = .ok (.putfield 13, 3) := by decide +kernel
theorem dX9_init_22 : decode cX9_init 22 = .ok (.aload_n 0, 1) := by decide +kernel
theorem dX9_init_23 : decode cX9_init 23 = .ok (.bipush 16, 2) := by decide +kernel
theorem dX9_init_25 : decode cX9_init 25 = .ok (.newarray .long, 2) := by decide +kernel
theorem dX9_init_27 : decode cX9_init 27 = .ok (.putfield 16, 3) := by decide +kernel
theorem dX9_init_30 : decode cX9_init 30 = .ok (.aload_n 0, 1) := by decide +kernel
theorem dX9_init_31 : decode cX9_init 31 = .ok (.iconst (-1), 1) := by decide +kernel
theorem dX9_init_32 : decode cX9_init 32 = .ok (.putfield 20, 3) := by decide +kernel
theorem dX9_init_35 : decode cX9_init 35 = .ok (.aload_n 0, 1) := by decide +kernel
theorem dX9_init_36 : decode cX9_init 36 = .ok (.sipush 300, 3) := by decide +kernel
theorem dX9_init_39 : decode cX9_init 39 = .ok (.newarray .int, 2) := by decide +kernel
theorem dX9_init_41 : decode cX9_init 41 = .ok (.putfield 24, 3) := by decide +kernel
theorem dX9_init_44 : decode cX9_init 44 = .ok (.aload_n 0, 1) := by decide +kernel
theorem dX9_init_45 : decode cX9_init 45 = .ok (.sipush 300, 3) := by decide +kernel
theorem dX9_init_48 : decode cX9_init 48 = .ok (.newarray .int, 2) := by decide +kernel
theorem dX9_init_50 : decode cX9_init 50 = .ok (.putfield 27, 3) := by decide +kernel
theorem dX9_init_53 : decode cX9_init 53 = .ok (.aload_n 0, 1) := by decide +kernel
theorem dX9_init_54 : decode cX9_init 54 = .ok (.sipush 300, 3) := by decide +kernel
theorem dX9_init_57 : decode cX9_init 57 = .ok (.newarray .int, 2) := by decide +kernel
theorem dX9_init_59 : decode cX9_init 59 = .ok (.putfield 30, 3) := by decide +kernel
theorem dX9_init_62 : decode cX9_init 62 = .ok (.aload_n 0, 1) := by decide +kernel
theorem dX9_init_63 : decode cX9_init 63 = .ok (.sipush 300, 3) := by decide +kernel
theorem dX9_init_66 : decode cX9_init 66 = .ok (.newarray .int, 2) := by decide +kernel
theorem dX9_init_68 : decode cX9_init 68 = .ok (.putfield 33, 3) := by decide +kernel
theorem dX9_init_71 : decode cX9_init 71 = .ok (.aload_n 0, 1) := by decide +kernel
theorem dX9_init_72 : decode cX9_init 72 = .ok (.sipush 302, 3) := by decide +kernel
theorem dX9_init_75 : decode cX9_init 75 = .ok (.newarray .int, 2) := by decide +kernel
theorem dX9_init_77 : decode cX9_init 77 = .ok (.putfield 36, 3) := by decide +kernel
theorem dX9_init_80 : decode cX9_init 80 = .ok (.aload_n 0, 1) := by decide +kernel
theorem dX9_init_81 : decode cX9_init 81 = .ok (.sipush 302, 3) := by decide +kernel
theorem dX9_init_84 : decode cX9_init 84 = .ok (.newarray .long, 2) := by decide +kernel
theorem dX9_init_86 : decode cX9_init 86 = .ok (.putfield 39, 3) := by decide +kernel
theorem dX9_init_89 : decode cX9_init 89 = .ok (.aload_n 0, 1) := by decide +kernel
theorem dX9_init_90 : decode cX9_init 90 = .ok (.sipush 302, 3) := by decide +kernel
theorem dX9_init_93 : decode cX9_init 93 = .ok (.newarray .int, 2) := by decide +kernel
theorem dX9_init_95 : decode cX9_init 95 = .ok (.putfield 42, 3) := by decide +kernel
theorem dX9_init_98 : decode cX9_init 98 = .ok (.aload_n 0, 1) := by decide +kernel
theorem dX9_init_99 : decode cX9_init 99 = .ok (.sipush 302, 3) := by decide +kernel
theorem dX9_init_102 : decode cX9_init 102 = .ok (.newarray .int, 2) := by decide +kernel
theorem dX9_init_104 : decode cX9_init 104 = .ok (.putfield 45, 3) := by decide +kernel
theorem dX9_init_107 : decode cX9_init 107 = .ok (.aload_n 0, 1) := by decide +kernel
theorem dX9_init_108 : decode cX9_init 108 = .ok (.sipush 300, 3) := by decide +kernel
theorem dX9_init_111 : decode cX9_init 111 = .ok (.newarray .int, 2) := by decide +kernel
theorem dX9_init_113 : decode cX9_init 113 = .ok (.putfield 48, 3) := by decide +kernel
theorem dX9_init_116 : decode cX9_init 116 = .ok (.aload_n 0, 1) := by decide +kernel
theorem dX9_init_117 : decode cX9_init 117 = .ok (.sipush 300, 3) := by decide +kernel
theorem dX9_init_120 : decode cX9_init 120 = .ok (.newarray .int, 2) := by decide +kernel
theorem dX9_init_122 : decode cX9_init 122 = .ok (.putfield 51, 3) := by decide +kernel
theorem dX9_init_125 : decode cX9_init 125 = .ok (.aload_n 0, 1) := by decide +kernel
theorem dX9_init_126 : decode cX9_init 126 = .ok (.sipush 300, 3) := by decide +kernel
theorem dX9_init_129 : decode cX9_init 129 = .ok (.newarray .int, 2) := by decide +kernel
theorem dX9_init_131 : decode cX9_init 131 = .ok (.putfield 54, 3) := by decide +kernel
theorem dX9_init_134 : decode cX9_init 134 = .ok (.aload_n 0, 1) := by decide +kernel
theorem dX9_init_135 : decode cX9_init 135 = .ok (.sipush 300, 3) := by decide +kernel
theorem dX9_init_138 : decode cX9_init 138 = .ok (.newarray .int, 2) := by decide +kernel
theorem dX9_init_140 : decode cX9_init 140 = .ok (.putfield 57, 3) := by decide +kernel
theorem dX9_init_143 : decode cX9_init 143 = .ok (.aload_n 0, 1) := by decide +kernel
theorem dX9_init_144 : decode cX9_init 144 = .ok (.sipush 400, 3) := by decide +kernel
theorem dX9_init_147 : decode cX9_init 147 = .ok (.newarray .int, 2) := by decide +kernel
theorem dX9_init_149 : decode cX9_init 149 = .ok (.putfield 60, 3) := by decide +kernel
theorem dX9_init_152 : decode cX9_init 152 = .ok (.aload_n 0, 1) := by decide +kernel
theorem dX9_init_153 : decode cX9_init 153 = .ok (.sipush 400, 3) := by decide +kernel
theorem dX9_init_156 : decode cX9_init 156 = .ok (.newarray .int, 2) := by decide +kernel
theorem dX9_init_158 : decode cX9_init 158 = .ok (.putfield 63, 3) := by decide +kernel
theorem dX9_init_161 : decode cX9_init 161 = .ok (.aload_n 0, 1) := by decide +kernel
theorem dX9_init_162 : decode cX9_init 162 = .ok (.iconst 0, 1) := by decide +kernel
theorem dX9_init_163 : decode cX9_init 163 = .ok (.invokevirtual 66, 3) := by decide +kernel
theorem dX9_init_166 : decode cX9_init 166 = .ok (.aload_n 0, 1) := by decide +kernel
theorem dX9_init_167 : decode cX9_init 167 = .ok (.invokevirtual 70, 3) := by decide +kernel
theorem dX9_init_170 : decode cX9_init 170 = .ok (.return_, 1) := by decide +kernel
theorem dX9_firsts_0 : decode cX9_firsts 0 = .ok (.iconst 0, 1) := by decide +kernel
theorem dX9_firsts_1 : decode cX9_firsts 1 = .ok (.istore_n 2, 1) := by decide +kernel
theorem dX9_firsts_2 : decode cX9_firsts 2 = .ok (.iload_n 2, 1) := by decide +kernel
theorem dX9_firsts_3 : decode cX9_firsts 3 = .ok (.bipush 101, 2) := by decide +kernel
theorem dX9_firsts_5 : decode cX9_firsts 5 = .ok (.if_icmp .ge 18, 3) := by decide +kernel
theorem dX9_firsts_8 : decode cX9_firsts 8 = .ok (.aload_n 0, 1) := by decide +kernel
theorem dX9_firsts_9 : decode cX9_firsts 9 = .ok (.getfield 7, 3) := by decide +kernel
theorem dX9_firsts_12 : decode cX9_firsts 12 = .ok (.iload_n 1, 1) := by decide +kernel
theorem dX9_firsts_13 : decode cX9_firsts 13 = .ok (.iload_n 2, 1) := by decide +kernel
theorem dX9_firsts_14 : decode cX9_firsts 14 = .ok (.iadd, 1) := by decide +kernel
theorem dX9_firsts_15 : decode cX9_firsts 15 = .ok (.iconst 0, 1) := by decide +kernel
theorem dX9_firsts_16 : decode cX9_firsts 16 = .ok (.iastore, 1) := by decide +kernel
theorem dX9_firsts_17 : decode cX9_firsts 17 = .ok (.iinc 2 1, 3) := by decide +kernel
theorem dX9_firsts_20 : decode cX9_firsts 20 = .ok (.goto (-18), 3) := by decide +kernel
theorem dX9_firsts_23 : decode cX9_firsts 23 = .ok (.aload_n 0, 1) := by decide +kernel
theorem dX9_firsts_24 : decode cX9_firsts 24 = .ok (.getfield 7, 3) := by decide +kernel
theorem dX9_firsts_27 : decode cX9_firsts 27 = .ok (.iload_n 1, 1) := by decide +kernel
theorem dX9_firsts_28 : decode cX9_firsts 28 = .ok (.bipush 98, 2) := by decide +kernel
theorem dX9_firsts_30 : decode cX9_firsts 30 = .ok (.iadd, 1) := by decide +kernel
theorem dX9_firsts_31 : decode cX9_firsts 31 = .ok (.bipush 60, 2) := by decide +kernel
theorem dX9_firsts_33 : decode cX9_firsts 33 = .ok (.iastore, 1) := by decide +kernel
theorem dX9_firsts_34 : decode cX9_firsts 34 = .ok (.aload_n 0, 1) := by decide +kernel
theorem dX9_firsts_35 : decode cX9_firsts 35 = .ok (.getfield 7, 3) := by decide +kernel
theorem dX9_firsts_38 : decode cX9_firsts 38 = .ok (.iload_n 1, 1) := by decide +kernel
theorem dX9_firsts_39 : decode cX9_firsts 39 = .ok (.bipush 99, 2) := by decide +kernel
theorem dX9_firsts_41 : decode cX9_firsts 41 = .ok (.iadd, 1) := by decide +kernel
theorem dX9_firsts_42 : decode cX9_firsts 42 = .ok (.bipush 10, 2) := by decide +kernel
theorem dX9_firsts_44 : decode cX9_firsts 44 = .ok (.iastore, 1) := by decide +kernel
theorem dX9_firsts_45 : decode cX9_firsts 45 = .ok (.aload_n 0, 1) := by decide +kernel
theorem dX9_firsts_46 : decode cX9_firsts 46 = .ok (.getfield 7, 3) := by decide +kernel
theorem dX9_firsts_49 : decode cX9_firsts 49 = .ok (.iload_n 1, 1) := by decide +kernel
theorem dX9_firsts_50 : decode cX9_firsts 50 = .ok (.bipush 100, 2) := by decide +kernel
theorem dX9_firsts_52 : decode cX9_firsts 52 = .ok (.iadd, 1) := by decide +kernel
theorem dX9_firsts_53 : decode cX9_firsts 53 = .ok (.iconst 1, 1) := by decide +kernel
theorem dX9_firsts_54 : decode cX9_firsts 54 = .ok (.iastore, 1) := by decide +kernel
theorem dX9_firsts_55 : decode cX9_firsts 55 = .ok (.return_, 1) := by decide +kernel
theorem dX9_isIn_0 : decode cX9_isIn 0 = .ok (.iload_n 0, 1) := by decide +kernel
theorem dX9_isIn_1 : decode cX9_isIn 1 = .ok (.iload_n 1, 1) := by decide +kernel
theorem dX9_isIn_2 : decode cX9_isIn 2 = .ok (.if_icmp .lt 12, 3) := by decide +kernel
theorem dX9_isIn_5 : decode cX9_isIn 5 = .ok (.iload_n 0, 1) := by decide +kernel
theorem dX9_isIn_6 : decode cX9_isIn 6 = .ok (.iload_n 2, 1) := by decide +kernel
theorem dX9_isIn_7 : decode cX9_isIn 7 = .ok (.if_icmp .gt 7, 3) := by decide +kernel
theorem dX9_isIn_10 : decode cX9_isIn 10 = .ok (.iconst 1, 1) := by decide +kernel
theorem dX9_isIn_11 : decode cX9_isIn 11 = .ok (.goto 4, 3) := by decide +kernel
theorem dX9_isIn_14 : decode cX9_isIn 14 = .ok (.iconst 0, 1) := by decide +kernel
theorem dX9_isIn_15 : decode cX9_isIn 15 = .ok (.ireturn, 1) := by decide +kernel
theorem dX9_kinds_0 : decode cX9_kinds 0 = .ok (.aload_n 0, 1) := by decide +kernel
theorem dX9_kinds_1 : decode cX9_kinds 1 = .ok (.getfield 7, 3) := by decide +kernel
theorem dX9_kinds_4 : decode cX9_kinds 4 = .ok (.bipush 96, 2) := by decide +kernel
theorem dX9_kinds_6 : decode cX9_kinds 6 = .ok (.iaload, 1) := by decide +kernel
theorem dX9_kinds_7 : decode cX9_kinds 7 = .ok (.ireturn, 1) := by decide +kernel
theorem dX9_timers_0 : decode cX9_timers 0 = .ok (.aload_n 0, 1) := by decide +kernel
theorem dX9_timers_1 : decode cX9_timers 1 = .ok (.getfield 7, 3) := by decide +kernel
theorem dX9_timers_4 : decode cX9_timers 4 = .ok (.bipush 97, 2) := by decide +kernel
theorem dX9_timers_6 : decode cX9_timers 6 = .ok (.iaload, 1) := by decide +kernel
theorem dX9_timers_7 : decode cX9_timers 7 = .ok (.ireturn, 1) := by decide +kernel
theorem dX9_isKind_0 : decode cX9_isKind 0 = .ok (.iload_n 1, 1) := by decide +kernel
theorem dX9_isKind_1 : decode cX9_isKind 1 = .ok (.iconst 0, 1) := by decide +kernel
theorem dX9_isKind_2 : decode cX9_isKind 2 = .ok (.aload_n 0, 1) := by decide +kernel
theorem dX9_isKind_3 : decode cX9_isKind 3 = .ok (.invokevirtual 73, 3) := by decide +kernel
theorem dX9_isKind_6 : decode cX9_isKind 6 = .ok (.iconst 1, 1) := by decide +kernel
theorem dX9_isKind_7 : decode cX9_isKind 7 = .ok (.isub, 1) := by decide +kernel
theorem dX9_isKind_8 : decode cX9_isKind 8 = .ok (.invokestatic 77, 3) := by decide +kernel
theorem dX9_isKind_11 : decode cX9_isKind 11 = .ok (.ireturn, 1) := by decide +kernel
theorem dX9_nearest_0 : decode cX9_nearest 0 = .ok (.iload_n 1, 1) := by decide +kernel
theorem dX9_nearest_1 : decode cX9_nearest 1 = .ok (.istore_n 3, 1) := by decide +kernel
theorem dX9_nearest_2 : decode cX9_nearest 2 = .ok (.iload_n 3, 1) := by decide +kernel
theorem dX9_nearest_3 : decode cX9_nearest 3 = .ok (.iconst (-1), 1) := by decide +kernel
theorem dX9_nearest_4 : decode cX9_nearest 4 = .ok (.if_icmp .eq 27, 3) := by decide +kernel
theorem dX9_nearest_7 : decode cX9_nearest 7 = .ok (.aload_n 0, 1) := by decide +kernel
theorem dX9_nearest_8 : decode cX9_nearest 8 = .ok (.getfield 7, 3) := by decide +kernel
theorem dX9_nearest_11 : decode cX9_nearest 11 = .ok (.iload_n 2, 1) := by decide +kernel
theorem dX9_nearest_12 : decode cX9_nearest 12 = .ok (.iload_n 3, 1) := by decide +kernel
theorem dX9_nearest_13 : decode cX9_nearest 13 = .ok (.iadd, 1) := by decide +kernel
theorem dX9_nearest_14 : decode cX9_nearest 14 = .ok (.iaload, 1) := by decide +kernel
theorem dX9_nearest_15 : decode cX9_nearest 15 = .ok (.iconst (-1), 1) := by decide +kernel
theorem dX9_nearest_16 : decode cX9_nearest 16 = .ok (.if_icmp .ne 15, 3) := by decide +kernel
theorem dX9_nearest_19 : decode cX9_nearest 19 = .ok (.aload_n 0, 1) := by decide +kernel
theorem dX9_nearest_20 : decode cX9_nearest 20 = .ok (.getfield 7, 3) := by decide +kernel
theorem dX9_nearest_23 : decode cX9_nearest 23 = .ok (.iconst 0, 1) := by decide +kernel
theorem dX9_nearest_24 : decode cX9_nearest 24 = .ok (.iload_n 3, 1) := by decide +kernel
theorem dX9_nearest_25 : decode cX9_nearest 25 = .ok (.iadd, 1) := by decide +kernel
theorem dX9_nearest_26 : decode cX9_nearest 26 = .ok (.iaload, 1) := by decide +kernel
theorem dX9_nearest_27 : decode cX9_nearest 27 = .ok (.istore_n 3, 1) := by decide +kernel
theorem dX9_nearest_28 : decode cX9_nearest 28 = .ok (.goto (-26), 3) := by decide +kernel
theorem dX9_nearest_31 : decode cX9_nearest 31 = .ok (.iload_n 3, 1) := by decide +kernel
theorem dX9_nearest_32 : decode cX9_nearest 32 = .ok (.ireturn, 1) := by decide +kernel
theorem dX9_slack_0 : decode cX9_slack 0 = .ok (.aload_n 0, 1) := by decide +kernel
theorem dX9_slack_1 : decode cX9_slack 1 = .ok (.iload_n 1, 1) := by decide +kernel
theorem dX9_slack_2 : decode cX9_slack 2 = .ok (.bipush 8, 2) := by decide +kernel
theorem dX9_slack_4 : decode cX9_slack 4 = .ok (.invokevirtual 81, 3) := by decide +kernel
theorem dX9_slack_7 : decode cX9_slack 7 = .ok (.iconst (-1), 1) := by decide +kernel
theorem dX9_slack_8 : decode cX9_slack 8 = .ok (.if_icmp .ne 7, 3) := by decide +kernel
theorem dX9_slack_11 : decode cX9_slack 11 = .ok (.iconst 0, 1) := by decide +kernel
theorem dX9_slack_12 : decode cX9_slack 12 = .ok (.goto 18, 3) := by decide +kernel
theorem dX9_slack_15 : decode cX9_slack 15 = .ok (.aload_n 0, 1) := by decide +kernel
theorem dX9_slack_16 : decode cX9_slack 16 = .ok (.getfield 7, 3) := by decide +kernel
theorem dX9_slack_19 : decode cX9_slack 19 = .ok (.bipush 8, 2) := by decide +kernel
theorem dX9_slack_21 : decode cX9_slack 21 = .ok (.aload_n 0, 1) := by decide +kernel
theorem dX9_slack_22 : decode cX9_slack 22 = .ok (.iload_n 1, 1) := by decide +kernel
theorem dX9_slack_23 : decode cX9_slack 23 = .ok (.bipush 8, 2) := by decide +kernel
theorem dX9_slack_25 : decode cX9_slack 25 = .ok (.invokevirtual 81, 3) := by decide +kernel
theorem dX9_slack_28 : decode cX9_slack 28 = .ok (.iadd, 1) := by decide +kernel
theorem dX9_slack_29 : decode cX9_slack 29 = .ok (.iaload, 1) := by decide +kernel
theorem dX9_slack_30 : decode cX9_slack 30 = .ok (.ireturn, 1) := by decide +kernel
theorem dX9_weight_0 : decode cX9_weight 0 = .ok (.aload_n 0, 1) := by decide +kernel
theorem dX9_weight_1 : decode cX9_weight 1 = .ok (.iload_n 1, 1) := by decide +kernel
theorem dX9_weight_2 : decode cX9_weight 2 = .ok (.bipush 16, 2) := by decide +kernel
theorem dX9_weight_4 : decode cX9_weight 4 = .ok (.invokevirtual 81, 3) := by decide +kernel
theorem dX9_weight_7 : decode cX9_weight 7 = .ok (.iconst (-1), 1) := by decide +kernel
theorem dX9_weight_8 : decode cX9_weight 8 = .ok (.if_icmp .ne 7, 3) := by decide +kernel
theorem dX9_weight_11 : decode cX9_weight 11 = .ok (.iconst 1, 1) := by decide +kernel
theorem dX9_weight_12 : decode cX9_weight 12 = .ok (.goto 18, 3) := by decide +kernel
theorem dX9_weight_15 : decode cX9_weight 15 = .ok (.aload_n 0, 1) := by decide +kernel
theorem dX9_weight_16 : decode cX9_weight 16 = .ok (.getfield 7, 3) := by decide +kernel
theorem dX9_weight_19 : decode cX9_weight 19 = .ok (.bipush 16, 2) := by decide +kernel
theorem dX9_weight_21 : decode cX9_weight 21 = .ok (.aload_n 0, 1) := by decide +kernel
theorem dX9_weight_22 : decode cX9_weight 22 = .ok (.iload_n 1, 1) := by decide +kernel
theorem dX9_weight_23 : decode cX9_weight 23 = .ok (.bipush 16, 2) := by decide +kernel
theorem dX9_weight_25 : decode cX9_weight 25 = .ok (.invokevirtual 81, 3) := by decide +kernel
theorem dX9_weight_28 : decode cX9_weight 28 = .ok (.iadd, 1) := by decide +kernel
theorem dX9_weight_29 : decode cX9_weight 29 = .ok (.iaload, 1) := by decide +kernel
theorem dX9_weight_30 : decode cX9_weight 30 = .ok (.ireturn, 1) := by decide +kernel
theorem dX9_calls_0 : decode cX9_calls 0 = .ok (.aload_n 0, 1) := by decide +kernel
theorem dX9_calls_1 : decode cX9_calls 1 = .ok (.getfield 7, 3) := by decide +kernel
theorem dX9_calls_4 : decode cX9_calls 4 = .ok (.bipush 48, 2) := by decide +kernel
theorem dX9_calls_6 : decode cX9_calls 6 = .ok (.iload_n 1, 1) := by decide +kernel
theorem dX9_calls_7 : decode cX9_calls 7 = .ok (.iadd, 1) := by decide +kernel
theorem dX9_calls_8 : decode cX9_calls 8 = .ok (.iaload, 1) := by decide +kernel
theorem dX9_calls_9 : decode cX9_calls 9 = .ok (.istore_n 3, 1) := by decide +kernel
theorem dX9_calls_10 : decode cX9_calls 10 = .ok (.iload_n 2, 1) := by decide +kernel
theorem dX9_calls_11 : decode cX9_calls 11 = .ok (.aload_n 0, 1) := by decide +kernel
theorem dX9_calls_12 : decode cX9_calls 12 = .ok (.getfield 7, 3) := by decide +kernel
theorem dX9_calls_15 : decode cX9_calls 15 = .ok (.bipush 72, 2) := by decide +kernel
theorem dX9_calls_17 : decode cX9_calls 17 = .ok (.iload_n 1, 1) := by decide +kernel
theorem dX9_calls_18 : decode cX9_calls 18 = .ok (.iadd, 1) := by decide +kernel
theorem dX9_calls_19 : decode cX9_calls 19 = .ok (.iaload, 1) := by decide +kernel
theorem dX9_calls_20 : decode cX9_calls 20 = .ok (.isub, 1) := by decide +kernel
theorem dX9_calls_21 : decode cX9_calls 21 = .ok (.istore 4, 2) := by decide +kernel
theorem dX9_calls_23 : decode cX9_calls 23 = .ok (.iload_n 3, 1) := by decide +kernel
theorem dX9_calls_24 : decode cX9_calls 24 = .ok (.ifCond .ne 16, 3) := by decide +kernel
theorem dX9_calls_27 : decode cX9_calls 27 = .ok (.iload 4, 2) := by decide +kernel
theorem dX9_calls_29 : decode cX9_calls 29 = .ok (.ifCond .ne 7, 3) := by decide +kernel
theorem dX9_calls_32 : decode cX9_calls 32 = .ok (.iconst 1, 1) := by decide +kernel
theorem dX9_calls_33 : decode cX9_calls 33 = .ok (.goto 24, 3) := by decide +kernel
theorem dX9_calls_36 : decode cX9_calls 36 = .ok (.iconst 0, 1) := by decide +kernel
theorem dX9_calls_37 : decode cX9_calls 37 = .ok (.goto 20, 3) := by decide +kernel
theorem dX9_calls_40 : decode cX9_calls 40 = .ok (.iload 4, 2) := by decide +kernel
theorem dX9_calls_42 : decode cX9_calls 42 = .ok (.ifCond .lt 14, 3) := by decide +kernel
theorem dX9_calls_45 : decode cX9_calls 45 = .ok (.iload 4, 2) := by decide +kernel
theorem dX9_calls_47 : decode cX9_calls 47 = .ok (.iload_n 3, 1) := by decide +kernel
theorem dX9_calls_48 : decode cX9_calls 48 = .ok (.irem, 1) := by decide +kernel
theorem dX9_calls_49 : decode cX9_calls 49 = .ok (.ifCond .ne 7, 3) := by decide +kernel
theorem dX9_calls_52 : decode cX9_calls 52 = .ok (.iconst 1, 1) := by decide +kernel
theorem dX9_calls_53 : decode cX9_calls 53 = .ok (.goto 4, 3) := by decide +kernel
theorem dX9_calls_56 : decode cX9_calls 56 = .ok (.iconst 0, 1) := by decide +kernel
theorem dX9_calls_57 : decode cX9_calls 57 = .ok (.ireturn, 1) := by decide +kernel
theorem dX9_cut_0 : decode cX9_cut 0 = .ok (.iload_n 1, 1) := by decide +kernel
theorem dX9_cut_1 : decode cX9_cut 1 = .ok (.aload_n 0, 1) := by decide +kernel
theorem dX9_cut_2 : decode cX9_cut 2 = .ok (.getfield 7, 3) := by decide +kernel
theorem dX9_cut_5 : decode cX9_cut 5 = .ok (.bipush 98, 2) := by decide +kernel
theorem dX9_cut_7 : decode cX9_cut 7 = .ok (.iaload, 1) := by decide +kernel
theorem dX9_cut_8 : decode cX9_cut 8 = .ok (.if_icmp .ge 7, 3) := by decide +kernel
theorem dX9_cut_11 : decode cX9_cut 11 = .ok (.iload_n 1, 1) := by decide +kernel
theorem dX9_cut_12 : decode cX9_cut 12 = .ok (.goto 10, 3) := by decide +kernel
theorem dX9_cut_15 : decode cX9_cut 15 = .ok (.aload_n 0, 1) := by decide +kernel
theorem dX9_cut_16 : decode cX9_cut 16 = .ok (.getfield 7, 3) := by decide +kernel
theorem dX9_cut_19 : decode cX9_cut 19 = .ok (.bipush 98, 2) := by decide +kernel
theorem dX9_cut_21 : decode cX9_cut 21 = .ok (.iaload, 1) := by decide +kernel
theorem dX9_cut_22 : decode cX9_cut 22 = .ok (.ireturn, 1) := by decide +kernel
theorem dX9_laysCalls_0 : decode cX9_laysCalls 0 = .ok (.aload_n 0, 1) := by decide +kernel
theorem dX9_laysCalls_1 : decode cX9_laysCalls 1 = .ok (.iconst 0, 1) := by decide +kernel
theorem dX9_laysCalls_2 : decode cX9_laysCalls 2 = .ok (.putfield 85, 3) := by decide +kernel
theorem dX9_laysCalls_5 : decode cX9_laysCalls 5 = .ok (.iconst 0, 1) := by decide +kernel
theorem dX9_laysCalls_6 : decode cX9_laysCalls 6 = .ok (.istore_n 1, 1) := by decide +kernel
theorem dX9_laysCalls_7 : decode cX9_laysCalls 7 = .ok (.iload_n 1, 1) := by decide +kernel
theorem dX9_laysCalls_8 : decode cX9_laysCalls 8 = .ok (.aload_n 0, 1) := by decide +kernel
theorem dX9_laysCalls_9 : decode cX9_laysCalls 9 = .ok (.getfield 7, 3) := by decide +kernel
theorem dX9_laysCalls_12 : decode cX9_laysCalls 12 = .ok (.bipush 98, 2) := by decide +kernel
theorem dX9_laysCalls_14 : decode cX9_laysCalls 14 = .ok (.iaload, 1) := by decide +kernel
theorem dX9_laysCalls_15 : decode cX9_laysCalls 15 = .ok (.if_icmp .gt 117, 3) := by decide +kernel
theorem dX9_laysCalls_18 : decode cX9_laysCalls 18 = .ok (.iconst 0, 1) := by decide +kernel
theorem dX9_laysCalls_19 : decode cX9_laysCalls 19 = .ok (.istore_n 2, 1) := by decide +kernel
theorem dX9_laysCalls_20 : decode cX9_laysCalls 20 = .ok (.iload_n 2, 1) := by decide +kernel
theorem dX9_laysCalls_21 : decode cX9_laysCalls 21 = .ok (.aload_n 0, 1) := by decide +kernel
theorem dX9_laysCalls_22 : decode cX9_laysCalls 22 = .ok (.invokevirtual 88, 3) := by decide +kernel
theorem dX9_laysCalls_25 : decode cX9_laysCalls 25 = .ok (.if_icmp .ge 101, 3) := by decide +kernel
theorem dX9_laysCalls_28 : decode cX9_laysCalls 28 = .ok (.aload_n 0, 1) := by decide +kernel
theorem dX9_laysCalls_29 : decode cX9_laysCalls 29 = .ok (.iload_n 2, 1) := by decide +kernel
theorem dX9_laysCalls_30 : decode cX9_laysCalls 30 = .ok (.iload_n 1, 1) := by decide +kernel
theorem dX9_laysCalls_31 : decode cX9_laysCalls 31 = .ok (.invokevirtual 91, 3) := by decide +kernel
theorem dX9_laysCalls_34 : decode cX9_laysCalls 34 = .ok (.ifCond .ne 6, 3) := by decide +kernel
theorem dX9_laysCalls_37 : decode cX9_laysCalls 37 = .ok (.goto 83, 3) := by decide +kernel
theorem dX9_laysCalls_40 : decode cX9_laysCalls 40 = .ok (.aload_n 0, 1) := by decide +kernel
theorem dX9_laysCalls_41 : decode cX9_laysCalls 41 = .ok (.getfield 24, 3) := by decide +kernel
theorem dX9_laysCalls_44 : decode cX9_laysCalls 44 = .ok (.aload_n 0, 1) := by decide +kernel
theorem dX9_laysCalls_45 : decode cX9_laysCalls 45 = .ok (.getfield 85, 3) := by decide +kernel
theorem dX9_laysCalls_48 : decode cX9_laysCalls 48 = .ok (.iload_n 1, 1) := by decide +kernel
theorem dX9_laysCalls_49 : decode cX9_laysCalls 49 = .ok (.iastore, 1) := by decide +kernel
theorem dX9_laysCalls_50 : decode cX9_laysCalls 50 = .ok (.aload_n 0, 1) := by decide +kernel
theorem dX9_laysCalls_51 : decode cX9_laysCalls 51 = .ok (.getfield 27, 3) := by decide +kernel
theorem dX9_laysCalls_54 : decode cX9_laysCalls 54 = .ok (.aload_n 0, 1) := by decide +kernel
theorem dX9_laysCalls_55 : decode cX9_laysCalls 55 = .ok (.getfield 85, 3) := by decide +kernel
theorem dX9_laysCalls_58 : decode cX9_laysCalls 58 = .ok (.aload_n 0, 1) := by decide +kernel
theorem dX9_laysCalls_59 : decode cX9_laysCalls 59 = .ok (.iload_n 1, 1) := by decide +kernel
theorem dX9_laysCalls_60 : decode cX9_laysCalls 60 = .ok (.aload_n 0, 1) := by decide +kernel
theorem dX9_laysCalls_61 : decode cX9_laysCalls 61 = .ok (.aload_n 0, 1) := by decide +kernel
theorem dX9_laysCalls_62 : decode cX9_laysCalls 62 = .ok (.getfield 7, 3) := by decide +kernel
theorem dX9_laysCalls_65 : decode cX9_laysCalls 65 = .ok (.bipush 24, 2) := by decide +kernel
theorem dX9_laysCalls_67 : decode cX9_laysCalls 67 = .ok (.iload_n 2, 1) := by decide +kernel
theorem dX9_laysCalls_68 : decode cX9_laysCalls 68 = .ok (.iadd, 1) := by decide +kernel
theorem dX9_laysCalls_69 : decode cX9_laysCalls 69 = .ok (.iaload, 1) := by decide +kernel
theorem dX9_laysCalls_70 : decode cX9_laysCalls 70 = .ok (.invokevirtual 95, 3) := by decide +kernel
theorem dX9_laysCalls_73 : decode cX9_laysCalls 73 = .ok (.iadd, 1) := by decide +kernel
theorem dX9_laysCalls_74 : decode cX9_laysCalls 74 = .ok (.invokevirtual 99, 3) := by decide +kernel
theorem dX9_laysCalls_77 : decode cX9_laysCalls 77 = .ok (.iastore, 1) := by decide +kernel
theorem dX9_laysCalls_78 : decode cX9_laysCalls 78 = .ok (.aload_n 0, 1) := by decide +kernel
theorem dX9_laysCalls_79 : decode cX9_laysCalls 79 = .ok (.getfield 30, 3) := by decide +kernel
theorem dX9_laysCalls_82 : decode cX9_laysCalls 82 = .ok (.aload_n 0, 1) := by decide +kernel
theorem dX9_laysCalls_83 : decode cX9_laysCalls 83 = .ok (.getfield 85, 3) := by decide +kernel
theorem dX9_laysCalls_86 : decode cX9_laysCalls 86 = .ok (.aload_n 0, 1) := by decide +kernel
theorem dX9_laysCalls_87 : decode cX9_laysCalls 87 = .ok (.aload_n 0, 1) := by decide +kernel
theorem dX9_laysCalls_88 : decode cX9_laysCalls 88 = .ok (.getfield 7, 3) := by decide +kernel
theorem dX9_laysCalls_91 : decode cX9_laysCalls 91 = .ok (.bipush 24, 2) := by decide +kernel
theorem dX9_laysCalls_93 : decode cX9_laysCalls 93 = .ok (.iload_n 2, 1) := by decide +kernel
theorem dX9_laysCalls_94 : decode cX9_laysCalls 94 = .ok (.iadd, 1) := by decide +kernel
theorem dX9_laysCalls_95 : decode cX9_laysCalls 95 = .ok (.iaload, 1) := by decide +kernel
theorem dX9_laysCalls_96 : decode cX9_laysCalls 96 = .ok (.invokevirtual 102, 3) := by decide +kernel
theorem dX9_laysCalls_99 : decode cX9_laysCalls 99 = .ok (.iastore, 1) := by decide +kernel
theorem dX9_laysCalls_100 : decode cX9_laysCalls 100 = .ok (.aload_n 0, 1) := by decide +kernel
theorem dX9_laysCalls_101 : decode cX9_laysCalls 101 = .ok (.getfield 33, 3) := by decide +kernel
theorem dX9_laysCalls_104 : decode cX9_laysCalls 104 = .ok (.aload_n 0, 1) := by decide +kernel
theorem dX9_laysCalls_105 : decode cX9_laysCalls 105 = .ok (.getfield 85, 3) := by decide +kernel
theorem dX9_laysCalls_108 : decode cX9_laysCalls 108 = .ok (.iload_n 2, 1) := by decide +kernel
theorem dX9_laysCalls_109 : decode cX9_laysCalls 109 = .ok (.iastore, 1) := by decide +kernel
theorem dX9_laysCalls_110 : decode cX9_laysCalls 110 = .ok (.aload_n 0, 1) := by decide +kernel
theorem dX9_laysCalls_111 : decode cX9_laysCalls 111 = .ok (.dup, 1) := by decide +kernel
theorem dX9_laysCalls_112 : decode cX9_laysCalls 112 = .ok (.getfield 85, 3) := by decide +kernel
theorem dX9_laysCalls_115 : decode cX9_laysCalls 115 = .ok (.iconst 1, 1) := by decide +kernel
theorem dX9_laysCalls_116 : decode cX9_laysCalls 116 = .ok (.iadd, 1) := by decide +kernel
theorem dX9_laysCalls_117 : decode cX9_laysCalls 117 = .ok (.putfield 85, 3) := by decide +kernel
theorem dX9_laysCalls_120 : decode cX9_laysCalls 120 = .ok (.iinc 2 1, 3) := by decide +kernel
theorem dX9_laysCalls_123 : decode cX9_laysCalls 123 = .ok (.goto (-103), 3) := by decide +kernel
theorem dX9_laysCalls_126 : decode cX9_laysCalls 126 = .ok (.iinc 1 1, 3) := by decide +kernel
theorem dX9_laysCalls_129 : decode cX9_laysCalls 129 = .ok (.goto (-122), 3) := by decide +kernel
theorem dX9_laysCalls_132 : decode cX9_laysCalls 132 = .ok (.return_, 1) := by decide +kernel
theorem dX9_wakesAt_0 : decode cX9_wakesAt 0 = .ok (.aload_n 0, 1) := by decide +kernel
theorem dX9_wakesAt_1 : decode cX9_wakesAt 1 = .ok (.getfield 36, 3) := by decide +kernel
theorem dX9_wakesAt_4 : decode cX9_wakesAt 4 = .ok (.aload_n 0, 1) := by decide +kernel
theorem dX9_wakesAt_5 : decode cX9_wakesAt 5 = .ok (.getfield 105, 3) := by decide +kernel
theorem dX9_wakesAt_8 : decode cX9_wakesAt 8 = .ok (.iload_n 1, 1) := by decide +kernel
theorem dX9_wakesAt_9 : decode cX9_wakesAt 9 = .ok (.iastore, 1) := by decide +kernel
theorem dX9_wakesAt_10 : decode cX9_wakesAt 10 = .ok (.aload_n 0, 1) := by decide +kernel
theorem dX9_wakesAt_11 : decode cX9_wakesAt 11 = .ok (.dup, 1) := by decide +kernel
theorem dX9_wakesAt_12 : decode cX9_wakesAt 12 = .ok (.getfield 105, 3) := by decide +kernel
theorem dX9_wakesAt_15 : decode cX9_wakesAt 15 = .ok (.iconst 1, 1) := by decide +kernel
theorem dX9_wakesAt_16 : decode cX9_wakesAt 16 = .ok (.iadd, 1) := by decide +kernel
theorem dX9_wakesAt_17 : decode cX9_wakesAt 17 = .ok (.putfield 105, 3) := by decide +kernel
theorem dX9_wakesAt_20 : decode cX9_wakesAt 20 = .ok (.return_, 1) := by decide +kernel
theorem dX9_leastBehind_0 : decode cX9_leastBehind 0 = .ok (.iconst (-1), 1) := by decide +kernel
theorem dX9_leastBehind_1 : decode cX9_leastBehind 1 = .ok (.istore_n 2, 1) := by decide +kernel
theorem dX9_leastBehind_2 : decode cX9_leastBehind 2 = .ok (.iconst 0, 1) := by decide +kernel
theorem dX9_leastBehind_3 : decode cX9_leastBehind 3 = .ok (.istore_n 3, 1) := by decide +kernel
theorem dX9_leastBehind_4 : decode cX9_leastBehind 4 = .ok (.iload_n 3, 1) := by decide +kernel
theorem dX9_leastBehind_5 : decode cX9_leastBehind 5 = .ok (.aload_n 0, 1) := by decide +kernel
theorem dX9_leastBehind_6 : decode cX9_leastBehind 6 = .ok (.getfield 85, 3) := by decide +kernel
theorem dX9_leastBehind_9 : decode cX9_leastBehind 9 = .ok (.if_icmp .ge 41, 3) := by decide +kernel
theorem dX9_leastBehind_12 : decode cX9_leastBehind 12 = .ok (.aload_n 0, 1) := by decide +kernel
theorem dX9_leastBehind_13 : decode cX9_leastBehind 13 = .ok (.getfield 24, 3) := by decide +kernel
theorem dX9_leastBehind_16 : decode cX9_leastBehind 16 = .ok (.iload_n 3, 1) := by decide +kernel
theorem dX9_leastBehind_17 : decode cX9_leastBehind 17 = .ok (.iaload, 1) := by decide +kernel
theorem dX9_leastBehind_18 : decode cX9_leastBehind 18 = .ok (.iload_n 1, 1) := by decide +kernel
theorem dX9_leastBehind_19 : decode cX9_leastBehind 19 = .ok (.if_icmp .le 25, 3) := by decide +kernel
theorem dX9_leastBehind_22 : decode cX9_leastBehind 22 = .ok (.iload_n 2, 1) := by decide +kernel
theorem dX9_leastBehind_23 : decode cX9_leastBehind 23 = .ok (.iconst (-1), 1) := by decide +kernel
theorem dX9_leastBehind_24 : decode cX9_leastBehind 24 = .ok (.if_icmp .eq 13, 3) := by decide +kernel
theorem dX9_leastBehind_27 : decode cX9_leastBehind 27 = .ok (.aload_n 0, 1) := by decide +kernel
theorem dX9_leastBehind_28 : decode cX9_leastBehind 28 = .ok (.getfield 27, 3) := by decide +kernel
theorem dX9_leastBehind_31 : decode cX9_leastBehind 31 = .ok (.iload_n 3, 1) := by decide +kernel
theorem dX9_leastBehind_32 : decode cX9_leastBehind 32 = .ok (.iaload, 1) := by decide +kernel
theorem dX9_leastBehind_33 : decode cX9_leastBehind 33 = .ok (.iload_n 2, 1) := by decide +kernel
theorem dX9_leastBehind_34 : decode cX9_leastBehind 34 = .ok (.if_icmp .ge 10, 3) := by decide +kernel
theorem dX9_leastBehind_37 : decode cX9_leastBehind 37 = .ok (.aload_n 0, 1) := by decide +kernel
theorem dX9_leastBehind_38 : decode cX9_leastBehind 38 = .ok (.getfield 27, 3) := by decide +kernel
theorem dX9_leastBehind_41 : decode cX9_leastBehind 41 = .ok (.iload_n 3, 1) := by decide +kernel
theorem dX9_leastBehind_42 : decode cX9_leastBehind 42 = .ok (.iaload, 1) := by decide +kernel
theorem dX9_leastBehind_43 : decode cX9_leastBehind 43 = .ok (.istore_n 2, 1) := by decide +kernel
theorem dX9_leastBehind_44 : decode cX9_leastBehind 44 = .ok (.iinc 3 1, 3) := by decide +kernel
theorem dX9_leastBehind_47 : decode cX9_leastBehind 47 = .ok (.goto (-43), 3) := by decide +kernel
theorem dX9_leastBehind_50 : decode cX9_leastBehind 50 = .ok (.iload_n 2, 1) := by decide +kernel
theorem dX9_leastBehind_51 : decode cX9_leastBehind 51 = .ok (.ireturn, 1) := by decide +kernel
theorem dX9_laysFewest_0 : decode cX9_laysFewest 0 = .ok (.aload_n 0, 1) := by decide +kernel
theorem dX9_laysFewest_1 : decode cX9_laysFewest 1 = .ok (.iconst 0, 1) := by decide +kernel
theorem dX9_laysFewest_2 : decode cX9_laysFewest 2 = .ok (.putfield 105, 3) := by decide +kernel
theorem dX9_laysFewest_5 : decode cX9_laysFewest 5 = .ok (.aload_n 0, 1) := by decide +kernel
theorem dX9_laysFewest_6 : decode cX9_laysFewest 6 = .ok (.iconst (-1), 1) := by decide +kernel
theorem dX9_laysFewest_7 : decode cX9_laysFewest 7 = .ok (.invokevirtual 108, 3) := by decide +kernel
theorem dX9_laysFewest_10 : decode cX9_laysFewest 10 = .ok (.istore_n 1, 1) := by decide +kernel
theorem dX9_laysFewest_11 : decode cX9_laysFewest 11 = .ok (.iload_n 1, 1) := by decide +kernel
theorem dX9_laysFewest_12 : decode cX9_laysFewest 12 = .ok (.iconst (-1), 1) := by decide +kernel
theorem dX9_laysFewest_13 : decode cX9_laysFewest 13 = .ok (.if_icmp .eq 17, 3) := by decide +kernel
theorem dX9_laysFewest_16 : decode cX9_laysFewest 16 = .ok (.aload_n 0, 1) := by decide +kernel
theorem dX9_laysFewest_17 : decode cX9_laysFewest 17 = .ok (.iload_n 1, 1) := by decide +kernel
theorem dX9_laysFewest_18 : decode cX9_laysFewest 18 = .ok (.invokevirtual 111, 3) := by decide +kernel
theorem dX9_laysFewest_21 : decode cX9_laysFewest 21 = .ok (.aload_n 0, 1) := by decide +kernel
theorem dX9_laysFewest_22 : decode cX9_laysFewest 22 = .ok (.iload_n 1, 1) := by decide +kernel
theorem dX9_laysFewest_23 : decode cX9_laysFewest 23 = .ok (.invokevirtual 108, 3) := by decide +kernel
theorem dX9_laysFewest_26 : decode cX9_laysFewest 26 = .ok (.istore_n 1, 1) := by decide +kernel
theorem dX9_laysFewest_27 : decode cX9_laysFewest 27 = .ok (.goto (-16), 3) := by decide +kernel
theorem dX9_laysFewest_30 : decode cX9_laysFewest 30 = .ok (.return_, 1) := by decide +kernel
theorem dX9_laysBest_0 : decode cX9_laysBest 0 = .ok (.aload_n 0, 1) := by decide +kernel
theorem dX9_laysBest_1 : decode cX9_laysBest 1 = .ok (.getfield 39, 3) := by decide +kernel
theorem dX9_laysBest_4 : decode cX9_laysBest 4 = .ok (.iload_n 1, 1) := by decide +kernel
theorem dX9_laysBest_5 : decode cX9_laysBest 5 = .ok (.iconst 1, 1) := by decide +kernel
theorem dX9_laysBest_6 : decode cX9_laysBest 6 = .ok (.iadd, 1) := by decide +kernel
theorem dX9_laysBest_7 : decode cX9_laysBest 7 = .ok (.ldc2_w 114, 3) := by decide +kernel
theorem dX9_laysBest_10 : decode cX9_laysBest 10 = .ok (.lastore, 1) := by decide +kernel
theorem dX9_laysBest_11 : decode cX9_laysBest 11 = .ok (.aload_n 0, 1) := by decide +kernel
theorem dX9_laysBest_12 : decode cX9_laysBest 12 = .ok (.getfield 45, 3) := by decide +kernel
theorem dX9_laysBest_15 : decode cX9_laysBest 15 = .ok (.iload_n 1, 1) := by decide +kernel
theorem dX9_laysBest_16 : decode cX9_laysBest 16 = .ok (.iconst 1, 1) := by decide +kernel
theorem dX9_laysBest_17 : decode cX9_laysBest 17 = .ok (.iadd, 1) := by decide +kernel
theorem dX9_laysBest_18 : decode cX9_laysBest 18 = .ok (.iconst (-1), 1) := by decide +kernel
theorem dX9_laysBest_19 : decode cX9_laysBest 19 = .ok (.iastore, 1) := by decide +kernel
theorem dX9_laysBest_20 : decode cX9_laysBest 20 = .ok (.aload_n 0, 1) := by decide +kernel
theorem dX9_laysBest_21 : decode cX9_laysBest 21 = .ok (.iload_n 1, 1) := by decide +kernel
theorem dX9_laysBest_22 : decode cX9_laysBest 22 = .ok (.invokevirtual 108, 3) := by decide +kernel
theorem dX9_laysBest_25 : decode cX9_laysBest 25 = .ok (.iconst (-1), 1) := by decide +kernel
theorem dX9_laysBest_26 : decode cX9_laysBest 26 = .ok (.if_icmp .ne 22, 3) := by decide +kernel
theorem dX9_laysBest_29 : decode cX9_laysBest 29 = .ok (.aload_n 0, 1) := by decide +kernel
theorem dX9_laysBest_30 : decode cX9_laysBest 30 = .ok (.getfield 39, 3) := by decide +kernel
theorem dX9_laysBest_33 : decode cX9_laysBest 33 = .ok (.iload_n 1, 1) := by decide +kernel
theorem dX9_laysBest_34 : decode cX9_laysBest 34 = .ok (.iconst 1, 1) := by decide +kernel
theorem dX9_laysBest_35 : decode cX9_laysBest 35 = .ok (.iadd, 1) := by decide +kernel
theorem dX9_laysBest_36 : decode cX9_laysBest 36 = .ok (.lconst 0, 1) := by decide +kernel
theorem dX9_laysBest_37 : decode cX9_laysBest 37 = .ok (.lastore, 1) := by decide +kernel
theorem dX9_laysBest_38 : decode cX9_laysBest 38 = .ok (.aload_n 0, 1) := by decide +kernel
theorem dX9_laysBest_39 : decode cX9_laysBest 39 = .ok (.getfield 42, 3) := by decide +kernel
theorem dX9_laysBest_42 : decode cX9_laysBest 42 = .ok (.iload_n 1, 1) := by decide +kernel
theorem dX9_laysBest_43 : decode cX9_laysBest 43 = .ok (.iconst 1, 1) := by decide +kernel
theorem dX9_laysBest_44 : decode cX9_laysBest 44 = .ok (.iadd, 1) := by decide +kernel
theorem dX9_laysBest_45 : decode cX9_laysBest 45 = .ok (.iconst 0, 1) := by decide +kernel
theorem dX9_laysBest_46 : decode cX9_laysBest 46 = .ok (.iastore, 1) := by decide +kernel
theorem dX9_laysBest_47 : decode cX9_laysBest 47 = .ok (.return_, 1) := by decide +kernel
theorem dX9_laysBest_48 : decode cX9_laysBest 48 = .ok (.iload_n 1, 1) := by decide +kernel
theorem dX9_laysBest_49 : decode cX9_laysBest 49 = .ok (.iconst 1, 1) := by decide +kernel
theorem dX9_laysBest_50 : decode cX9_laysBest 50 = .ok (.iadd, 1) := by decide +kernel
theorem dX9_laysBest_51 : decode cX9_laysBest 51 = .ok (.istore_n 3, 1) := by decide +kernel
theorem dX9_laysBest_52 : decode cX9_laysBest 52 = .ok (.iload_n 3, 1) := by decide +kernel
theorem dX9_laysBest_53 : decode cX9_laysBest 53 = .ok (.aload_n 0, 1) := by decide +kernel
theorem dX9_laysBest_54 : decode cX9_laysBest 54 = .ok (.getfield 7, 3) := by decide +kernel
theorem dX9_laysBest_57 : decode cX9_laysBest 57 = .ok (.bipush 98, 2) := by decide +kernel
theorem dX9_laysBest_59 : decode cX9_laysBest 59 = .ok (.iaload, 1) := by decide +kernel
theorem dX9_laysBest_60 : decode cX9_laysBest 60 = .ok (.if_icmp .gt 142, 3) := by decide +kernel
theorem dX9_laysBest_63 : decode cX9_laysBest 63 = .ok (.iload_n 3, 1) := by decide +kernel
theorem dX9_laysBest_64 : decode cX9_laysBest 64 = .ok (.aload_n 0, 1) := by decide +kernel
theorem dX9_laysBest_65 : decode cX9_laysBest 65 = .ok (.iload_n 1, 1) := by decide +kernel
theorem dX9_laysBest_66 : decode cX9_laysBest 66 = .ok (.invokevirtual 108, 3) := by decide +kernel
theorem dX9_laysBest_69 : decode cX9_laysBest 69 = .ok (.if_icmp .gt 133, 3) := by decide +kernel
theorem dX9_laysBest_72 : decode cX9_laysBest 72 = .ok (.iload_n 2, 1) := by decide +kernel
theorem dX9_laysBest_73 : decode cX9_laysBest 73 = .ok (.ifCond .eq 12, 3) := by decide +kernel
theorem dX9_laysBest_76 : decode cX9_laysBest 76 = .ok (.aload_n 0, 1) := by decide +kernel
theorem dX9_laysBest_77 : decode cX9_laysBest 77 = .ok (.iload_n 1, 1) := by decide +kernel
theorem dX9_laysBest_78 : decode cX9_laysBest 78 = .ok (.iload_n 3, 1) := by decide +kernel
theorem dX9_laysBest_79 : decode cX9_laysBest 79 = .ok (.invokevirtual 116, 3) := by decide +kernel
theorem dX9_laysBest_82 : decode cX9_laysBest 82 = .ok (.goto 17, 3) := by decide +kernel
theorem dX9_laysBest_85 : decode cX9_laysBest 85 = .ok (.aload_n 0, 1) := by decide +kernel
theorem dX9_laysBest_86 : decode cX9_laysBest 86 = .ok (.getfield 7, 3) := by decide +kernel
theorem dX9_laysBest_89 : decode cX9_laysBest 89 = .ok (.bipush 99, 2) := by decide +kernel
theorem dX9_laysBest_91 : decode cX9_laysBest 91 = .ok (.iaload, 1) := by decide +kernel
theorem dX9_laysBest_92 : decode cX9_laysBest 92 = .ok (.aload_n 0, 1) := by decide +kernel
theorem dX9_laysBest_93 : decode cX9_laysBest 93 = .ok (.iload_n 1, 1) := by decide +kernel
theorem dX9_laysBest_94 : decode cX9_laysBest 94 = .ok (.iload_n 3, 1) := by decide +kernel
theorem dX9_laysBest_95 : decode cX9_laysBest 95 = .ok (.invokevirtual 119, 3) := by decide +kernel
theorem dX9_laysBest_98 : decode cX9_laysBest 98 = .ok (.iadd, 1) := by decide +kernel
theorem dX9_laysBest_99 : decode cX9_laysBest 99 = .ok (.i2l, 1) := by decide +kernel
theorem dX9_laysBest_100 : decode cX9_laysBest 100 = .ok (.aload_n 0, 1) := by decide +kernel
theorem dX9_laysBest_101 : decode cX9_laysBest 101 = .ok (.getfield 39, 3) := by decide +kernel
theorem dX9_laysBest_104 : decode cX9_laysBest 104 = .ok (.iload_n 3, 1) := by decide +kernel
theorem dX9_laysBest_105 : decode cX9_laysBest 105 = .ok (.iconst 1, 1) := by decide +kernel
theorem dX9_laysBest_106 : decode cX9_laysBest 106 = .ok (.iadd, 1) := by decide +kernel
theorem dX9_laysBest_107 : decode cX9_laysBest 107 = .ok (.laload, 1) := by decide +kernel
theorem dX9_laysBest_108 : decode cX9_laysBest 108 = .ok (.ladd, 1) := by decide +kernel
theorem dX9_laysBest_109 : decode cX9_laysBest 109 = .ok (.lstore 4, 2) := by decide +kernel
theorem dX9_laysBest_111 : decode cX9_laysBest 111 = .ok (.iconst 1, 1) := by decide +kernel
theorem dX9_laysBest_112 : decode cX9_laysBest 112 = .ok (.aload_n 0, 1) := by decide +kernel
theorem dX9_laysBest_113 : decode cX9_laysBest 113 = .ok (.getfield 42, 3) := by decide +kernel
theorem dX9_laysBest_116 : decode cX9_laysBest 116 = .ok (.iload_n 3, 1) := by decide +kernel
theorem dX9_laysBest_117 : decode cX9_laysBest 117 = .ok (.iconst 1, 1) := by decide +kernel
theorem dX9_laysBest_118 : decode cX9_laysBest 118 = .ok (.iadd, 1) := by decide +kernel
theorem dX9_laysBest_119 : decode cX9_laysBest 119 = .ok (.iaload, 1) := by decide +kernel
theorem dX9_laysBest_120 : decode cX9_laysBest 120 = .ok (.iadd, 1) := by decide +kernel
theorem dX9_laysBest_121 : decode cX9_laysBest 121 = .ok (.istore 6, 2) := by decide +kernel
theorem dX9_laysBest_123 : decode cX9_laysBest 123 = .ok (.lload 4, 2) := by decide +kernel
theorem dX9_laysBest_125 : decode cX9_laysBest 125 = .ok (.aload_n 0, 1) := by decide +kernel
theorem dX9_laysBest_126 : decode cX9_laysBest 126 = .ok (.getfield 39, 3) := by decide +kernel
theorem dX9_laysBest_129 : decode cX9_laysBest 129 = .ok (.iload_n 1, 1) := by decide +kernel
theorem dX9_laysBest_130 : decode cX9_laysBest 130 = .ok (.iconst 1, 1) := by decide +kernel
theorem dX9_laysBest_131 : decode cX9_laysBest 131 = .ok (.iadd, 1) := by decide +kernel
theorem dX9_laysBest_132 : decode cX9_laysBest 132 = .ok (.laload, 1) := by decide +kernel
theorem dX9_laysBest_133 : decode cX9_laysBest 133 = .ok (.lcmp, 1) := by decide +kernel
theorem dX9_laysBest_134 : decode cX9_laysBest 134 = .ok (.ifCond .gt 62, 3) := by decide +kernel
theorem dX9_laysBest_137 : decode cX9_laysBest 137 = .ok (.lload 4, 2) := by decide +kernel
theorem dX9_laysBest_139 : decode cX9_laysBest 139 = .ok (.aload_n 0, 1) := by decide +kernel
theorem dX9_laysBest_140 : decode cX9_laysBest 140 = .ok (.getfield 39, 3) := by decide +kernel
theorem dX9_laysBest_143 : decode cX9_laysBest 143 = .ok (.iload_n 1, 1) := by decide +kernel
theorem dX9_laysBest_144 : decode cX9_laysBest 144 = .ok (.iconst 1, 1) := by decide +kernel
theorem dX9_laysBest_145 : decode cX9_laysBest 145 = .ok (.iadd, 1) := by decide +kernel
theorem dX9_laysBest_146 : decode cX9_laysBest 146 = .ok (.laload, 1) := by decide +kernel
theorem dX9_laysBest_147 : decode cX9_laysBest 147 = .ok (.lcmp, 1) := by decide +kernel
theorem dX9_laysBest_148 : decode cX9_laysBest 148 = .ok (.ifCond .ne 19, 3) := by decide +kernel
theorem dX9_laysBest_151 : decode cX9_laysBest 151 = .ok (.iload 6, 2) := by decide +kernel
theorem dX9_laysBest_153 : decode cX9_laysBest 153 = .ok (.aload_n 0, 1) := by decide +kernel
theorem dX9_laysBest_154 : decode cX9_laysBest 154 = .ok (.getfield 42, 3) := by decide +kernel
theorem dX9_laysBest_157 : decode cX9_laysBest 157 = .ok (.iload_n 1, 1) := by decide +kernel
theorem dX9_laysBest_158 : decode cX9_laysBest 158 = .ok (.iconst 1, 1) := by decide +kernel
theorem dX9_laysBest_159 : decode cX9_laysBest 159 = .ok (.iadd, 1) := by decide +kernel
theorem dX9_laysBest_160 : decode cX9_laysBest 160 = .ok (.iaload, 1) := by decide +kernel
theorem dX9_laysBest_161 : decode cX9_laysBest 161 = .ok (.if_icmp .lt 6, 3) := by decide +kernel
theorem dX9_laysBest_164 : decode cX9_laysBest 164 = .ok (.goto 32, 3) := by decide +kernel
theorem dX9_laysBest_167 : decode cX9_laysBest 167 = .ok (.aload_n 0, 1) := by decide +kernel
theorem dX9_laysBest_168 : decode cX9_laysBest 168 = .ok (.getfield 39, 3) := by decide +kernel
theorem dX9_laysBest_171 : decode cX9_laysBest 171 = .ok (.iload_n 1, 1) := by decide +kernel
theorem dX9_laysBest_172 : decode cX9_laysBest 172 = .ok (.iconst 1, 1) := by decide +kernel
theorem dX9_laysBest_173 : decode cX9_laysBest 173 = .ok (.iadd, 1) := by decide +kernel
theorem dX9_laysBest_174 : decode cX9_laysBest 174 = .ok (.lload 4, 2) := by decide +kernel
theorem dX9_laysBest_176 : decode cX9_laysBest 176 = .ok (.lastore, 1) := by decide +kernel
theorem dX9_laysBest_177 : decode cX9_laysBest 177 = .ok (.aload_n 0, 1) := by decide +kernel
theorem dX9_laysBest_178 : decode cX9_laysBest 178 = .ok (.getfield 42, 3) := by decide +kernel
theorem dX9_laysBest_181 : decode cX9_laysBest 181 = .ok (.iload_n 1, 1) := by decide +kernel
theorem dX9_laysBest_182 : decode cX9_laysBest 182 = .ok (.iconst 1, 1) := by decide +kernel
theorem dX9_laysBest_183 : decode cX9_laysBest 183 = .ok (.iadd, 1) := by decide +kernel
theorem dX9_laysBest_184 : decode cX9_laysBest 184 = .ok (.iload 6, 2) := by decide +kernel
theorem dX9_laysBest_186 : decode cX9_laysBest 186 = .ok (.iastore, 1) := by decide +kernel
theorem dX9_laysBest_187 : decode cX9_laysBest 187 = .ok (.aload_n 0, 1) := by decide +kernel
theorem dX9_laysBest_188 : decode cX9_laysBest 188 = .ok (.getfield 45, 3) := by decide +kernel
theorem dX9_laysBest_191 : decode cX9_laysBest 191 = .ok (.iload_n 1, 1) := by decide +kernel
theorem dX9_laysBest_192 : decode cX9_laysBest 192 = .ok (.iconst 1, 1) := by decide +kernel
theorem dX9_laysBest_193 : decode cX9_laysBest 193 = .ok (.iadd, 1) := by decide +kernel
theorem dX9_laysBest_194 : decode cX9_laysBest 194 = .ok (.iload_n 3, 1) := by decide +kernel
theorem dX9_laysBest_195 : decode cX9_laysBest 195 = .ok (.iastore, 1) := by decide +kernel
theorem dX9_laysBest_196 : decode cX9_laysBest 196 = .ok (.iinc 3 1, 3) := by decide +kernel
theorem dX9_laysBest_199 : decode cX9_laysBest 199 = .ok (.goto (-147), 3) := by decide +kernel
theorem dX9_laysBest_202 : decode cX9_laysBest 202 = .ok (.return_, 1) := by decide +kernel
theorem dX9_stay_0 : decode cX9_stay 0 = .ok (.iload_n 1, 1) := by decide +kernel
theorem dX9_stay_1 : decode cX9_stay 1 = .ok (.iconst (-1), 1) := by decide +kernel
theorem dX9_stay_2 : decode cX9_stay 2 = .ok (.if_icmp .eq 24, 3) := by decide +kernel
theorem dX9_stay_5 : decode cX9_stay 5 = .ok (.aload_n 0, 1) := by decide +kernel
theorem dX9_stay_6 : decode cX9_stay 6 = .ok (.getfield 7, 3) := by decide +kernel
theorem dX9_stay_9 : decode cX9_stay 9 = .ok (.bipush 100, 2) := by decide +kernel
theorem dX9_stay_11 : decode cX9_stay 11 = .ok (.iaload, 1) := by decide +kernel
theorem dX9_stay_12 : decode cX9_stay 12 = .ok (.iload_n 2, 1) := by decide +kernel
theorem dX9_stay_13 : decode cX9_stay 13 = .ok (.iload_n 1, 1) := by decide +kernel
theorem dX9_stay_14 : decode cX9_stay 14 = .ok (.isub, 1) := by decide +kernel
theorem dX9_stay_15 : decode cX9_stay 15 = .ok (.imul, 1) := by decide +kernel
theorem dX9_stay_16 : decode cX9_stay 16 = .ok (.aload_n 0, 1) := by decide +kernel
theorem dX9_stay_17 : decode cX9_stay 17 = .ok (.getfield 7, 3) := by decide +kernel
theorem dX9_stay_20 : decode cX9_stay 20 = .ok (.bipush 99, 2) := by decide +kernel
theorem dX9_stay_22 : decode cX9_stay 22 = .ok (.iaload, 1) := by decide +kernel
theorem dX9_stay_23 : decode cX9_stay 23 = .ok (.if_icmp .le 13, 3) := by decide +kernel
theorem dX9_stay_26 : decode cX9_stay 26 = .ok (.aload_n 0, 1) := by decide +kernel
theorem dX9_stay_27 : decode cX9_stay 27 = .ok (.getfield 7, 3) := by decide +kernel
theorem dX9_stay_30 : decode cX9_stay 30 = .ok (.bipush 99, 2) := by decide +kernel
theorem dX9_stay_32 : decode cX9_stay 32 = .ok (.iaload, 1) := by decide +kernel
theorem dX9_stay_33 : decode cX9_stay 33 = .ok (.goto 14, 3) := by decide +kernel
theorem dX9_stay_36 : decode cX9_stay 36 = .ok (.aload_n 0, 1) := by decide +kernel
theorem dX9_stay_37 : decode cX9_stay 37 = .ok (.getfield 7, 3) := by decide +kernel
theorem dX9_stay_40 : decode cX9_stay 40 = .ok (.bipush 100, 2) := by decide +kernel
theorem dX9_stay_42 : decode cX9_stay 42 = .ok (.iaload, 1) := by decide +kernel
theorem dX9_stay_43 : decode cX9_stay 43 = .ok (.iload_n 2, 1) := by decide +kernel
theorem dX9_stay_44 : decode cX9_stay 44 = .ok (.iload_n 1, 1) := by decide +kernel
theorem dX9_stay_45 : decode cX9_stay 45 = .ok (.isub, 1) := by decide +kernel
theorem dX9_stay_46 : decode cX9_stay 46 = .ok (.imul, 1) := by decide +kernel
theorem dX9_stay_47 : decode cX9_stay 47 = .ok (.ireturn, 1) := by decide +kernel
theorem dX9_waits_0 : decode cX9_waits 0 = .ok (.iconst 0, 1) := by decide +kernel
theorem dX9_waits_1 : decode cX9_waits 1 = .ok (.istore_n 3, 1) := by decide +kernel
theorem dX9_waits_2 : decode cX9_waits 2 = .ok (.iconst 0, 1) := by decide +kernel
theorem dX9_waits_3 : decode cX9_waits 3 = .ok (.istore 4, 2) := by decide +kernel
theorem dX9_waits_5 : decode cX9_waits 5 = .ok (.iload 4, 2) := by decide +kernel
theorem dX9_waits_7 : decode cX9_waits 7 = .ok (.aload_n 0, 1) := by decide +kernel
theorem dX9_waits_8 : decode cX9_waits 8 = .ok (.getfield 85, 3) := by decide +kernel
theorem dX9_waits_11 : decode cX9_waits 11 = .ok (.if_icmp .ge 55, 3) := by decide +kernel
theorem dX9_waits_14 : decode cX9_waits 14 = .ok (.iload_n 3, 1) := by decide +kernel
theorem dX9_waits_15 : decode cX9_waits 15 = .ok (.aload_n 0, 1) := by decide +kernel
theorem dX9_waits_16 : decode cX9_waits 16 = .ok (.getfield 24, 3) := by decide +kernel
theorem dX9_waits_19 : decode cX9_waits 19 = .ok (.iload 4, 2) := by decide +kernel
theorem dX9_waits_21 : decode cX9_waits 21 = .ok (.iaload, 1) := by decide +kernel
theorem dX9_waits_22 : decode cX9_waits 22 = .ok (.iload_n 1, 1) := by decide +kernel
theorem dX9_waits_23 : decode cX9_waits 23 = .ok (.if_icmp .le 34, 3) := by decide +kernel
theorem dX9_waits_26 : decode cX9_waits 26 = .ok (.aload_n 0, 1) := by decide +kernel
theorem dX9_waits_27 : decode cX9_waits 27 = .ok (.getfield 24, 3) := by decide +kernel
theorem dX9_waits_30 : decode cX9_waits 30 = .ok (.iload 4, 2) := by decide +kernel
theorem dX9_waits_32 : decode cX9_waits 32 = .ok (.iaload, 1) := by decide +kernel
theorem dX9_waits_33 : decode cX9_waits 33 = .ok (.iload_n 2, 1) := by decide +kernel
theorem dX9_waits_34 : decode cX9_waits 34 = .ok (.if_icmp .gt 23, 3) := by decide +kernel
theorem dX9_waits_37 : decode cX9_waits 37 = .ok (.aload_n 0, 1) := by decide +kernel
theorem dX9_waits_38 : decode cX9_waits 38 = .ok (.getfield 30, 3) := by decide +kernel
theorem dX9_waits_41 : decode cX9_waits 41 = .ok (.iload 4, 2) := by decide +kernel
theorem dX9_waits_43 : decode cX9_waits 43 = .ok (.iaload, 1) := by decide +kernel
theorem dX9_waits_44 : decode cX9_waits 44 = .ok (.iload_n 2, 1) := by decide +kernel
theorem dX9_waits_45 : decode cX9_waits 45 = .ok (.aload_n 0, 1) := by decide +kernel
theorem dX9_waits_46 : decode cX9_waits 46 = .ok (.getfield 24, 3) := by decide +kernel
theorem dX9_waits_49 : decode cX9_waits 49 = .ok (.iload 4, 2) := by decide +kernel
theorem dX9_waits_51 : decode cX9_waits 51 = .ok (.iaload, 1) := by decide +kernel
theorem dX9_waits_52 : decode cX9_waits 52 = .ok (.isub, 1) := by decide +kernel
theorem dX9_waits_53 : decode cX9_waits 53 = .ok (.imul, 1) := by decide +kernel
theorem dX9_waits_54 : decode cX9_waits 54 = .ok (.goto 4, 3) := by decide +kernel
theorem dX9_waits_57 : decode cX9_waits 57 = .ok (.iconst 0, 1) := by decide +kernel
theorem dX9_waits_58 : decode cX9_waits 58 = .ok (.iadd, 1) := by decide +kernel
theorem dX9_waits_59 : decode cX9_waits 59 = .ok (.istore_n 3, 1) := by decide +kernel
theorem dX9_waits_60 : decode cX9_waits 60 = .ok (.iinc 4 1, 3) := by decide +kernel
theorem dX9_waits_63 : decode cX9_waits 63 = .ok (.goto (-58), 3) := by decide +kernel
theorem dX9_waits_66 : decode cX9_waits 66 = .ok (.iload_n 3, 1) := by decide +kernel
theorem dX9_waits_67 : decode cX9_waits 67 = .ok (.ireturn, 1) := by decide +kernel
theorem dX9_laysDearest_0 : decode cX9_laysDearest 0 = .ok (.aload_n 0, 1) := by decide +kernel
theorem dX9_laysDearest_1 : decode cX9_laysDearest 1 = .ok (.getfield 7, 3) := by decide +kernel
theorem dX9_laysDearest_4 : decode cX9_laysDearest 4 = .ok (.bipush 98, 2) := by decide +kernel
theorem dX9_laysDearest_6 : decode cX9_laysDearest 6 = .ok (.iaload, 1) := by decide +kernel
theorem dX9_laysDearest_7 : decode cX9_laysDearest 7 = .ok (.istore_n 2, 1) := by decide +kernel
theorem dX9_laysDearest_8 : decode cX9_laysDearest 8 = .ok (.iload_n 2, 1) := by decide +kernel
theorem dX9_laysDearest_9 : decode cX9_laysDearest 9 = .ok (.iconst (-1), 1) := by decide +kernel
theorem dX9_laysDearest_10 : decode cX9_laysDearest 10 = .ok (.if_icmp .lt 15, 3) := by decide +kernel
theorem dX9_laysDearest_13 : decode cX9_laysDearest 13 = .ok (.aload_n 0, 1) := by decide +kernel
theorem dX9_laysDearest_14 : decode cX9_laysDearest 14 = .ok (.iload_n 2, 1) := by decide +kernel
theorem dX9_laysDearest_15 : decode cX9_laysDearest 15 = .ok (.iload_n 1, 1) := by decide +kernel
theorem dX9_laysDearest_16 : decode cX9_laysDearest 16 = .ok (.invokevirtual 122, 3) := by decide +kernel
theorem dX9_laysDearest_19 : decode cX9_laysDearest 19 = .ok (.iinc 2 (-1), 3) := by decide +kernel
theorem dX9_laysDearest_22 : decode cX9_laysDearest 22 = .ok (.goto (-14), 3) := by decide +kernel
theorem dX9_laysDearest_25 : decode cX9_laysDearest 25 = .ok (.aload_n 0, 1) := by decide +kernel
theorem dX9_laysDearest_26 : decode cX9_laysDearest 26 = .ok (.iconst 0, 1) := by decide +kernel
theorem dX9_laysDearest_27 : decode cX9_laysDearest 27 = .ok (.putfield 105, 3) := by decide +kernel
theorem dX9_laysDearest_30 : decode cX9_laysDearest 30 = .ok (.aload_n 0, 1) := by decide +kernel
theorem dX9_laysDearest_31 : decode cX9_laysDearest 31 = .ok (.getfield 45, 3) := by decide +kernel
theorem dX9_laysDearest_34 : decode cX9_laysDearest 34 = .ok (.iconst 0, 1) := by decide +kernel
theorem dX9_laysDearest_35 : decode cX9_laysDearest 35 = .ok (.iaload, 1) := by decide +kernel
theorem dX9_laysDearest_36 : decode cX9_laysDearest 36 = .ok (.istore_n 2, 1) := by decide +kernel
theorem dX9_laysDearest_37 : decode cX9_laysDearest 37 = .ok (.iload_n 2, 1) := by decide +kernel
theorem dX9_laysDearest_38 : decode cX9_laysDearest 38 = .ok (.iconst (-1), 1) := by decide +kernel
theorem dX9_laysDearest_39 : decode cX9_laysDearest 39 = .ok (.if_icmp .eq 20, 3) := by decide +kernel
theorem dX9_laysDearest_42 : decode cX9_laysDearest 42 = .ok (.aload_n 0, 1) := by decide +kernel
theorem dX9_laysDearest_43 : decode cX9_laysDearest 43 = .ok (.iload_n 2, 1) := by decide +kernel
theorem dX9_laysDearest_44 : decode cX9_laysDearest 44 = .ok (.invokevirtual 111, 3) := by decide +kernel
theorem dX9_laysDearest_47 : decode cX9_laysDearest 47 = .ok (.aload_n 0, 1) := by decide +kernel
theorem dX9_laysDearest_48 : decode cX9_laysDearest 48 = .ok (.getfield 45, 3) := by decide +kernel
theorem dX9_laysDearest_51 : decode cX9_laysDearest 51 = .ok (.iload_n 2, 1) := by decide +kernel
theorem dX9_laysDearest_52 : decode cX9_laysDearest 52 = .ok (.iconst 1, 1) := by decide +kernel
theorem dX9_laysDearest_53 : decode cX9_laysDearest 53 = .ok (.iadd, 1) := by decide +kernel
theorem dX9_laysDearest_54 : decode cX9_laysDearest 54 = .ok (.iaload, 1) := by decide +kernel
theorem dX9_laysDearest_55 : decode cX9_laysDearest 55 = .ok (.istore_n 2, 1) := by decide +kernel
theorem dX9_laysDearest_56 : decode cX9_laysDearest 56 = .ok (.goto (-19), 3) := by decide +kernel
theorem dX9_laysDearest_59 : decode cX9_laysDearest 59 = .ok (.return_, 1) := by decide +kernel
theorem dX9_wakesBy_0 : decode cX9_wakesBy 0 = .ok (.iconst 0, 1) := by decide +kernel
theorem dX9_wakesBy_1 : decode cX9_wakesBy 1 = .ok (.istore 4, 2) := by decide +kernel
theorem dX9_wakesBy_3 : decode cX9_wakesBy 3 = .ok (.iconst 0, 1) := by decide +kernel
theorem dX9_wakesBy_4 : decode cX9_wakesBy 4 = .ok (.istore 5, 2) := by decide +kernel
theorem dX9_wakesBy_6 : decode cX9_wakesBy 6 = .ok (.iconst 0, 1) := by decide +kernel
theorem dX9_wakesBy_7 : decode cX9_wakesBy 7 = .ok (.istore 6, 2) := by decide +kernel
theorem dX9_wakesBy_9 : decode cX9_wakesBy 9 = .ok (.iconst 0, 1) := by decide +kernel
theorem dX9_wakesBy_10 : decode cX9_wakesBy 10 = .ok (.istore 7, 2) := by decide +kernel
theorem dX9_wakesBy_12 : decode cX9_wakesBy 12 = .ok (.iload 7, 2) := by decide +kernel
theorem dX9_wakesBy_14 : decode cX9_wakesBy 14 = .ok (.aload_n 0, 1) := by decide +kernel
theorem dX9_wakesBy_15 : decode cX9_wakesBy 15 = .ok (.getfield 85, 3) := by decide +kernel
theorem dX9_wakesBy_18 : decode cX9_wakesBy 18 = .ok (.if_icmp .ge 84, 3) := by decide +kernel
theorem dX9_wakesBy_21 : decode cX9_wakesBy 21 = .ok (.aload_n 0, 1) := by decide +kernel
theorem dX9_wakesBy_22 : decode cX9_wakesBy 22 = .ok (.getfield 24, 3) := by decide +kernel
theorem dX9_wakesBy_25 : decode cX9_wakesBy 25 = .ok (.iload 7, 2) := by decide +kernel
theorem dX9_wakesBy_27 : decode cX9_wakesBy 27 = .ok (.iaload, 1) := by decide +kernel
theorem dX9_wakesBy_28 : decode cX9_wakesBy 28 = .ok (.iload_n 2, 1) := by decide +kernel
theorem dX9_wakesBy_29 : decode cX9_wakesBy 29 = .ok (.if_icmp .le 67, 3) := by decide +kernel
theorem dX9_wakesBy_32 : decode cX9_wakesBy 32 = .ok (.aload_n 0, 1) := by decide +kernel
theorem dX9_wakesBy_33 : decode cX9_wakesBy 33 = .ok (.getfield 24, 3) := by decide +kernel
theorem dX9_wakesBy_36 : decode cX9_wakesBy 36 = .ok (.iload 7, 2) := by decide +kernel
theorem dX9_wakesBy_38 : decode cX9_wakesBy 38 = .ok (.iaload, 1) := by decide +kernel
theorem dX9_wakesBy_39 : decode cX9_wakesBy 39 = .ok (.iload_n 3, 1) := by decide +kernel
theorem dX9_wakesBy_40 : decode cX9_wakesBy 40 = .ok (.if_icmp .le 6, 3) := by decide +kernel
theorem dX9_wakesBy_43 : decode cX9_wakesBy 43 = .ok (.goto 53, 3) := by decide +kernel
theorem dX9_wakesBy_46 : decode cX9_wakesBy 46 = .ok (.iconst 1, 1) := by decide +kernel
theorem dX9_wakesBy_47 : decode cX9_wakesBy 47 = .ok (.istore 5, 2) := by decide +kernel
theorem dX9_wakesBy_49 : decode cX9_wakesBy 49 = .ok (.iload 6, 2) := by decide +kernel
theorem dX9_wakesBy_51 : decode cX9_wakesBy 51 = .ok (.ifCond .ne 14, 3) := by decide +kernel
theorem dX9_wakesBy_54 : decode cX9_wakesBy 54 = .ok (.aload_n 0, 1) := by decide +kernel
theorem dX9_wakesBy_55 : decode cX9_wakesBy 55 = .ok (.getfield 27, 3) := by decide +kernel
theorem dX9_wakesBy_58 : decode cX9_wakesBy 58 = .ok (.iload 7, 2) := by decide +kernel
theorem dX9_wakesBy_60 : decode cX9_wakesBy 60 = .ok (.iaload, 1) := by decide +kernel
theorem dX9_wakesBy_61 : decode cX9_wakesBy 61 = .ok (.iload_n 3, 1) := by decide +kernel
theorem dX9_wakesBy_62 : decode cX9_wakesBy 62 = .ok (.if_icmp .ne 7, 3) := by decide +kernel
theorem dX9_wakesBy_65 : decode cX9_wakesBy 65 = .ok (.iconst 1, 1) := by decide +kernel
theorem dX9_wakesBy_66 : decode cX9_wakesBy 66 = .ok (.goto 4, 3) := by decide +kernel
theorem dX9_wakesBy_69 : decode cX9_wakesBy 69 = .ok (.iconst 0, 1) := by decide +kernel
theorem dX9_wakesBy_70 : decode cX9_wakesBy 70 = .ok (.istore 6, 2) := by decide +kernel
theorem dX9_wakesBy_72 : decode cX9_wakesBy 72 = .ok (.iload 4, 2) := by decide +kernel
theorem dX9_wakesBy_74 : decode cX9_wakesBy 74 = .ok (.aload_n 0, 1) := by decide +kernel
theorem dX9_wakesBy_75 : decode cX9_wakesBy 75 = .ok (.getfield 30, 3) := by decide +kernel
theorem dX9_wakesBy_78 : decode cX9_wakesBy 78 = .ok (.iload 7, 2) := by decide +kernel
theorem dX9_wakesBy_80 : decode cX9_wakesBy 80 = .ok (.iaload, 1) := by decide +kernel
theorem dX9_wakesBy_81 : decode cX9_wakesBy 81 = .ok (.iload_n 3, 1) := by decide +kernel
theorem dX9_wakesBy_82 : decode cX9_wakesBy 82 = .ok (.iconst 1, 1) := by decide +kernel
theorem dX9_wakesBy_83 : decode cX9_wakesBy 83 = .ok (.iadd, 1) := by decide +kernel
theorem dX9_wakesBy_84 : decode cX9_wakesBy 84 = .ok (.aload_n 0, 1) := by decide +kernel
theorem dX9_wakesBy_85 : decode cX9_wakesBy 85 = .ok (.getfield 24, 3) := by decide +kernel
theorem dX9_wakesBy_88 : decode cX9_wakesBy 88 = .ok (.iload 7, 2) := by decide +kernel
theorem dX9_wakesBy_90 : decode cX9_wakesBy 90 = .ok (.iaload, 1) := by decide +kernel
theorem dX9_wakesBy_91 : decode cX9_wakesBy 91 = .ok (.isub, 1) := by decide +kernel
theorem dX9_wakesBy_92 : decode cX9_wakesBy 92 = .ok (.imul, 1) := by decide +kernel
theorem dX9_wakesBy_93 : decode cX9_wakesBy 93 = .ok (.iadd, 1) := by decide +kernel
theorem dX9_wakesBy_94 : decode cX9_wakesBy 94 = .ok (.istore 4, 2) := by decide +kernel
theorem dX9_wakesBy_96 : decode cX9_wakesBy 96 = .ok (.iinc 7 1, 3) := by decide +kernel
theorem dX9_wakesBy_99 : decode cX9_wakesBy 99 = .ok (.goto (-87), 3) := by decide +kernel
theorem dX9_wakesBy_102 : decode cX9_wakesBy 102 = .ok (.iload 5, 2) := by decide +kernel
theorem dX9_wakesBy_104 : decode cX9_wakesBy 104 = .ok (.ifCond .eq 33, 3) := by decide +kernel
theorem dX9_wakesBy_107 : decode cX9_wakesBy 107 = .ok (.iload_n 1, 1) := by decide +kernel
theorem dX9_wakesBy_108 : decode cX9_wakesBy 108 = .ok (.ifCond .eq 25, 3) := by decide +kernel
theorem dX9_wakesBy_111 : decode cX9_wakesBy 111 = .ok (.iload 6, 2) := by decide +kernel
theorem dX9_wakesBy_113 : decode cX9_wakesBy 113 = .ok (.ifCond .ne 20, 3) := by decide +kernel
theorem dX9_wakesBy_116 : decode cX9_wakesBy 116 = .ok (.iload_n 1, 1) := by decide +kernel
theorem dX9_wakesBy_117 : decode cX9_wakesBy 117 = .ok (.iconst 2, 1) := by decide +kernel
theorem dX9_wakesBy_118 : decode cX9_wakesBy 118 = .ok (.if_icmp .ne 19, 3) := by decide +kernel
theorem dX9_wakesBy_121 : decode cX9_wakesBy 121 = .ok (.iload 4, 2) := by decide +kernel
theorem dX9_wakesBy_123 : decode cX9_wakesBy 123 = .ok (.aload_n 0, 1) := by decide +kernel
theorem dX9_wakesBy_124 : decode cX9_wakesBy 124 = .ok (.getfield 7, 3) := by decide +kernel
theorem dX9_wakesBy_127 : decode cX9_wakesBy 127 = .ok (.bipush 99, 2) := by decide +kernel
theorem dX9_wakesBy_129 : decode cX9_wakesBy 129 = .ok (.iaload, 1) := by decide +kernel
theorem dX9_wakesBy_130 : decode cX9_wakesBy 130 = .ok (.if_icmp .le 7, 3) := by decide +kernel
theorem dX9_wakesBy_133 : decode cX9_wakesBy 133 = .ok (.iconst 1, 1) := by decide +kernel
theorem dX9_wakesBy_134 : decode cX9_wakesBy 134 = .ok (.goto 4, 3) := by decide +kernel
theorem dX9_wakesBy_137 : decode cX9_wakesBy 137 = .ok (.iconst 0, 1) := by decide +kernel
theorem dX9_wakesBy_138 : decode cX9_wakesBy 138 = .ok (.ireturn, 1) := by decide +kernel
theorem dX9_laysLive_0 : decode cX9_laysLive 0 = .ok (.aload_n 0, 1) := by decide +kernel
theorem dX9_laysLive_1 : decode cX9_laysLive 1 = .ok (.iconst 0, 1) := by decide +kernel
theorem dX9_laysLive_2 : decode cX9_laysLive 2 = .ok (.putfield 105, 3) := by decide +kernel
theorem dX9_laysLive_5 : decode cX9_laysLive 5 = .ok (.iconst (-1), 1) := by decide +kernel
theorem dX9_laysLive_6 : decode cX9_laysLive 6 = .ok (.istore_n 2, 1) := by decide +kernel
theorem dX9_laysLive_7 : decode cX9_laysLive 7 = .ok (.iconst 0, 1) := by decide +kernel
theorem dX9_laysLive_8 : decode cX9_laysLive 8 = .ok (.istore_n 3, 1) := by decide +kernel
theorem dX9_laysLive_9 : decode cX9_laysLive 9 = .ok (.iload_n 3, 1) := by decide +kernel
theorem dX9_laysLive_10 : decode cX9_laysLive 10 = .ok (.aload_n 0, 1) := by decide +kernel
theorem dX9_laysLive_11 : decode cX9_laysLive 11 = .ok (.getfield 7, 3) := by decide +kernel
theorem dX9_laysLive_14 : decode cX9_laysLive 14 = .ok (.bipush 98, 2) := by decide +kernel
theorem dX9_laysLive_16 : decode cX9_laysLive 16 = .ok (.iaload, 1) := by decide +kernel
theorem dX9_laysLive_17 : decode cX9_laysLive 17 = .ok (.if_icmp .gt 29, 3) := by decide +kernel
theorem dX9_laysLive_20 : decode cX9_laysLive 20 = .ok (.aload_n 0, 1) := by decide +kernel
theorem dX9_laysLive_21 : decode cX9_laysLive 21 = .ok (.iload_n 1, 1) := by decide +kernel
theorem dX9_laysLive_22 : decode cX9_laysLive 22 = .ok (.iload_n 2, 1) := by decide +kernel
theorem dX9_laysLive_23 : decode cX9_laysLive 23 = .ok (.iload_n 3, 1) := by decide +kernel
theorem dX9_laysLive_24 : decode cX9_laysLive 24 = .ok (.invokevirtual 126, 3) := by decide +kernel
theorem dX9_laysLive_27 : decode cX9_laysLive 27 = .ok (.ifCond .ne 6, 3) := by decide +kernel
theorem dX9_laysLive_30 : decode cX9_laysLive 30 = .ok (.goto 10, 3) := by decide +kernel
theorem dX9_laysLive_33 : decode cX9_laysLive 33 = .ok (.aload_n 0, 1) := by decide +kernel
theorem dX9_laysLive_34 : decode cX9_laysLive 34 = .ok (.iload_n 3, 1) := by decide +kernel
theorem dX9_laysLive_35 : decode cX9_laysLive 35 = .ok (.invokevirtual 111, 3) := by decide +kernel
theorem dX9_laysLive_38 : decode cX9_laysLive 38 = .ok (.iload_n 3, 1) := by decide +kernel
theorem dX9_laysLive_39 : decode cX9_laysLive 39 = .ok (.istore_n 2, 1) := by decide +kernel
theorem dX9_laysLive_40 : decode cX9_laysLive 40 = .ok (.iinc 3 1, 3) := by decide +kernel
theorem dX9_laysLive_43 : decode cX9_laysLive 43 = .ok (.goto (-34), 3) := by decide +kernel
theorem dX9_laysLive_46 : decode cX9_laysLive 46 = .ok (.return_, 1) := by decide +kernel
theorem dX9_laysPlan_0 : decode cX9_laysPlan 0 = .ok (.iload_n 1, 1) := by decide +kernel
theorem dX9_laysPlan_1 : decode cX9_laysPlan 1 = .ok (.iconst 0, 1) := by decide +kernel
theorem dX9_laysPlan_2 : decode cX9_laysPlan 2 = .ok (.iconst 5, 1) := by decide +kernel
theorem dX9_laysPlan_3 : decode cX9_laysPlan 3 = .ok (.invokestatic 77, 3) := by decide +kernel
theorem dX9_laysPlan_6 : decode cX9_laysPlan 6 = .ok (.ifCond .ne 5, 3) := by decide +kernel
theorem dX9_laysPlan_9 : decode cX9_laysPlan 9 = .ok (.iconst 0, 1) := by decide +kernel
theorem dX9_laysPlan_10 : decode cX9_laysPlan 10 = .ok (.ireturn, 1) := by decide +kernel
theorem dX9_laysPlan_11 : decode cX9_laysPlan 11 = .ok (.aload_n 0, 1) := by decide +kernel
theorem dX9_laysPlan_12 : decode cX9_laysPlan 12 = .ok (.invokevirtual 129, 3) := by decide +kernel
theorem dX9_laysPlan_15 : decode cX9_laysPlan 15 = .ok (.iload_n 1, 1) := by decide +kernel
theorem dX9_laysPlan_16 : decode cX9_laysPlan 16 = .ok (.ifCond .ne 10, 3) := by decide +kernel
theorem dX9_laysPlan_19 : decode cX9_laysPlan 19 = .ok (.aload_n 0, 1) := by decide +kernel
theorem dX9_laysPlan_20 : decode cX9_laysPlan 20 = .ok (.invokevirtual 132, 3) := by decide +kernel
theorem dX9_laysPlan_23 : decode cX9_laysPlan 23 = .ok (.goto 32, 3) := by decide +kernel
theorem dX9_laysPlan_26 : decode cX9_laysPlan 26 = .ok (.iload_n 1, 1) := by decide +kernel
theorem dX9_laysPlan_27 : decode cX9_laysPlan 27 = .ok (.iconst 3, 1) := by decide +kernel
theorem dX9_laysPlan_28 : decode cX9_laysPlan 28 = .ok (.if_icmp .ge 20, 3) := by decide +kernel
theorem dX9_laysPlan_31 : decode cX9_laysPlan 31 = .ok (.aload_n 0, 1) := by decide +kernel
theorem dX9_laysPlan_32 : decode cX9_laysPlan 32 = .ok (.iload_n 1, 1) := by decide +kernel
theorem dX9_laysPlan_33 : decode cX9_laysPlan 33 = .ok (.iconst 2, 1) := by decide +kernel
theorem dX9_laysPlan_34 : decode cX9_laysPlan 34 = .ok (.if_icmp .ne 7, 3) := by decide +kernel
theorem dX9_laysPlan_37 : decode cX9_laysPlan 37 = .ok (.iconst 1, 1) := by decide +kernel
theorem dX9_laysPlan_38 : decode cX9_laysPlan 38 = .ok (.goto 4, 3) := by decide +kernel
theorem dX9_laysPlan_41 : decode cX9_laysPlan 41 = .ok (.iconst 0, 1) := by decide +kernel
theorem dX9_laysPlan_42 : decode cX9_laysPlan 42 = .ok (.invokevirtual 135, 3) := by decide +kernel
theorem dX9_laysPlan_45 : decode cX9_laysPlan 45 = .ok (.goto 10, 3) := by decide +kernel
theorem dX9_laysPlan_48 : decode cX9_laysPlan 48 = .ok (.aload_n 0, 1) := by decide +kernel
theorem dX9_laysPlan_49 : decode cX9_laysPlan 49 = .ok (.iload_n 1, 1) := by decide +kernel
theorem dX9_laysPlan_50 : decode cX9_laysPlan 50 = .ok (.iconst 3, 1) := by decide +kernel
theorem dX9_laysPlan_51 : decode cX9_laysPlan 51 = .ok (.isub, 1) := by decide +kernel
theorem dX9_laysPlan_52 : decode cX9_laysPlan 52 = .ok (.invokevirtual 139, 3) := by decide +kernel
theorem dX9_laysPlan_55 : decode cX9_laysPlan 55 = .ok (.iconst 1, 1) := by decide +kernel
theorem dX9_laysPlan_56 : decode cX9_laysPlan 56 = .ok (.ireturn, 1) := by decide +kernel
theorem dX9_answers_0 : decode cX9_answers 0 = .ok (.iconst 0, 1) := by decide +kernel
theorem dX9_answers_1 : decode cX9_answers 1 = .ok (.istore_n 2, 1) := by decide +kernel
theorem dX9_answers_2 : decode cX9_answers 2 = .ok (.iload_n 2, 1) := by decide +kernel
theorem dX9_answers_3 : decode cX9_answers 3 = .ok (.aload_n 0, 1) := by decide +kernel
theorem dX9_answers_4 : decode cX9_answers 4 = .ok (.getfield 105, 3) := by decide +kernel
theorem dX9_answers_7 : decode cX9_answers 7 = .ok (.if_icmp .ge 26, 3) := by decide +kernel
theorem dX9_answers_10 : decode cX9_answers 10 = .ok (.aload_n 0, 1) := by decide +kernel
theorem dX9_answers_11 : decode cX9_answers 11 = .ok (.getfield 36, 3) := by decide +kernel
theorem dX9_answers_14 : decode cX9_answers 14 = .ok (.iload_n 2, 1) := by decide +kernel
theorem dX9_answers_15 : decode cX9_answers 15 = .ok (.iaload, 1) := by decide +kernel
theorem dX9_answers_16 : decode cX9_answers 16 = .ok (.iload_n 1, 1) := by decide +kernel
theorem dX9_answers_17 : decode cX9_answers 17 = .ok (.if_icmp .lt 10, 3) := by decide +kernel
theorem dX9_answers_20 : decode cX9_answers 20 = .ok (.aload_n 0, 1) := by decide +kernel
theorem dX9_answers_21 : decode cX9_answers 21 = .ok (.getfield 36, 3) := by decide +kernel
theorem dX9_answers_24 : decode cX9_answers 24 = .ok (.iload_n 2, 1) := by decide +kernel
theorem dX9_answers_25 : decode cX9_answers 25 = .ok (.iaload, 1) := by decide +kernel
theorem dX9_answers_26 : decode cX9_answers 26 = .ok (.ireturn, 1) := by decide +kernel
theorem dX9_answers_27 : decode cX9_answers 27 = .ok (.iinc 2 1, 3) := by decide +kernel
theorem dX9_answers_30 : decode cX9_answers 30 = .ok (.goto (-28), 3) := by decide +kernel
theorem dX9_answers_33 : decode cX9_answers 33 = .ok (.iconst (-1), 1) := by decide +kernel
theorem dX9_answers_34 : decode cX9_answers 34 = .ok (.ireturn, 1) := by decide +kernel
theorem dX9_waitsAll_0 : decode cX9_waitsAll 0 = .ok (.iconst 0, 1) := by decide +kernel
theorem dX9_waitsAll_1 : decode cX9_waitsAll 1 = .ok (.istore_n 1, 1) := by decide +kernel
theorem dX9_waitsAll_2 : decode cX9_waitsAll 2 = .ok (.iconst 0, 1) := by decide +kernel
theorem dX9_waitsAll_3 : decode cX9_waitsAll 3 = .ok (.istore_n 2, 1) := by decide +kernel
theorem dX9_waitsAll_4 : decode cX9_waitsAll 4 = .ok (.iload_n 2, 1) := by decide +kernel
theorem dX9_waitsAll_5 : decode cX9_waitsAll 5 = .ok (.aload_n 0, 1) := by decide +kernel
theorem dX9_waitsAll_6 : decode cX9_waitsAll 6 = .ok (.getfield 85, 3) := by decide +kernel
theorem dX9_waitsAll_9 : decode cX9_waitsAll 9 = .ok (.if_icmp .ge 36, 3) := by decide +kernel
theorem dX9_waitsAll_12 : decode cX9_waitsAll 12 = .ok (.iload_n 1, 1) := by decide +kernel
theorem dX9_waitsAll_13 : decode cX9_waitsAll 13 = .ok (.aload_n 0, 1) := by decide +kernel
theorem dX9_waitsAll_14 : decode cX9_waitsAll 14 = .ok (.getfield 30, 3) := by decide +kernel
theorem dX9_waitsAll_17 : decode cX9_waitsAll 17 = .ok (.iload_n 2, 1) := by decide +kernel
theorem dX9_waitsAll_18 : decode cX9_waitsAll 18 = .ok (.iaload, 1) := by decide +kernel
theorem dX9_waitsAll_19 : decode cX9_waitsAll 19 = .ok (.aload_n 0, 1) := by decide +kernel
theorem dX9_waitsAll_20 : decode cX9_waitsAll 20 = .ok (.aload_n 0, 1) := by decide +kernel
theorem dX9_waitsAll_21 : decode cX9_waitsAll 21 = .ok (.getfield 24, 3) := by decide +kernel
theorem dX9_waitsAll_24 : decode cX9_waitsAll 24 = .ok (.iload_n 2, 1) := by decide +kernel
theorem dX9_waitsAll_25 : decode cX9_waitsAll 25 = .ok (.iaload, 1) := by decide +kernel
theorem dX9_waitsAll_26 : decode cX9_waitsAll 26 = .ok (.invokevirtual 142, 3) := by decide +kernel
theorem dX9_waitsAll_29 : decode cX9_waitsAll 29 = .ok (.aload_n 0, 1) := by decide +kernel
theorem dX9_waitsAll_30 : decode cX9_waitsAll 30 = .ok (.getfield 24, 3) := by decide +kernel
theorem dX9_waitsAll_33 : decode cX9_waitsAll 33 = .ok (.iload_n 2, 1) := by decide +kernel
theorem dX9_waitsAll_34 : decode cX9_waitsAll 34 = .ok (.iaload, 1) := by decide +kernel
theorem dX9_waitsAll_35 : decode cX9_waitsAll 35 = .ok (.isub, 1) := by decide +kernel
theorem dX9_waitsAll_36 : decode cX9_waitsAll 36 = .ok (.imul, 1) := by decide +kernel
theorem dX9_waitsAll_37 : decode cX9_waitsAll 37 = .ok (.iadd, 1) := by decide +kernel
theorem dX9_waitsAll_38 : decode cX9_waitsAll 38 = .ok (.istore_n 1, 1) := by decide +kernel
theorem dX9_waitsAll_39 : decode cX9_waitsAll 39 = .ok (.iinc 2 1, 3) := by decide +kernel
theorem dX9_waitsAll_42 : decode cX9_waitsAll 42 = .ok (.goto (-38), 3) := by decide +kernel
theorem dX9_waitsAll_45 : decode cX9_waitsAll 45 = .ok (.iload_n 1, 1) := by decide +kernel
theorem dX9_waitsAll_46 : decode cX9_waitsAll 46 = .ok (.ireturn, 1) := by decide +kernel
theorem dX9_energy_0 : decode cX9_energy 0 = .ok (.iconst 0, 1) := by decide +kernel
theorem dX9_energy_1 : decode cX9_energy 1 = .ok (.istore_n 1, 1) := by decide +kernel
theorem dX9_energy_2 : decode cX9_energy 2 = .ok (.iconst 0, 1) := by decide +kernel
theorem dX9_energy_3 : decode cX9_energy 3 = .ok (.istore_n 2, 1) := by decide +kernel
theorem dX9_energy_4 : decode cX9_energy 4 = .ok (.iload_n 2, 1) := by decide +kernel
theorem dX9_energy_5 : decode cX9_energy 5 = .ok (.aload_n 0, 1) := by decide +kernel
theorem dX9_energy_6 : decode cX9_energy 6 = .ok (.getfield 105, 3) := by decide +kernel
theorem dX9_energy_9 : decode cX9_energy 9 = .ok (.if_icmp .ge 38, 3) := by decide +kernel
theorem dX9_energy_12 : decode cX9_energy 12 = .ok (.iload_n 1, 1) := by decide +kernel
theorem dX9_energy_13 : decode cX9_energy 13 = .ok (.aload_n 0, 1) := by decide +kernel
theorem dX9_energy_14 : decode cX9_energy 14 = .ok (.iload_n 2, 1) := by decide +kernel
theorem dX9_energy_15 : decode cX9_energy 15 = .ok (.ifCond .ne 7, 3) := by decide +kernel
theorem dX9_energy_18 : decode cX9_energy 18 = .ok (.iconst (-1), 1) := by decide +kernel
theorem dX9_energy_19 : decode cX9_energy 19 = .ok (.goto 11, 3) := by decide +kernel
theorem dX9_energy_22 : decode cX9_energy 22 = .ok (.aload_n 0, 1) := by decide +kernel
theorem dX9_energy_23 : decode cX9_energy 23 = .ok (.getfield 36, 3) := by decide +kernel
theorem dX9_energy_26 : decode cX9_energy 26 = .ok (.iload_n 2, 1) := by decide +kernel
theorem dX9_energy_27 : decode cX9_energy 27 = .ok (.iconst 1, 1) := by decide +kernel
theorem dX9_energy_28 : decode cX9_energy 28 = .ok (.isub, 1) := by decide +kernel
theorem dX9_energy_29 : decode cX9_energy 29 = .ok (.iaload, 1) := by decide +kernel
theorem dX9_energy_30 : decode cX9_energy 30 = .ok (.aload_n 0, 1) := by decide +kernel
theorem dX9_energy_31 : decode cX9_energy 31 = .ok (.getfield 36, 3) := by decide +kernel
theorem dX9_energy_34 : decode cX9_energy 34 = .ok (.iload_n 2, 1) := by decide +kernel
theorem dX9_energy_35 : decode cX9_energy 35 = .ok (.iaload, 1) := by decide +kernel
theorem dX9_energy_36 : decode cX9_energy 36 = .ok (.invokevirtual 116, 3) := by decide +kernel
theorem dX9_energy_39 : decode cX9_energy 39 = .ok (.iadd, 1) := by decide +kernel
theorem dX9_energy_40 : decode cX9_energy 40 = .ok (.istore_n 1, 1) := by decide +kernel
theorem dX9_energy_41 : decode cX9_energy 41 = .ok (.iinc 2 1, 3) := by decide +kernel
theorem dX9_energy_44 : decode cX9_energy 44 = .ok (.goto (-40), 3) := by decide +kernel
theorem dX9_energy_47 : decode cX9_energy 47 = .ok (.iload_n 1, 1) := by decide +kernel
theorem dX9_energy_48 : decode cX9_energy 48 = .ok (.ireturn, 1) := by decide +kernel
theorem dX9_awake_0 : decode cX9_awake 0 = .ok (.aload_n 0, 1) := by decide +kernel
theorem dX9_awake_1 : decode cX9_awake 1 = .ok (.getfield 7, 3) := by decide +kernel
theorem dX9_awake_4 : decode cX9_awake 4 = .ok (.bipush 100, 2) := by decide +kernel
theorem dX9_awake_6 : decode cX9_awake 6 = .ok (.iaload, 1) := by decide +kernel
theorem dX9_awake_7 : decode cX9_awake 7 = .ok (.ifCond .ne 9, 3) := by decide +kernel
theorem dX9_awake_10 : decode cX9_awake 10 = .ok (.sipush 300, 3) := by decide +kernel
theorem dX9_awake_13 : decode cX9_awake 13 = .ok (.goto 18, 3) := by decide +kernel
theorem dX9_awake_16 : decode cX9_awake 16 = .ok (.aload_n 0, 1) := by decide +kernel
theorem dX9_awake_17 : decode cX9_awake 17 = .ok (.getfield 7, 3) := by decide +kernel
theorem dX9_awake_20 : decode cX9_awake 20 = .ok (.bipush 99, 2) := by decide +kernel
theorem dX9_awake_22 : decode cX9_awake 22 = .ok (.iaload, 1) := by decide +kernel
theorem dX9_awake_23 : decode cX9_awake 23 = .ok (.aload_n 0, 1) := by decide +kernel
theorem dX9_awake_24 : decode cX9_awake 24 = .ok (.getfield 7, 3) := by decide +kernel
theorem dX9_awake_27 : decode cX9_awake 27 = .ok (.bipush 100, 2) := by decide +kernel
theorem dX9_awake_29 : decode cX9_awake 29 = .ok (.iaload, 1) := by decide +kernel
theorem dX9_awake_30 : decode cX9_awake 30 = .ok (.idiv, 1) := by decide +kernel
theorem dX9_awake_31 : decode cX9_awake 31 = .ok (.ireturn, 1) := by decide +kernel
theorem dX9_liveEnergy_0 : decode cX9_liveEnergy 0 = .ok (.iconst 0, 1) := by decide +kernel
theorem dX9_liveEnergy_1 : decode cX9_liveEnergy 1 = .ok (.istore_n 1, 1) := by decide +kernel
theorem dX9_liveEnergy_2 : decode cX9_liveEnergy 2 = .ok (.iconst 0, 1) := by decide +kernel
theorem dX9_liveEnergy_3 : decode cX9_liveEnergy 3 = .ok (.istore_n 2, 1) := by decide +kernel
theorem dX9_liveEnergy_4 : decode cX9_liveEnergy 4 = .ok (.iload_n 2, 1) := by decide +kernel
theorem dX9_liveEnergy_5 : decode cX9_liveEnergy 5 = .ok (.aload_n 0, 1) := by decide +kernel
theorem dX9_liveEnergy_6 : decode cX9_liveEnergy 6 = .ok (.getfield 105, 3) := by decide +kernel
theorem dX9_liveEnergy_9 : decode cX9_liveEnergy 9 = .ok (.if_icmp .ge 98, 3) := by decide +kernel
theorem dX9_liveEnergy_12 : decode cX9_liveEnergy 12 = .ok (.iload_n 2, 1) := by decide +kernel
theorem dX9_liveEnergy_13 : decode cX9_liveEnergy 13 = .ok (.ifCond .ne 12, 3) := by decide +kernel
theorem dX9_liveEnergy_16 : decode cX9_liveEnergy 16 = .ok (.aload_n 0, 1) := by decide +kernel
theorem dX9_liveEnergy_17 : decode cX9_liveEnergy 17 = .ok (.invokevirtual 145, 3) := by decide +kernel
theorem dX9_liveEnergy_20 : decode cX9_liveEnergy 20 = .ok (.iconst 1, 1) := by decide +kernel
theorem dX9_liveEnergy_21 : decode cX9_liveEnergy 21 = .ok (.iadd, 1) := by decide +kernel
theorem dX9_liveEnergy_22 : decode cX9_liveEnergy 22 = .ok (.goto 18, 3) := by decide +kernel
theorem dX9_liveEnergy_25 : decode cX9_liveEnergy 25 = .ok (.aload_n 0, 1) := by decide +kernel
theorem dX9_liveEnergy_26 : decode cX9_liveEnergy 26 = .ok (.getfield 36, 3) := by decide +kernel
theorem dX9_liveEnergy_29 : decode cX9_liveEnergy 29 = .ok (.iload_n 2, 1) := by decide +kernel
theorem dX9_liveEnergy_30 : decode cX9_liveEnergy 30 = .ok (.iaload, 1) := by decide +kernel
theorem dX9_liveEnergy_31 : decode cX9_liveEnergy 31 = .ok (.aload_n 0, 1) := by decide +kernel
theorem dX9_liveEnergy_32 : decode cX9_liveEnergy 32 = .ok (.getfield 36, 3) := by decide +kernel
theorem dX9_liveEnergy_35 : decode cX9_liveEnergy 35 = .ok (.iload_n 2, 1) := by decide +kernel
theorem dX9_liveEnergy_36 : decode cX9_liveEnergy 36 = .ok (.iconst 1, 1) := by decide +kernel
theorem dX9_liveEnergy_37 : decode cX9_liveEnergy 37 = .ok (.isub, 1) := by decide +kernel
theorem dX9_liveEnergy_38 : decode cX9_liveEnergy 38 = .ok (.iaload, 1) := by decide +kernel
theorem dX9_liveEnergy_39 : decode cX9_liveEnergy 39 = .ok (.isub, 1) := by decide +kernel
theorem dX9_liveEnergy_40 : decode cX9_liveEnergy 40 = .ok (.istore_n 3, 1) := by decide +kernel
theorem dX9_liveEnergy_41 : decode cX9_liveEnergy 41 = .ok (.iload_n 2, 1) := by decide +kernel
theorem dX9_liveEnergy_42 : decode cX9_liveEnergy 42 = .ok (.ifCond .ne 16, 3) := by decide +kernel
theorem dX9_liveEnergy_45 : decode cX9_liveEnergy 45 = .ok (.iload_n 1, 1) := by decide +kernel
theorem dX9_liveEnergy_46 : decode cX9_liveEnergy 46 = .ok (.aload_n 0, 1) := by decide +kernel
theorem dX9_liveEnergy_47 : decode cX9_liveEnergy 47 = .ok (.getfield 7, 3) := by decide +kernel
theorem dX9_liveEnergy_50 : decode cX9_liveEnergy 50 = .ok (.bipush 99, 2) := by decide +kernel
theorem dX9_liveEnergy_52 : decode cX9_liveEnergy 52 = .ok (.iaload, 1) := by decide +kernel
theorem dX9_liveEnergy_53 : decode cX9_liveEnergy 53 = .ok (.iadd, 1) := by decide +kernel
theorem dX9_liveEnergy_54 : decode cX9_liveEnergy 54 = .ok (.istore_n 1, 1) := by decide +kernel
theorem dX9_liveEnergy_55 : decode cX9_liveEnergy 55 = .ok (.goto 46, 3) := by decide +kernel
theorem dX9_liveEnergy_58 : decode cX9_liveEnergy 58 = .ok (.iload_n 1, 1) := by decide +kernel
theorem dX9_liveEnergy_59 : decode cX9_liveEnergy 59 = .ok (.iload_n 3, 1) := by decide +kernel
theorem dX9_liveEnergy_60 : decode cX9_liveEnergy 60 = .ok (.aload_n 0, 1) := by decide +kernel
theorem dX9_liveEnergy_61 : decode cX9_liveEnergy 61 = .ok (.invokevirtual 145, 3) := by decide +kernel
theorem dX9_liveEnergy_64 : decode cX9_liveEnergy 64 = .ok (.if_icmp .gt 15, 3) := by decide +kernel
theorem dX9_liveEnergy_67 : decode cX9_liveEnergy 67 = .ok (.aload_n 0, 1) := by decide +kernel
theorem dX9_liveEnergy_68 : decode cX9_liveEnergy 68 = .ok (.getfield 7, 3) := by decide +kernel
theorem dX9_liveEnergy_71 : decode cX9_liveEnergy 71 = .ok (.bipush 100, 2) := by decide +kernel
theorem dX9_liveEnergy_73 : decode cX9_liveEnergy 73 = .ok (.iaload, 1) := by decide +kernel
theorem dX9_liveEnergy_74 : decode cX9_liveEnergy 74 = .ok (.iload_n 3, 1) := by decide +kernel
theorem dX9_liveEnergy_75 : decode cX9_liveEnergy 75 = .ok (.imul, 1) := by decide +kernel
theorem dX9_liveEnergy_76 : decode cX9_liveEnergy 76 = .ok (.goto 23, 3) := by decide +kernel
theorem dX9_liveEnergy_79 : decode cX9_liveEnergy 79 = .ok (.aload_n 0, 1) := by decide +kernel
theorem dX9_liveEnergy_80 : decode cX9_liveEnergy 80 = .ok (.getfield 7, 3) := by decide +kernel
theorem dX9_liveEnergy_83 : decode cX9_liveEnergy 83 = .ok (.bipush 100, 2) := by decide +kernel
theorem dX9_liveEnergy_85 : decode cX9_liveEnergy 85 = .ok (.iaload, 1) := by decide +kernel
theorem dX9_liveEnergy_86 : decode cX9_liveEnergy 86 = .ok (.aload_n 0, 1) := by decide +kernel
theorem dX9_liveEnergy_87 : decode cX9_liveEnergy 87 = .ok (.invokevirtual 145, 3) := by decide +kernel
theorem dX9_liveEnergy_90 : decode cX9_liveEnergy 90 = .ok (.imul, 1) := by decide +kernel
theorem dX9_liveEnergy_91 : decode cX9_liveEnergy 91 = .ok (.aload_n 0, 1) := by decide +kernel
theorem dX9_liveEnergy_92 : decode cX9_liveEnergy 92 = .ok (.getfield 7, 3) := by decide +kernel
theorem dX9_liveEnergy_95 : decode cX9_liveEnergy 95 = .ok (.bipush 99, 2) := by decide +kernel
theorem dX9_liveEnergy_97 : decode cX9_liveEnergy 97 = .ok (.iaload, 1) := by decide +kernel
theorem dX9_liveEnergy_98 : decode cX9_liveEnergy 98 = .ok (.iadd, 1) := by decide +kernel
theorem dX9_liveEnergy_99 : decode cX9_liveEnergy 99 = .ok (.iadd, 1) := by decide +kernel
theorem dX9_liveEnergy_100 : decode cX9_liveEnergy 100 = .ok (.istore_n 1, 1) := by decide +kernel
theorem dX9_liveEnergy_101 : decode cX9_liveEnergy 101 = .ok (.iinc 2 1, 3) := by decide +kernel
theorem dX9_liveEnergy_104 : decode cX9_liveEnergy 104 = .ok (.goto (-100), 3) := by decide +kernel
theorem dX9_liveEnergy_107 : decode cX9_liveEnergy 107 = .ok (.aload_n 0, 1) := by decide +kernel
theorem dX9_liveEnergy_108 : decode cX9_liveEnergy 108 = .ok (.getfield 105, 3) := by decide +kernel
theorem dX9_liveEnergy_111 : decode cX9_liveEnergy 111 = .ok (.ifCond .ne 5, 3) := by decide +kernel
theorem dX9_liveEnergy_114 : decode cX9_liveEnergy 114 = .ok (.iconst 0, 1) := by decide +kernel
theorem dX9_liveEnergy_115 : decode cX9_liveEnergy 115 = .ok (.ireturn, 1) := by decide +kernel
theorem dX9_liveEnergy_116 : decode cX9_liveEnergy 116 = .ok (.aload_n 0, 1) := by decide +kernel
theorem dX9_liveEnergy_117 : decode cX9_liveEnergy 117 = .ok (.getfield 7, 3) := by decide +kernel
theorem dX9_liveEnergy_120 : decode cX9_liveEnergy 120 = .ok (.bipush 98, 2) := by decide +kernel
theorem dX9_liveEnergy_122 : decode cX9_liveEnergy 122 = .ok (.iaload, 1) := by decide +kernel
theorem dX9_liveEnergy_123 : decode cX9_liveEnergy 123 = .ok (.aload_n 0, 1) := by decide +kernel
theorem dX9_liveEnergy_124 : decode cX9_liveEnergy 124 = .ok (.getfield 36, 3) := by decide +kernel
theorem dX9_liveEnergy_127 : decode cX9_liveEnergy 127 = .ok (.aload_n 0, 1) := by decide +kernel
theorem dX9_liveEnergy_128 : decode cX9_liveEnergy 128 = .ok (.getfield 105, 3) := by decide +kernel
theorem dX9_liveEnergy_131 : decode cX9_liveEnergy 131 = .ok (.iconst 1, 1) := by decide +kernel
theorem dX9_liveEnergy_132 : decode cX9_liveEnergy 132 = .ok (.isub, 1) := by decide +kernel
theorem dX9_liveEnergy_133 : decode cX9_liveEnergy 133 = .ok (.iaload, 1) := by decide +kernel
theorem dX9_liveEnergy_134 : decode cX9_liveEnergy 134 = .ok (.isub, 1) := by decide +kernel
theorem dX9_liveEnergy_135 : decode cX9_liveEnergy 135 = .ok (.istore_n 2, 1) := by decide +kernel
theorem dX9_liveEnergy_136 : decode cX9_liveEnergy 136 = .ok (.iload_n 1, 1) := by decide +kernel
theorem dX9_liveEnergy_137 : decode cX9_liveEnergy 137 = .ok (.aload_n 0, 1) := by decide +kernel
theorem dX9_liveEnergy_138 : decode cX9_liveEnergy 138 = .ok (.getfield 7, 3) := by decide +kernel
theorem dX9_liveEnergy_141 : decode cX9_liveEnergy 141 = .ok (.bipush 100, 2) := by decide +kernel
theorem dX9_liveEnergy_143 : decode cX9_liveEnergy 143 = .ok (.iaload, 1) := by decide +kernel
theorem dX9_liveEnergy_144 : decode cX9_liveEnergy 144 = .ok (.iload_n 2, 1) := by decide +kernel
theorem dX9_liveEnergy_145 : decode cX9_liveEnergy 145 = .ok (.aload_n 0, 1) := by decide +kernel
theorem dX9_liveEnergy_146 : decode cX9_liveEnergy 146 = .ok (.invokevirtual 145, 3) := by decide +kernel
theorem dX9_liveEnergy_149 : decode cX9_liveEnergy 149 = .ok (.if_icmp .ge 7, 3) := by decide +kernel
theorem dX9_liveEnergy_152 : decode cX9_liveEnergy 152 = .ok (.iload_n 2, 1) := by decide +kernel
theorem dX9_liveEnergy_153 : decode cX9_liveEnergy 153 = .ok (.goto 7, 3) := by decide +kernel
theorem dX9_liveEnergy_156 : decode cX9_liveEnergy 156 = .ok (.aload_n 0, 1) := by decide +kernel
theorem dX9_liveEnergy_157 : decode cX9_liveEnergy 157 = .ok (.invokevirtual 145, 3) := by decide +kernel
theorem dX9_liveEnergy_160 : decode cX9_liveEnergy 160 = .ok (.imul, 1) := by decide +kernel
theorem dX9_liveEnergy_161 : decode cX9_liveEnergy 161 = .ok (.iadd, 1) := by decide +kernel
theorem dX9_liveEnergy_162 : decode cX9_liveEnergy 162 = .ok (.ireturn, 1) := by decide +kernel
theorem dX9_mostAnswered_0 : decode cX9_mostAnswered 0 = .ok (.iconst 0, 1) := by decide +kernel
theorem dX9_mostAnswered_1 : decode cX9_mostAnswered 1 = .ok (.istore_n 1, 1) := by decide +kernel
theorem dX9_mostAnswered_2 : decode cX9_mostAnswered 2 = .ok (.iconst 0, 1) := by decide +kernel
theorem dX9_mostAnswered_3 : decode cX9_mostAnswered 3 = .ok (.istore_n 2, 1) := by decide +kernel
theorem dX9_mostAnswered_4 : decode cX9_mostAnswered 4 = .ok (.iload_n 2, 1) := by decide +kernel
theorem dX9_mostAnswered_5 : decode cX9_mostAnswered 5 = .ok (.aload_n 0, 1) := by decide +kernel
theorem dX9_mostAnswered_6 : decode cX9_mostAnswered 6 = .ok (.getfield 105, 3) := by decide +kernel
theorem dX9_mostAnswered_9 : decode cX9_mostAnswered 9 = .ok (.if_icmp .ge 68, 3) := by decide +kernel
theorem dX9_mostAnswered_12 : decode cX9_mostAnswered 12 = .ok (.iconst 0, 1) := by decide +kernel
theorem dX9_mostAnswered_13 : decode cX9_mostAnswered 13 = .ok (.istore_n 3, 1) := by decide +kernel
theorem dX9_mostAnswered_14 : decode cX9_mostAnswered 14 = .ok (.iconst 0, 1) := by decide +kernel
theorem dX9_mostAnswered_15 : decode cX9_mostAnswered 15 = .ok (.istore 4, 2) := by decide +kernel
theorem dX9_mostAnswered_17 : decode cX9_mostAnswered 17 = .ok (.iload 4, 2) := by decide +kernel
theorem dX9_mostAnswered_19 : decode cX9_mostAnswered 19 = .ok (.aload_n 0, 1) := by decide +kernel
theorem dX9_mostAnswered_20 : decode cX9_mostAnswered 20 = .ok (.getfield 85, 3) := by decide +kernel
theorem dX9_mostAnswered_23 : decode cX9_mostAnswered 23 = .ok (.if_icmp .ge 37, 3) := by decide +kernel
theorem dX9_mostAnswered_26 : decode cX9_mostAnswered 26 = .ok (.iload_n 3, 1) := by decide +kernel
theorem dX9_mostAnswered_27 : decode cX9_mostAnswered 27 = .ok (.aload_n 0, 1) := by decide +kernel
theorem dX9_mostAnswered_28 : decode cX9_mostAnswered 28 = .ok (.aload_n 0, 1) := by decide +kernel
theorem dX9_mostAnswered_29 : decode cX9_mostAnswered 29 = .ok (.getfield 24, 3) := by decide +kernel
theorem dX9_mostAnswered_32 : decode cX9_mostAnswered 32 = .ok (.iload 4, 2) := by decide +kernel
theorem dX9_mostAnswered_34 : decode cX9_mostAnswered 34 = .ok (.iaload, 1) := by decide +kernel
theorem dX9_mostAnswered_35 : decode cX9_mostAnswered 35 = .ok (.invokevirtual 142, 3) := by decide +kernel
theorem dX9_mostAnswered_38 : decode cX9_mostAnswered 38 = .ok (.aload_n 0, 1) := by decide +kernel
theorem dX9_mostAnswered_39 : decode cX9_mostAnswered 39 = .ok (.getfield 36, 3) := by decide +kernel
theorem dX9_mostAnswered_42 : decode cX9_mostAnswered 42 = .ok (.iload_n 2, 1) := by decide +kernel
theorem dX9_mostAnswered_43 : decode cX9_mostAnswered 43 = .ok (.iaload, 1) := by decide +kernel
theorem dX9_mostAnswered_44 : decode cX9_mostAnswered 44 = .ok (.if_icmp .ne 7, 3) := by decide +kernel
theorem dX9_mostAnswered_47 : decode cX9_mostAnswered 47 = .ok (.iconst 1, 1) := by decide +kernel
theorem dX9_mostAnswered_48 : decode cX9_mostAnswered 48 = .ok (.goto 4, 3) := by decide +kernel
theorem dX9_mostAnswered_51 : decode cX9_mostAnswered 51 = .ok (.iconst 0, 1) := by decide +kernel
theorem dX9_mostAnswered_52 : decode cX9_mostAnswered 52 = .ok (.iadd, 1) := by decide +kernel
theorem dX9_mostAnswered_53 : decode cX9_mostAnswered 53 = .ok (.istore_n 3, 1) := by decide +kernel
theorem dX9_mostAnswered_54 : decode cX9_mostAnswered 54 = .ok (.iinc 4 1, 3) := by decide +kernel
theorem dX9_mostAnswered_57 : decode cX9_mostAnswered 57 = .ok (.goto (-40), 3) := by decide +kernel
theorem dX9_mostAnswered_60 : decode cX9_mostAnswered 60 = .ok (.iload_n 3, 1) := by decide +kernel
theorem dX9_mostAnswered_61 : decode cX9_mostAnswered 61 = .ok (.iload_n 1, 1) := by decide +kernel
theorem dX9_mostAnswered_62 : decode cX9_mostAnswered 62 = .ok (.if_icmp .le 7, 3) := by decide +kernel
theorem dX9_mostAnswered_65 : decode cX9_mostAnswered 65 = .ok (.iload_n 3, 1) := by decide +kernel
theorem dX9_mostAnswered_66 : decode cX9_mostAnswered 66 = .ok (.goto 4, 3) := by decide +kernel
theorem dX9_mostAnswered_69 : decode cX9_mostAnswered 69 = .ok (.iload_n 1, 1) := by decide +kernel
theorem dX9_mostAnswered_70 : decode cX9_mostAnswered 70 = .ok (.istore_n 1, 1) := by decide +kernel
theorem dX9_mostAnswered_71 : decode cX9_mostAnswered 71 = .ok (.iinc 2 1, 3) := by decide +kernel
theorem dX9_mostAnswered_74 : decode cX9_mostAnswered 74 = .ok (.goto (-70), 3) := by decide +kernel
theorem dX9_mostAnswered_77 : decode cX9_mostAnswered 77 = .ok (.iload_n 1, 1) := by decide +kernel
theorem dX9_mostAnswered_78 : decode cX9_mostAnswered 78 = .ok (.ireturn, 1) := by decide +kernel
theorem dX9_longestWait_0 : decode cX9_longestWait 0 = .ok (.iconst 0, 1) := by decide +kernel
theorem dX9_longestWait_1 : decode cX9_longestWait 1 = .ok (.istore_n 1, 1) := by decide +kernel
theorem dX9_longestWait_2 : decode cX9_longestWait 2 = .ok (.iconst 0, 1) := by decide +kernel
theorem dX9_longestWait_3 : decode cX9_longestWait 3 = .ok (.istore_n 2, 1) := by decide +kernel
theorem dX9_longestWait_4 : decode cX9_longestWait 4 = .ok (.iload_n 2, 1) := by decide +kernel
theorem dX9_longestWait_5 : decode cX9_longestWait 5 = .ok (.aload_n 0, 1) := by decide +kernel
theorem dX9_longestWait_6 : decode cX9_longestWait 6 = .ok (.getfield 85, 3) := by decide +kernel
theorem dX9_longestWait_9 : decode cX9_longestWait 9 = .ok (.if_icmp .ge 52, 3) := by decide +kernel
theorem dX9_longestWait_12 : decode cX9_longestWait 12 = .ok (.aload_n 0, 1) := by decide +kernel
theorem dX9_longestWait_13 : decode cX9_longestWait 13 = .ok (.aload_n 0, 1) := by decide +kernel
theorem dX9_longestWait_14 : decode cX9_longestWait 14 = .ok (.getfield 24, 3) := by decide +kernel
theorem dX9_longestWait_17 : decode cX9_longestWait 17 = .ok (.iload_n 2, 1) := by decide +kernel
theorem dX9_longestWait_18 : decode cX9_longestWait 18 = .ok (.iaload, 1) := by decide +kernel
theorem dX9_longestWait_19 : decode cX9_longestWait 19 = .ok (.invokevirtual 142, 3) := by decide +kernel
theorem dX9_longestWait_22 : decode cX9_longestWait 22 = .ok (.aload_n 0, 1) := by decide +kernel
theorem dX9_longestWait_23 : decode cX9_longestWait 23 = .ok (.getfield 24, 3) := by decide +kernel
theorem dX9_longestWait_26 : decode cX9_longestWait 26 = .ok (.iload_n 2, 1) := by decide +kernel
theorem dX9_longestWait_27 : decode cX9_longestWait 27 = .ok (.iaload, 1) := by decide +kernel
theorem dX9_longestWait_28 : decode cX9_longestWait 28 = .ok (.isub, 1) := by decide +kernel
theorem dX9_longestWait_29 : decode cX9_longestWait 29 = .ok (.iload_n 1, 1) := by decide +kernel
theorem dX9_longestWait_30 : decode cX9_longestWait 30 = .ok (.if_icmp .le 23, 3) := by decide +kernel
theorem dX9_longestWait_33 : decode cX9_longestWait 33 = .ok (.aload_n 0, 1) := by decide +kernel
theorem dX9_longestWait_34 : decode cX9_longestWait 34 = .ok (.aload_n 0, 1) := by decide +kernel
theorem dX9_longestWait_35 : decode cX9_longestWait 35 = .ok (.getfield 24, 3) := by decide +kernel
theorem dX9_longestWait_38 : decode cX9_longestWait 38 = .ok (.iload_n 2, 1) := by decide +kernel
theorem dX9_longestWait_39 : decode cX9_longestWait 39 = .ok (.iaload, 1) := by decide +kernel
theorem dX9_longestWait_40 : decode cX9_longestWait 40 = .ok (.invokevirtual 142, 3) := by decide +kernel
theorem dX9_longestWait_43 : decode cX9_longestWait 43 = .ok (.aload_n 0, 1) := by decide +kernel
theorem dX9_longestWait_44 : decode cX9_longestWait 44 = .ok (.getfield 24, 3) := by decide +kernel
theorem dX9_longestWait_47 : decode cX9_longestWait 47 = .ok (.iload_n 2, 1) := by decide +kernel
theorem dX9_longestWait_48 : decode cX9_longestWait 48 = .ok (.iaload, 1) := by decide +kernel
theorem dX9_longestWait_49 : decode cX9_longestWait 49 = .ok (.isub, 1) := by decide +kernel
theorem dX9_longestWait_50 : decode cX9_longestWait 50 = .ok (.goto 4, 3) := by decide +kernel
theorem dX9_longestWait_53 : decode cX9_longestWait 53 = .ok (.iload_n 1, 1) := by decide +kernel
theorem dX9_longestWait_54 : decode cX9_longestWait 54 = .ok (.istore_n 1, 1) := by decide +kernel
theorem dX9_longestWait_55 : decode cX9_longestWait 55 = .ok (.iinc 2 1, 3) := by decide +kernel
theorem dX9_longestWait_58 : decode cX9_longestWait 58 = .ok (.goto (-54), 3) := by decide +kernel
theorem dX9_longestWait_61 : decode cX9_longestWait 61 = .ok (.iload_n 1, 1) := by decide +kernel
theorem dX9_longestWait_62 : decode cX9_longestWait 62 = .ok (.ireturn, 1) := by decide +kernel
theorem dX9_comes_0 : decode cX9_comes 0 = .ok (.aload_n 0, 1) := by decide +kernel
theorem dX9_comes_1 : decode cX9_comes 1 = .ok (.getfield 48, 3) := by decide +kernel
theorem dX9_comes_4 : decode cX9_comes 4 = .ok (.aload_n 0, 1) := by decide +kernel
theorem dX9_comes_5 : decode cX9_comes 5 = .ok (.getfield 148, 3) := by decide +kernel
theorem dX9_comes_8 : decode cX9_comes 8 = .ok (.aload_n 0, 1) := by decide +kernel
theorem dX9_comes_9 : decode cX9_comes 9 = .ok (.getfield 151, 3) := by decide +kernel
theorem dX9_comes_12 : decode cX9_comes 12 = .ok (.iastore, 1) := by decide +kernel
theorem dX9_comes_13 : decode cX9_comes 13 = .ok (.aload_n 0, 1) := by decide +kernel
theorem dX9_comes_14 : decode cX9_comes 14 = .ok (.getfield 51, 3) := by decide +kernel
theorem dX9_comes_17 : decode cX9_comes 17 = .ok (.aload_n 0, 1) := by decide +kernel
theorem dX9_comes_18 : decode cX9_comes 18 = .ok (.getfield 148, 3) := by decide +kernel
theorem dX9_comes_21 : decode cX9_comes 21 = .ok (.aload_n 0, 1) := by decide +kernel
theorem dX9_comes_22 : decode cX9_comes 22 = .ok (.aload_n 0, 1) := by decide +kernel
theorem dX9_comes_23 : decode cX9_comes 23 = .ok (.getfield 151, 3) := by decide +kernel
theorem dX9_comes_26 : decode cX9_comes 26 = .ok (.aload_n 0, 1) := by decide +kernel
theorem dX9_comes_27 : decode cX9_comes 27 = .ok (.iload_n 1, 1) := by decide +kernel
theorem dX9_comes_28 : decode cX9_comes 28 = .ok (.invokevirtual 95, 3) := by decide +kernel
theorem dX9_comes_31 : decode cX9_comes 31 = .ok (.iadd, 1) := by decide +kernel
theorem dX9_comes_32 : decode cX9_comes 32 = .ok (.invokevirtual 99, 3) := by decide +kernel
theorem dX9_comes_35 : decode cX9_comes 35 = .ok (.iastore, 1) := by decide +kernel
theorem dX9_comes_36 : decode cX9_comes 36 = .ok (.aload_n 0, 1) := by decide +kernel
theorem dX9_comes_37 : decode cX9_comes 37 = .ok (.getfield 54, 3) := by decide +kernel
theorem dX9_comes_40 : decode cX9_comes 40 = .ok (.aload_n 0, 1) := by decide +kernel
theorem dX9_comes_41 : decode cX9_comes 41 = .ok (.getfield 148, 3) := by decide +kernel
theorem dX9_comes_44 : decode cX9_comes 44 = .ok (.aload_n 0, 1) := by decide +kernel
theorem dX9_comes_45 : decode cX9_comes 45 = .ok (.iload_n 1, 1) := by decide +kernel
theorem dX9_comes_46 : decode cX9_comes 46 = .ok (.invokevirtual 102, 3) := by decide +kernel
theorem dX9_comes_49 : decode cX9_comes 49 = .ok (.iastore, 1) := by decide +kernel
theorem dX9_comes_50 : decode cX9_comes 50 = .ok (.aload_n 0, 1) := by decide +kernel
theorem dX9_comes_51 : decode cX9_comes 51 = .ok (.getfield 57, 3) := by decide +kernel
theorem dX9_comes_54 : decode cX9_comes 54 = .ok (.aload_n 0, 1) := by decide +kernel
theorem dX9_comes_55 : decode cX9_comes 55 = .ok (.getfield 148, 3) := by decide +kernel
theorem dX9_comes_58 : decode cX9_comes 58 = .ok (.aload_n 0, 1) := by decide +kernel
theorem dX9_comes_59 : decode cX9_comes 59 = .ok (.getfield 154, 3) := by decide +kernel
theorem dX9_comes_62 : decode cX9_comes 62 = .ok (.aload_n 0, 1) := by decide +kernel
theorem dX9_comes_63 : decode cX9_comes 63 = .ok (.getfield 151, 3) := by decide +kernel
theorem dX9_comes_66 : decode cX9_comes 66 = .ok (.if_icmp .ne 10, 3) := by decide +kernel
theorem dX9_comes_69 : decode cX9_comes 69 = .ok (.aload_n 0, 1) := by decide +kernel
theorem dX9_comes_70 : decode cX9_comes 70 = .ok (.getfield 151, 3) := by decide +kernel
theorem dX9_comes_73 : decode cX9_comes 73 = .ok (.goto 4, 3) := by decide +kernel
theorem dX9_comes_76 : decode cX9_comes 76 = .ok (.iconst (-1), 1) := by decide +kernel
theorem dX9_comes_77 : decode cX9_comes 77 = .ok (.iastore, 1) := by decide +kernel
theorem dX9_comes_78 : decode cX9_comes 78 = .ok (.aload_n 0, 1) := by decide +kernel
theorem dX9_comes_79 : decode cX9_comes 79 = .ok (.dup, 1) := by decide +kernel
theorem dX9_comes_80 : decode cX9_comes 80 = .ok (.getfield 148, 3) := by decide +kernel
theorem dX9_comes_83 : decode cX9_comes 83 = .ok (.iconst 1, 1) := by decide +kernel
theorem dX9_comes_84 : decode cX9_comes 84 = .ok (.iadd, 1) := by decide +kernel
theorem dX9_comes_85 : decode cX9_comes 85 = .ok (.putfield 148, 3) := by decide +kernel
theorem dX9_comes_88 : decode cX9_comes 88 = .ok (.aload_n 0, 1) := by decide +kernel
theorem dX9_comes_89 : decode cX9_comes 89 = .ok (.getfield 51, 3) := by decide +kernel
theorem dX9_comes_92 : decode cX9_comes 92 = .ok (.aload_n 0, 1) := by decide +kernel
theorem dX9_comes_93 : decode cX9_comes 93 = .ok (.getfield 148, 3) := by decide +kernel
theorem dX9_comes_96 : decode cX9_comes 96 = .ok (.iconst 1, 1) := by decide +kernel
theorem dX9_comes_97 : decode cX9_comes 97 = .ok (.isub, 1) := by decide +kernel
theorem dX9_comes_98 : decode cX9_comes 98 = .ok (.iaload, 1) := by decide +kernel
theorem dX9_comes_99 : decode cX9_comes 99 = .ok (.ireturn, 1) := by decide +kernel
theorem dX9_callsNow_0 : decode cX9_callsNow 0 = .ok (.iconst (-1), 1) := by decide +kernel
theorem dX9_callsNow_1 : decode cX9_callsNow 1 = .ok (.istore_n 1, 1) := by decide +kernel
theorem dX9_callsNow_2 : decode cX9_callsNow 2 = .ok (.iconst 0, 1) := by decide +kernel
theorem dX9_callsNow_3 : decode cX9_callsNow 3 = .ok (.istore_n 2, 1) := by decide +kernel
theorem dX9_callsNow_4 : decode cX9_callsNow 4 = .ok (.iload_n 2, 1) := by decide +kernel
theorem dX9_callsNow_5 : decode cX9_callsNow 5 = .ok (.aload_n 0, 1) := by decide +kernel
theorem dX9_callsNow_6 : decode cX9_callsNow 6 = .ok (.invokevirtual 88, 3) := by decide +kernel
theorem dX9_callsNow_9 : decode cX9_callsNow 9 = .ok (.if_icmp .ge 49, 3) := by decide +kernel
theorem dX9_callsNow_12 : decode cX9_callsNow 12 = .ok (.aload_n 0, 1) := by decide +kernel
theorem dX9_callsNow_13 : decode cX9_callsNow 13 = .ok (.getfield 151, 3) := by decide +kernel
theorem dX9_callsNow_16 : decode cX9_callsNow 16 = .ok (.aload_n 0, 1) := by decide +kernel
theorem dX9_callsNow_17 : decode cX9_callsNow 17 = .ok (.getfield 7, 3) := by decide +kernel
theorem dX9_callsNow_20 : decode cX9_callsNow 20 = .ok (.bipush 98, 2) := by decide +kernel
theorem dX9_callsNow_22 : decode cX9_callsNow 22 = .ok (.iaload, 1) := by decide +kernel
theorem dX9_callsNow_23 : decode cX9_callsNow 23 = .ok (.if_icmp .gt 35, 3) := by decide +kernel
theorem dX9_callsNow_26 : decode cX9_callsNow 26 = .ok (.aload_n 0, 1) := by decide +kernel
theorem dX9_callsNow_27 : decode cX9_callsNow 27 = .ok (.iload_n 2, 1) := by decide +kernel
theorem dX9_callsNow_28 : decode cX9_callsNow 28 = .ok (.aload_n 0, 1) := by decide +kernel
theorem dX9_callsNow_29 : decode cX9_callsNow 29 = .ok (.getfield 151, 3) := by decide +kernel
theorem dX9_callsNow_32 : decode cX9_callsNow 32 = .ok (.invokevirtual 91, 3) := by decide +kernel
theorem dX9_callsNow_35 : decode cX9_callsNow 35 = .ok (.ifCond .eq 17, 3) := by decide +kernel
theorem dX9_callsNow_38 : decode cX9_callsNow 38 = .ok (.aload_n 0, 1) := by decide +kernel
theorem dX9_callsNow_39 : decode cX9_callsNow 39 = .ok (.aload_n 0, 1) := by decide +kernel
theorem dX9_callsNow_40 : decode cX9_callsNow 40 = .ok (.getfield 7, 3) := by decide +kernel
theorem dX9_callsNow_43 : decode cX9_callsNow 43 = .ok (.bipush 24, 2) := by decide +kernel
theorem dX9_callsNow_45 : decode cX9_callsNow 45 = .ok (.iload_n 2, 1) := by decide +kernel
theorem dX9_callsNow_46 : decode cX9_callsNow 46 = .ok (.iadd, 1) := by decide +kernel
theorem dX9_callsNow_47 : decode cX9_callsNow 47 = .ok (.iaload, 1) := by decide +kernel
theorem dX9_callsNow_48 : decode cX9_callsNow 48 = .ok (.invokevirtual 157, 3) := by decide +kernel
theorem dX9_callsNow_51 : decode cX9_callsNow 51 = .ok (.istore_n 1, 1) := by decide +kernel
theorem dX9_callsNow_52 : decode cX9_callsNow 52 = .ok (.iinc 2 1, 3) := by decide +kernel
theorem dX9_callsNow_55 : decode cX9_callsNow 55 = .ok (.goto (-51), 3) := by decide +kernel
theorem dX9_callsNow_58 : decode cX9_callsNow 58 = .ok (.return_, 1) := by decide +kernel
theorem dX9_begins_0 : decode cX9_begins 0 = .ok (.aload_n 0, 1) := by decide +kernel
theorem dX9_begins_1 : decode cX9_begins 1 = .ok (.iconst 0, 1) := by decide +kernel
theorem dX9_begins_2 : decode cX9_begins 2 = .ok (.putfield 148, 3) := by decide +kernel
theorem dX9_begins_5 : decode cX9_begins 5 = .ok (.aload_n 0, 1) := by decide +kernel
theorem dX9_begins_6 : decode cX9_begins 6 = .ok (.iconst 0, 1) := by decide +kernel
theorem dX9_begins_7 : decode cX9_begins 7 = .ok (.putfield 160, 3) := by decide +kernel
theorem dX9_begins_10 : decode cX9_begins 10 = .ok (.aload_n 0, 1) := by decide +kernel
theorem dX9_begins_11 : decode cX9_begins 11 = .ok (.iconst (-1), 1) := by decide +kernel
theorem dX9_begins_12 : decode cX9_begins 12 = .ok (.putfield 154, 3) := by decide +kernel
theorem dX9_begins_15 : decode cX9_begins 15 = .ok (.aload_n 0, 1) := by decide +kernel
theorem dX9_begins_16 : decode cX9_begins 16 = .ok (.iconst 0, 1) := by decide +kernel
theorem dX9_begins_17 : decode cX9_begins 17 = .ok (.putfield 151, 3) := by decide +kernel
theorem dX9_begins_20 : decode cX9_begins 20 = .ok (.aload_n 0, 1) := by decide +kernel
theorem dX9_begins_21 : decode cX9_begins 21 = .ok (.iconst 2, 1) := by decide +kernel
theorem dX9_begins_22 : decode cX9_begins 22 = .ok (.putfield 163, 3) := by decide +kernel
theorem dX9_begins_25 : decode cX9_begins 25 = .ok (.aload_n 0, 1) := by decide +kernel
theorem dX9_begins_26 : decode cX9_begins 26 = .ok (.iconst 0, 1) := by decide +kernel
theorem dX9_begins_27 : decode cX9_begins 27 = .ok (.putfield 166, 3) := by decide +kernel
theorem dX9_begins_30 : decode cX9_begins 30 = .ok (.aload_n 0, 1) := by decide +kernel
theorem dX9_begins_31 : decode cX9_begins 31 = .ok (.invokevirtual 169, 3) := by decide +kernel
theorem dX9_begins_34 : decode cX9_begins 34 = .ok (.return_, 1) := by decide +kernel
theorem dX9_left_0 : decode cX9_left 0 = .ok (.iconst 0, 1) := by decide +kernel
theorem dX9_left_1 : decode cX9_left 1 = .ok (.istore_n 1, 1) := by decide +kernel
theorem dX9_left_2 : decode cX9_left 2 = .ok (.iconst 0, 1) := by decide +kernel
theorem dX9_left_3 : decode cX9_left 3 = .ok (.istore_n 2, 1) := by decide +kernel
theorem dX9_left_4 : decode cX9_left 4 = .ok (.iload_n 2, 1) := by decide +kernel
theorem dX9_left_5 : decode cX9_left 5 = .ok (.aload_n 0, 1) := by decide +kernel
theorem dX9_left_6 : decode cX9_left 6 = .ok (.getfield 148, 3) := by decide +kernel
theorem dX9_left_9 : decode cX9_left 9 = .ok (.if_icmp .ge 27, 3) := by decide +kernel
theorem dX9_left_12 : decode cX9_left 12 = .ok (.iload_n 1, 1) := by decide +kernel
theorem dX9_left_13 : decode cX9_left 13 = .ok (.aload_n 0, 1) := by decide +kernel
theorem dX9_left_14 : decode cX9_left 14 = .ok (.getfield 57, 3) := by decide +kernel
theorem dX9_left_17 : decode cX9_left 17 = .ok (.iload_n 2, 1) := by decide +kernel
theorem dX9_left_18 : decode cX9_left 18 = .ok (.iaload, 1) := by decide +kernel
theorem dX9_left_19 : decode cX9_left 19 = .ok (.iconst (-1), 1) := by decide +kernel
theorem dX9_left_20 : decode cX9_left 20 = .ok (.if_icmp .ne 7, 3) := by decide +kernel
theorem dX9_left_23 : decode cX9_left 23 = .ok (.iconst 1, 1) := by decide +kernel
theorem dX9_left_24 : decode cX9_left 24 = .ok (.goto 4, 3) := by decide +kernel
theorem dX9_left_27 : decode cX9_left 27 = .ok (.iconst 0, 1) := by decide +kernel
theorem dX9_left_28 : decode cX9_left 28 = .ok (.iadd, 1) := by decide +kernel
theorem dX9_left_29 : decode cX9_left 29 = .ok (.istore_n 1, 1) := by decide +kernel
theorem dX9_left_30 : decode cX9_left 30 = .ok (.iinc 2 1, 3) := by decide +kernel
theorem dX9_left_33 : decode cX9_left 33 = .ok (.goto (-29), 3) := by decide +kernel
theorem dX9_left_36 : decode cX9_left 36 = .ok (.iload_n 1, 1) := by decide +kernel
theorem dX9_left_37 : decode cX9_left 37 = .ok (.ireturn, 1) := by decide +kernel
theorem dX9_leftWaits_0 : decode cX9_leftWaits 0 = .ok (.iconst 0, 1) := by decide +kernel
theorem dX9_leftWaits_1 : decode cX9_leftWaits 1 = .ok (.istore_n 2, 1) := by decide +kernel
theorem dX9_leftWaits_2 : decode cX9_leftWaits 2 = .ok (.iconst 0, 1) := by decide +kernel
theorem dX9_leftWaits_3 : decode cX9_leftWaits 3 = .ok (.istore_n 3, 1) := by decide +kernel
theorem dX9_leftWaits_4 : decode cX9_leftWaits 4 = .ok (.iload_n 3, 1) := by decide +kernel
theorem dX9_leftWaits_5 : decode cX9_leftWaits 5 = .ok (.aload_n 0, 1) := by decide +kernel
theorem dX9_leftWaits_6 : decode cX9_leftWaits 6 = .ok (.getfield 148, 3) := by decide +kernel
theorem dX9_leftWaits_9 : decode cX9_leftWaits 9 = .ok (.if_icmp .ge 41, 3) := by decide +kernel
theorem dX9_leftWaits_12 : decode cX9_leftWaits 12 = .ok (.iload_n 2, 1) := by decide +kernel
theorem dX9_leftWaits_13 : decode cX9_leftWaits 13 = .ok (.aload_n 0, 1) := by decide +kernel
theorem dX9_leftWaits_14 : decode cX9_leftWaits 14 = .ok (.getfield 57, 3) := by decide +kernel
theorem dX9_leftWaits_17 : decode cX9_leftWaits 17 = .ok (.iload_n 3, 1) := by decide +kernel
theorem dX9_leftWaits_18 : decode cX9_leftWaits 18 = .ok (.iaload, 1) := by decide +kernel
theorem dX9_leftWaits_19 : decode cX9_leftWaits 19 = .ok (.iconst (-1), 1) := by decide +kernel
theorem dX9_leftWaits_20 : decode cX9_leftWaits 20 = .ok (.if_icmp .ne 21, 3) := by decide +kernel
theorem dX9_leftWaits_23 : decode cX9_leftWaits 23 = .ok (.aload_n 0, 1) := by decide +kernel
theorem dX9_leftWaits_24 : decode cX9_leftWaits 24 = .ok (.getfield 54, 3) := by decide +kernel
theorem dX9_leftWaits_27 : decode cX9_leftWaits 27 = .ok (.iload_n 3, 1) := by decide +kernel
theorem dX9_leftWaits_28 : decode cX9_leftWaits 28 = .ok (.iaload, 1) := by decide +kernel
theorem dX9_leftWaits_29 : decode cX9_leftWaits 29 = .ok (.iload_n 1, 1) := by decide +kernel
theorem dX9_leftWaits_30 : decode cX9_leftWaits 30 = .ok (.aload_n 0, 1) := by decide +kernel
theorem dX9_leftWaits_31 : decode cX9_leftWaits 31 = .ok (.getfield 48, 3) := by decide +kernel
theorem dX9_leftWaits_34 : decode cX9_leftWaits 34 = .ok (.iload_n 3, 1) := by decide +kernel
theorem dX9_leftWaits_35 : decode cX9_leftWaits 35 = .ok (.iaload, 1) := by decide +kernel
theorem dX9_leftWaits_36 : decode cX9_leftWaits 36 = .ok (.isub, 1) := by decide +kernel
theorem dX9_leftWaits_37 : decode cX9_leftWaits 37 = .ok (.imul, 1) := by decide +kernel
theorem dX9_leftWaits_38 : decode cX9_leftWaits 38 = .ok (.goto 4, 3) := by decide +kernel
theorem dX9_leftWaits_41 : decode cX9_leftWaits 41 = .ok (.iconst 0, 1) := by decide +kernel
theorem dX9_leftWaits_42 : decode cX9_leftWaits 42 = .ok (.iadd, 1) := by decide +kernel
theorem dX9_leftWaits_43 : decode cX9_leftWaits 43 = .ok (.istore_n 2, 1) := by decide +kernel
theorem dX9_leftWaits_44 : decode cX9_leftWaits 44 = .ok (.iinc 3 1, 3) := by decide +kernel
theorem dX9_leftWaits_47 : decode cX9_leftWaits 47 = .ok (.goto (-43), 3) := by decide +kernel
theorem dX9_leftWaits_50 : decode cX9_leftWaits 50 = .ok (.iload_n 2, 1) := by decide +kernel
theorem dX9_leftWaits_51 : decode cX9_leftWaits 51 = .ok (.ireturn, 1) := by decide +kernel
theorem dX9_leftLatest_0 : decode cX9_leftLatest 0 = .ok (.iconst (-1), 1) := by decide +kernel
theorem dX9_leftLatest_1 : decode cX9_leftLatest 1 = .ok (.istore_n 1, 1) := by decide +kernel
theorem dX9_leftLatest_2 : decode cX9_leftLatest 2 = .ok (.iconst 0, 1) := by decide +kernel
theorem dX9_leftLatest_3 : decode cX9_leftLatest 3 = .ok (.istore_n 2, 1) := by decide +kernel
theorem dX9_leftLatest_4 : decode cX9_leftLatest 4 = .ok (.iload_n 2, 1) := by decide +kernel
theorem dX9_leftLatest_5 : decode cX9_leftLatest 5 = .ok (.aload_n 0, 1) := by decide +kernel
theorem dX9_leftLatest_6 : decode cX9_leftLatest 6 = .ok (.getfield 148, 3) := by decide +kernel
theorem dX9_leftLatest_9 : decode cX9_leftLatest 9 = .ok (.if_icmp .ge 41, 3) := by decide +kernel
theorem dX9_leftLatest_12 : decode cX9_leftLatest 12 = .ok (.aload_n 0, 1) := by decide +kernel
theorem dX9_leftLatest_13 : decode cX9_leftLatest 13 = .ok (.getfield 57, 3) := by decide +kernel
theorem dX9_leftLatest_16 : decode cX9_leftLatest 16 = .ok (.iload_n 2, 1) := by decide +kernel
theorem dX9_leftLatest_17 : decode cX9_leftLatest 17 = .ok (.iaload, 1) := by decide +kernel
theorem dX9_leftLatest_18 : decode cX9_leftLatest 18 = .ok (.iconst (-1), 1) := by decide +kernel
theorem dX9_leftLatest_19 : decode cX9_leftLatest 19 = .ok (.if_icmp .ne 25, 3) := by decide +kernel
theorem dX9_leftLatest_22 : decode cX9_leftLatest 22 = .ok (.iload_n 1, 1) := by decide +kernel
theorem dX9_leftLatest_23 : decode cX9_leftLatest 23 = .ok (.iconst (-1), 1) := by decide +kernel
theorem dX9_leftLatest_24 : decode cX9_leftLatest 24 = .ok (.if_icmp .eq 13, 3) := by decide +kernel
theorem dX9_leftLatest_27 : decode cX9_leftLatest 27 = .ok (.aload_n 0, 1) := by decide +kernel
theorem dX9_leftLatest_28 : decode cX9_leftLatest 28 = .ok (.getfield 51, 3) := by decide +kernel
theorem dX9_leftLatest_31 : decode cX9_leftLatest 31 = .ok (.iload_n 2, 1) := by decide +kernel
theorem dX9_leftLatest_32 : decode cX9_leftLatest 32 = .ok (.iaload, 1) := by decide +kernel
theorem dX9_leftLatest_33 : decode cX9_leftLatest 33 = .ok (.iload_n 1, 1) := by decide +kernel
theorem dX9_leftLatest_34 : decode cX9_leftLatest 34 = .ok (.if_icmp .ge 10, 3) := by decide +kernel
theorem dX9_leftLatest_37 : decode cX9_leftLatest 37 = .ok (.aload_n 0, 1) := by decide +kernel
theorem dX9_leftLatest_38 : decode cX9_leftLatest 38 = .ok (.getfield 51, 3) := by decide +kernel
theorem dX9_leftLatest_41 : decode cX9_leftLatest 41 = .ok (.iload_n 2, 1) := by decide +kernel
theorem dX9_leftLatest_42 : decode cX9_leftLatest 42 = .ok (.iaload, 1) := by decide +kernel
theorem dX9_leftLatest_43 : decode cX9_leftLatest 43 = .ok (.istore_n 1, 1) := by decide +kernel
theorem dX9_leftLatest_44 : decode cX9_leftLatest 44 = .ok (.iinc 2 1, 3) := by decide +kernel
theorem dX9_leftLatest_47 : decode cX9_leftLatest 47 = .ok (.goto (-43), 3) := by decide +kernel
theorem dX9_leftLatest_50 : decode cX9_leftLatest 50 = .ok (.iload_n 1, 1) := by decide +kernel
theorem dX9_leftLatest_51 : decode cX9_leftLatest 51 = .ok (.ireturn, 1) := by decide +kernel
theorem dX9_handWakes_0 : decode cX9_handWakes 0 = .ok (.iconst 0, 1) := by decide +kernel
theorem dX9_handWakes_1 : decode cX9_handWakes 1 = .ok (.istore_n 1, 1) := by decide +kernel
theorem dX9_handWakes_2 : decode cX9_handWakes 2 = .ok (.iload_n 1, 1) := by decide +kernel
theorem dX9_handWakes_3 : decode cX9_handWakes 3 = .ok (.aload_n 0, 1) := by decide +kernel
theorem dX9_handWakes_4 : decode cX9_handWakes 4 = .ok (.getfield 148, 3) := by decide +kernel
theorem dX9_handWakes_7 : decode cX9_handWakes 7 = .ok (.if_icmp .ge 29, 3) := by decide +kernel
theorem dX9_handWakes_10 : decode cX9_handWakes 10 = .ok (.aload_n 0, 1) := by decide +kernel
theorem dX9_handWakes_11 : decode cX9_handWakes 11 = .ok (.getfield 57, 3) := by decide +kernel
theorem dX9_handWakes_14 : decode cX9_handWakes 14 = .ok (.iload_n 1, 1) := by decide +kernel
theorem dX9_handWakes_15 : decode cX9_handWakes 15 = .ok (.iaload, 1) := by decide +kernel
theorem dX9_handWakes_16 : decode cX9_handWakes 16 = .ok (.iconst (-1), 1) := by decide +kernel
theorem dX9_handWakes_17 : decode cX9_handWakes 17 = .ok (.if_icmp .ne 13, 3) := by decide +kernel
theorem dX9_handWakes_20 : decode cX9_handWakes 20 = .ok (.aload_n 0, 1) := by decide +kernel
theorem dX9_handWakes_21 : decode cX9_handWakes 21 = .ok (.getfield 57, 3) := by decide +kernel
theorem dX9_handWakes_24 : decode cX9_handWakes 24 = .ok (.iload_n 1, 1) := by decide +kernel
theorem dX9_handWakes_25 : decode cX9_handWakes 25 = .ok (.aload_n 0, 1) := by decide +kernel
theorem dX9_handWakes_26 : decode cX9_handWakes 26 = .ok (.getfield 151, 3) := by decide +kernel
theorem dX9_handWakes_29 : decode cX9_handWakes 29 = .ok (.iastore, 1) := by decide +kernel
theorem dX9_handWakes_30 : decode cX9_handWakes 30 = .ok (.iinc 1 1, 3) := by decide +kernel
theorem dX9_handWakes_33 : decode cX9_handWakes 33 = .ok (.goto (-31), 3) := by decide +kernel
theorem dX9_handWakes_36 : decode cX9_handWakes 36 = .ok (.aload_n 0, 1) := by decide +kernel
theorem dX9_handWakes_37 : decode cX9_handWakes 37 = .ok (.dup, 1) := by decide +kernel
theorem dX9_handWakes_38 : decode cX9_handWakes 38 = .ok (.getfield 160, 3) := by decide +kernel
theorem dX9_handWakes_41 : decode cX9_handWakes 41 = .ok (.iconst 1, 1) := by decide +kernel
theorem dX9_handWakes_42 : decode cX9_handWakes 42 = .ok (.iadd, 1) := by decide +kernel
theorem dX9_handWakes_43 : decode cX9_handWakes 43 = .ok (.putfield 160, 3) := by decide +kernel
theorem dX9_handWakes_46 : decode cX9_handWakes 46 = .ok (.aload_n 0, 1) := by decide +kernel
theorem dX9_handWakes_47 : decode cX9_handWakes 47 = .ok (.aload_n 0, 1) := by decide +kernel
theorem dX9_handWakes_48 : decode cX9_handWakes 48 = .ok (.getfield 151, 3) := by decide +kernel
theorem dX9_handWakes_51 : decode cX9_handWakes 51 = .ok (.putfield 154, 3) := by decide +kernel
theorem dX9_handWakes_54 : decode cX9_handWakes 54 = .ok (.return_, 1) := by decide +kernel
theorem dX9_isDue_0 : decode cX9_isDue 0 = .ok (.aload_n 0, 1) := by decide +kernel
theorem dX9_isDue_1 : decode cX9_isDue 1 = .ok (.getfield 154, 3) := by decide +kernel
theorem dX9_isDue_4 : decode cX9_isDue 4 = .ok (.aload_n 0, 1) := by decide +kernel
theorem dX9_isDue_5 : decode cX9_isDue 5 = .ok (.getfield 151, 3) := by decide +kernel
theorem dX9_isDue_8 : decode cX9_isDue 8 = .ok (.if_icmp .eq 60, 3) := by decide +kernel
theorem dX9_isDue_11 : decode cX9_isDue 11 = .ok (.aload_n 0, 1) := by decide +kernel
theorem dX9_isDue_12 : decode cX9_isDue 12 = .ok (.invokevirtual 172, 3) := by decide +kernel
theorem dX9_isDue_15 : decode cX9_isDue 15 = .ok (.ifCond .le 53, 3) := by decide +kernel
theorem dX9_isDue_18 : decode cX9_isDue 18 = .ok (.aload_n 0, 1) := by decide +kernel
theorem dX9_isDue_19 : decode cX9_isDue 19 = .ok (.getfield 163, 3) := by decide +kernel
theorem dX9_isDue_22 : decode cX9_isDue 22 = .ok (.ifCond .eq 42, 3) := by decide +kernel
theorem dX9_isDue_25 : decode cX9_isDue 25 = .ok (.aload_n 0, 1) := by decide +kernel
theorem dX9_isDue_26 : decode cX9_isDue 26 = .ok (.invokevirtual 175, 3) := by decide +kernel
theorem dX9_isDue_29 : decode cX9_isDue 29 = .ok (.aload_n 0, 1) := by decide +kernel
theorem dX9_isDue_30 : decode cX9_isDue 30 = .ok (.getfield 151, 3) := by decide +kernel
theorem dX9_isDue_33 : decode cX9_isDue 33 = .ok (.if_icmp .le 31, 3) := by decide +kernel
theorem dX9_isDue_36 : decode cX9_isDue 36 = .ok (.aload_n 0, 1) := by decide +kernel
theorem dX9_isDue_37 : decode cX9_isDue 37 = .ok (.getfield 163, 3) := by decide +kernel
theorem dX9_isDue_40 : decode cX9_isDue 40 = .ok (.iconst 2, 1) := by decide +kernel
theorem dX9_isDue_41 : decode cX9_isDue 41 = .ok (.if_icmp .ne 27, 3) := by decide +kernel
theorem dX9_isDue_44 : decode cX9_isDue 44 = .ok (.aload_n 0, 1) := by decide +kernel
theorem dX9_isDue_45 : decode cX9_isDue 45 = .ok (.aload_n 0, 1) := by decide +kernel
theorem dX9_isDue_46 : decode cX9_isDue 46 = .ok (.getfield 151, 3) := by decide +kernel
theorem dX9_isDue_49 : decode cX9_isDue 49 = .ok (.iconst 1, 1) := by decide +kernel
theorem dX9_isDue_50 : decode cX9_isDue 50 = .ok (.iadd, 1) := by decide +kernel
theorem dX9_isDue_51 : decode cX9_isDue 51 = .ok (.invokevirtual 178, 3) := by decide +kernel
theorem dX9_isDue_54 : decode cX9_isDue 54 = .ok (.aload_n 0, 1) := by decide +kernel
theorem dX9_isDue_55 : decode cX9_isDue 55 = .ok (.getfield 7, 3) := by decide +kernel
theorem dX9_isDue_58 : decode cX9_isDue 58 = .ok (.bipush 99, 2) := by decide +kernel
theorem dX9_isDue_60 : decode cX9_isDue 60 = .ok (.iaload, 1) := by decide +kernel
theorem dX9_isDue_61 : decode cX9_isDue 61 = .ok (.if_icmp .le 7, 3) := by decide +kernel
theorem dX9_isDue_64 : decode cX9_isDue 64 = .ok (.iconst 1, 1) := by decide +kernel
theorem dX9_isDue_65 : decode cX9_isDue 65 = .ok (.goto 4, 3) := by decide +kernel
theorem dX9_isDue_68 : decode cX9_isDue 68 = .ok (.iconst 0, 1) := by decide +kernel
theorem dX9_isDue_69 : decode cX9_isDue 69 = .ok (.ireturn, 1) := by decide +kernel
theorem dX9_rule_0 : decode cX9_rule 0 = .ok (.iload_n 1, 1) := by decide +kernel
theorem dX9_rule_1 : decode cX9_rule 1 = .ok (.iconst 0, 1) := by decide +kernel
theorem dX9_rule_2 : decode cX9_rule 2 = .ok (.iconst 2, 1) := by decide +kernel
theorem dX9_rule_3 : decode cX9_rule 3 = .ok (.invokestatic 77, 3) := by decide +kernel
theorem dX9_rule_6 : decode cX9_rule 6 = .ok (.ifCond .eq 11, 3) := by decide +kernel
theorem dX9_rule_9 : decode cX9_rule 9 = .ok (.iload_n 1, 1) := by decide +kernel
theorem dX9_rule_10 : decode cX9_rule 10 = .ok (.aload_n 0, 1) := by decide +kernel
theorem dX9_rule_11 : decode cX9_rule 11 = .ok (.getfield 163, 3) := by decide +kernel
theorem dX9_rule_14 : decode cX9_rule 14 = .ok (.if_icmp .ne 5, 3) := by decide +kernel
theorem dX9_rule_17 : decode cX9_rule 17 = .ok (.iconst 0, 1) := by decide +kernel
theorem dX9_rule_18 : decode cX9_rule 18 = .ok (.ireturn, 1) := by decide +kernel
theorem dX9_rule_19 : decode cX9_rule 19 = .ok (.aload_n 0, 1) := by decide +kernel
theorem dX9_rule_20 : decode cX9_rule 20 = .ok (.iload_n 1, 1) := by decide +kernel
theorem dX9_rule_21 : decode cX9_rule 21 = .ok (.putfield 163, 3) := by decide +kernel
theorem dX9_rule_24 : decode cX9_rule 24 = .ok (.iconst 1, 1) := by decide +kernel
theorem dX9_rule_25 : decode cX9_rule 25 = .ok (.ireturn, 1) := by decide +kernel
theorem dX9_go_0 : decode cX9_go 0 = .ok (.iload_n 1, 1) := by decide +kernel
theorem dX9_go_1 : decode cX9_go 1 = .ok (.iconst 1, 1) := by decide +kernel
theorem dX9_go_2 : decode cX9_go 2 = .ok (.sipush 300, 3) := by decide +kernel
theorem dX9_go_5 : decode cX9_go 5 = .ok (.invokestatic 77, 3) := by decide +kernel
theorem dX9_go_8 : decode cX9_go 8 = .ok (.ifCond .eq 17, 3) := by decide +kernel
theorem dX9_go_11 : decode cX9_go 11 = .ok (.aload_n 0, 1) := by decide +kernel
theorem dX9_go_12 : decode cX9_go 12 = .ok (.getfield 151, 3) := by decide +kernel
theorem dX9_go_15 : decode cX9_go 15 = .ok (.aload_n 0, 1) := by decide +kernel
theorem dX9_go_16 : decode cX9_go 16 = .ok (.getfield 7, 3) := by decide +kernel
theorem dX9_go_19 : decode cX9_go 19 = .ok (.bipush 98, 2) := by decide +kernel
theorem dX9_go_21 : decode cX9_go 21 = .ok (.iaload, 1) := by decide +kernel
theorem dX9_go_22 : decode cX9_go 22 = .ok (.if_icmp .le 5, 3) := by decide +kernel
theorem dX9_go_25 : decode cX9_go 25 = .ok (.iconst (-1), 1) := by decide +kernel
theorem dX9_go_26 : decode cX9_go 26 = .ok (.ireturn, 1) := by decide +kernel
theorem dX9_go_27 : decode cX9_go 27 = .ok (.aload_n 0, 1) := by decide +kernel
theorem dX9_go_28 : decode cX9_go 28 = .ok (.getfield 160, 3) := by decide +kernel
theorem dX9_go_31 : decode cX9_go 31 = .ok (.istore_n 2, 1) := by decide +kernel
theorem dX9_go_32 : decode cX9_go 32 = .ok (.iconst 0, 1) := by decide +kernel
theorem dX9_go_33 : decode cX9_go 33 = .ok (.istore_n 3, 1) := by decide +kernel
theorem dX9_go_34 : decode cX9_go 34 = .ok (.iload_n 3, 1) := by decide +kernel
theorem dX9_go_35 : decode cX9_go 35 = .ok (.iload_n 1, 1) := by decide +kernel
theorem dX9_go_36 : decode cX9_go 36 = .ok (.if_icmp .ge 48, 3) := by decide +kernel
theorem dX9_go_39 : decode cX9_go 39 = .ok (.aload_n 0, 1) := by decide +kernel
theorem dX9_go_40 : decode cX9_go 40 = .ok (.getfield 151, 3) := by decide +kernel
theorem dX9_go_43 : decode cX9_go 43 = .ok (.aload_n 0, 1) := by decide +kernel
theorem dX9_go_44 : decode cX9_go 44 = .ok (.getfield 7, 3) := by decide +kernel
theorem dX9_go_47 : decode cX9_go 47 = .ok (.bipush 98, 2) := by decide +kernel
theorem dX9_go_49 : decode cX9_go 49 = .ok (.iaload, 1) := by decide +kernel
theorem dX9_go_50 : decode cX9_go 50 = .ok (.if_icmp .gt 34, 3) := by decide +kernel
theorem dX9_go_53 : decode cX9_go 53 = .ok (.aload_n 0, 1) := by decide +kernel
theorem dX9_go_54 : decode cX9_go 54 = .ok (.invokevirtual 181, 3) := by decide +kernel
theorem dX9_go_57 : decode cX9_go 57 = .ok (.ifCond .eq 7, 3) := by decide +kernel
theorem dX9_go_60 : decode cX9_go 60 = .ok (.aload_n 0, 1) := by decide +kernel
theorem dX9_go_61 : decode cX9_go 61 = .ok (.invokevirtual 185, 3) := by decide +kernel
theorem dX9_go_64 : decode cX9_go 64 = .ok (.aload_n 0, 1) := by decide +kernel
theorem dX9_go_65 : decode cX9_go 65 = .ok (.dup, 1) := by decide +kernel
theorem dX9_go_66 : decode cX9_go 66 = .ok (.getfield 151, 3) := by decide +kernel
theorem dX9_go_69 : decode cX9_go 69 = .ok (.iconst 1, 1) := by decide +kernel
theorem dX9_go_70 : decode cX9_go 70 = .ok (.iadd, 1) := by decide +kernel
theorem dX9_go_71 : decode cX9_go 71 = .ok (.putfield 151, 3) := by decide +kernel
theorem dX9_go_74 : decode cX9_go 74 = .ok (.aload_n 0, 1) := by decide +kernel
theorem dX9_go_75 : decode cX9_go 75 = .ok (.invokevirtual 169, 3) := by decide +kernel
theorem dX9_go_78 : decode cX9_go 78 = .ok (.iinc 3 1, 3) := by decide +kernel
theorem dX9_go_81 : decode cX9_go 81 = .ok (.goto (-47), 3) := by decide +kernel
theorem dX9_go_84 : decode cX9_go 84 = .ok (.aload_n 0, 1) := by decide +kernel
theorem dX9_go_85 : decode cX9_go 85 = .ok (.getfield 160, 3) := by decide +kernel
theorem dX9_go_88 : decode cX9_go 88 = .ok (.iload_n 2, 1) := by decide +kernel
theorem dX9_go_89 : decode cX9_go 89 = .ok (.isub, 1) := by decide +kernel
theorem dX9_go_90 : decode cX9_go 90 = .ok (.ireturn, 1) := by decide +kernel
theorem dX9_ring_0 : decode cX9_ring 0 = .ok (.aload_n 0, 1) := by decide +kernel
theorem dX9_ring_1 : decode cX9_ring 1 = .ok (.iload_n 1, 1) := by decide +kernel
theorem dX9_ring_2 : decode cX9_ring 2 = .ok (.invokevirtual 187, 3) := by decide +kernel
theorem dX9_ring_5 : decode cX9_ring 5 = .ok (.ifCond .eq 26, 3) := by decide +kernel
theorem dX9_ring_8 : decode cX9_ring 8 = .ok (.aload_n 0, 1) := by decide +kernel
theorem dX9_ring_9 : decode cX9_ring 9 = .ok (.getfield 151, 3) := by decide +kernel
theorem dX9_ring_12 : decode cX9_ring 12 = .ok (.aload_n 0, 1) := by decide +kernel
theorem dX9_ring_13 : decode cX9_ring 13 = .ok (.getfield 7, 3) := by decide +kernel
theorem dX9_ring_16 : decode cX9_ring 16 = .ok (.bipush 98, 2) := by decide +kernel
theorem dX9_ring_18 : decode cX9_ring 18 = .ok (.iaload, 1) := by decide +kernel
theorem dX9_ring_19 : decode cX9_ring 19 = .ok (.if_icmp .gt 12, 3) := by decide +kernel
theorem dX9_ring_22 : decode cX9_ring 22 = .ok (.aload_n 0, 1) := by decide +kernel
theorem dX9_ring_23 : decode cX9_ring 23 = .ok (.getfield 166, 3) := by decide +kernel
theorem dX9_ring_26 : decode cX9_ring 26 = .ok (.bipush 100, 2) := by decide +kernel
theorem dX9_ring_28 : decode cX9_ring 28 = .ok (.if_icmp .ne 5, 3) := by decide +kernel
theorem dX9_ring_31 : decode cX9_ring 31 = .ok (.iconst (-1), 1) := by decide +kernel
theorem dX9_ring_32 : decode cX9_ring 32 = .ok (.ireturn, 1) := by decide +kernel
theorem dX9_ring_33 : decode cX9_ring 33 = .ok (.aload_n 0, 1) := by decide +kernel
theorem dX9_ring_34 : decode cX9_ring 34 = .ok (.dup, 1) := by decide +kernel
theorem dX9_ring_35 : decode cX9_ring 35 = .ok (.getfield 166, 3) := by decide +kernel
theorem dX9_ring_38 : decode cX9_ring 38 = .ok (.iconst 1, 1) := by decide +kernel
theorem dX9_ring_39 : decode cX9_ring 39 = .ok (.iadd, 1) := by decide +kernel
theorem dX9_ring_40 : decode cX9_ring 40 = .ok (.putfield 166, 3) := by decide +kernel
theorem dX9_ring_43 : decode cX9_ring 43 = .ok (.aload_n 0, 1) := by decide +kernel
theorem dX9_ring_44 : decode cX9_ring 44 = .ok (.iload_n 1, 1) := by decide +kernel
theorem dX9_ring_45 : decode cX9_ring 45 = .ok (.invokevirtual 157, 3) := by decide +kernel
theorem dX9_ring_48 : decode cX9_ring 48 = .ok (.ireturn, 1) := by decide +kernel
theorem dX9_now_0 : decode cX9_now 0 = .ok (.aload_n 0, 1) := by decide +kernel
theorem dX9_now_1 : decode cX9_now 1 = .ok (.invokevirtual 172, 3) := by decide +kernel
theorem dX9_now_4 : decode cX9_now 4 = .ok (.istore_n 1, 1) := by decide +kernel
theorem dX9_now_5 : decode cX9_now 5 = .ok (.iload_n 1, 1) := by decide +kernel
theorem dX9_now_6 : decode cX9_now 6 = .ok (.ifCond .ne 5, 3) := by decide +kernel
theorem dX9_now_9 : decode cX9_now 9 = .ok (.iconst (-1), 1) := by decide +kernel
theorem dX9_now_10 : decode cX9_now 10 = .ok (.ireturn, 1) := by decide +kernel
theorem dX9_now_11 : decode cX9_now 11 = .ok (.aload_n 0, 1) := by decide +kernel
theorem dX9_now_12 : decode cX9_now 12 = .ok (.invokevirtual 185, 3) := by decide +kernel
theorem dX9_now_15 : decode cX9_now 15 = .ok (.iload_n 1, 1) := by decide +kernel
theorem dX9_now_16 : decode cX9_now 16 = .ok (.ireturn, 1) := by decide +kernel
theorem dX9_handWaits_0 : decode cX9_handWaits 0 = .ok (.iconst 0, 1) := by decide +kernel
theorem dX9_handWaits_1 : decode cX9_handWaits 1 = .ok (.istore_n 1, 1) := by decide +kernel
theorem dX9_handWaits_2 : decode cX9_handWaits 2 = .ok (.iconst 0, 1) := by decide +kernel
theorem dX9_handWaits_3 : decode cX9_handWaits 3 = .ok (.istore_n 2, 1) := by decide +kernel
theorem dX9_handWaits_4 : decode cX9_handWaits 4 = .ok (.iload_n 2, 1) := by decide +kernel
theorem dX9_handWaits_5 : decode cX9_handWaits 5 = .ok (.aload_n 0, 1) := by decide +kernel
theorem dX9_handWaits_6 : decode cX9_handWaits 6 = .ok (.getfield 148, 3) := by decide +kernel
theorem dX9_handWaits_9 : decode cX9_handWaits 9 = .ok (.if_icmp .ge 46, 3) := by decide +kernel
theorem dX9_handWaits_12 : decode cX9_handWaits 12 = .ok (.iload_n 1, 1) := by decide +kernel
theorem dX9_handWaits_13 : decode cX9_handWaits 13 = .ok (.aload_n 0, 1) := by decide +kernel
theorem dX9_handWaits_14 : decode cX9_handWaits 14 = .ok (.getfield 57, 3) := by decide +kernel
theorem dX9_handWaits_17 : decode cX9_handWaits 17 = .ok (.iload_n 2, 1) := by decide +kernel
theorem dX9_handWaits_18 : decode cX9_handWaits 18 = .ok (.iaload, 1) := by decide +kernel
theorem dX9_handWaits_19 : decode cX9_handWaits 19 = .ok (.iconst (-1), 1) := by decide +kernel
theorem dX9_handWaits_20 : decode cX9_handWaits 20 = .ok (.if_icmp .ne 7, 3) := by decide +kernel
theorem dX9_handWaits_23 : decode cX9_handWaits 23 = .ok (.iconst 0, 1) := by decide +kernel
theorem dX9_handWaits_24 : decode cX9_handWaits 24 = .ok (.goto 23, 3) := by decide +kernel
theorem dX9_handWaits_27 : decode cX9_handWaits 27 = .ok (.aload_n 0, 1) := by decide +kernel
theorem dX9_handWaits_28 : decode cX9_handWaits 28 = .ok (.getfield 54, 3) := by decide +kernel
theorem dX9_handWaits_31 : decode cX9_handWaits 31 = .ok (.iload_n 2, 1) := by decide +kernel
theorem dX9_handWaits_32 : decode cX9_handWaits 32 = .ok (.iaload, 1) := by decide +kernel
theorem dX9_handWaits_33 : decode cX9_handWaits 33 = .ok (.aload_n 0, 1) := by decide +kernel
theorem dX9_handWaits_34 : decode cX9_handWaits 34 = .ok (.getfield 57, 3) := by decide +kernel
theorem dX9_handWaits_37 : decode cX9_handWaits 37 = .ok (.iload_n 2, 1) := by decide +kernel
theorem dX9_handWaits_38 : decode cX9_handWaits 38 = .ok (.iaload, 1) := by decide +kernel
theorem dX9_handWaits_39 : decode cX9_handWaits 39 = .ok (.aload_n 0, 1) := by decide +kernel
theorem dX9_handWaits_40 : decode cX9_handWaits 40 = .ok (.getfield 48, 3) := by decide +kernel
theorem dX9_handWaits_43 : decode cX9_handWaits 43 = .ok (.iload_n 2, 1) := by decide +kernel
theorem dX9_handWaits_44 : decode cX9_handWaits 44 = .ok (.iaload, 1) := by decide +kernel
theorem dX9_handWaits_45 : decode cX9_handWaits 45 = .ok (.isub, 1) := by decide +kernel
theorem dX9_handWaits_46 : decode cX9_handWaits 46 = .ok (.imul, 1) := by decide +kernel
theorem dX9_handWaits_47 : decode cX9_handWaits 47 = .ok (.iadd, 1) := by decide +kernel
theorem dX9_handWaits_48 : decode cX9_handWaits 48 = .ok (.istore_n 1, 1) := by decide +kernel
theorem dX9_handWaits_49 : decode cX9_handWaits 49 = .ok (.iinc 2 1, 3) := by decide +kernel
theorem dX9_handWaits_52 : decode cX9_handWaits 52 = .ok (.goto (-48), 3) := by decide +kernel
theorem dX9_handWaits_55 : decode cX9_handWaits 55 = .ok (.iload_n 1, 1) := by decide +kernel
theorem dX9_handWaits_56 : decode cX9_handWaits 56 = .ok (.ireturn, 1) := by decide +kernel
theorem dX9_laysHindsight_0 : decode cX9_laysHindsight 0 = .ok (.aload_n 0, 1) := by decide +kernel
theorem dX9_laysHindsight_1 : decode cX9_laysHindsight 1 = .ok (.aload_n 0, 1) := by decide +kernel
theorem dX9_laysHindsight_2 : decode cX9_laysHindsight 2 = .ok (.getfield 148, 3) := by decide +kernel
theorem dX9_laysHindsight_5 : decode cX9_laysHindsight 5 = .ok (.putfield 85, 3) := by decide +kernel
theorem dX9_laysHindsight_8 : decode cX9_laysHindsight 8 = .ok (.iconst 0, 1) := by decide +kernel
theorem dX9_laysHindsight_9 : decode cX9_laysHindsight 9 = .ok (.istore_n 1, 1) := by decide +kernel
theorem dX9_laysHindsight_10 : decode cX9_laysHindsight 10 = .ok (.iload_n 1, 1) := by decide +kernel
theorem dX9_laysHindsight_11 : decode cX9_laysHindsight 11 = .ok (.aload_n 0, 1) := by decide +kernel
theorem dX9_laysHindsight_12 : decode cX9_laysHindsight 12 = .ok (.getfield 85, 3) := by decide +kernel
theorem dX9_laysHindsight_15 : decode cX9_laysHindsight 15 = .ok (.if_icmp .ge 45, 3) := by decide +kernel
theorem dX9_laysHindsight_18 : decode cX9_laysHindsight 18 = .ok (.aload_n 0, 1) := by decide +kernel
theorem dX9_laysHindsight_19 : decode cX9_laysHindsight 19 = .ok (.getfield 24, 3) := by decide +kernel
theorem dX9_laysHindsight_22 : decode cX9_laysHindsight 22 = .ok (.iload_n 1, 1) := by decide +kernel
theorem dX9_laysHindsight_23 : decode cX9_laysHindsight 23 = .ok (.aload_n 0, 1) := by decide +kernel
theorem dX9_laysHindsight_24 : decode cX9_laysHindsight 24 = .ok (.getfield 48, 3) := by decide +kernel
theorem dX9_laysHindsight_27 : decode cX9_laysHindsight 27 = .ok (.iload_n 1, 1) := by decide +kernel
theorem dX9_laysHindsight_28 : decode cX9_laysHindsight 28 = .ok (.iaload, 1) := by decide +kernel
theorem dX9_laysHindsight_29 : decode cX9_laysHindsight 29 = .ok (.iastore, 1) := by decide +kernel
theorem dX9_laysHindsight_30 : decode cX9_laysHindsight 30 = .ok (.aload_n 0, 1) := by decide +kernel
theorem dX9_laysHindsight_31 : decode cX9_laysHindsight 31 = .ok (.getfield 27, 3) := by decide +kernel
theorem dX9_laysHindsight_34 : decode cX9_laysHindsight 34 = .ok (.iload_n 1, 1) := by decide +kernel
theorem dX9_laysHindsight_35 : decode cX9_laysHindsight 35 = .ok (.aload_n 0, 1) := by decide +kernel
theorem dX9_laysHindsight_36 : decode cX9_laysHindsight 36 = .ok (.getfield 51, 3) := by decide +kernel
theorem dX9_laysHindsight_39 : decode cX9_laysHindsight 39 = .ok (.iload_n 1, 1) := by decide +kernel
theorem dX9_laysHindsight_40 : decode cX9_laysHindsight 40 = .ok (.iaload, 1) := by decide +kernel
theorem dX9_laysHindsight_41 : decode cX9_laysHindsight 41 = .ok (.iastore, 1) := by decide +kernel
theorem dX9_laysHindsight_42 : decode cX9_laysHindsight 42 = .ok (.aload_n 0, 1) := by decide +kernel
theorem dX9_laysHindsight_43 : decode cX9_laysHindsight 43 = .ok (.getfield 30, 3) := by decide +kernel
theorem dX9_laysHindsight_46 : decode cX9_laysHindsight 46 = .ok (.iload_n 1, 1) := by decide +kernel
theorem dX9_laysHindsight_47 : decode cX9_laysHindsight 47 = .ok (.aload_n 0, 1) := by decide +kernel
theorem dX9_laysHindsight_48 : decode cX9_laysHindsight 48 = .ok (.getfield 54, 3) := by decide +kernel
theorem dX9_laysHindsight_51 : decode cX9_laysHindsight 51 = .ok (.iload_n 1, 1) := by decide +kernel
theorem dX9_laysHindsight_52 : decode cX9_laysHindsight 52 = .ok (.iaload, 1) := by decide +kernel
theorem dX9_laysHindsight_53 : decode cX9_laysHindsight 53 = .ok (.iastore, 1) := by decide +kernel
theorem dX9_laysHindsight_54 : decode cX9_laysHindsight 54 = .ok (.iinc 1 1, 3) := by decide +kernel
theorem dX9_laysHindsight_57 : decode cX9_laysHindsight 57 = .ok (.goto (-47), 3) := by decide +kernel
theorem dX9_laysHindsight_60 : decode cX9_laysHindsight 60 = .ok (.aload_n 0, 1) := by decide +kernel
theorem dX9_laysHindsight_61 : decode cX9_laysHindsight 61 = .ok (.iconst 0, 1) := by decide +kernel
theorem dX9_laysHindsight_62 : decode cX9_laysHindsight 62 = .ok (.invokevirtual 135, 3) := by decide +kernel
theorem dX9_laysHindsight_65 : decode cX9_laysHindsight 65 = .ok (.return_, 1) := by decide +kernel
theorem dX9_hand_0 : decode cX9_hand 0 = .ok (.iload_n 1, 1) := by decide +kernel
theorem dX9_hand_1 : decode cX9_hand 1 = .ok (.tableswitch 134 0 8 #[51, 56, 61, 66, 84, 93, 98, 103, 125], 51) := by decide +kernel
theorem dX9_hand_52 : decode cX9_hand 52 = .ok (.aload_n 0, 1) := by decide +kernel
theorem dX9_hand_53 : decode cX9_hand 53 = .ok (.getfield 148, 3) := by decide +kernel
theorem dX9_hand_56 : decode cX9_hand 56 = .ok (.ireturn, 1) := by decide +kernel
theorem dX9_hand_57 : decode cX9_hand 57 = .ok (.aload_n 0, 1) := by decide +kernel
theorem dX9_hand_58 : decode cX9_hand 58 = .ok (.invokevirtual 172, 3) := by decide +kernel
theorem dX9_hand_61 : decode cX9_hand 61 = .ok (.ireturn, 1) := by decide +kernel
theorem dX9_hand_62 : decode cX9_hand 62 = .ok (.aload_n 0, 1) := by decide +kernel
theorem dX9_hand_63 : decode cX9_hand 63 = .ok (.getfield 160, 3) := by decide +kernel
theorem dX9_hand_66 : decode cX9_hand 66 = .ok (.ireturn, 1) := by decide +kernel
theorem dX9_hand_67 : decode cX9_hand 67 = .ok (.aload_n 0, 1) := by decide +kernel
theorem dX9_hand_68 : decode cX9_hand 68 = .ok (.getfield 7, 3) := by decide +kernel
theorem dX9_hand_71 : decode cX9_hand 71 = .ok (.bipush 99, 2) := by decide +kernel
theorem dX9_hand_73 : decode cX9_hand 73 = .ok (.iaload, 1) := by decide +kernel
theorem dX9_hand_74 : decode cX9_hand 74 = .ok (.aload_n 0, 1) := by decide +kernel
theorem dX9_hand_75 : decode cX9_hand 75 = .ok (.getfield 160, 3) := by decide +kernel
theorem dX9_hand_78 : decode cX9_hand 78 = .ok (.imul, 1) := by decide +kernel
theorem dX9_hand_79 : decode cX9_hand 79 = .ok (.aload_n 0, 1) := by decide +kernel
theorem dX9_hand_80 : decode cX9_hand 80 = .ok (.invokevirtual 191, 3) := by decide +kernel
theorem dX9_hand_83 : decode cX9_hand 83 = .ok (.iadd, 1) := by decide +kernel
theorem dX9_hand_84 : decode cX9_hand 84 = .ok (.ireturn, 1) := by decide +kernel
theorem dX9_hand_85 : decode cX9_hand 85 = .ok (.aload_n 0, 1) := by decide +kernel
theorem dX9_hand_86 : decode cX9_hand 86 = .ok (.aload_n 0, 1) := by decide +kernel
theorem dX9_hand_87 : decode cX9_hand 87 = .ok (.getfield 151, 3) := by decide +kernel
theorem dX9_hand_90 : decode cX9_hand 90 = .ok (.invokevirtual 178, 3) := by decide +kernel
theorem dX9_hand_93 : decode cX9_hand 93 = .ok (.ireturn, 1) := by decide +kernel
theorem dX9_hand_94 : decode cX9_hand 94 = .ok (.aload_n 0, 1) := by decide +kernel
theorem dX9_hand_95 : decode cX9_hand 95 = .ok (.invokevirtual 175, 3) := by decide +kernel
theorem dX9_hand_98 : decode cX9_hand 98 = .ok (.ireturn, 1) := by decide +kernel
theorem dX9_hand_99 : decode cX9_hand 99 = .ok (.aload_n 0, 1) := by decide +kernel
theorem dX9_hand_100 : decode cX9_hand 100 = .ok (.getfield 154, 3) := by decide +kernel
theorem dX9_hand_103 : decode cX9_hand 103 = .ok (.ireturn, 1) := by decide +kernel
theorem dX9_hand_104 : decode cX9_hand 104 = .ok (.aload_n 0, 1) := by decide +kernel
theorem dX9_hand_105 : decode cX9_hand 105 = .ok (.invokevirtual 194, 3) := by decide +kernel
theorem dX9_hand_108 : decode cX9_hand 108 = .ok (.aload_n 0, 1) := by decide +kernel
theorem dX9_hand_109 : decode cX9_hand 109 = .ok (.getfield 7, 3) := by decide +kernel
theorem dX9_hand_112 : decode cX9_hand 112 = .ok (.bipush 99, 2) := by decide +kernel
theorem dX9_hand_114 : decode cX9_hand 114 = .ok (.iaload, 1) := by decide +kernel
theorem dX9_hand_115 : decode cX9_hand 115 = .ok (.aload_n 0, 1) := by decide +kernel
theorem dX9_hand_116 : decode cX9_hand 116 = .ok (.getfield 105, 3) := by decide +kernel
theorem dX9_hand_119 : decode cX9_hand 119 = .ok (.imul, 1) := by decide +kernel
theorem dX9_hand_120 : decode cX9_hand 120 = .ok (.aload_n 0, 1) := by decide +kernel
theorem dX9_hand_121 : decode cX9_hand 121 = .ok (.invokevirtual 197, 3) := by decide +kernel
theorem dX9_hand_124 : decode cX9_hand 124 = .ok (.iadd, 1) := by decide +kernel
theorem dX9_hand_125 : decode cX9_hand 125 = .ok (.ireturn, 1) := by decide +kernel
theorem dX9_hand_126 : decode cX9_hand 126 = .ok (.aload_n 0, 1) := by decide +kernel
theorem dX9_hand_127 : decode cX9_hand 127 = .ok (.invokevirtual 194, 3) := by decide +kernel
theorem dX9_hand_130 : decode cX9_hand 130 = .ok (.aload_n 0, 1) := by decide +kernel
theorem dX9_hand_131 : decode cX9_hand 131 = .ok (.getfield 105, 3) := by decide +kernel
theorem dX9_hand_134 : decode cX9_hand 134 = .ok (.ireturn, 1) := by decide +kernel
theorem dX9_hand_135 : decode cX9_hand 135 = .ok (.iconst (-1), 1) := by decide +kernel
theorem dX9_hand_136 : decode cX9_hand 136 = .ok (.ireturn, 1) := by decide +kernel
theorem dX9_count_0 : decode cX9_count 0 = .ok (.aload_n 0, 1) := by decide +kernel
theorem dX9_count_1 : decode cX9_count 1 = .ok (.invokevirtual 129, 3) := by decide +kernel
theorem dX9_count_4 : decode cX9_count 4 = .ok (.iload_n 1, 1) := by decide +kernel
theorem dX9_count_5 : decode cX9_count 5 = .ok (.tableswitch 105 0 8 #[51, 56, 61, 66, 74, 82, 90, 95, 100], 51) := by decide +kernel
theorem dX9_count_56 : decode cX9_count 56 = .ok (.aload_n 0, 1) := by decide +kernel
theorem dX9_count_57 : decode cX9_count 57 = .ok (.invokevirtual 73, 3) := by decide +kernel
theorem dX9_count_60 : decode cX9_count 60 = .ok (.ireturn, 1) := by decide +kernel
theorem dX9_count_61 : decode cX9_count 61 = .ok (.aload_n 0, 1) := by decide +kernel
theorem dX9_count_62 : decode cX9_count 62 = .ok (.invokevirtual 88, 3) := by decide +kernel
theorem dX9_count_65 : decode cX9_count 65 = .ok (.ireturn, 1) := by decide +kernel
theorem dX9_count_66 : decode cX9_count 66 = .ok (.aload_n 0, 1) := by decide +kernel
theorem dX9_count_67 : decode cX9_count 67 = .ok (.getfield 85, 3) := by decide +kernel
theorem dX9_count_70 : decode cX9_count 70 = .ok (.ireturn, 1) := by decide +kernel
theorem dX9_count_71 : decode cX9_count 71 = .ok (.aload_n 0, 1) := by decide +kernel
theorem dX9_count_72 : decode cX9_count 72 = .ok (.getfield 7, 3) := by decide +kernel
theorem dX9_count_75 : decode cX9_count 75 = .ok (.bipush 98, 2) := by decide +kernel
theorem dX9_count_77 : decode cX9_count 77 = .ok (.iaload, 1) := by decide +kernel
theorem dX9_count_78 : decode cX9_count 78 = .ok (.ireturn, 1) := by decide +kernel
theorem dX9_count_79 : decode cX9_count 79 = .ok (.aload_n 0, 1) := by decide +kernel
theorem dX9_count_80 : decode cX9_count 80 = .ok (.getfield 7, 3) := by decide +kernel
theorem dX9_count_83 : decode cX9_count 83 = .ok (.bipush 99, 2) := by decide +kernel
theorem dX9_count_85 : decode cX9_count 85 = .ok (.iaload, 1) := by decide +kernel
theorem dX9_count_86 : decode cX9_count 86 = .ok (.ireturn, 1) := by decide +kernel
theorem dX9_count_87 : decode cX9_count 87 = .ok (.aload_n 0, 1) := by decide +kernel
theorem dX9_count_88 : decode cX9_count 88 = .ok (.getfield 7, 3) := by decide +kernel
theorem dX9_count_91 : decode cX9_count 91 = .ok (.bipush 100, 2) := by decide +kernel
theorem dX9_count_93 : decode cX9_count 93 = .ok (.iaload, 1) := by decide +kernel
theorem dX9_count_94 : decode cX9_count 94 = .ok (.ireturn, 1) := by decide +kernel
theorem dX9_count_95 : decode cX9_count 95 = .ok (.aload_n 0, 1) := by decide +kernel
theorem dX9_count_96 : decode cX9_count 96 = .ok (.getfield 151, 3) := by decide +kernel
theorem dX9_count_99 : decode cX9_count 99 = .ok (.ireturn, 1) := by decide +kernel
theorem dX9_count_100 : decode cX9_count 100 = .ok (.aload_n 0, 1) := by decide +kernel
theorem dX9_count_101 : decode cX9_count 101 = .ok (.getfield 163, 3) := by decide +kernel
theorem dX9_count_104 : decode cX9_count 104 = .ok (.ireturn, 1) := by decide +kernel
theorem dX9_count_105 : decode cX9_count 105 = .ok (.aload_n 0, 1) := by decide +kernel
theorem dX9_count_106 : decode cX9_count 106 = .ok (.getfield 200, 3) := by decide +kernel
theorem dX9_count_109 : decode cX9_count 109 = .ok (.ireturn, 1) := by decide +kernel
theorem dX9_count_110 : decode cX9_count 110 = .ok (.iconst (-1), 1) := by decide +kernel
theorem dX9_count_111 : decode cX9_count 111 = .ok (.ireturn, 1) := by decide +kernel
theorem dX9_timersOf_0 : decode cX9_timersOf 0 = .ok (.iconst 0, 1) := by decide +kernel
theorem dX9_timersOf_1 : decode cX9_timersOf 1 = .ok (.istore_n 2, 1) := by decide +kernel
theorem dX9_timersOf_2 : decode cX9_timersOf 2 = .ok (.iconst 0, 1) := by decide +kernel
theorem dX9_timersOf_3 : decode cX9_timersOf 3 = .ok (.istore_n 3, 1) := by decide +kernel
theorem dX9_timersOf_4 : decode cX9_timersOf 4 = .ok (.iload_n 3, 1) := by decide +kernel
theorem dX9_timersOf_5 : decode cX9_timersOf 5 = .ok (.aload_n 0, 1) := by decide +kernel
theorem dX9_timersOf_6 : decode cX9_timersOf 6 = .ok (.invokevirtual 88, 3) := by decide +kernel
theorem dX9_timersOf_9 : decode cX9_timersOf 9 = .ok (.if_icmp .ge 30, 3) := by decide +kernel
theorem dX9_timersOf_12 : decode cX9_timersOf 12 = .ok (.iload_n 2, 1) := by decide +kernel
theorem dX9_timersOf_13 : decode cX9_timersOf 13 = .ok (.aload_n 0, 1) := by decide +kernel
theorem dX9_timersOf_14 : decode cX9_timersOf 14 = .ok (.getfield 7, 3) := by decide +kernel
theorem dX9_timersOf_17 : decode cX9_timersOf 17 = .ok (.bipush 24, 2) := by decide +kernel
theorem dX9_timersOf_19 : decode cX9_timersOf 19 = .ok (.iload_n 3, 1) := by decide +kernel
theorem dX9_timersOf_20 : decode cX9_timersOf 20 = .ok (.iadd, 1) := by decide +kernel
theorem dX9_timersOf_21 : decode cX9_timersOf 21 = .ok (.iaload, 1) := by decide +kernel
theorem dX9_timersOf_22 : decode cX9_timersOf 22 = .ok (.iload_n 1, 1) := by decide +kernel
theorem dX9_timersOf_23 : decode cX9_timersOf 23 = .ok (.if_icmp .ne 7, 3) := by decide +kernel
theorem dX9_timersOf_26 : decode cX9_timersOf 26 = .ok (.iconst 1, 1) := by decide +kernel
theorem dX9_timersOf_27 : decode cX9_timersOf 27 = .ok (.goto 4, 3) := by decide +kernel
theorem dX9_timersOf_30 : decode cX9_timersOf 30 = .ok (.iconst 0, 1) := by decide +kernel
theorem dX9_timersOf_31 : decode cX9_timersOf 31 = .ok (.iadd, 1) := by decide +kernel
theorem dX9_timersOf_32 : decode cX9_timersOf 32 = .ok (.istore_n 2, 1) := by decide +kernel
theorem dX9_timersOf_33 : decode cX9_timersOf 33 = .ok (.iinc 3 1, 3) := by decide +kernel
theorem dX9_timersOf_36 : decode cX9_timersOf 36 = .ok (.goto (-32), 3) := by decide +kernel
theorem dX9_timersOf_39 : decode cX9_timersOf 39 = .ok (.iload_n 2, 1) := by decide +kernel
theorem dX9_timersOf_40 : decode cX9_timersOf 40 = .ok (.ireturn, 1) := by decide +kernel
theorem dX9_heirs_0 : decode cX9_heirs 0 = .ok (.iconst 0, 1) := by decide +kernel
theorem dX9_heirs_1 : decode cX9_heirs 1 = .ok (.istore_n 2, 1) := by decide +kernel
theorem dX9_heirs_2 : decode cX9_heirs 2 = .ok (.iconst 0, 1) := by decide +kernel
theorem dX9_heirs_3 : decode cX9_heirs 3 = .ok (.istore_n 3, 1) := by decide +kernel
theorem dX9_heirs_4 : decode cX9_heirs 4 = .ok (.iload_n 3, 1) := by decide +kernel
theorem dX9_heirs_5 : decode cX9_heirs 5 = .ok (.aload_n 0, 1) := by decide +kernel
theorem dX9_heirs_6 : decode cX9_heirs 6 = .ok (.invokevirtual 73, 3) := by decide +kernel
theorem dX9_heirs_9 : decode cX9_heirs 9 = .ok (.if_icmp .ge 30, 3) := by decide +kernel
theorem dX9_heirs_12 : decode cX9_heirs 12 = .ok (.iload_n 2, 1) := by decide +kernel
theorem dX9_heirs_13 : decode cX9_heirs 13 = .ok (.aload_n 0, 1) := by decide +kernel
theorem dX9_heirs_14 : decode cX9_heirs 14 = .ok (.iload_n 3, 1) := by decide +kernel
theorem dX9_heirs_15 : decode cX9_heirs 15 = .ok (.bipush 8, 2) := by decide +kernel
theorem dX9_heirs_17 : decode cX9_heirs 17 = .ok (.invokevirtual 81, 3) := by decide +kernel
theorem dX9_heirs_20 : decode cX9_heirs 20 = .ok (.iload_n 1, 1) := by decide +kernel
theorem dX9_heirs_21 : decode cX9_heirs 21 = .ok (.if_icmp .ne 9, 3) := by decide +kernel
theorem dX9_heirs_24 : decode cX9_heirs 24 = .ok (.iconst 1, 1) := by decide +kernel
theorem dX9_heirs_25 : decode cX9_heirs 25 = .ok (.iload_n 3, 1) := by decide +kernel
theorem dX9_heirs_26 : decode cX9_heirs 26 = .ok (.ishl, 1) := by decide +kernel
theorem dX9_heirs_27 : decode cX9_heirs 27 = .ok (.goto 4, 3) := by decide +kernel
theorem dX9_heirs_30 : decode cX9_heirs 30 = .ok (.iconst 0, 1) := by decide +kernel
theorem dX9_heirs_31 : decode cX9_heirs 31 = .ok (.ior, 1) := by decide +kernel
theorem dX9_heirs_32 : decode cX9_heirs 32 = .ok (.istore_n 2, 1) := by decide +kernel
theorem dX9_heirs_33 : decode cX9_heirs 33 = .ok (.iinc 3 1, 3) := by decide +kernel
theorem dX9_heirs_36 : decode cX9_heirs 36 = .ok (.goto (-32), 3) := by decide +kernel
theorem dX9_heirs_39 : decode cX9_heirs 39 = .ok (.iload_n 2, 1) := by decide +kernel
theorem dX9_heirs_40 : decode cX9_heirs 40 = .ok (.ireturn, 1) := by decide +kernel
theorem dX9_kind_0 : decode cX9_kind 0 = .ok (.aload_n 0, 1) := by decide +kernel
theorem dX9_kind_1 : decode cX9_kind 1 = .ok (.iload_n 1, 1) := by decide +kernel
theorem dX9_kind_2 : decode cX9_kind 2 = .ok (.invokevirtual 187, 3) := by decide +kernel
theorem dX9_kind_5 : decode cX9_kind 5 = .ok (.ifCond .ne 5, 3) := by decide +kernel
theorem dX9_kind_8 : decode cX9_kind 8 = .ok (.iconst (-1), 1) := by decide +kernel
theorem dX9_kind_9 : decode cX9_kind 9 = .ok (.ireturn, 1) := by decide +kernel
theorem dX9_kind_10 : decode cX9_kind 10 = .ok (.iload_n 2, 1) := by decide +kernel
theorem dX9_kind_11 : decode cX9_kind 11 = .ok (.tableswitch 94 0 6 #[41, 50, 56, 62, 72, 82, 88], 41) := by decide +kernel
theorem dX9_kind_52 : decode cX9_kind 52 = .ok (.aload_n 0, 1) := by decide +kernel
theorem dX9_kind_53 : decode cX9_kind 53 = .ok (.getfield 7, 3) := by decide +kernel
theorem dX9_kind_56 : decode cX9_kind 56 = .ok (.iconst 0, 1) := by decide +kernel
theorem dX9_kind_57 : decode cX9_kind 57 = .ok (.iload_n 1, 1) := by decide +kernel
theorem dX9_kind_58 : decode cX9_kind 58 = .ok (.iadd, 1) := by decide +kernel
theorem dX9_kind_59 : decode cX9_kind 59 = .ok (.iaload, 1) := by decide +kernel
theorem dX9_kind_60 : decode cX9_kind 60 = .ok (.ireturn, 1) := by decide +kernel
theorem dX9_kind_61 : decode cX9_kind 61 = .ok (.aload_n 0, 1) := by decide +kernel
theorem dX9_kind_62 : decode cX9_kind 62 = .ok (.iload_n 1, 1) := by decide +kernel
theorem dX9_kind_63 : decode cX9_kind 63 = .ok (.invokevirtual 95, 3) := by decide +kernel
theorem dX9_kind_66 : decode cX9_kind 66 = .ok (.ireturn, 1) := by decide +kernel
theorem dX9_kind_67 : decode cX9_kind 67 = .ok (.aload_n 0, 1) := by decide +kernel
theorem dX9_kind_68 : decode cX9_kind 68 = .ok (.iload_n 1, 1) := by decide +kernel
theorem dX9_kind_69 : decode cX9_kind 69 = .ok (.invokevirtual 102, 3) := by decide +kernel
theorem dX9_kind_72 : decode cX9_kind 72 = .ok (.ireturn, 1) := by decide +kernel
theorem dX9_kind_73 : decode cX9_kind 73 = .ok (.aload_n 0, 1) := by decide +kernel
theorem dX9_kind_74 : decode cX9_kind 74 = .ok (.getfield 7, 3) := by decide +kernel
theorem dX9_kind_77 : decode cX9_kind 77 = .ok (.bipush 8, 2) := by decide +kernel
theorem dX9_kind_79 : decode cX9_kind 79 = .ok (.iload_n 1, 1) := by decide +kernel
theorem dX9_kind_80 : decode cX9_kind 80 = .ok (.iadd, 1) := by decide +kernel
theorem dX9_kind_81 : decode cX9_kind 81 = .ok (.iaload, 1) := by decide +kernel
theorem dX9_kind_82 : decode cX9_kind 82 = .ok (.ireturn, 1) := by decide +kernel
theorem dX9_kind_83 : decode cX9_kind 83 = .ok (.aload_n 0, 1) := by decide +kernel
theorem dX9_kind_84 : decode cX9_kind 84 = .ok (.getfield 7, 3) := by decide +kernel
theorem dX9_kind_87 : decode cX9_kind 87 = .ok (.bipush 16, 2) := by decide +kernel
theorem dX9_kind_89 : decode cX9_kind 89 = .ok (.iload_n 1, 1) := by decide +kernel
theorem dX9_kind_90 : decode cX9_kind 90 = .ok (.iadd, 1) := by decide +kernel
theorem dX9_kind_91 : decode cX9_kind 91 = .ok (.iaload, 1) := by decide +kernel
theorem dX9_kind_92 : decode cX9_kind 92 = .ok (.ireturn, 1) := by decide +kernel
theorem dX9_kind_93 : decode cX9_kind 93 = .ok (.aload_n 0, 1) := by decide +kernel
theorem dX9_kind_94 : decode cX9_kind 94 = .ok (.iload_n 1, 1) := by decide +kernel
theorem dX9_kind_95 : decode cX9_kind 95 = .ok (.invokevirtual 203, 3) := by decide +kernel
theorem dX9_kind_98 : decode cX9_kind 98 = .ok (.ireturn, 1) := by decide +kernel
theorem dX9_kind_99 : decode cX9_kind 99 = .ok (.aload_n 0, 1) := by decide +kernel
theorem dX9_kind_100 : decode cX9_kind 100 = .ok (.iload_n 1, 1) := by decide +kernel
theorem dX9_kind_101 : decode cX9_kind 101 = .ok (.invokevirtual 206, 3) := by decide +kernel
theorem dX9_kind_104 : decode cX9_kind 104 = .ok (.ireturn, 1) := by decide +kernel
theorem dX9_kind_105 : decode cX9_kind 105 = .ok (.iconst (-1), 1) := by decide +kernel
theorem dX9_kind_106 : decode cX9_kind 106 = .ok (.ireturn, 1) := by decide +kernel
theorem dX9_slacken_0 : decode cX9_slacken 0 = .ok (.aload_n 0, 1) := by decide +kernel
theorem dX9_slacken_1 : decode cX9_slacken 1 = .ok (.iload_n 1, 1) := by decide +kernel
theorem dX9_slacken_2 : decode cX9_slacken 2 = .ok (.invokevirtual 187, 3) := by decide +kernel
theorem dX9_slacken_5 : decode cX9_slacken 5 = .ok (.ifCond .eq 26, 3) := by decide +kernel
theorem dX9_slacken_8 : decode cX9_slacken 8 = .ok (.iload_n 2, 1) := by decide +kernel
theorem dX9_slacken_9 : decode cX9_slacken 9 = .ok (.iconst (-1), 1) := by decide +kernel
theorem dX9_slacken_10 : decode cX9_slacken 10 = .ok (.bipush 99, 2) := by decide +kernel
theorem dX9_slacken_12 : decode cX9_slacken 12 = .ok (.invokestatic 77, 3) := by decide +kernel
theorem dX9_slacken_15 : decode cX9_slacken 15 = .ok (.ifCond .eq 16, 3) := by decide +kernel
theorem dX9_slacken_18 : decode cX9_slacken 18 = .ok (.aload_n 0, 1) := by decide +kernel
theorem dX9_slacken_19 : decode cX9_slacken 19 = .ok (.getfield 7, 3) := by decide +kernel
theorem dX9_slacken_22 : decode cX9_slacken 22 = .ok (.bipush 8, 2) := by decide +kernel
theorem dX9_slacken_24 : decode cX9_slacken 24 = .ok (.iload_n 1, 1) := by decide +kernel
theorem dX9_slacken_25 : decode cX9_slacken 25 = .ok (.iadd, 1) := by decide +kernel
theorem dX9_slacken_26 : decode cX9_slacken 26 = .ok (.iaload, 1) := by decide +kernel
theorem dX9_slacken_27 : decode cX9_slacken 27 = .ok (.iload_n 2, 1) := by decide +kernel
theorem dX9_slacken_28 : decode cX9_slacken 28 = .ok (.if_icmp .ne 5, 3) := by decide +kernel
theorem dX9_slacken_31 : decode cX9_slacken 31 = .ok (.iconst 0, 1) := by decide +kernel
theorem dX9_slacken_32 : decode cX9_slacken 32 = .ok (.ireturn, 1) := by decide +kernel
theorem dX9_slacken_33 : decode cX9_slacken 33 = .ok (.aload_n 0, 1) := by decide +kernel
theorem dX9_slacken_34 : decode cX9_slacken 34 = .ok (.getfield 7, 3) := by decide +kernel
theorem dX9_slacken_37 : decode cX9_slacken 37 = .ok (.bipush 8, 2) := by decide +kernel
theorem dX9_slacken_39 : decode cX9_slacken 39 = .ok (.iload_n 1, 1) := by decide +kernel
theorem dX9_slacken_40 : decode cX9_slacken 40 = .ok (.iadd, 1) := by decide +kernel
theorem dX9_slacken_41 : decode cX9_slacken 41 = .ok (.iload_n 2, 1) := by decide +kernel
theorem dX9_slacken_42 : decode cX9_slacken 42 = .ok (.iastore, 1) := by decide +kernel
theorem dX9_slacken_43 : decode cX9_slacken 43 = .ok (.iconst 1, 1) := by decide +kernel
theorem dX9_slacken_44 : decode cX9_slacken 44 = .ok (.ireturn, 1) := by decide +kernel
theorem dX9_call_0 : decode cX9_call 0 = .ok (.aload_n 0, 1) := by decide +kernel
theorem dX9_call_1 : decode cX9_call 1 = .ok (.invokevirtual 129, 3) := by decide +kernel
theorem dX9_call_4 : decode cX9_call 4 = .ok (.iload_n 1, 1) := by decide +kernel
theorem dX9_call_5 : decode cX9_call 5 = .ok (.iconst 0, 1) := by decide +kernel
theorem dX9_call_6 : decode cX9_call 6 = .ok (.aload_n 0, 1) := by decide +kernel
theorem dX9_call_7 : decode cX9_call 7 = .ok (.getfield 85, 3) := by decide +kernel
theorem dX9_call_10 : decode cX9_call 10 = .ok (.iconst 1, 1) := by decide +kernel
theorem dX9_call_11 : decode cX9_call 11 = .ok (.isub, 1) := by decide +kernel
theorem dX9_call_12 : decode cX9_call 12 = .ok (.invokestatic 77, 3) := by decide +kernel
theorem dX9_call_15 : decode cX9_call 15 = .ok (.ifCond .ne 5, 3) := by decide +kernel
theorem dX9_call_18 : decode cX9_call 18 = .ok (.iconst (-1), 1) := by decide +kernel
theorem dX9_call_19 : decode cX9_call 19 = .ok (.ireturn, 1) := by decide +kernel
theorem dX9_call_20 : decode cX9_call 20 = .ok (.iload_n 2, 1) := by decide +kernel
theorem dX9_call_21 : decode cX9_call 21 = .ok (.ifCond .ne 12, 3) := by decide +kernel
theorem dX9_call_24 : decode cX9_call 24 = .ok (.aload_n 0, 1) := by decide +kernel
theorem dX9_call_25 : decode cX9_call 25 = .ok (.getfield 24, 3) := by decide +kernel
theorem dX9_call_28 : decode cX9_call 28 = .ok (.iload_n 1, 1) := by decide +kernel
theorem dX9_call_29 : decode cX9_call 29 = .ok (.iaload, 1) := by decide +kernel
theorem dX9_call_30 : decode cX9_call 30 = .ok (.goto 46, 3) := by decide +kernel
theorem dX9_call_33 : decode cX9_call 33 = .ok (.iload_n 2, 1) := by decide +kernel
theorem dX9_call_34 : decode cX9_call 34 = .ok (.iconst 1, 1) := by decide +kernel
theorem dX9_call_35 : decode cX9_call 35 = .ok (.if_icmp .ne 12, 3) := by decide +kernel
theorem dX9_call_38 : decode cX9_call 38 = .ok (.aload_n 0, 1) := by decide +kernel
theorem dX9_call_39 : decode cX9_call 39 = .ok (.getfield 27, 3) := by decide +kernel
theorem dX9_call_42 : decode cX9_call 42 = .ok (.iload_n 1, 1) := by decide +kernel
theorem dX9_call_43 : decode cX9_call 43 = .ok (.iaload, 1) := by decide +kernel
theorem dX9_call_44 : decode cX9_call 44 = .ok (.goto 32, 3) := by decide +kernel
theorem dX9_call_47 : decode cX9_call 47 = .ok (.iload_n 2, 1) := by decide +kernel
theorem dX9_call_48 : decode cX9_call 48 = .ok (.iconst 2, 1) := by decide +kernel
theorem dX9_call_49 : decode cX9_call 49 = .ok (.if_icmp .ne 12, 3) := by decide +kernel
theorem dX9_call_52 : decode cX9_call 52 = .ok (.aload_n 0, 1) := by decide +kernel
theorem dX9_call_53 : decode cX9_call 53 = .ok (.getfield 30, 3) := by decide +kernel
theorem dX9_call_56 : decode cX9_call 56 = .ok (.iload_n 1, 1) := by decide +kernel
theorem dX9_call_57 : decode cX9_call 57 = .ok (.iaload, 1) := by decide +kernel
theorem dX9_call_58 : decode cX9_call 58 = .ok (.goto 18, 3) := by decide +kernel
theorem dX9_call_61 : decode cX9_call 61 = .ok (.iload_n 2, 1) := by decide +kernel
theorem dX9_call_62 : decode cX9_call 62 = .ok (.iconst 3, 1) := by decide +kernel
theorem dX9_call_63 : decode cX9_call 63 = .ok (.if_icmp .ne 12, 3) := by decide +kernel
theorem dX9_call_66 : decode cX9_call 66 = .ok (.aload_n 0, 1) := by decide +kernel
theorem dX9_call_67 : decode cX9_call 67 = .ok (.getfield 33, 3) := by decide +kernel
theorem dX9_call_70 : decode cX9_call 70 = .ok (.iload_n 1, 1) := by decide +kernel
theorem dX9_call_71 : decode cX9_call 71 = .ok (.iaload, 1) := by decide +kernel
theorem dX9_call_72 : decode cX9_call 72 = .ok (.goto 4, 3) := by decide +kernel
theorem dX9_call_75 : decode cX9_call 75 = .ok (.iconst (-1), 1) := by decide +kernel
theorem dX9_call_76 : decode cX9_call 76 = .ok (.ireturn, 1) := by decide +kernel
theorem dX9_wakes_0 : decode cX9_wakes 0 = .ok (.aload_n 0, 1) := by decide +kernel
theorem dX9_wakes_1 : decode cX9_wakes 1 = .ok (.iload_n 1, 1) := by decide +kernel
theorem dX9_wakes_2 : decode cX9_wakes 2 = .ok (.invokevirtual 209, 3) := by decide +kernel
theorem dX9_wakes_5 : decode cX9_wakes 5 = .ok (.ifCond .eq 10, 3) := by decide +kernel
theorem dX9_wakes_8 : decode cX9_wakes 8 = .ok (.aload_n 0, 1) := by decide +kernel
theorem dX9_wakes_9 : decode cX9_wakes 9 = .ok (.getfield 105, 3) := by decide +kernel
theorem dX9_wakes_12 : decode cX9_wakes 12 = .ok (.goto 4, 3) := by decide +kernel
theorem dX9_wakes_15 : decode cX9_wakes 15 = .ok (.iconst (-1), 1) := by decide +kernel
theorem dX9_wakes_16 : decode cX9_wakes 16 = .ok (.ireturn, 1) := by decide +kernel
theorem dX9_wake_0 : decode cX9_wake 0 = .ok (.aload_n 0, 1) := by decide +kernel
theorem dX9_wake_1 : decode cX9_wake 1 = .ok (.iload_n 1, 1) := by decide +kernel
theorem dX9_wake_2 : decode cX9_wake 2 = .ok (.invokevirtual 209, 3) := by decide +kernel
theorem dX9_wake_5 : decode cX9_wake 5 = .ok (.ifCond .eq 26, 3) := by decide +kernel
theorem dX9_wake_8 : decode cX9_wake 8 = .ok (.iload_n 2, 1) := by decide +kernel
theorem dX9_wake_9 : decode cX9_wake 9 = .ok (.iconst 0, 1) := by decide +kernel
theorem dX9_wake_10 : decode cX9_wake 10 = .ok (.aload_n 0, 1) := by decide +kernel
theorem dX9_wake_11 : decode cX9_wake 11 = .ok (.getfield 105, 3) := by decide +kernel
theorem dX9_wake_14 : decode cX9_wake 14 = .ok (.iconst 1, 1) := by decide +kernel
theorem dX9_wake_15 : decode cX9_wake 15 = .ok (.isub, 1) := by decide +kernel
theorem dX9_wake_16 : decode cX9_wake 16 = .ok (.invokestatic 77, 3) := by decide +kernel
theorem dX9_wake_19 : decode cX9_wake 19 = .ok (.ifCond .eq 12, 3) := by decide +kernel
theorem dX9_wake_22 : decode cX9_wake 22 = .ok (.aload_n 0, 1) := by decide +kernel
theorem dX9_wake_23 : decode cX9_wake 23 = .ok (.getfield 36, 3) := by decide +kernel
theorem dX9_wake_26 : decode cX9_wake 26 = .ok (.iload_n 2, 1) := by decide +kernel
theorem dX9_wake_27 : decode cX9_wake 27 = .ok (.iaload, 1) := by decide +kernel
theorem dX9_wake_28 : decode cX9_wake 28 = .ok (.goto 4, 3) := by decide +kernel
theorem dX9_wake_31 : decode cX9_wake 31 = .ok (.iconst (-1), 1) := by decide +kernel
theorem dX9_wake_32 : decode cX9_wake 32 = .ok (.ireturn, 1) := by decide +kernel
theorem dX9_price_0 : decode cX9_price 0 = .ok (.aload_n 0, 1) := by decide +kernel
theorem dX9_price_1 : decode cX9_price 1 = .ok (.iload_n 1, 1) := by decide +kernel
theorem dX9_price_2 : decode cX9_price 2 = .ok (.invokevirtual 209, 3) := by decide +kernel
theorem dX9_price_5 : decode cX9_price 5 = .ok (.ifCond .ne 5, 3) := by decide +kernel
theorem dX9_price_8 : decode cX9_price 8 = .ok (.iconst (-1), 1) := by decide +kernel
theorem dX9_price_9 : decode cX9_price 9 = .ok (.ireturn, 1) := by decide +kernel
theorem dX9_price_10 : decode cX9_price 10 = .ok (.iload_n 2, 1) := by decide +kernel
theorem dX9_price_11 : decode cX9_price 11 = .ok (.tableswitch 80 0 5 #[37, 55, 60, 65, 70, 75], 37) := by decide +kernel
theorem dX9_price_48 : decode cX9_price 48 = .ok (.aload_n 0, 1) := by decide +kernel
theorem dX9_price_49 : decode cX9_price 49 = .ok (.getfield 7, 3) := by decide +kernel
theorem dX9_price_52 : decode cX9_price 52 = .ok (.bipush 99, 2) := by decide +kernel
theorem dX9_price_54 : decode cX9_price 54 = .ok (.iaload, 1) := by decide +kernel
theorem dX9_price_55 : decode cX9_price 55 = .ok (.aload_n 0, 1) := by decide +kernel
theorem dX9_price_56 : decode cX9_price 56 = .ok (.getfield 105, 3) := by decide +kernel
theorem dX9_price_59 : decode cX9_price 59 = .ok (.imul, 1) := by decide +kernel
theorem dX9_price_60 : decode cX9_price 60 = .ok (.aload_n 0, 1) := by decide +kernel
theorem dX9_price_61 : decode cX9_price 61 = .ok (.invokevirtual 197, 3) := by decide +kernel
theorem dX9_price_64 : decode cX9_price 64 = .ok (.iadd, 1) := by decide +kernel
theorem dX9_price_65 : decode cX9_price 65 = .ok (.ireturn, 1) := by decide +kernel
theorem dX9_price_66 : decode cX9_price 66 = .ok (.aload_n 0, 1) := by decide +kernel
theorem dX9_price_67 : decode cX9_price 67 = .ok (.invokevirtual 197, 3) := by decide +kernel
theorem dX9_price_70 : decode cX9_price 70 = .ok (.ireturn, 1) := by decide +kernel
theorem dX9_price_71 : decode cX9_price 71 = .ok (.aload_n 0, 1) := by decide +kernel
theorem dX9_price_72 : decode cX9_price 72 = .ok (.invokevirtual 212, 3) := by decide +kernel
theorem dX9_price_75 : decode cX9_price 75 = .ok (.ireturn, 1) := by decide +kernel
theorem dX9_price_76 : decode cX9_price 76 = .ok (.aload_n 0, 1) := by decide +kernel
theorem dX9_price_77 : decode cX9_price 77 = .ok (.invokevirtual 215, 3) := by decide +kernel
theorem dX9_price_80 : decode cX9_price 80 = .ok (.ireturn, 1) := by decide +kernel
theorem dX9_price_81 : decode cX9_price 81 = .ok (.aload_n 0, 1) := by decide +kernel
theorem dX9_price_82 : decode cX9_price 82 = .ok (.invokevirtual 218, 3) := by decide +kernel
theorem dX9_price_85 : decode cX9_price 85 = .ok (.ireturn, 1) := by decide +kernel
theorem dX9_price_86 : decode cX9_price 86 = .ok (.aload_n 0, 1) := by decide +kernel
theorem dX9_price_87 : decode cX9_price 87 = .ok (.invokevirtual 221, 3) := by decide +kernel
theorem dX9_price_90 : decode cX9_price 90 = .ok (.ireturn, 1) := by decide +kernel
theorem dX9_price_91 : decode cX9_price 91 = .ok (.iconst (-1), 1) := by decide +kernel
theorem dX9_price_92 : decode cX9_price 92 = .ok (.ireturn, 1) := by decide +kernel
theorem dX9_proof_0 : decode cX9_proof 0 = .ok (.aload_n 0, 1) := by decide +kernel
theorem dX9_proof_1 : decode cX9_proof 1 = .ok (.iconst 0, 1) := by decide +kernel
theorem dX9_proof_2 : decode cX9_proof 2 = .ok (.invokevirtual 209, 3) := by decide +kernel
theorem dX9_proof_5 : decode cX9_proof 5 = .ok (.istore_n 2, 1) := by decide +kernel
theorem dX9_proof_6 : decode cX9_proof 6 = .ok (.iload_n 2, 1) := by decide +kernel
theorem dX9_proof_7 : decode cX9_proof 7 = .ok (.ifCond .eq 17, 3) := by decide +kernel
theorem dX9_proof_10 : decode cX9_proof 10 = .ok (.iload_n 1, 1) := by decide +kernel
theorem dX9_proof_11 : decode cX9_proof 11 = .ok (.iconst 0, 1) := by decide +kernel
theorem dX9_proof_12 : decode cX9_proof 12 = .ok (.aload_n 0, 1) := by decide +kernel
theorem dX9_proof_13 : decode cX9_proof 13 = .ok (.getfield 105, 3) := by decide +kernel
theorem dX9_proof_16 : decode cX9_proof 16 = .ok (.iconst 1, 1) := by decide +kernel
theorem dX9_proof_17 : decode cX9_proof 17 = .ok (.isub, 1) := by decide +kernel
theorem dX9_proof_18 : decode cX9_proof 18 = .ok (.invokestatic 77, 3) := by decide +kernel
theorem dX9_proof_21 : decode cX9_proof 21 = .ok (.ifCond .ne 5, 3) := by decide +kernel
theorem dX9_proof_24 : decode cX9_proof 24 = .ok (.iconst (-1), 1) := by decide +kernel
theorem dX9_proof_25 : decode cX9_proof 25 = .ok (.ireturn, 1) := by decide +kernel
theorem dX9_proof_26 : decode cX9_proof 26 = .ok (.iconst 0, 1) := by decide +kernel
theorem dX9_proof_27 : decode cX9_proof 27 = .ok (.istore_n 3, 1) := by decide +kernel
theorem dX9_proof_28 : decode cX9_proof 28 = .ok (.aload_n 0, 1) := by decide +kernel
theorem dX9_proof_29 : decode cX9_proof 29 = .ok (.aload_n 0, 1) := by decide +kernel
theorem dX9_proof_30 : decode cX9_proof 30 = .ok (.getfield 24, 3) := by decide +kernel
theorem dX9_proof_33 : decode cX9_proof 33 = .ok (.iload_n 3, 1) := by decide +kernel
theorem dX9_proof_34 : decode cX9_proof 34 = .ok (.iaload, 1) := by decide +kernel
theorem dX9_proof_35 : decode cX9_proof 35 = .ok (.invokevirtual 142, 3) := by decide +kernel
theorem dX9_proof_38 : decode cX9_proof 38 = .ok (.aload_n 0, 1) := by decide +kernel
theorem dX9_proof_39 : decode cX9_proof 39 = .ok (.getfield 36, 3) := by decide +kernel
theorem dX9_proof_42 : decode cX9_proof 42 = .ok (.iload_n 1, 1) := by decide +kernel
theorem dX9_proof_43 : decode cX9_proof 43 = .ok (.iaload, 1) := by decide +kernel
theorem dX9_proof_44 : decode cX9_proof 44 = .ok (.if_icmp .ne 18, 3) := by decide +kernel
theorem dX9_proof_47 : decode cX9_proof 47 = .ok (.aload_n 0, 1) := by decide +kernel
theorem dX9_proof_48 : decode cX9_proof 48 = .ok (.getfield 27, 3) := by decide +kernel
theorem dX9_proof_51 : decode cX9_proof 51 = .ok (.iload_n 3, 1) := by decide +kernel
theorem dX9_proof_52 : decode cX9_proof 52 = .ok (.iaload, 1) := by decide +kernel
theorem dX9_proof_53 : decode cX9_proof 53 = .ok (.aload_n 0, 1) := by decide +kernel
theorem dX9_proof_54 : decode cX9_proof 54 = .ok (.getfield 36, 3) := by decide +kernel
theorem dX9_proof_57 : decode cX9_proof 57 = .ok (.iload_n 1, 1) := by decide +kernel
theorem dX9_proof_58 : decode cX9_proof 58 = .ok (.iaload, 1) := by decide +kernel
theorem dX9_proof_59 : decode cX9_proof 59 = .ok (.if_icmp .eq 9, 3) := by decide +kernel
theorem dX9_proof_62 : decode cX9_proof 62 = .ok (.iinc 3 1, 3) := by decide +kernel
theorem dX9_proof_65 : decode cX9_proof 65 = .ok (.goto (-37), 3) := by decide +kernel
theorem dX9_proof_68 : decode cX9_proof 68 = .ok (.iload_n 3, 1) := by decide +kernel
theorem dX9_proof_69 : decode cX9_proof 69 = .ok (.ireturn, 1) := by decide +kernel
theorem dX9_answer_0 : decode cX9_answer 0 = .ok (.aload_n 0, 1) := by decide +kernel
theorem dX9_answer_1 : decode cX9_answer 1 = .ok (.iload_n 1, 1) := by decide +kernel
theorem dX9_answer_2 : decode cX9_answer 2 = .ok (.invokevirtual 209, 3) := by decide +kernel
theorem dX9_answer_5 : decode cX9_answer 5 = .ok (.ifCond .eq 30, 3) := by decide +kernel
theorem dX9_answer_8 : decode cX9_answer 8 = .ok (.iload_n 2, 1) := by decide +kernel
theorem dX9_answer_9 : decode cX9_answer 9 = .ok (.iconst 0, 1) := by decide +kernel
theorem dX9_answer_10 : decode cX9_answer 10 = .ok (.aload_n 0, 1) := by decide +kernel
theorem dX9_answer_11 : decode cX9_answer 11 = .ok (.getfield 85, 3) := by decide +kernel
theorem dX9_answer_14 : decode cX9_answer 14 = .ok (.iconst 1, 1) := by decide +kernel
theorem dX9_answer_15 : decode cX9_answer 15 = .ok (.isub, 1) := by decide +kernel
theorem dX9_answer_16 : decode cX9_answer 16 = .ok (.invokestatic 77, 3) := by decide +kernel
theorem dX9_answer_19 : decode cX9_answer 19 = .ok (.ifCond .eq 16, 3) := by decide +kernel
theorem dX9_answer_22 : decode cX9_answer 22 = .ok (.aload_n 0, 1) := by decide +kernel
theorem dX9_answer_23 : decode cX9_answer 23 = .ok (.aload_n 0, 1) := by decide +kernel
theorem dX9_answer_24 : decode cX9_answer 24 = .ok (.getfield 24, 3) := by decide +kernel
theorem dX9_answer_27 : decode cX9_answer 27 = .ok (.iload_n 2, 1) := by decide +kernel
theorem dX9_answer_28 : decode cX9_answer 28 = .ok (.iaload, 1) := by decide +kernel
theorem dX9_answer_29 : decode cX9_answer 29 = .ok (.invokevirtual 142, 3) := by decide +kernel
theorem dX9_answer_32 : decode cX9_answer 32 = .ok (.goto 4, 3) := by decide +kernel
theorem dX9_answer_35 : decode cX9_answer 35 = .ok (.iconst (-1), 1) := by decide +kernel
theorem dX9_answer_36 : decode cX9_answer 36 = .ok (.ireturn, 1) := by decide +kernel
theorem dX9_common_0 : decode cX9_common 0 = .ok (.iload_n 0, 1) := by decide +kernel
theorem dX9_common_1 : decode cX9_common 1 = .ok (.istore_n 2, 1) := by decide +kernel
theorem dX9_common_2 : decode cX9_common 2 = .ok (.iload_n 1, 1) := by decide +kernel
theorem dX9_common_3 : decode cX9_common 3 = .ok (.istore_n 3, 1) := by decide +kernel
theorem dX9_common_4 : decode cX9_common 4 = .ok (.iload_n 3, 1) := by decide +kernel
theorem dX9_common_5 : decode cX9_common 5 = .ok (.ifCond .eq 16, 3) := by decide +kernel
theorem dX9_common_8 : decode cX9_common 8 = .ok (.iload_n 2, 1) := by decide +kernel
theorem dX9_common_9 : decode cX9_common 9 = .ok (.iload_n 3, 1) := by decide +kernel
theorem dX9_common_10 : decode cX9_common 10 = .ok (.irem, 1) := by decide +kernel
theorem dX9_common_11 : decode cX9_common 11 = .ok (.istore 4, 2) := by decide +kernel
theorem dX9_common_13 : decode cX9_common 13 = .ok (.iload_n 3, 1) := by decide +kernel
theorem dX9_common_14 : decode cX9_common 14 = .ok (.istore_n 2, 1) := by decide +kernel
theorem dX9_common_15 : decode cX9_common 15 = .ok (.iload 4, 2) := by decide +kernel
theorem dX9_common_17 : decode cX9_common 17 = .ok (.istore_n 3, 1) := by decide +kernel
theorem dX9_common_18 : decode cX9_common 18 = .ok (.goto (-14), 3) := by decide +kernel
theorem dX9_common_21 : decode cX9_common 21 = .ok (.iload_n 2, 1) := by decide +kernel
theorem dX9_common_22 : decode cX9_common 22 = .ok (.ireturn, 1) := by decide +kernel
theorem dX9_laysHyper_0 : decode cX9_laysHyper 0 = .ok (.aload_n 0, 1) := by decide +kernel
theorem dX9_laysHyper_1 : decode cX9_laysHyper 1 = .ok (.iconst 0, 1) := by decide +kernel
theorem dX9_laysHyper_2 : decode cX9_laysHyper 2 = .ok (.putfield 224, 3) := by decide +kernel
theorem dX9_laysHyper_5 : decode cX9_laysHyper 5 = .ok (.iconst 0, 1) := by decide +kernel
theorem dX9_laysHyper_6 : decode cX9_laysHyper 6 = .ok (.istore_n 1, 1) := by decide +kernel
theorem dX9_laysHyper_7 : decode cX9_laysHyper 7 = .ok (.iload_n 1, 1) := by decide +kernel
theorem dX9_laysHyper_8 : decode cX9_laysHyper 8 = .ok (.aload_n 0, 1) := by decide +kernel
theorem dX9_laysHyper_9 : decode cX9_laysHyper 9 = .ok (.invokevirtual 88, 3) := by decide +kernel
theorem dX9_laysHyper_12 : decode cX9_laysHyper 12 = .ok (.if_icmp .ge 68, 3) := by decide +kernel
theorem dX9_laysHyper_15 : decode cX9_laysHyper 15 = .ok (.aload_n 0, 1) := by decide +kernel
theorem dX9_laysHyper_16 : decode cX9_laysHyper 16 = .ok (.getfield 7, 3) := by decide +kernel
theorem dX9_laysHyper_19 : decode cX9_laysHyper 19 = .ok (.bipush 48, 2) := by decide +kernel
theorem dX9_laysHyper_21 : decode cX9_laysHyper 21 = .ok (.iload_n 1, 1) := by decide +kernel
theorem dX9_laysHyper_22 : decode cX9_laysHyper 22 = .ok (.iadd, 1) := by decide +kernel
theorem dX9_laysHyper_23 : decode cX9_laysHyper 23 = .ok (.iaload, 1) := by decide +kernel
theorem dX9_laysHyper_24 : decode cX9_laysHyper 24 = .ok (.istore_n 2, 1) := by decide +kernel
theorem dX9_laysHyper_25 : decode cX9_laysHyper 25 = .ok (.iload_n 2, 1) := by decide +kernel
theorem dX9_laysHyper_26 : decode cX9_laysHyper 26 = .ok (.ifCond .ne 6, 3) := by decide +kernel
theorem dX9_laysHyper_29 : decode cX9_laysHyper 29 = .ok (.goto 45, 3) := by decide +kernel
theorem dX9_laysHyper_32 : decode cX9_laysHyper 32 = .ok (.aload_n 0, 1) := by decide +kernel
theorem dX9_laysHyper_33 : decode cX9_laysHyper 33 = .ok (.aload_n 0, 1) := by decide +kernel
theorem dX9_laysHyper_34 : decode cX9_laysHyper 34 = .ok (.getfield 224, 3) := by decide +kernel
theorem dX9_laysHyper_37 : decode cX9_laysHyper 37 = .ok (.ifCond .ne 7, 3) := by decide +kernel
theorem dX9_laysHyper_40 : decode cX9_laysHyper 40 = .ok (.iload_n 2, 1) := by decide +kernel
theorem dX9_laysHyper_41 : decode cX9_laysHyper 41 = .ok (.goto 18, 3) := by decide +kernel
theorem dX9_laysHyper_44 : decode cX9_laysHyper 44 = .ok (.aload_n 0, 1) := by decide +kernel
theorem dX9_laysHyper_45 : decode cX9_laysHyper 45 = .ok (.getfield 224, 3) := by decide +kernel
theorem dX9_laysHyper_48 : decode cX9_laysHyper 48 = .ok (.aload_n 0, 1) := by decide +kernel
theorem dX9_laysHyper_49 : decode cX9_laysHyper 49 = .ok (.getfield 224, 3) := by decide +kernel
theorem dX9_laysHyper_52 : decode cX9_laysHyper 52 = .ok (.iload_n 2, 1) := by decide +kernel
theorem dX9_laysHyper_53 : decode cX9_laysHyper 53 = .ok (.invokestatic 227, 3) := by decide +kernel
theorem dX9_laysHyper_56 : decode cX9_laysHyper 56 = .ok (.idiv, 1) := by decide +kernel
theorem dX9_laysHyper_57 : decode cX9_laysHyper 57 = .ok (.iload_n 2, 1) := by decide +kernel
theorem dX9_laysHyper_58 : decode cX9_laysHyper 58 = .ok (.imul, 1) := by decide +kernel
theorem dX9_laysHyper_59 : decode cX9_laysHyper 59 = .ok (.putfield 224, 3) := by decide +kernel
theorem dX9_laysHyper_62 : decode cX9_laysHyper 62 = .ok (.aload_n 0, 1) := by decide +kernel
theorem dX9_laysHyper_63 : decode cX9_laysHyper 63 = .ok (.getfield 224, 3) := by decide +kernel
theorem dX9_laysHyper_66 : decode cX9_laysHyper 66 = .ok (.sipush 360, 3) := by decide +kernel
theorem dX9_laysHyper_69 : decode cX9_laysHyper 69 = .ok (.if_icmp .le 5, 3) := by decide +kernel
theorem dX9_laysHyper_72 : decode cX9_laysHyper 72 = .ok (.iconst 0, 1) := by decide +kernel
theorem dX9_laysHyper_73 : decode cX9_laysHyper 73 = .ok (.ireturn, 1) := by decide +kernel
theorem dX9_laysHyper_74 : decode cX9_laysHyper 74 = .ok (.iinc 1 1, 3) := by decide +kernel
theorem dX9_laysHyper_77 : decode cX9_laysHyper 77 = .ok (.goto (-70), 3) := by decide +kernel
theorem dX9_laysHyper_80 : decode cX9_laysHyper 80 = .ok (.aload_n 0, 1) := by decide +kernel
theorem dX9_laysHyper_81 : decode cX9_laysHyper 81 = .ok (.iconst 0, 1) := by decide +kernel
theorem dX9_laysHyper_82 : decode cX9_laysHyper 82 = .ok (.putfield 230, 3) := by decide +kernel
theorem dX9_laysHyper_85 : decode cX9_laysHyper 85 = .ok (.iconst 0, 1) := by decide +kernel
theorem dX9_laysHyper_86 : decode cX9_laysHyper 86 = .ok (.istore_n 1, 1) := by decide +kernel
theorem dX9_laysHyper_87 : decode cX9_laysHyper 87 = .ok (.iload_n 1, 1) := by decide +kernel
theorem dX9_laysHyper_88 : decode cX9_laysHyper 88 = .ok (.aload_n 0, 1) := by decide +kernel
theorem dX9_laysHyper_89 : decode cX9_laysHyper 89 = .ok (.invokevirtual 88, 3) := by decide +kernel
theorem dX9_laysHyper_92 : decode cX9_laysHyper 92 = .ok (.if_icmp .ge 55, 3) := by decide +kernel
theorem dX9_laysHyper_95 : decode cX9_laysHyper 95 = .ok (.aload_n 0, 1) := by decide +kernel
theorem dX9_laysHyper_96 : decode cX9_laysHyper 96 = .ok (.getfield 224, 3) := by decide +kernel
theorem dX9_laysHyper_99 : decode cX9_laysHyper 99 = .ok (.ifCond .le 48, 3) := by decide +kernel
theorem dX9_laysHyper_102 : decode cX9_laysHyper 102 = .ok (.aload_n 0, 1) := by decide +kernel
theorem dX9_laysHyper_103 : decode cX9_laysHyper 103 = .ok (.dup, 1) := by decide +kernel
theorem dX9_laysHyper_104 : decode cX9_laysHyper 104 = .ok (.getfield 230, 3) := by decide +kernel
theorem dX9_laysHyper_107 : decode cX9_laysHyper 107 = .ok (.aload_n 0, 1) := by decide +kernel
theorem dX9_laysHyper_108 : decode cX9_laysHyper 108 = .ok (.getfield 7, 3) := by decide +kernel
theorem dX9_laysHyper_111 : decode cX9_laysHyper 111 = .ok (.bipush 48, 2) := by decide +kernel
theorem dX9_laysHyper_113 : decode cX9_laysHyper 113 = .ok (.iload_n 1, 1) := by decide +kernel
theorem dX9_laysHyper_114 : decode cX9_laysHyper 114 = .ok (.iadd, 1) := by decide +kernel
theorem dX9_laysHyper_115 : decode cX9_laysHyper 115 = .ok (.iaload, 1) := by decide +kernel
theorem dX9_laysHyper_116 : decode cX9_laysHyper 116 = .ok (.ifCond .ne 7, 3) := by decide +kernel
theorem dX9_laysHyper_119 : decode cX9_laysHyper 119 = .ok (.iconst 0, 1) := by decide +kernel
theorem dX9_laysHyper_120 : decode cX9_laysHyper 120 = .ok (.goto 17, 3) := by decide +kernel
theorem dX9_laysHyper_123 : decode cX9_laysHyper 123 = .ok (.aload_n 0, 1) := by decide +kernel
theorem dX9_laysHyper_124 : decode cX9_laysHyper 124 = .ok (.getfield 224, 3) := by decide +kernel
theorem dX9_laysHyper_127 : decode cX9_laysHyper 127 = .ok (.aload_n 0, 1) := by decide +kernel
theorem dX9_laysHyper_128 : decode cX9_laysHyper 128 = .ok (.getfield 7, 3) := by decide +kernel
theorem dX9_laysHyper_131 : decode cX9_laysHyper 131 = .ok (.bipush 48, 2) := by decide +kernel
theorem dX9_laysHyper_133 : decode cX9_laysHyper 133 = .ok (.iload_n 1, 1) := by decide +kernel
theorem dX9_laysHyper_134 : decode cX9_laysHyper 134 = .ok (.iadd, 1) := by decide +kernel
theorem dX9_laysHyper_135 : decode cX9_laysHyper 135 = .ok (.iaload, 1) := by decide +kernel
theorem dX9_laysHyper_136 : decode cX9_laysHyper 136 = .ok (.idiv, 1) := by decide +kernel
theorem dX9_laysHyper_137 : decode cX9_laysHyper 137 = .ok (.iadd, 1) := by decide +kernel
theorem dX9_laysHyper_138 : decode cX9_laysHyper 138 = .ok (.putfield 230, 3) := by decide +kernel
theorem dX9_laysHyper_141 : decode cX9_laysHyper 141 = .ok (.iinc 1 1, 3) := by decide +kernel
theorem dX9_laysHyper_144 : decode cX9_laysHyper 144 = .ok (.goto (-57), 3) := by decide +kernel
theorem dX9_laysHyper_147 : decode cX9_laysHyper 147 = .ok (.aload_n 0, 1) := by decide +kernel
theorem dX9_laysHyper_148 : decode cX9_laysHyper 148 = .ok (.getfield 224, 3) := by decide +kernel
theorem dX9_laysHyper_151 : decode cX9_laysHyper 151 = .ok (.ifCond .le 17, 3) := by decide +kernel
theorem dX9_laysHyper_154 : decode cX9_laysHyper 154 = .ok (.aload_n 0, 1) := by decide +kernel
theorem dX9_laysHyper_155 : decode cX9_laysHyper 155 = .ok (.getfield 230, 3) := by decide +kernel
theorem dX9_laysHyper_158 : decode cX9_laysHyper 158 = .ok (.sipush 400, 3) := by decide +kernel
theorem dX9_laysHyper_161 : decode cX9_laysHyper 161 = .ok (.if_icmp .gt 7, 3) := by decide +kernel
theorem dX9_laysHyper_164 : decode cX9_laysHyper 164 = .ok (.iconst 1, 1) := by decide +kernel
theorem dX9_laysHyper_165 : decode cX9_laysHyper 165 = .ok (.goto 4, 3) := by decide +kernel
theorem dX9_laysHyper_168 : decode cX9_laysHyper 168 = .ok (.iconst 0, 1) := by decide +kernel
theorem dX9_laysHyper_169 : decode cX9_laysHyper 169 = .ok (.ireturn, 1) := by decide +kernel
theorem dX9_nextLatest_0 : decode cX9_nextLatest 0 = .ok (.iconst (-1), 1) := by decide +kernel
theorem dX9_nextLatest_1 : decode cX9_nextLatest 1 = .ok (.istore_n 2, 1) := by decide +kernel
theorem dX9_nextLatest_2 : decode cX9_nextLatest 2 = .ok (.iconst 0, 1) := by decide +kernel
theorem dX9_nextLatest_3 : decode cX9_nextLatest 3 = .ok (.istore_n 3, 1) := by decide +kernel
theorem dX9_nextLatest_4 : decode cX9_nextLatest 4 = .ok (.iload_n 3, 1) := by decide +kernel
theorem dX9_nextLatest_5 : decode cX9_nextLatest 5 = .ok (.aload_n 0, 1) := by decide +kernel
theorem dX9_nextLatest_6 : decode cX9_nextLatest 6 = .ok (.invokevirtual 88, 3) := by decide +kernel
theorem dX9_nextLatest_9 : decode cX9_nextLatest 9 = .ok (.if_icmp .ge 102, 3) := by decide +kernel
theorem dX9_nextLatest_12 : decode cX9_nextLatest 12 = .ok (.aload_n 0, 1) := by decide +kernel
theorem dX9_nextLatest_13 : decode cX9_nextLatest 13 = .ok (.getfield 7, 3) := by decide +kernel
theorem dX9_nextLatest_16 : decode cX9_nextLatest 16 = .ok (.bipush 48, 2) := by decide +kernel
theorem dX9_nextLatest_18 : decode cX9_nextLatest 18 = .ok (.iload_n 3, 1) := by decide +kernel
theorem dX9_nextLatest_19 : decode cX9_nextLatest 19 = .ok (.iadd, 1) := by decide +kernel
theorem dX9_nextLatest_20 : decode cX9_nextLatest 20 = .ok (.iaload, 1) := by decide +kernel
theorem dX9_nextLatest_21 : decode cX9_nextLatest 21 = .ok (.istore 4, 2) := by decide +kernel
theorem dX9_nextLatest_23 : decode cX9_nextLatest 23 = .ok (.iload 4, 2) := by decide +kernel
theorem dX9_nextLatest_25 : decode cX9_nextLatest 25 = .ok (.ifCond .ne 6, 3) := by decide +kernel
theorem dX9_nextLatest_28 : decode cX9_nextLatest 28 = .ok (.goto 77, 3) := by decide +kernel
theorem dX9_nextLatest_31 : decode cX9_nextLatest 31 = .ok (.iload_n 1, 1) := by decide +kernel
theorem dX9_nextLatest_32 : decode cX9_nextLatest 32 = .ok (.iconst 1, 1) := by decide +kernel
theorem dX9_nextLatest_33 : decode cX9_nextLatest 33 = .ok (.iadd, 1) := by decide +kernel
theorem dX9_nextLatest_34 : decode cX9_nextLatest 34 = .ok (.istore 5, 2) := by decide +kernel
theorem dX9_nextLatest_36 : decode cX9_nextLatest 36 = .ok (.aload_n 0, 1) := by decide +kernel
theorem dX9_nextLatest_37 : decode cX9_nextLatest 37 = .ok (.getfield 7, 3) := by decide +kernel
theorem dX9_nextLatest_40 : decode cX9_nextLatest 40 = .ok (.bipush 72, 2) := by decide +kernel
theorem dX9_nextLatest_42 : decode cX9_nextLatest 42 = .ok (.iload_n 3, 1) := by decide +kernel
theorem dX9_nextLatest_43 : decode cX9_nextLatest 43 = .ok (.iadd, 1) := by decide +kernel
theorem dX9_nextLatest_44 : decode cX9_nextLatest 44 = .ok (.iaload, 1) := by decide +kernel
theorem dX9_nextLatest_45 : decode cX9_nextLatest 45 = .ok (.iload 5, 2) := by decide +kernel
theorem dX9_nextLatest_47 : decode cX9_nextLatest 47 = .ok (.isub, 1) := by decide +kernel
theorem dX9_nextLatest_48 : decode cX9_nextLatest 48 = .ok (.iload 4, 2) := by decide +kernel
theorem dX9_nextLatest_50 : decode cX9_nextLatest 50 = .ok (.irem, 1) := by decide +kernel
theorem dX9_nextLatest_51 : decode cX9_nextLatest 51 = .ok (.istore 6, 2) := by decide +kernel
theorem dX9_nextLatest_53 : decode cX9_nextLatest 53 = .ok (.iload 5, 2) := by decide +kernel
theorem dX9_nextLatest_55 : decode cX9_nextLatest 55 = .ok (.iload 6, 2) := by decide +kernel
theorem dX9_nextLatest_57 : decode cX9_nextLatest 57 = .ok (.ifCond .ge 11, 3) := by decide +kernel
theorem dX9_nextLatest_60 : decode cX9_nextLatest 60 = .ok (.iload 6, 2) := by decide +kernel
theorem dX9_nextLatest_62 : decode cX9_nextLatest 62 = .ok (.iload 4, 2) := by decide +kernel
theorem dX9_nextLatest_64 : decode cX9_nextLatest 64 = .ok (.iadd, 1) := by decide +kernel
theorem dX9_nextLatest_65 : decode cX9_nextLatest 65 = .ok (.goto 5, 3) := by decide +kernel
theorem dX9_nextLatest_68 : decode cX9_nextLatest 68 = .ok (.iload 6, 2) := by decide +kernel
theorem dX9_nextLatest_70 : decode cX9_nextLatest 70 = .ok (.iadd, 1) := by decide +kernel
theorem dX9_nextLatest_71 : decode cX9_nextLatest 71 = .ok (.aload_n 0, 1) := by decide +kernel
theorem dX9_nextLatest_72 : decode cX9_nextLatest 72 = .ok (.aload_n 0, 1) := by decide +kernel
theorem dX9_nextLatest_73 : decode cX9_nextLatest 73 = .ok (.getfield 7, 3) := by decide +kernel
theorem dX9_nextLatest_76 : decode cX9_nextLatest 76 = .ok (.bipush 24, 2) := by decide +kernel
theorem dX9_nextLatest_78 : decode cX9_nextLatest 78 = .ok (.iload_n 3, 1) := by decide +kernel
theorem dX9_nextLatest_79 : decode cX9_nextLatest 79 = .ok (.iadd, 1) := by decide +kernel
theorem dX9_nextLatest_80 : decode cX9_nextLatest 80 = .ok (.iaload, 1) := by decide +kernel
theorem dX9_nextLatest_81 : decode cX9_nextLatest 81 = .ok (.invokevirtual 95, 3) := by decide +kernel
theorem dX9_nextLatest_84 : decode cX9_nextLatest 84 = .ok (.iadd, 1) := by decide +kernel
theorem dX9_nextLatest_85 : decode cX9_nextLatest 85 = .ok (.istore 7, 2) := by decide +kernel
theorem dX9_nextLatest_87 : decode cX9_nextLatest 87 = .ok (.iload_n 2, 1) := by decide +kernel
theorem dX9_nextLatest_88 : decode cX9_nextLatest 88 = .ok (.iconst (-1), 1) := by decide +kernel
theorem dX9_nextLatest_89 : decode cX9_nextLatest 89 = .ok (.if_icmp .eq 9, 3) := by decide +kernel
theorem dX9_nextLatest_92 : decode cX9_nextLatest 92 = .ok (.iload 7, 2) := by decide +kernel
theorem dX9_nextLatest_94 : decode cX9_nextLatest 94 = .ok (.iload_n 2, 1) := by decide +kernel
theorem dX9_nextLatest_95 : decode cX9_nextLatest 95 = .ok (.if_icmp .ge 8, 3) := by decide +kernel
theorem dX9_nextLatest_98 : decode cX9_nextLatest 98 = .ok (.iload 7, 2) := by decide +kernel
theorem dX9_nextLatest_100 : decode cX9_nextLatest 100 = .ok (.goto 4, 3) := by decide +kernel
theorem dX9_nextLatest_103 : decode cX9_nextLatest 103 = .ok (.iload_n 2, 1) := by decide +kernel
theorem dX9_nextLatest_104 : decode cX9_nextLatest 104 = .ok (.istore_n 2, 1) := by decide +kernel
theorem dX9_nextLatest_105 : decode cX9_nextLatest 105 = .ok (.iinc 3 1, 3) := by decide +kernel
theorem dX9_nextLatest_108 : decode cX9_nextLatest 108 = .ok (.goto (-104), 3) := by decide +kernel
theorem dX9_nextLatest_111 : decode cX9_nextLatest 111 = .ok (.iload_n 2, 1) := by decide +kernel
theorem dX9_nextLatest_112 : decode cX9_nextLatest 112 = .ok (.ireturn, 1) := by decide +kernel
theorem dX9_laysRound_0 : decode cX9_laysRound 0 = .ok (.aload_n 0, 1) := by decide +kernel
theorem dX9_laysRound_1 : decode cX9_laysRound 1 = .ok (.invokevirtual 233, 3) := by decide +kernel
theorem dX9_laysRound_4 : decode cX9_laysRound 4 = .ok (.ifCond .ne 5, 3) := by decide +kernel
theorem dX9_laysRound_7 : decode cX9_laysRound 7 = .ok (.iconst 0, 1) := by decide +kernel
theorem dX9_laysRound_8 : decode cX9_laysRound 8 = .ok (.ireturn, 1) := by decide +kernel
theorem dX9_laysRound_9 : decode cX9_laysRound 9 = .ok (.aload_n 0, 1) := by decide +kernel
theorem dX9_laysRound_10 : decode cX9_laysRound 10 = .ok (.sipush 401, 3) := by decide +kernel
theorem dX9_laysRound_13 : decode cX9_laysRound 13 = .ok (.putfield 236, 3) := by decide +kernel
theorem dX9_laysRound_16 : decode cX9_laysRound 16 = .ok (.iconst 0, 1) := by decide +kernel
theorem dX9_laysRound_17 : decode cX9_laysRound 17 = .ok (.istore_n 1, 1) := by decide +kernel
theorem dX9_laysRound_18 : decode cX9_laysRound 18 = .ok (.iload_n 1, 1) := by decide +kernel
theorem dX9_laysRound_19 : decode cX9_laysRound 19 = .ok (.aload_n 0, 1) := by decide +kernel
theorem dX9_laysRound_20 : decode cX9_laysRound 20 = .ok (.getfield 224, 3) := by decide +kernel
theorem dX9_laysRound_23 : decode cX9_laysRound 23 = .ok (.if_icmp .ge 115, 3) := by decide +kernel
theorem dX9_laysRound_26 : decode cX9_laysRound 26 = .ok (.aload_n 0, 1) := by decide +kernel
theorem dX9_laysRound_27 : decode cX9_laysRound 27 = .ok (.iconst 0, 1) := by decide +kernel
theorem dX9_laysRound_28 : decode cX9_laysRound 28 = .ok (.putfield 239, 3) := by decide +kernel
theorem dX9_laysRound_31 : decode cX9_laysRound 31 = .ok (.iload_n 1, 1) := by decide +kernel
theorem dX9_laysRound_32 : decode cX9_laysRound 32 = .ok (.istore_n 2, 1) := by decide +kernel
theorem dX9_laysRound_33 : decode cX9_laysRound 33 = .ok (.iload_n 2, 1) := by decide +kernel
theorem dX9_laysRound_34 : decode cX9_laysRound 34 = .ok (.iload_n 1, 1) := by decide +kernel
theorem dX9_laysRound_35 : decode cX9_laysRound 35 = .ok (.aload_n 0, 1) := by decide +kernel
theorem dX9_laysRound_36 : decode cX9_laysRound 36 = .ok (.getfield 224, 3) := by decide +kernel
theorem dX9_laysRound_39 : decode cX9_laysRound 39 = .ok (.iadd, 1) := by decide +kernel
theorem dX9_laysRound_40 : decode cX9_laysRound 40 = .ok (.if_icmp .ge 37, 3) := by decide +kernel
theorem dX9_laysRound_43 : decode cX9_laysRound 43 = .ok (.aload_n 0, 1) := by decide +kernel
theorem dX9_laysRound_44 : decode cX9_laysRound 44 = .ok (.getfield 60, 3) := by decide +kernel
theorem dX9_laysRound_47 : decode cX9_laysRound 47 = .ok (.aload_n 0, 1) := by decide +kernel
theorem dX9_laysRound_48 : decode cX9_laysRound 48 = .ok (.getfield 239, 3) := by decide +kernel
theorem dX9_laysRound_51 : decode cX9_laysRound 51 = .ok (.iload_n 2, 1) := by decide +kernel
theorem dX9_laysRound_52 : decode cX9_laysRound 52 = .ok (.aload_n 0, 1) := by decide +kernel
theorem dX9_laysRound_53 : decode cX9_laysRound 53 = .ok (.getfield 224, 3) := by decide +kernel
theorem dX9_laysRound_56 : decode cX9_laysRound 56 = .ok (.irem, 1) := by decide +kernel
theorem dX9_laysRound_57 : decode cX9_laysRound 57 = .ok (.iastore, 1) := by decide +kernel
theorem dX9_laysRound_58 : decode cX9_laysRound 58 = .ok (.aload_n 0, 1) := by decide +kernel
theorem dX9_laysRound_59 : decode cX9_laysRound 59 = .ok (.dup, 1) := by decide +kernel
theorem dX9_laysRound_60 : decode cX9_laysRound 60 = .ok (.getfield 239, 3) := by decide +kernel
theorem dX9_laysRound_63 : decode cX9_laysRound 63 = .ok (.iconst 1, 1) := by decide +kernel
theorem dX9_laysRound_64 : decode cX9_laysRound 64 = .ok (.iadd, 1) := by decide +kernel
theorem dX9_laysRound_65 : decode cX9_laysRound 65 = .ok (.putfield 239, 3) := by decide +kernel
theorem dX9_laysRound_68 : decode cX9_laysRound 68 = .ok (.aload_n 0, 1) := by decide +kernel
theorem dX9_laysRound_69 : decode cX9_laysRound 69 = .ok (.iload_n 2, 1) := by decide +kernel
theorem dX9_laysRound_70 : decode cX9_laysRound 70 = .ok (.invokevirtual 242, 3) := by decide +kernel
theorem dX9_laysRound_73 : decode cX9_laysRound 73 = .ok (.istore_n 2, 1) := by decide +kernel
theorem dX9_laysRound_74 : decode cX9_laysRound 74 = .ok (.goto (-41), 3) := by decide +kernel
theorem dX9_laysRound_77 : decode cX9_laysRound 77 = .ok (.aload_n 0, 1) := by decide +kernel
theorem dX9_laysRound_78 : decode cX9_laysRound 78 = .ok (.getfield 239, 3) := by decide +kernel
theorem dX9_laysRound_81 : decode cX9_laysRound 81 = .ok (.aload_n 0, 1) := by decide +kernel
theorem dX9_laysRound_82 : decode cX9_laysRound 82 = .ok (.getfield 236, 3) := by decide +kernel
theorem dX9_laysRound_85 : decode cX9_laysRound 85 = .ok (.if_icmp .lt 6, 3) := by decide +kernel
theorem dX9_laysRound_88 : decode cX9_laysRound 88 = .ok (.goto 44, 3) := by decide +kernel
theorem dX9_laysRound_91 : decode cX9_laysRound 91 = .ok (.aload_n 0, 1) := by decide +kernel
theorem dX9_laysRound_92 : decode cX9_laysRound 92 = .ok (.aload_n 0, 1) := by decide +kernel
theorem dX9_laysRound_93 : decode cX9_laysRound 93 = .ok (.getfield 239, 3) := by decide +kernel
theorem dX9_laysRound_96 : decode cX9_laysRound 96 = .ok (.putfield 236, 3) := by decide +kernel
theorem dX9_laysRound_99 : decode cX9_laysRound 99 = .ok (.aload_n 0, 1) := by decide +kernel
theorem dX9_laysRound_100 : decode cX9_laysRound 100 = .ok (.iload_n 1, 1) := by decide +kernel
theorem dX9_laysRound_101 : decode cX9_laysRound 101 = .ok (.putfield 245, 3) := by decide +kernel
theorem dX9_laysRound_104 : decode cX9_laysRound 104 = .ok (.iconst 0, 1) := by decide +kernel
theorem dX9_laysRound_105 : decode cX9_laysRound 105 = .ok (.istore_n 2, 1) := by decide +kernel
theorem dX9_laysRound_106 : decode cX9_laysRound 106 = .ok (.iload_n 2, 1) := by decide +kernel
theorem dX9_laysRound_107 : decode cX9_laysRound 107 = .ok (.aload_n 0, 1) := by decide +kernel
theorem dX9_laysRound_108 : decode cX9_laysRound 108 = .ok (.getfield 239, 3) := by decide +kernel
theorem dX9_laysRound_111 : decode cX9_laysRound 111 = .ok (.if_icmp .ge 21, 3) := by decide +kernel
theorem dX9_laysRound_114 : decode cX9_laysRound 114 = .ok (.aload_n 0, 1) := by decide +kernel
theorem dX9_laysRound_115 : decode cX9_laysRound 115 = .ok (.getfield 63, 3) := by decide +kernel
theorem dX9_laysRound_118 : decode cX9_laysRound 118 = .ok (.iload_n 2, 1) := by decide +kernel
theorem dX9_laysRound_119 : decode cX9_laysRound 119 = .ok (.aload_n 0, 1) := by decide +kernel
theorem dX9_laysRound_120 : decode cX9_laysRound 120 = .ok (.getfield 60, 3) := by decide +kernel
theorem dX9_laysRound_123 : decode cX9_laysRound 123 = .ok (.iload_n 2, 1) := by decide +kernel
theorem dX9_laysRound_124 : decode cX9_laysRound 124 = .ok (.iaload, 1) := by decide +kernel
theorem dX9_laysRound_125 : decode cX9_laysRound 125 = .ok (.iastore, 1) := by decide +kernel
theorem dX9_laysRound_126 : decode cX9_laysRound 126 = .ok (.iinc 2 1, 3) := by decide +kernel
theorem dX9_laysRound_129 : decode cX9_laysRound 129 = .ok (.goto (-23), 3) := by decide +kernel
theorem dX9_laysRound_132 : decode cX9_laysRound 132 = .ok (.iinc 1 1, 3) := by decide +kernel
theorem dX9_laysRound_135 : decode cX9_laysRound 135 = .ok (.goto (-117), 3) := by decide +kernel
theorem dX9_laysRound_138 : decode cX9_laysRound 138 = .ok (.iconst 1, 1) := by decide +kernel
theorem dX9_laysRound_139 : decode cX9_laysRound 139 = .ok (.ireturn, 1) := by decide +kernel
theorem dX9_round_0 : decode cX9_round 0 = .ok (.aload_n 0, 1) := by decide +kernel
theorem dX9_round_1 : decode cX9_round 1 = .ok (.invokevirtual 248, 3) := by decide +kernel
theorem dX9_round_4 : decode cX9_round 4 = .ok (.ifCond .ne 5, 3) := by decide +kernel
theorem dX9_round_7 : decode cX9_round 7 = .ok (.iconst (-1), 1) := by decide +kernel
theorem dX9_round_8 : decode cX9_round 8 = .ok (.ireturn, 1) := by decide +kernel
theorem dX9_round_9 : decode cX9_round 9 = .ok (.iload_n 1, 1) := by decide +kernel
theorem dX9_round_10 : decode cX9_round 10 = .ok (.ifCond .ne 10, 3) := by decide +kernel
theorem dX9_round_13 : decode cX9_round 13 = .ok (.aload_n 0, 1) := by decide +kernel
theorem dX9_round_14 : decode cX9_round 14 = .ok (.getfield 224, 3) := by decide +kernel
theorem dX9_round_17 : decode cX9_round 17 = .ok (.goto 40, 3) := by decide +kernel
theorem dX9_round_20 : decode cX9_round 20 = .ok (.iload_n 1, 1) := by decide +kernel
theorem dX9_round_21 : decode cX9_round 21 = .ok (.iconst 1, 1) := by decide +kernel
theorem dX9_round_22 : decode cX9_round 22 = .ok (.if_icmp .ne 10, 3) := by decide +kernel
theorem dX9_round_25 : decode cX9_round 25 = .ok (.aload_n 0, 1) := by decide +kernel
theorem dX9_round_26 : decode cX9_round 26 = .ok (.getfield 230, 3) := by decide +kernel
theorem dX9_round_29 : decode cX9_round 29 = .ok (.goto 28, 3) := by decide +kernel
theorem dX9_round_32 : decode cX9_round 32 = .ok (.iload_n 1, 1) := by decide +kernel
theorem dX9_round_33 : decode cX9_round 33 = .ok (.iconst 2, 1) := by decide +kernel
theorem dX9_round_34 : decode cX9_round 34 = .ok (.if_icmp .ne 10, 3) := by decide +kernel
theorem dX9_round_37 : decode cX9_round 37 = .ok (.aload_n 0, 1) := by decide +kernel
theorem dX9_round_38 : decode cX9_round 38 = .ok (.getfield 236, 3) := by decide +kernel
theorem dX9_round_41 : decode cX9_round 41 = .ok (.goto 16, 3) := by decide +kernel
theorem dX9_round_44 : decode cX9_round 44 = .ok (.iload_n 1, 1) := by decide +kernel
theorem dX9_round_45 : decode cX9_round 45 = .ok (.iconst 3, 1) := by decide +kernel
theorem dX9_round_46 : decode cX9_round 46 = .ok (.if_icmp .ne 10, 3) := by decide +kernel
theorem dX9_round_49 : decode cX9_round 49 = .ok (.aload_n 0, 1) := by decide +kernel
theorem dX9_round_50 : decode cX9_round 50 = .ok (.getfield 245, 3) := by decide +kernel
theorem dX9_round_53 : decode cX9_round 53 = .ok (.goto 4, 3) := by decide +kernel
theorem dX9_round_56 : decode cX9_round 56 = .ok (.iconst (-1), 1) := by decide +kernel
theorem dX9_round_57 : decode cX9_round 57 = .ok (.ireturn, 1) := by decide +kernel
theorem dX9_roundAt_0 : decode cX9_roundAt 0 = .ok (.aload_n 0, 1) := by decide +kernel
theorem dX9_roundAt_1 : decode cX9_roundAt 1 = .ok (.invokevirtual 248, 3) := by decide +kernel
theorem dX9_roundAt_4 : decode cX9_roundAt 4 = .ok (.ifCond .eq 26, 3) := by decide +kernel
theorem dX9_roundAt_7 : decode cX9_roundAt 7 = .ok (.iload_n 1, 1) := by decide +kernel
theorem dX9_roundAt_8 : decode cX9_roundAt 8 = .ok (.iconst 0, 1) := by decide +kernel
theorem dX9_roundAt_9 : decode cX9_roundAt 9 = .ok (.aload_n 0, 1) := by decide +kernel
theorem dX9_roundAt_10 : decode cX9_roundAt 10 = .ok (.getfield 236, 3) := by decide +kernel
theorem dX9_roundAt_13 : decode cX9_roundAt 13 = .ok (.iconst 1, 1) := by decide +kernel
theorem dX9_roundAt_14 : decode cX9_roundAt 14 = .ok (.isub, 1) := by decide +kernel
theorem dX9_roundAt_15 : decode cX9_roundAt 15 = .ok (.invokestatic 77, 3) := by decide +kernel
theorem dX9_roundAt_18 : decode cX9_roundAt 18 = .ok (.ifCond .eq 12, 3) := by decide +kernel
theorem dX9_roundAt_21 : decode cX9_roundAt 21 = .ok (.aload_n 0, 1) := by decide +kernel
theorem dX9_roundAt_22 : decode cX9_roundAt 22 = .ok (.getfield 63, 3) := by decide +kernel
theorem dX9_roundAt_25 : decode cX9_roundAt 25 = .ok (.iload_n 1, 1) := by decide +kernel
theorem dX9_roundAt_26 : decode cX9_roundAt 26 = .ok (.iaload, 1) := by decide +kernel
theorem dX9_roundAt_27 : decode cX9_roundAt 27 = .ok (.goto 4, 3) := by decide +kernel
theorem dX9_roundAt_30 : decode cX9_roundAt 30 = .ok (.iconst (-1), 1) := by decide +kernel
theorem dX9_roundAt_31 : decode cX9_roundAt 31 = .ok (.ireturn, 1) := by decide +kernel
theorem dX9_wouldBe_0 : decode cX9_wouldBe 0 = .ok (.iload_n 1, 1) := by decide +kernel
theorem dX9_wouldBe_1 : decode cX9_wouldBe 1 = .ok (.iconst 3, 1) := by decide +kernel
theorem dX9_wouldBe_2 : decode cX9_wouldBe 2 = .ok (.if_icmp .ne 19, 3) := by decide +kernel
theorem dX9_wouldBe_5 : decode cX9_wouldBe 5 = .ok (.aload_n 0, 1) := by decide +kernel
theorem dX9_wouldBe_6 : decode cX9_wouldBe 6 = .ok (.invokevirtual 248, 3) := by decide +kernel
theorem dX9_wouldBe_9 : decode cX9_wouldBe 9 = .ok (.ifCond .eq 10, 3) := by decide +kernel
theorem dX9_wouldBe_12 : decode cX9_wouldBe 12 = .ok (.aload_n 0, 1) := by decide +kernel
theorem dX9_wouldBe_13 : decode cX9_wouldBe 13 = .ok (.getfield 236, 3) := by decide +kernel
theorem dX9_wouldBe_16 : decode cX9_wouldBe 16 = .ok (.goto 4, 3) := by decide +kernel
theorem dX9_wouldBe_19 : decode cX9_wouldBe 19 = .ok (.iconst (-1), 1) := by decide +kernel
theorem dX9_wouldBe_20 : decode cX9_wouldBe 20 = .ok (.ireturn, 1) := by decide +kernel
theorem dX9_wouldBe_21 : decode cX9_wouldBe 21 = .ok (.aload_n 0, 1) := by decide +kernel
theorem dX9_wouldBe_22 : decode cX9_wouldBe 22 = .ok (.iload_n 1, 1) := by decide +kernel
theorem dX9_wouldBe_23 : decode cX9_wouldBe 23 = .ok (.invokevirtual 209, 3) := by decide +kernel
theorem dX9_wouldBe_26 : decode cX9_wouldBe 26 = .ok (.istore_n 2, 1) := by decide +kernel
theorem dX9_wouldBe_27 : decode cX9_wouldBe 27 = .ok (.iload_n 2, 1) := by decide +kernel
theorem dX9_wouldBe_28 : decode cX9_wouldBe 28 = .ok (.ifCond .ne 7, 3) := by decide +kernel
theorem dX9_wouldBe_31 : decode cX9_wouldBe 31 = .ok (.iconst (-1), 1) := by decide +kernel
theorem dX9_wouldBe_32 : decode cX9_wouldBe 32 = .ok (.goto 43, 3) := by decide +kernel
theorem dX9_wouldBe_35 : decode cX9_wouldBe 35 = .ok (.iload_n 1, 1) := by decide +kernel
theorem dX9_wouldBe_36 : decode cX9_wouldBe 36 = .ok (.ifCond .ne 10, 3) := by decide +kernel
theorem dX9_wouldBe_39 : decode cX9_wouldBe 39 = .ok (.aload_n 0, 1) := by decide +kernel
theorem dX9_wouldBe_40 : decode cX9_wouldBe 40 = .ok (.getfield 105, 3) := by decide +kernel
theorem dX9_wouldBe_43 : decode cX9_wouldBe 43 = .ok (.goto 32, 3) := by decide +kernel
theorem dX9_wouldBe_46 : decode cX9_wouldBe 46 = .ok (.iload_n 1, 1) := by decide +kernel
theorem dX9_wouldBe_47 : decode cX9_wouldBe 47 = .ok (.iconst 1, 1) := by decide +kernel
theorem dX9_wouldBe_48 : decode cX9_wouldBe 48 = .ok (.if_icmp .ne 23, 3) := by decide +kernel
theorem dX9_wouldBe_51 : decode cX9_wouldBe 51 = .ok (.aload_n 0, 1) := by decide +kernel
theorem dX9_wouldBe_52 : decode cX9_wouldBe 52 = .ok (.getfield 7, 3) := by decide +kernel
theorem dX9_wouldBe_55 : decode cX9_wouldBe 55 = .ok (.bipush 99, 2) := by decide +kernel
theorem dX9_wouldBe_57 : decode cX9_wouldBe 57 = .ok (.iaload, 1) := by decide +kernel
theorem dX9_wouldBe_58 : decode cX9_wouldBe 58 = .ok (.aload_n 0, 1) := by decide +kernel
theorem dX9_wouldBe_59 : decode cX9_wouldBe 59 = .ok (.getfield 105, 3) := by decide +kernel
theorem dX9_wouldBe_62 : decode cX9_wouldBe 62 = .ok (.imul, 1) := by decide +kernel
theorem dX9_wouldBe_63 : decode cX9_wouldBe 63 = .ok (.aload_n 0, 1) := by decide +kernel
theorem dX9_wouldBe_64 : decode cX9_wouldBe 64 = .ok (.invokevirtual 197, 3) := by decide +kernel
theorem dX9_wouldBe_67 : decode cX9_wouldBe 67 = .ok (.iadd, 1) := by decide +kernel
theorem dX9_wouldBe_68 : decode cX9_wouldBe 68 = .ok (.goto 7, 3) := by decide +kernel
theorem dX9_wouldBe_71 : decode cX9_wouldBe 71 = .ok (.aload_n 0, 1) := by decide +kernel
theorem dX9_wouldBe_72 : decode cX9_wouldBe 72 = .ok (.invokevirtual 212, 3) := by decide +kernel
theorem dX9_wouldBe_75 : decode cX9_wouldBe 75 = .ok (.ireturn, 1) := by decide +kernel
theorem dX9_would_0 : decode cX9_would 0 = .ok (.aload_n 0, 1) := by decide +kernel
theorem dX9_would_1 : decode cX9_would 1 = .ok (.iload_n 1, 1) := by decide +kernel
theorem dX9_would_2 : decode cX9_would 2 = .ok (.invokevirtual 187, 3) := by decide +kernel
theorem dX9_would_5 : decode cX9_would 5 = .ok (.ifCond .eq 22, 3) := by decide +kernel
theorem dX9_would_8 : decode cX9_would 8 = .ok (.iload_n 2, 1) := by decide +kernel
theorem dX9_would_9 : decode cX9_would 9 = .ok (.iconst 0, 1) := by decide +kernel
theorem dX9_would_10 : decode cX9_would 10 = .ok (.bipush 99, 2) := by decide +kernel
theorem dX9_would_12 : decode cX9_would 12 = .ok (.invokestatic 77, 3) := by decide +kernel
theorem dX9_would_15 : decode cX9_would 15 = .ok (.ifCond .eq 12, 3) := by decide +kernel
theorem dX9_would_18 : decode cX9_would 18 = .ok (.iload_n 3, 1) := by decide +kernel
theorem dX9_would_19 : decode cX9_would 19 = .ok (.iconst 0, 1) := by decide +kernel
theorem dX9_would_20 : decode cX9_would 20 = .ok (.iconst 3, 1) := by decide +kernel
theorem dX9_would_21 : decode cX9_would 21 = .ok (.invokestatic 77, 3) := by decide +kernel
theorem dX9_would_24 : decode cX9_would 24 = .ok (.ifCond .ne 5, 3) := by decide +kernel
theorem dX9_would_27 : decode cX9_would 27 = .ok (.iconst (-1), 1) := by decide +kernel
theorem dX9_would_28 : decode cX9_would 28 = .ok (.ireturn, 1) := by decide +kernel
theorem dX9_would_29 : decode cX9_would 29 = .ok (.aload_n 0, 1) := by decide +kernel
theorem dX9_would_30 : decode cX9_would 30 = .ok (.getfield 7, 3) := by decide +kernel
theorem dX9_would_33 : decode cX9_would 33 = .ok (.bipush 8, 2) := by decide +kernel
theorem dX9_would_35 : decode cX9_would 35 = .ok (.iload_n 1, 1) := by decide +kernel
theorem dX9_would_36 : decode cX9_would 36 = .ok (.iadd, 1) := by decide +kernel
theorem dX9_would_37 : decode cX9_would 37 = .ok (.iaload, 1) := by decide +kernel
theorem dX9_would_38 : decode cX9_would 38 = .ok (.istore 4, 2) := by decide +kernel
theorem dX9_would_40 : decode cX9_would 40 = .ok (.aload_n 0, 1) := by decide +kernel
theorem dX9_would_41 : decode cX9_would 41 = .ok (.getfield 7, 3) := by decide +kernel
theorem dX9_would_44 : decode cX9_would 44 = .ok (.bipush 8, 2) := by decide +kernel
theorem dX9_would_46 : decode cX9_would 46 = .ok (.iload_n 1, 1) := by decide +kernel
theorem dX9_would_47 : decode cX9_would 47 = .ok (.iadd, 1) := by decide +kernel
theorem dX9_would_48 : decode cX9_would 48 = .ok (.iload_n 2, 1) := by decide +kernel
theorem dX9_would_49 : decode cX9_would 49 = .ok (.iastore, 1) := by decide +kernel
theorem dX9_would_50 : decode cX9_would 50 = .ok (.aload_n 0, 1) := by decide +kernel
theorem dX9_would_51 : decode cX9_would 51 = .ok (.iload_n 3, 1) := by decide +kernel
theorem dX9_would_52 : decode cX9_would 52 = .ok (.invokevirtual 251, 3) := by decide +kernel
theorem dX9_would_55 : decode cX9_would 55 = .ok (.istore 5, 2) := by decide +kernel
theorem dX9_would_57 : decode cX9_would 57 = .ok (.aload_n 0, 1) := by decide +kernel
theorem dX9_would_58 : decode cX9_would 58 = .ok (.getfield 7, 3) := by decide +kernel
theorem dX9_would_61 : decode cX9_would 61 = .ok (.bipush 8, 2) := by decide +kernel
theorem dX9_would_63 : decode cX9_would 63 = .ok (.iload_n 1, 1) := by decide +kernel
theorem dX9_would_64 : decode cX9_would 64 = .ok (.iadd, 1) := by decide +kernel
theorem dX9_would_65 : decode cX9_would 65 = .ok (.iload 4, 2) := by decide +kernel
theorem dX9_would_67 : decode cX9_would 67 = .ok (.iastore, 1) := by decide +kernel
theorem dX9_would_68 : decode cX9_would 68 = .ok (.iload 5, 2) := by decide +kernel
theorem dX9_would_70 : decode cX9_would 70 = .ok (.ireturn, 1) := by decide +kernel
theorem dX9_enough_0 : decode cX9_enough 0 = .ok (.aload_n 0, 1) := by decide +kernel
theorem dX9_enough_1 : decode cX9_enough 1 = .ok (.iload_n 1, 1) := by decide +kernel
theorem dX9_enough_2 : decode cX9_enough 2 = .ok (.invokevirtual 187, 3) := by decide +kernel
theorem dX9_enough_5 : decode cX9_enough 5 = .ok (.ifCond .ne 5, 3) := by decide +kernel
theorem dX9_enough_8 : decode cX9_enough 8 = .ok (.iconst (-1), 1) := by decide +kernel
theorem dX9_enough_9 : decode cX9_enough 9 = .ok (.ireturn, 1) := by decide +kernel
theorem dX9_enough_10 : decode cX9_enough 10 = .ok (.iconst 0, 1) := by decide +kernel
theorem dX9_enough_11 : decode cX9_enough 11 = .ok (.istore_n 3, 1) := by decide +kernel
theorem dX9_enough_12 : decode cX9_enough 12 = .ok (.iload_n 3, 1) := by decide +kernel
theorem dX9_enough_13 : decode cX9_enough 13 = .ok (.bipush 99, 2) := by decide +kernel
theorem dX9_enough_15 : decode cX9_enough 15 = .ok (.if_icmp .gt 22, 3) := by decide +kernel
theorem dX9_enough_18 : decode cX9_enough 18 = .ok (.aload_n 0, 1) := by decide +kernel
theorem dX9_enough_19 : decode cX9_enough 19 = .ok (.iload_n 1, 1) := by decide +kernel
theorem dX9_enough_20 : decode cX9_enough 20 = .ok (.iload_n 3, 1) := by decide +kernel
theorem dX9_enough_21 : decode cX9_enough 21 = .ok (.iconst 0, 1) := by decide +kernel
theorem dX9_enough_22 : decode cX9_enough 22 = .ok (.invokevirtual 254, 3) := by decide +kernel
theorem dX9_enough_25 : decode cX9_enough 25 = .ok (.iload_n 2, 1) := by decide +kernel
theorem dX9_enough_26 : decode cX9_enough 26 = .ok (.if_icmp .gt 5, 3) := by decide +kernel
theorem dX9_enough_29 : decode cX9_enough 29 = .ok (.iload_n 3, 1) := by decide +kernel
theorem dX9_enough_30 : decode cX9_enough 30 = .ok (.ireturn, 1) := by decide +kernel
theorem dX9_enough_31 : decode cX9_enough 31 = .ok (.iinc 3 1, 3) := by decide +kernel
theorem dX9_enough_34 : decode cX9_enough 34 = .ok (.goto (-22), 3) := by decide +kernel
theorem dX9_enough_37 : decode cX9_enough 37 = .ok (.iconst (-1), 1) := by decide +kernel
theorem dX9_enough_38 : decode cX9_enough 38 = .ok (.ireturn, 1) := by decide +kernel
theorem dX9_feed_0 : decode cX9_feed 0 = .ok (.aload_n 0, 1) := by decide +kernel
theorem dX9_feed_1 : decode cX9_feed 1 = .ok (.getfield 200, 3) := by decide +kernel
theorem dX9_feed_4 : decode cX9_feed 4 = .ok (.bipush 20, 2) := by decide +kernel
theorem dX9_feed_6 : decode cX9_feed 6 = .ok (.iadd, 1) := by decide +kernel
theorem dX9_feed_7 : decode cX9_feed 7 = .ok (.sipush 600, 3) := by decide +kernel
theorem dX9_feed_10 : decode cX9_feed 10 = .ok (.if_icmp .le 5, 3) := by decide +kernel
theorem dX9_feed_13 : decode cX9_feed 13 = .ok (.iconst (-1), 1) := by decide +kernel
theorem dX9_feed_14 : decode cX9_feed 14 = .ok (.ireturn, 1) := by decide +kernel
theorem dX9_feed_15 : decode cX9_feed 15 = .ok (.iconst 0, 1) := by decide +kernel
theorem dX9_feed_16 : decode cX9_feed 16 = .ok (.istore 6, 2) := by decide +kernel
theorem dX9_feed_18 : decode cX9_feed 18 = .ok (.iload 6, 2) := by decide +kernel
theorem dX9_feed_20 : decode cX9_feed 20 = .ok (.bipush 20, 2) := by decide +kernel
theorem dX9_feed_22 : decode cX9_feed 22 = .ok (.if_icmp .ge 86, 3) := by decide +kernel
theorem dX9_feed_25 : decode cX9_feed 25 = .ok (.iload 6, 2) := by decide +kernel
theorem dX9_feed_27 : decode cX9_feed 27 = .ok (.iconst 4, 1) := by decide +kernel
theorem dX9_feed_28 : decode cX9_feed 28 = .ok (.if_icmp .ge 7, 3) := by decide +kernel
theorem dX9_feed_31 : decode cX9_feed 31 = .ok (.iload_n 1, 1) := by decide +kernel
theorem dX9_feed_32 : decode cX9_feed 32 = .ok (.goto 39, 3) := by decide +kernel
theorem dX9_feed_35 : decode cX9_feed 35 = .ok (.iload 6, 2) := by decide +kernel
theorem dX9_feed_37 : decode cX9_feed 37 = .ok (.bipush 8, 2) := by decide +kernel
theorem dX9_feed_39 : decode cX9_feed 39 = .ok (.if_icmp .ge 7, 3) := by decide +kernel
theorem dX9_feed_42 : decode cX9_feed 42 = .ok (.iload_n 2, 1) := by decide +kernel
theorem dX9_feed_43 : decode cX9_feed 43 = .ok (.goto 28, 3) := by decide +kernel
theorem dX9_feed_46 : decode cX9_feed 46 = .ok (.iload 6, 2) := by decide +kernel
theorem dX9_feed_48 : decode cX9_feed 48 = .ok (.bipush 12, 2) := by decide +kernel
theorem dX9_feed_50 : decode cX9_feed 50 = .ok (.if_icmp .ge 7, 3) := by decide +kernel
theorem dX9_feed_53 : decode cX9_feed 53 = .ok (.iload_n 3, 1) := by decide +kernel
theorem dX9_feed_54 : decode cX9_feed 54 = .ok (.goto 17, 3) := by decide +kernel
theorem dX9_feed_57 : decode cX9_feed 57 = .ok (.iload 6, 2) := by decide +kernel
theorem dX9_feed_59 : decode cX9_feed 59 = .ok (.bipush 16, 2) := by decide +kernel
theorem dX9_feed_61 : decode cX9_feed 61 = .ok (.if_icmp .ge 8, 3) := by decide +kernel
theorem dX9_feed_64 : decode cX9_feed 64 = .ok (.iload 4, 2) := by decide +kernel
theorem dX9_feed_66 : decode cX9_feed 66 = .ok (.goto 5, 3) := by decide +kernel
theorem dX9_feed_69 : decode cX9_feed 69 = .ok (.iload 5, 2) := by decide +kernel
theorem dX9_feed_71 : decode cX9_feed 71 = .ok (.istore 7, 2) := by decide +kernel
theorem dX9_feed_73 : decode cX9_feed 73 = .ok (.aload_n 0, 1) := by decide +kernel
theorem dX9_feed_74 : decode cX9_feed 74 = .ok (.getfield 13, 3) := by decide +kernel
theorem dX9_feed_77 : decode cX9_feed 77 = .ok (.aload_n 0, 1) := by decide +kernel
theorem dX9_feed_78 : decode cX9_feed 78 = .ok (.getfield 200, 3) := by decide +kernel
theorem dX9_feed_81 : decode cX9_feed 81 = .ok (.iload 6, 2) := by decide +kernel
theorem dX9_feed_83 : decode cX9_feed 83 = .ok (.iadd, 1) := by decide +kernel
theorem dX9_feed_84 : decode cX9_feed 84 = .ok (.iload 7, 2) := by decide +kernel
theorem dX9_feed_86 : decode cX9_feed 86 = .ok (.bipush 24, 2) := by decide +kernel
theorem dX9_feed_88 : decode cX9_feed 88 = .ok (.bipush 8, 2) := by decide +kernel
theorem dX9_feed_90 : decode cX9_feed 90 = .ok (.iload 6, 2) := by decide +kernel
theorem dX9_feed_92 : decode cX9_feed 92 = .ok (.iconst 3, 1) := by decide +kernel
theorem dX9_feed_93 : decode cX9_feed 93 = .ok (.iand, 1) := by decide +kernel
theorem dX9_feed_94 : decode cX9_feed 94 = .ok (.imul, 1) := by decide +kernel
theorem dX9_feed_95 : decode cX9_feed 95 = .ok (.isub, 1) := by decide +kernel
theorem dX9_feed_96 : decode cX9_feed 96 = .ok (.ishr, 1) := by decide +kernel
theorem dX9_feed_97 : decode cX9_feed 97 = .ok (.sipush 255, 3) := by decide +kernel
theorem dX9_feed_100 : decode cX9_feed 100 = .ok (.iand, 1) := by decide +kernel
theorem dX9_feed_101 : decode cX9_feed 101 = .ok (.iastore, 1) := by decide +kernel
theorem dX9_feed_102 : decode cX9_feed 102 = .ok (.iinc 6 1, 3) := by decide +kernel
theorem dX9_feed_105 : decode cX9_feed 105 = .ok (.goto (-87), 3) := by decide +kernel
theorem dX9_feed_108 : decode cX9_feed 108 = .ok (.aload_n 0, 1) := by decide +kernel
theorem dX9_feed_109 : decode cX9_feed 109 = .ok (.dup, 1) := by decide +kernel
theorem dX9_feed_110 : decode cX9_feed 110 = .ok (.getfield 200, 3) := by decide +kernel
theorem dX9_feed_113 : decode cX9_feed 113 = .ok (.bipush 20, 2) := by decide +kernel
theorem dX9_feed_115 : decode cX9_feed 115 = .ok (.iadd, 1) := by decide +kernel
theorem dX9_feed_116 : decode cX9_feed 116 = .ok (.putfield 200, 3) := by decide +kernel
theorem dX9_feed_119 : decode cX9_feed 119 = .ok (.aload_n 0, 1) := by decide +kernel
theorem dX9_feed_120 : decode cX9_feed 120 = .ok (.getfield 200, 3) := by decide +kernel
theorem dX9_feed_123 : decode cX9_feed 123 = .ok (.ireturn, 1) := by decide +kernel
theorem dX9_end_0 : decode cX9_end 0 = .ok (.iload_n 1, 1) := by decide +kernel
theorem dX9_end_1 : decode cX9_end 1 = .ok (.iconst 0, 1) := by decide +kernel
theorem dX9_end_2 : decode cX9_end 2 = .ok (.aload_n 0, 1) := by decide +kernel
theorem dX9_end_3 : decode cX9_end 3 = .ok (.getfield 200, 3) := by decide +kernel
theorem dX9_end_6 : decode cX9_end 6 = .ok (.invokestatic 77, 3) := by decide +kernel
theorem dX9_end_9 : decode cX9_end 9 = .ok (.ifCond .ne 5, 3) := by decide +kernel
theorem dX9_end_12 : decode cX9_end 12 = .ok (.iconst (-1), 1) := by decide +kernel
theorem dX9_end_13 : decode cX9_end 13 = .ok (.ireturn, 1) := by decide +kernel
theorem dX9_end_14 : decode cX9_end 14 = .ok (.aload_n 0, 1) := by decide +kernel
theorem dX9_end_15 : decode cX9_end 15 = .ok (.iload_n 1, 1) := by decide +kernel
theorem dX9_end_16 : decode cX9_end 16 = .ok (.putfield 200, 3) := by decide +kernel
theorem dX9_end_19 : decode cX9_end 19 = .ok (.iload_n 1, 1) := by decide +kernel
theorem dX9_end_20 : decode cX9_end 20 = .ok (.ireturn, 1) := by decide +kernel
theorem dX9_fault_0 : decode cX9_fault 0 = .ok (.iload_n 1, 1) := by decide +kernel
theorem dX9_fault_1 : decode cX9_fault 1 = .ok (.ifCond .ne 10, 3) := by decide +kernel
theorem dX9_fault_4 : decode cX9_fault 4 = .ok (.aload_n 0, 1) := by decide +kernel
theorem dX9_fault_5 : decode cX9_fault 5 = .ok (.getfield 258, 3) := by decide +kernel
theorem dX9_fault_8 : decode cX9_fault 8 = .ok (.goto 16, 3) := by decide +kernel
theorem dX9_fault_11 : decode cX9_fault 11 = .ok (.iload_n 1, 1) := by decide +kernel
theorem dX9_fault_12 : decode cX9_fault 12 = .ok (.iconst 1, 1) := by decide +kernel
theorem dX9_fault_13 : decode cX9_fault 13 = .ok (.if_icmp .ne 10, 3) := by decide +kernel
theorem dX9_fault_16 : decode cX9_fault 16 = .ok (.aload_n 0, 1) := by decide +kernel
theorem dX9_fault_17 : decode cX9_fault 17 = .ok (.getfield 20, 3) := by decide +kernel
theorem dX9_fault_20 : decode cX9_fault 20 = .ok (.goto 4, 3) := by decide +kernel
theorem dX9_fault_23 : decode cX9_fault 23 = .ok (.iconst (-1), 1) := by decide +kernel
theorem dX9_fault_24 : decode cX9_fault 24 = .ok (.ireturn, 1) := by decide +kernel
theorem dX9_byteAt_0 : decode cX9_byteAt 0 = .ok (.iload_n 1, 1) := by decide +kernel
theorem dX9_byteAt_1 : decode cX9_byteAt 1 = .ok (.aload_n 0, 1) := by decide +kernel
theorem dX9_byteAt_2 : decode cX9_byteAt 2 = .ok (.getfield 261, 3) := by decide +kernel
theorem dX9_byteAt_5 : decode cX9_byteAt 5 = .ok (.if_icmp .ge 12, 3) := by decide +kernel
theorem dX9_byteAt_8 : decode cX9_byteAt 8 = .ok (.aload_n 0, 1) := by decide +kernel
theorem dX9_byteAt_9 : decode cX9_byteAt 9 = .ok (.getfield 13, 3) := by decide +kernel
theorem dX9_byteAt_12 : decode cX9_byteAt 12 = .ok (.iload_n 1, 1) := by decide +kernel
theorem dX9_byteAt_13 : decode cX9_byteAt 13 = .ok (.iaload, 1) := by decide +kernel
theorem dX9_byteAt_14 : decode cX9_byteAt 14 = .ok (.goto 4, 3) := by decide +kernel
theorem dX9_byteAt_17 : decode cX9_byteAt 17 = .ok (.iconst (-1), 1) := by decide +kernel
theorem dX9_byteAt_18 : decode cX9_byteAt 18 = .ok (.ireturn, 1) := by decide +kernel
theorem dX9_isLetter_0 : decode cX9_isLetter 0 = .ok (.iload_n 0, 1) := by decide +kernel
theorem dX9_isLetter_1 : decode cX9_isLetter 1 = .ok (.bipush 97, 2) := by decide +kernel
theorem dX9_isLetter_3 : decode cX9_isLetter 3 = .ok (.if_icmp .lt 13, 3) := by decide +kernel
theorem dX9_isLetter_6 : decode cX9_isLetter 6 = .ok (.iload_n 0, 1) := by decide +kernel
theorem dX9_isLetter_7 : decode cX9_isLetter 7 = .ok (.bipush 122, 2) := by decide +kernel
theorem dX9_isLetter_9 : decode cX9_isLetter 9 = .ok (.if_icmp .gt 7, 3) := by decide +kernel
theorem dX9_isLetter_12 : decode cX9_isLetter 12 = .ok (.iconst 1, 1) := by decide +kernel
theorem dX9_isLetter_13 : decode cX9_isLetter 13 = .ok (.goto 4, 3) := by decide +kernel
theorem dX9_isLetter_16 : decode cX9_isLetter 16 = .ok (.iconst 0, 1) := by decide +kernel
theorem dX9_isLetter_17 : decode cX9_isLetter 17 = .ok (.ireturn, 1) := by decide +kernel
theorem dX9_isDigit_0 : decode cX9_isDigit 0 = .ok (.iload_n 0, 1) := by decide +kernel
theorem dX9_isDigit_1 : decode cX9_isDigit 1 = .ok (.bipush 48, 2) := by decide +kernel
theorem dX9_isDigit_3 : decode cX9_isDigit 3 = .ok (.if_icmp .lt 13, 3) := by decide +kernel
theorem dX9_isDigit_6 : decode cX9_isDigit 6 = .ok (.iload_n 0, 1) := by decide +kernel
theorem dX9_isDigit_7 : decode cX9_isDigit 7 = .ok (.bipush 57, 2) := by decide +kernel
theorem dX9_isDigit_9 : decode cX9_isDigit 9 = .ok (.if_icmp .gt 7, 3) := by decide +kernel
theorem dX9_isDigit_12 : decode cX9_isDigit 12 = .ok (.iconst 1, 1) := by decide +kernel
theorem dX9_isDigit_13 : decode cX9_isDigit 13 = .ok (.goto 4, 3) := by decide +kernel
theorem dX9_isDigit_16 : decode cX9_isDigit 16 = .ok (.iconst 0, 1) := by decide +kernel
theorem dX9_isDigit_17 : decode cX9_isDigit 17 = .ok (.ireturn, 1) := by decide +kernel
theorem dX9_takes_0 : decode cX9_takes 0 = .ok (.aload_n 0, 1) := by decide +kernel
theorem dX9_takes_1 : decode cX9_takes 1 = .ok (.aload_n 0, 1) := by decide +kernel
theorem dX9_takes_2 : decode cX9_takes 2 = .ok (.getfield 264, 3) := by decide +kernel
theorem dX9_takes_5 : decode cX9_takes 5 = .ok (.invokevirtual 267, 3) := by decide +kernel
theorem dX9_takes_8 : decode cX9_takes 8 = .ok (.bipush 32, 2) := by decide +kernel
theorem dX9_takes_10 : decode cX9_takes 10 = .ok (.if_icmp .eq 16, 3) := by decide +kernel
theorem dX9_takes_13 : decode cX9_takes 13 = .ok (.aload_n 0, 1) := by decide +kernel
theorem dX9_takes_14 : decode cX9_takes 14 = .ok (.aload_n 0, 1) := by decide +kernel
theorem dX9_takes_15 : decode cX9_takes 15 = .ok (.getfield 264, 3) := by decide +kernel
theorem dX9_takes_18 : decode cX9_takes 18 = .ok (.invokevirtual 267, 3) := by decide +kernel
theorem dX9_takes_21 : decode cX9_takes 21 = .ok (.bipush 10, 2) := by decide +kernel
theorem dX9_takes_23 : decode cX9_takes 23 = .ok (.if_icmp .ne 16, 3) := by decide +kernel
theorem dX9_takes_26 : decode cX9_takes 26 = .ok (.aload_n 0, 1) := by decide +kernel
theorem dX9_takes_27 : decode cX9_takes 27 = .ok (.dup, 1) := by decide +kernel
theorem dX9_takes_28 : decode cX9_takes 28 = .ok (.getfield 264, 3) := by decide +kernel
theorem dX9_takes_31 : decode cX9_takes 31 = .ok (.iconst 1, 1) := by decide +kernel
theorem dX9_takes_32 : decode cX9_takes 32 = .ok (.iadd, 1) := by decide +kernel
theorem dX9_takes_33 : decode cX9_takes 33 = .ok (.putfield 264, 3) := by decide +kernel
theorem dX9_takes_36 : decode cX9_takes 36 = .ok (.goto (-36), 3) := by decide +kernel
theorem dX9_takes_39 : decode cX9_takes 39 = .ok (.aload_n 0, 1) := by decide +kernel
theorem dX9_takes_40 : decode cX9_takes 40 = .ok (.aload_n 0, 1) := by decide +kernel
theorem dX9_takes_41 : decode cX9_takes 41 = .ok (.getfield 264, 3) := by decide +kernel
theorem dX9_takes_44 : decode cX9_takes 44 = .ok (.putfield 270, 3) := by decide +kernel
theorem dX9_takes_47 : decode cX9_takes 47 = .ok (.aload_n 0, 1) := by decide +kernel
theorem dX9_takes_48 : decode cX9_takes 48 = .ok (.aload_n 0, 1) := by decide +kernel
theorem dX9_takes_49 : decode cX9_takes 49 = .ok (.getfield 264, 3) := by decide +kernel
theorem dX9_takes_52 : decode cX9_takes 52 = .ok (.invokevirtual 267, 3) := by decide +kernel
theorem dX9_takes_55 : decode cX9_takes 55 = .ok (.istore_n 1, 1) := by decide +kernel
theorem dX9_takes_56 : decode cX9_takes 56 = .ok (.aload_n 0, 1) := by decide +kernel
theorem dX9_takes_57 : decode cX9_takes 57 = .ok (.lconst 0, 1) := by decide +kernel
theorem dX9_takes_58 : decode cX9_takes 58 = .ok (.putfield 273, 3) := by decide +kernel
theorem dX9_takes_61 : decode cX9_takes 61 = .ok (.iload_n 1, 1) := by decide +kernel
theorem dX9_takes_62 : decode cX9_takes 62 = .ok (.ifCond .ge 11, 3) := by decide +kernel
theorem dX9_takes_65 : decode cX9_takes 65 = .ok (.aload_n 0, 1) := by decide +kernel
theorem dX9_takes_66 : decode cX9_takes 66 = .ok (.iconst 0, 1) := by decide +kernel
theorem dX9_takes_67 : decode cX9_takes 67 = .ok (.putfield 277, 3) := by decide +kernel
theorem dX9_takes_70 : decode cX9_takes 70 = .ok (.goto 229, 3) := by decide +kernel
theorem dX9_takes_73 : decode cX9_takes 73 = .ok (.iload_n 1, 1) := by decide +kernel
theorem dX9_takes_74 : decode cX9_takes 74 = .ok (.invokestatic 280, 3) := by decide +kernel
theorem dX9_takes_77 : decode cX9_takes 77 = .ok (.ifCond .eq 86, 3) := by decide +kernel
theorem dX9_takes_80 : decode cX9_takes 80 = .ok (.aload_n 0, 1) := by decide +kernel
theorem dX9_takes_81 : decode cX9_takes 81 = .ok (.aload_n 0, 1) := by decide +kernel
theorem dX9_takes_82 : decode cX9_takes 82 = .ok (.getfield 264, 3) := by decide +kernel
theorem dX9_takes_85 : decode cX9_takes 85 = .ok (.invokevirtual 267, 3) := by decide +kernel
theorem dX9_takes_88 : decode cX9_takes 88 = .ok (.invokestatic 280, 3) := by decide +kernel
theorem dX9_takes_91 : decode cX9_takes 91 = .ok (.ifCond .eq 64, 3) := by decide +kernel
theorem dX9_takes_94 : decode cX9_takes 94 = .ok (.aload_n 0, 1) := by decide +kernel
theorem dX9_takes_95 : decode cX9_takes 95 = .ok (.aload_n 0, 1) := by decide +kernel
theorem dX9_takes_96 : decode cX9_takes 96 = .ok (.getfield 264, 3) := by decide +kernel
theorem dX9_takes_99 : decode cX9_takes 99 = .ok (.aload_n 0, 1) := by decide +kernel
theorem dX9_takes_100 : decode cX9_takes 100 = .ok (.getfield 270, 3) := by decide +kernel
theorem dX9_takes_103 : decode cX9_takes 103 = .ok (.isub, 1) := by decide +kernel
theorem dX9_takes_104 : decode cX9_takes 104 = .ok (.bipush 9, 2) := by decide +kernel
theorem dX9_takes_106 : decode cX9_takes 106 = .ok (.if_icmp .ge 30, 3) := by decide +kernel
theorem dX9_takes_109 : decode cX9_takes 109 = .ok (.ldc2_w 283, 3) := by decide +kernel
theorem dX9_takes_112 : decode cX9_takes 112 = .ok (.aload_n 0, 1) := by decide +kernel
theorem dX9_takes_113 : decode cX9_takes 113 = .ok (.getfield 273, 3) := by decide +kernel
theorem dX9_takes_116 : decode cX9_takes 116 = .ok (.lmul, 1) := by decide +kernel
theorem dX9_takes_117 : decode cX9_takes 117 = .ok (.aload_n 0, 1) := by decide +kernel
theorem dX9_takes_118 : decode cX9_takes 118 = .ok (.aload_n 0, 1) := by decide +kernel
theorem dX9_takes_119 : decode cX9_takes 119 = .ok (.getfield 264, 3) := by decide +kernel
theorem dX9_takes_122 : decode cX9_takes 122 = .ok (.invokevirtual 267, 3) := by decide +kernel
theorem dX9_takes_125 : decode cX9_takes 125 = .ok (.i2l, 1) := by decide +kernel
theorem dX9_takes_126 : decode cX9_takes 126 = .ok (.ladd, 1) := by decide +kernel
theorem dX9_takes_127 : decode cX9_takes 127 = .ok (.ldc2_w 285, 3) := by decide +kernel
theorem dX9_takes_130 : decode cX9_takes 130 = .ok (.lsub, 1) := by decide +kernel
theorem dX9_takes_131 : decode cX9_takes 131 = .ok (.lconst 1, 1) := by decide +kernel
theorem dX9_takes_132 : decode cX9_takes 132 = .ok (.ladd, 1) := by decide +kernel
theorem dX9_takes_133 : decode cX9_takes 133 = .ok (.goto 6, 3) := by decide +kernel
theorem dX9_takes_136 : decode cX9_takes 136 = .ok (.ldc2_w 287, 3) := by decide +kernel
theorem dX9_takes_139 : decode cX9_takes 139 = .ok (.putfield 273, 3) := by decide +kernel
theorem dX9_takes_142 : decode cX9_takes 142 = .ok (.aload_n 0, 1) := by decide +kernel
theorem dX9_takes_143 : decode cX9_takes 143 = .ok (.dup, 1) := by decide +kernel
theorem dX9_takes_144 : decode cX9_takes 144 = .ok (.getfield 264, 3) := by decide +kernel
theorem dX9_takes_147 : decode cX9_takes 147 = .ok (.iconst 1, 1) := by decide +kernel
theorem dX9_takes_148 : decode cX9_takes 148 = .ok (.iadd, 1) := by decide +kernel
theorem dX9_takes_149 : decode cX9_takes 149 = .ok (.putfield 264, 3) := by decide +kernel
theorem dX9_takes_152 : decode cX9_takes 152 = .ok (.goto (-72), 3) := by decide +kernel
theorem dX9_takes_155 : decode cX9_takes 155 = .ok (.aload_n 0, 1) := by decide +kernel
theorem dX9_takes_156 : decode cX9_takes 156 = .ok (.iconst 1, 1) := by decide +kernel
theorem dX9_takes_157 : decode cX9_takes 157 = .ok (.putfield 277, 3) := by decide +kernel
theorem dX9_takes_160 : decode cX9_takes 160 = .ok (.goto 139, 3) := by decide +kernel
theorem dX9_takes_163 : decode cX9_takes 163 = .ok (.iload_n 1, 1) := by decide +kernel
theorem dX9_takes_164 : decode cX9_takes 164 = .ok (.invokestatic 289, 3) := by decide +kernel
theorem dX9_takes_167 : decode cX9_takes 167 = .ok (.ifCond .eq 101, 3) := by decide +kernel
theorem dX9_takes_170 : decode cX9_takes 170 = .ok (.aload_n 0, 1) := by decide +kernel
theorem dX9_takes_171 : decode cX9_takes 171 = .ok (.aload_n 0, 1) := by decide +kernel
theorem dX9_takes_172 : decode cX9_takes 172 = .ok (.getfield 264, 3) := by decide +kernel
theorem dX9_takes_175 : decode cX9_takes 175 = .ok (.invokevirtual 267, 3) := by decide +kernel
theorem dX9_takes_178 : decode cX9_takes 178 = .ok (.invokestatic 289, 3) := by decide +kernel
theorem dX9_takes_181 : decode cX9_takes 181 = .ok (.ifCond .eq 62, 3) := by decide +kernel
theorem dX9_takes_184 : decode cX9_takes 184 = .ok (.aload_n 0, 1) := by decide +kernel
theorem dX9_takes_185 : decode cX9_takes 185 = .ok (.aload_n 0, 1) := by decide +kernel
theorem dX9_takes_186 : decode cX9_takes 186 = .ok (.getfield 264, 3) := by decide +kernel
theorem dX9_takes_189 : decode cX9_takes 189 = .ok (.aload_n 0, 1) := by decide +kernel
theorem dX9_takes_190 : decode cX9_takes 190 = .ok (.getfield 270, 3) := by decide +kernel
theorem dX9_takes_193 : decode cX9_takes 193 = .ok (.isub, 1) := by decide +kernel
theorem dX9_takes_194 : decode cX9_takes 194 = .ok (.iconst 3, 1) := by decide +kernel
theorem dX9_takes_195 : decode cX9_takes 195 = .ok (.if_icmp .ge 28, 3) := by decide +kernel
theorem dX9_takes_198 : decode cX9_takes 198 = .ok (.ldc2_w 292, 3) := by decide +kernel
theorem dX9_takes_201 : decode cX9_takes 201 = .ok (.aload_n 0, 1) := by decide +kernel
theorem dX9_takes_202 : decode cX9_takes 202 = .ok (.getfield 273, 3) := by decide +kernel
theorem dX9_takes_205 : decode cX9_takes 205 = .ok (.lmul, 1) := by decide +kernel
theorem dX9_takes_206 : decode cX9_takes 206 = .ok (.aload_n 0, 1) := by decide +kernel
theorem dX9_takes_207 : decode cX9_takes 207 = .ok (.aload_n 0, 1) := by decide +kernel
theorem dX9_takes_208 : decode cX9_takes 208 = .ok (.getfield 264, 3) := by decide +kernel
theorem dX9_takes_211 : decode cX9_takes 211 = .ok (.invokevirtual 267, 3) := by decide +kernel
theorem dX9_takes_214 : decode cX9_takes 214 = .ok (.i2l, 1) := by decide +kernel
theorem dX9_takes_215 : decode cX9_takes 215 = .ok (.ladd, 1) := by decide +kernel
theorem dX9_takes_216 : decode cX9_takes 216 = .ok (.ldc2_w 294, 3) := by decide +kernel
theorem dX9_takes_219 : decode cX9_takes 219 = .ok (.lsub, 1) := by decide +kernel
theorem dX9_takes_220 : decode cX9_takes 220 = .ok (.goto 7, 3) := by decide +kernel
theorem dX9_takes_223 : decode cX9_takes 223 = .ok (.aload_n 0, 1) := by decide +kernel
theorem dX9_takes_224 : decode cX9_takes 224 = .ok (.getfield 273, 3) := by decide +kernel
theorem dX9_takes_227 : decode cX9_takes 227 = .ok (.putfield 273, 3) := by decide +kernel
theorem dX9_takes_230 : decode cX9_takes 230 = .ok (.aload_n 0, 1) := by decide +kernel
theorem dX9_takes_231 : decode cX9_takes 231 = .ok (.dup, 1) := by decide +kernel
theorem dX9_takes_232 : decode cX9_takes 232 = .ok (.getfield 264, 3) := by decide +kernel
theorem dX9_takes_235 : decode cX9_takes 235 = .ok (.iconst 1, 1) := by decide +kernel
theorem dX9_takes_236 : decode cX9_takes 236 = .ok (.iadd, 1) := by decide +kernel
theorem dX9_takes_237 : decode cX9_takes 237 = .ok (.putfield 264, 3) := by decide +kernel
theorem dX9_takes_240 : decode cX9_takes 240 = .ok (.goto (-70), 3) := by decide +kernel
theorem dX9_takes_243 : decode cX9_takes 243 = .ok (.aload_n 0, 1) := by decide +kernel
theorem dX9_takes_244 : decode cX9_takes 244 = .ok (.aload_n 0, 1) := by decide +kernel
theorem dX9_takes_245 : decode cX9_takes 245 = .ok (.getfield 264, 3) := by decide +kernel
theorem dX9_takes_248 : decode cX9_takes 248 = .ok (.aload_n 0, 1) := by decide +kernel
theorem dX9_takes_249 : decode cX9_takes 249 = .ok (.getfield 270, 3) := by decide +kernel
theorem dX9_takes_252 : decode cX9_takes 252 = .ok (.isub, 1) := by decide +kernel
theorem dX9_takes_253 : decode cX9_takes 253 = .ok (.iconst 3, 1) := by decide +kernel
theorem dX9_takes_254 : decode cX9_takes 254 = .ok (.if_icmp .le 7, 3) := by decide +kernel
theorem dX9_takes_257 : decode cX9_takes 257 = .ok (.iconst 4, 1) := by decide +kernel
theorem dX9_takes_258 : decode cX9_takes 258 = .ok (.goto 4, 3) := by decide +kernel
theorem dX9_takes_261 : decode cX9_takes 261 = .ok (.iconst 2, 1) := by decide +kernel
theorem dX9_takes_262 : decode cX9_takes 262 = .ok (.putfield 277, 3) := by decide +kernel
theorem dX9_takes_265 : decode cX9_takes 265 = .ok (.goto 34, 3) := by decide +kernel
theorem dX9_takes_268 : decode cX9_takes 268 = .ok (.aload_n 0, 1) := by decide +kernel
theorem dX9_takes_269 : decode cX9_takes 269 = .ok (.dup, 1) := by decide +kernel
theorem dX9_takes_270 : decode cX9_takes 270 = .ok (.getfield 264, 3) := by decide +kernel
theorem dX9_takes_273 : decode cX9_takes 273 = .ok (.iconst 1, 1) := by decide +kernel
theorem dX9_takes_274 : decode cX9_takes 274 = .ok (.iadd, 1) := by decide +kernel
theorem dX9_takes_275 : decode cX9_takes 275 = .ok (.putfield 264, 3) := by decide +kernel
theorem dX9_takes_278 : decode cX9_takes 278 = .ok (.aload_n 0, 1) := by decide +kernel
theorem dX9_takes_279 : decode cX9_takes 279 = .ok (.iload_n 1, 1) := by decide +kernel
theorem dX9_takes_280 : decode cX9_takes 280 = .ok (.i2l, 1) := by decide +kernel
theorem dX9_takes_281 : decode cX9_takes 281 = .ok (.putfield 273, 3) := by decide +kernel
theorem dX9_takes_284 : decode cX9_takes 284 = .ok (.aload_n 0, 1) := by decide +kernel
theorem dX9_takes_285 : decode cX9_takes 285 = .ok (.iload_n 1, 1) := by decide +kernel
theorem dX9_takes_286 : decode cX9_takes 286 = .ok (.bipush 59, 2) := by decide +kernel
theorem dX9_takes_288 : decode cX9_takes 288 = .ok (.if_icmp .ne 7, 3) := by decide +kernel
theorem dX9_takes_291 : decode cX9_takes 291 = .ok (.iconst 3, 1) := by decide +kernel
theorem dX9_takes_292 : decode cX9_takes 292 = .ok (.goto 4, 3) := by decide +kernel
theorem dX9_takes_295 : decode cX9_takes 295 = .ok (.iconst 4, 1) := by decide +kernel
theorem dX9_takes_296 : decode cX9_takes 296 = .ok (.putfield 277, 3) := by decide +kernel
theorem dX9_takes_299 : decode cX9_takes 299 = .ok (.aload_n 0, 1) := by decide +kernel
theorem dX9_takes_300 : decode cX9_takes 300 = .ok (.aload_n 0, 1) := by decide +kernel
theorem dX9_takes_301 : decode cX9_takes 301 = .ok (.getfield 264, 3) := by decide +kernel
theorem dX9_takes_304 : decode cX9_takes 304 = .ok (.aload_n 0, 1) := by decide +kernel
theorem dX9_takes_305 : decode cX9_takes 305 = .ok (.getfield 270, 3) := by decide +kernel
theorem dX9_takes_308 : decode cX9_takes 308 = .ok (.isub, 1) := by decide +kernel
theorem dX9_takes_309 : decode cX9_takes 309 = .ok (.putfield 296, 3) := by decide +kernel
theorem dX9_takes_312 : decode cX9_takes 312 = .ok (.return_, 1) := by decide +kernel
theorem dX9_fails_0 : decode cX9_fails 0 = .ok (.aload_n 0, 1) := by decide +kernel
theorem dX9_fails_1 : decode cX9_fails 1 = .ok (.getfield 258, 3) := by decide +kernel
theorem dX9_fails_4 : decode cX9_fails 4 = .ok (.ifCond .le 4, 3) := by decide +kernel
theorem dX9_fails_7 : decode cX9_fails 7 = .ok (.return_, 1) := by decide +kernel
theorem dX9_fails_8 : decode cX9_fails 8 = .ok (.aload_n 0, 1) := by decide +kernel
theorem dX9_fails_9 : decode cX9_fails 9 = .ok (.iload_n 1, 1) := by decide +kernel
theorem dX9_fails_10 : decode cX9_fails 10 = .ok (.putfield 258, 3) := by decide +kernel
theorem dX9_fails_13 : decode cX9_fails 13 = .ok (.aload_n 0, 1) := by decide +kernel
theorem dX9_fails_14 : decode cX9_fails 14 = .ok (.iload_n 2, 1) := by decide +kernel
theorem dX9_fails_15 : decode cX9_fails 15 = .ok (.putfield 20, 3) := by decide +kernel
theorem dX9_fails_18 : decode cX9_fails 18 = .ok (.return_, 1) := by decide +kernel
theorem dX9_isGood_0 : decode cX9_isGood 0 = .ok (.aload_n 0, 1) := by decide +kernel
theorem dX9_isGood_1 : decode cX9_isGood 1 = .ok (.getfield 258, 3) := by decide +kernel
theorem dX9_isGood_4 : decode cX9_isGood 4 = .ok (.ifCond .ne 7, 3) := by decide +kernel
theorem dX9_isGood_7 : decode cX9_isGood 7 = .ok (.iconst 1, 1) := by decide +kernel
theorem dX9_isGood_8 : decode cX9_isGood 8 = .ok (.goto 4, 3) := by decide +kernel
theorem dX9_isGood_11 : decode cX9_isGood 11 = .ok (.iconst 0, 1) := by decide +kernel
theorem dX9_isGood_12 : decode cX9_isGood 12 = .ok (.ireturn, 1) := by decide +kernel
theorem dX9_isWord_0 : decode cX9_isWord 0 = .ok (.aload_n 0, 1) := by decide +kernel
theorem dX9_isWord_1 : decode cX9_isWord 1 = .ok (.invokevirtual 299, 3) := by decide +kernel
theorem dX9_isWord_4 : decode cX9_isWord 4 = .ok (.ifCond .eq 24, 3) := by decide +kernel
theorem dX9_isWord_7 : decode cX9_isWord 7 = .ok (.aload_n 0, 1) := by decide +kernel
theorem dX9_isWord_8 : decode cX9_isWord 8 = .ok (.getfield 277, 3) := by decide +kernel
theorem dX9_isWord_11 : decode cX9_isWord 11 = .ok (.iconst 1, 1) := by decide +kernel
theorem dX9_isWord_12 : decode cX9_isWord 12 = .ok (.if_icmp .ne 16, 3) := by decide +kernel
theorem dX9_isWord_15 : decode cX9_isWord 15 = .ok (.aload_n 0, 1) := by decide +kernel
theorem dX9_isWord_16 : decode cX9_isWord 16 = .ok (.getfield 273, 3) := by decide +kernel
theorem dX9_isWord_19 : decode cX9_isWord 19 = .ok (.lload_n 1, 1) := by decide +kernel
theorem dX9_isWord_20 : decode cX9_isWord 20 = .ok (.lcmp, 1) := by decide +kernel
theorem dX9_isWord_21 : decode cX9_isWord 21 = .ok (.ifCond .ne 7, 3) := by decide +kernel
theorem dX9_isWord_24 : decode cX9_isWord 24 = .ok (.iconst 1, 1) := by decide +kernel
theorem dX9_isWord_25 : decode cX9_isWord 25 = .ok (.goto 4, 3) := by decide +kernel
theorem dX9_isWord_28 : decode cX9_isWord 28 = .ok (.iconst 0, 1) := by decide +kernel
theorem dX9_isWord_29 : decode cX9_isWord 29 = .ok (.ireturn, 1) := by decide +kernel
theorem dX9_hasWord_0 : decode cX9_hasWord 0 = .ok (.aload_n 0, 1) := by decide +kernel
theorem dX9_hasWord_1 : decode cX9_hasWord 1 = .ok (.lload_n 1, 1) := by decide +kernel
theorem dX9_hasWord_2 : decode cX9_hasWord 2 = .ok (.invokevirtual 302, 3) := by decide +kernel
theorem dX9_hasWord_5 : decode cX9_hasWord 5 = .ok (.istore_n 3, 1) := by decide +kernel
theorem dX9_hasWord_6 : decode cX9_hasWord 6 = .ok (.iload_n 3, 1) := by decide +kernel
theorem dX9_hasWord_7 : decode cX9_hasWord 7 = .ok (.ifCond .eq 7, 3) := by decide +kernel
theorem dX9_hasWord_10 : decode cX9_hasWord 10 = .ok (.aload_n 0, 1) := by decide +kernel
theorem dX9_hasWord_11 : decode cX9_hasWord 11 = .ok (.invokevirtual 306, 3) := by decide +kernel
theorem dX9_hasWord_14 : decode cX9_hasWord 14 = .ok (.iload_n 3, 1) := by decide +kernel
theorem dX9_hasWord_15 : decode cX9_hasWord 15 = .ok (.ireturn, 1) := by decide +kernel
theorem dX9_numeral_0 : decode cX9_numeral 0 = .ok (.aload_n 0, 1) := by decide +kernel
theorem dX9_numeral_1 : decode cX9_numeral 1 = .ok (.invokevirtual 299, 3) := by decide +kernel
theorem dX9_numeral_4 : decode cX9_numeral 4 = .ok (.ifCond .eq 20, 3) := by decide +kernel
theorem dX9_numeral_7 : decode cX9_numeral 7 = .ok (.aload_n 0, 1) := by decide +kernel
theorem dX9_numeral_8 : decode cX9_numeral 8 = .ok (.getfield 277, 3) := by decide +kernel
theorem dX9_numeral_11 : decode cX9_numeral 11 = .ok (.iconst 2, 1) := by decide +kernel
theorem dX9_numeral_12 : decode cX9_numeral 12 = .ok (.if_icmp .eq 12, 3) := by decide +kernel
theorem dX9_numeral_15 : decode cX9_numeral 15 = .ok (.aload_n 0, 1) := by decide +kernel
theorem dX9_numeral_16 : decode cX9_numeral 16 = .ok (.iconst 1, 1) := by decide +kernel
theorem dX9_numeral_17 : decode cX9_numeral 17 = .ok (.aload_n 0, 1) := by decide +kernel
theorem dX9_numeral_18 : decode cX9_numeral 18 = .ok (.getfield 270, 3) := by decide +kernel
theorem dX9_numeral_21 : decode cX9_numeral 21 = .ok (.invokevirtual 309, 3) := by decide +kernel
theorem dX9_numeral_24 : decode cX9_numeral 24 = .ok (.aload_n 0, 1) := by decide +kernel
theorem dX9_numeral_25 : decode cX9_numeral 25 = .ok (.invokevirtual 299, 3) := by decide +kernel
theorem dX9_numeral_28 : decode cX9_numeral 28 = .ok (.ifCond .eq 32, 3) := by decide +kernel
theorem dX9_numeral_31 : decode cX9_numeral 31 = .ok (.aload_n 0, 1) := by decide +kernel
theorem dX9_numeral_32 : decode cX9_numeral 32 = .ok (.getfield 273, 3) := by decide +kernel
theorem dX9_numeral_35 : decode cX9_numeral 35 = .ok (.iload_n 1, 1) := by decide +kernel
theorem dX9_numeral_36 : decode cX9_numeral 36 = .ok (.i2l, 1) := by decide +kernel
theorem dX9_numeral_37 : decode cX9_numeral 37 = .ok (.lcmp, 1) := by decide +kernel
theorem dX9_numeral_38 : decode cX9_numeral 38 = .ok (.ifCond .lt 13, 3) := by decide +kernel
theorem dX9_numeral_41 : decode cX9_numeral 41 = .ok (.aload_n 0, 1) := by decide +kernel
theorem dX9_numeral_42 : decode cX9_numeral 42 = .ok (.getfield 273, 3) := by decide +kernel
theorem dX9_numeral_45 : decode cX9_numeral 45 = .ok (.iload_n 2, 1) := by decide +kernel
theorem dX9_numeral_46 : decode cX9_numeral 46 = .ok (.i2l, 1) := by decide +kernel
theorem dX9_numeral_47 : decode cX9_numeral 47 = .ok (.lcmp, 1) := by decide +kernel
theorem dX9_numeral_48 : decode cX9_numeral 48 = .ok (.ifCond .le 12, 3) := by decide +kernel
theorem dX9_numeral_51 : decode cX9_numeral 51 = .ok (.aload_n 0, 1) := by decide +kernel
theorem dX9_numeral_52 : decode cX9_numeral 52 = .ok (.iconst 3, 1) := by decide +kernel
theorem dX9_numeral_53 : decode cX9_numeral 53 = .ok (.aload_n 0, 1) := by decide +kernel
theorem dX9_numeral_54 : decode cX9_numeral 54 = .ok (.getfield 270, 3) := by decide +kernel
theorem dX9_numeral_57 : decode cX9_numeral 57 = .ok (.invokevirtual 309, 3) := by decide +kernel
theorem dX9_numeral_60 : decode cX9_numeral 60 = .ok (.aload_n 0, 1) := by decide +kernel
theorem dX9_numeral_61 : decode cX9_numeral 61 = .ok (.invokevirtual 299, 3) := by decide +kernel
theorem dX9_numeral_64 : decode cX9_numeral 64 = .ok (.ifCond .ne 5, 3) := by decide +kernel
theorem dX9_numeral_67 : decode cX9_numeral 67 = .ok (.iload_n 1, 1) := by decide +kernel
theorem dX9_numeral_68 : decode cX9_numeral 68 = .ok (.ireturn, 1) := by decide +kernel
theorem dX9_numeral_69 : decode cX9_numeral 69 = .ok (.aload_n 0, 1) := by decide +kernel
theorem dX9_numeral_70 : decode cX9_numeral 70 = .ok (.getfield 273, 3) := by decide +kernel
theorem dX9_numeral_73 : decode cX9_numeral 73 = .ok (.l2i, 1) := by decide +kernel
theorem dX9_numeral_74 : decode cX9_numeral 74 = .ok (.istore_n 3, 1) := by decide +kernel
theorem dX9_numeral_75 : decode cX9_numeral 75 = .ok (.aload_n 0, 1) := by decide +kernel
theorem dX9_numeral_76 : decode cX9_numeral 76 = .ok (.invokevirtual 306, 3) := by decide +kernel
theorem dX9_numeral_79 : decode cX9_numeral 79 = .ok (.iload_n 3, 1) := by decide +kernel
theorem dX9_numeral_80 : decode cX9_numeral 80 = .ok (.ireturn, 1) := by decide +kernel
theorem dX9_isQuoted_0 : decode cX9_isQuoted 0 = .ok (.iconst 0, 1) := by decide +kernel
theorem dX9_isQuoted_1 : decode cX9_isQuoted 1 = .ok (.istore_n 1, 1) := by decide +kernel
theorem dX9_isQuoted_2 : decode cX9_isQuoted 2 = .ok (.iload_n 1, 1) := by decide +kernel
theorem dX9_isQuoted_3 : decode cX9_isQuoted 3 = .ok (.getstatic 313, 3) := by decide +kernel
theorem dX9_isQuoted_6 : decode cX9_isQuoted 6 = .ok (.arraylength, 1) := by decide +kernel
theorem dX9_isQuoted_7 : decode cX9_isQuoted 7 = .ok (.if_icmp .ge 24, 3) := by decide +kernel
theorem dX9_isQuoted_10 : decode cX9_isQuoted 10 = .ok (.getstatic 313, 3) := by decide +kernel
theorem dX9_isQuoted_13 : decode cX9_isQuoted 13 = .ok (.iload_n 1, 1) := by decide +kernel
theorem dX9_isQuoted_14 : decode cX9_isQuoted 14 = .ok (.laload, 1) := by decide +kernel
theorem dX9_isQuoted_15 : decode cX9_isQuoted 15 = .ok (.aload_n 0, 1) := by decide +kernel
theorem dX9_isQuoted_16 : decode cX9_isQuoted 16 = .ok (.getfield 273, 3) := by decide +kernel
theorem dX9_isQuoted_19 : decode cX9_isQuoted 19 = .ok (.lcmp, 1) := by decide +kernel
theorem dX9_isQuoted_20 : decode cX9_isQuoted 20 = .ok (.ifCond .ne 5, 3) := by decide +kernel
theorem dX9_isQuoted_23 : decode cX9_isQuoted 23 = .ok (.iconst 1, 1) := by decide +kernel
theorem dX9_isQuoted_24 : decode cX9_isQuoted 24 = .ok (.ireturn, 1) := by decide +kernel
theorem dX9_isQuoted_25 : decode cX9_isQuoted 25 = .ok (.iinc 1 1, 3) := by decide +kernel
theorem dX9_isQuoted_28 : decode cX9_isQuoted 28 = .ok (.goto (-26), 3) := by decide +kernel
theorem dX9_isQuoted_31 : decode cX9_isQuoted 31 = .ok (.iconst 0, 1) := by decide +kernel
theorem dX9_isQuoted_32 : decode cX9_isQuoted 32 = .ok (.ireturn, 1) := by decide +kernel
theorem dX9_named_0 : decode cX9_named 0 = .ok (.aload_n 0, 1) := by decide +kernel
theorem dX9_named_1 : decode cX9_named 1 = .ok (.invokevirtual 299, 3) := by decide +kernel
theorem dX9_named_4 : decode cX9_named 4 = .ok (.ifCond .eq 36, 3) := by decide +kernel
theorem dX9_named_7 : decode cX9_named 7 = .ok (.aload_n 0, 1) := by decide +kernel
theorem dX9_named_8 : decode cX9_named 8 = .ok (.getfield 277, 3) := by decide +kernel
theorem dX9_named_11 : decode cX9_named 11 = .ok (.iconst 1, 1) := by decide +kernel
theorem dX9_named_12 : decode cX9_named 12 = .ok (.if_icmp .ne 19, 3) := by decide +kernel
theorem dX9_named_15 : decode cX9_named 15 = .ok (.aload_n 0, 1) := by decide +kernel
theorem dX9_named_16 : decode cX9_named 16 = .ok (.getfield 296, 3) := by decide +kernel
theorem dX9_named_19 : decode cX9_named 19 = .ok (.bipush 6, 2) := by decide +kernel
theorem dX9_named_21 : decode cX9_named 21 = .ok (.if_icmp .gt 10, 3) := by decide +kernel
theorem dX9_named_24 : decode cX9_named 24 = .ok (.aload_n 0, 1) := by decide +kernel
theorem dX9_named_25 : decode cX9_named 25 = .ok (.invokevirtual 316, 3) := by decide +kernel
theorem dX9_named_28 : decode cX9_named 28 = .ok (.ifCond .eq 12, 3) := by decide +kernel
theorem dX9_named_31 : decode cX9_named 31 = .ok (.aload_n 0, 1) := by decide +kernel
theorem dX9_named_32 : decode cX9_named 32 = .ok (.iconst 1, 1) := by decide +kernel
theorem dX9_named_33 : decode cX9_named 33 = .ok (.aload_n 0, 1) := by decide +kernel
theorem dX9_named_34 : decode cX9_named 34 = .ok (.getfield 270, 3) := by decide +kernel
theorem dX9_named_37 : decode cX9_named 37 = .ok (.invokevirtual 309, 3) := by decide +kernel
theorem dX9_named_40 : decode cX9_named 40 = .ok (.aload_n 0, 1) := by decide +kernel
theorem dX9_named_41 : decode cX9_named 41 = .ok (.invokevirtual 299, 3) := by decide +kernel
theorem dX9_named_44 : decode cX9_named 44 = .ok (.ifCond .ne 5, 3) := by decide +kernel
theorem dX9_named_47 : decode cX9_named 47 = .ok (.iconst (-1), 1) := by decide +kernel
theorem dX9_named_48 : decode cX9_named 48 = .ok (.ireturn, 1) := by decide +kernel
theorem dX9_named_49 : decode cX9_named 49 = .ok (.iconst 0, 1) := by decide +kernel
theorem dX9_named_50 : decode cX9_named 50 = .ok (.istore_n 1, 1) := by decide +kernel
theorem dX9_named_51 : decode cX9_named 51 = .ok (.iload_n 1, 1) := by decide +kernel
theorem dX9_named_52 : decode cX9_named 52 = .ok (.aload_n 0, 1) := by decide +kernel
theorem dX9_named_53 : decode cX9_named 53 = .ok (.getfield 7, 3) := by decide +kernel
theorem dX9_named_56 : decode cX9_named 56 = .ok (.sipush 197, 3) := by decide +kernel
theorem dX9_named_59 : decode cX9_named 59 = .ok (.iaload, 1) := by decide +kernel
theorem dX9_named_60 : decode cX9_named 60 = .ok (.if_icmp .ge 26, 3) := by decide +kernel
theorem dX9_named_63 : decode cX9_named 63 = .ok (.aload_n 0, 1) := by decide +kernel
theorem dX9_named_64 : decode cX9_named 64 = .ok (.getfield 16, 3) := by decide +kernel
theorem dX9_named_67 : decode cX9_named 67 = .ok (.bipush 8, 2) := by decide +kernel
theorem dX9_named_69 : decode cX9_named 69 = .ok (.iload_n 1, 1) := by decide +kernel
theorem dX9_named_70 : decode cX9_named 70 = .ok (.iadd, 1) := by decide +kernel
theorem dX9_named_71 : decode cX9_named 71 = .ok (.laload, 1) := by decide +kernel
theorem dX9_named_72 : decode cX9_named 72 = .ok (.aload_n 0, 1) := by decide +kernel
theorem dX9_named_73 : decode cX9_named 73 = .ok (.getfield 273, 3) := by decide +kernel
theorem dX9_named_76 : decode cX9_named 76 = .ok (.lcmp, 1) := by decide +kernel
theorem dX9_named_77 : decode cX9_named 77 = .ok (.ifCond .eq 9, 3) := by decide +kernel
theorem dX9_named_80 : decode cX9_named 80 = .ok (.iinc 1 1, 3) := by decide +kernel
theorem dX9_named_83 : decode cX9_named 83 = .ok (.goto (-32), 3) := by decide +kernel
theorem dX9_named_86 : decode cX9_named 86 = .ok (.iload_n 1, 1) := by decide +kernel
theorem dX9_named_87 : decode cX9_named 87 = .ok (.aload_n 0, 1) := by decide +kernel
theorem dX9_named_88 : decode cX9_named 88 = .ok (.getfield 7, 3) := by decide +kernel
theorem dX9_named_91 : decode cX9_named 91 = .ok (.sipush 197, 3) := by decide +kernel
theorem dX9_named_94 : decode cX9_named 94 = .ok (.iaload, 1) := by decide +kernel
theorem dX9_named_95 : decode cX9_named 95 = .ok (.if_icmp .ne 7, 3) := by decide +kernel
theorem dX9_named_98 : decode cX9_named 98 = .ok (.iconst (-1), 1) := by decide +kernel
theorem dX9_named_99 : decode cX9_named 99 = .ok (.goto 4, 3) := by decide +kernel
theorem dX9_named_102 : decode cX9_named 102 = .ok (.iload_n 1, 1) := by decide +kernel
theorem dX9_named_103 : decode cX9_named 103 = .ok (.ireturn, 1) := by decide +kernel
theorem dX9_known_0 : decode cX9_known 0 = .ok (.aload_n 0, 1) := by decide +kernel
theorem dX9_known_1 : decode cX9_known 1 = .ok (.invokevirtual 319, 3) := by decide +kernel
theorem dX9_known_4 : decode cX9_known 4 = .ok (.istore_n 1, 1) := by decide +kernel
theorem dX9_known_5 : decode cX9_known 5 = .ok (.aload_n 0, 1) := by decide +kernel
theorem dX9_known_6 : decode cX9_known 6 = .ok (.invokevirtual 299, 3) := by decide +kernel
theorem dX9_known_9 : decode cX9_known 9 = .ok (.ifCond .eq 17, 3) := by decide +kernel
theorem dX9_known_12 : decode cX9_known 12 = .ok (.iload_n 1, 1) := by decide +kernel
theorem dX9_known_13 : decode cX9_known 13 = .ok (.iconst (-1), 1) := by decide +kernel
theorem dX9_known_14 : decode cX9_known 14 = .ok (.if_icmp .ne 12, 3) := by decide +kernel
theorem dX9_known_17 : decode cX9_known 17 = .ok (.aload_n 0, 1) := by decide +kernel
theorem dX9_known_18 : decode cX9_known 18 = .ok (.iconst 2, 1) := by decide +kernel
theorem dX9_known_19 : decode cX9_known 19 = .ok (.aload_n 0, 1) := by decide +kernel
theorem dX9_known_20 : decode cX9_known 20 = .ok (.getfield 270, 3) := by decide +kernel
theorem dX9_known_23 : decode cX9_known 23 = .ok (.invokevirtual 309, 3) := by decide +kernel
theorem dX9_known_26 : decode cX9_known 26 = .ok (.aload_n 0, 1) := by decide +kernel
theorem dX9_known_27 : decode cX9_known 27 = .ok (.invokevirtual 299, 3) := by decide +kernel
theorem dX9_known_30 : decode cX9_known 30 = .ok (.ifCond .ne 5, 3) := by decide +kernel
theorem dX9_known_33 : decode cX9_known 33 = .ok (.iconst 0, 1) := by decide +kernel
theorem dX9_known_34 : decode cX9_known 34 = .ok (.ireturn, 1) := by decide +kernel
theorem dX9_known_35 : decode cX9_known 35 = .ok (.aload_n 0, 1) := by decide +kernel
theorem dX9_known_36 : decode cX9_known 36 = .ok (.invokevirtual 306, 3) := by decide +kernel
theorem dX9_known_39 : decode cX9_known 39 = .ok (.iload_n 1, 1) := by decide +kernel
theorem dX9_known_40 : decode cX9_known 40 = .ok (.ireturn, 1) := by decide +kernel
theorem dX9_readsClass_0 : decode cX9_readsClass 0 = .ok (.aload_n 0, 1) := by decide +kernel
theorem dX9_readsClass_1 : decode cX9_readsClass 1 = .ok (.getfield 7, 3) := by decide +kernel
theorem dX9_readsClass_4 : decode cX9_readsClass 4 = .ok (.sipush 197, 3) := by decide +kernel
theorem dX9_readsClass_7 : decode cX9_readsClass 7 = .ok (.iaload, 1) := by decide +kernel
theorem dX9_readsClass_8 : decode cX9_readsClass 8 = .ok (.istore_n 2, 1) := by decide +kernel
theorem dX9_readsClass_9 : decode cX9_readsClass 9 = .ok (.iload_n 2, 1) := by decide +kernel
theorem dX9_readsClass_10 : decode cX9_readsClass 10 = .ok (.bipush 8, 2) := by decide +kernel
theorem dX9_readsClass_12 : decode cX9_readsClass 12 = .ok (.if_icmp .ne 9, 3) := by decide +kernel
theorem dX9_readsClass_15 : decode cX9_readsClass 15 = .ok (.aload_n 0, 1) := by decide +kernel
theorem dX9_readsClass_16 : decode cX9_readsClass 16 = .ok (.iconst 4, 1) := by decide +kernel
theorem dX9_readsClass_17 : decode cX9_readsClass 17 = .ok (.iload_n 1, 1) := by decide +kernel
theorem dX9_readsClass_18 : decode cX9_readsClass 18 = .ok (.invokevirtual 309, 3) := by decide +kernel
theorem dX9_readsClass_21 : decode cX9_readsClass 21 = .ok (.aload_n 0, 1) := by decide +kernel
theorem dX9_readsClass_22 : decode cX9_readsClass 22 = .ok (.invokevirtual 319, 3) := by decide +kernel
theorem dX9_readsClass_25 : decode cX9_readsClass 25 = .ok (.istore_n 3, 1) := by decide +kernel
theorem dX9_readsClass_26 : decode cX9_readsClass 26 = .ok (.aload_n 0, 1) := by decide +kernel
theorem dX9_readsClass_27 : decode cX9_readsClass 27 = .ok (.invokevirtual 299, 3) := by decide +kernel
theorem dX9_readsClass_30 : decode cX9_readsClass 30 = .ok (.ifCond .eq 17, 3) := by decide +kernel
theorem dX9_readsClass_33 : decode cX9_readsClass 33 = .ok (.iload_n 3, 1) := by decide +kernel
theorem dX9_readsClass_34 : decode cX9_readsClass 34 = .ok (.iconst (-1), 1) := by decide +kernel
theorem dX9_readsClass_35 : decode cX9_readsClass 35 = .ok (.if_icmp .eq 12, 3) := by decide +kernel
theorem dX9_readsClass_38 : decode cX9_readsClass 38 = .ok (.aload_n 0, 1) := by decide +kernel
theorem dX9_readsClass_39 : decode cX9_readsClass 39 = .ok (.iconst 2, 1) := by decide +kernel
theorem dX9_readsClass_40 : decode cX9_readsClass 40 = .ok (.aload_n 0, 1) := by decide +kernel
theorem dX9_readsClass_41 : decode cX9_readsClass 41 = .ok (.getfield 270, 3) := by decide +kernel
theorem dX9_readsClass_44 : decode cX9_readsClass 44 = .ok (.invokevirtual 309, 3) := by decide +kernel
theorem dX9_readsClass_47 : decode cX9_readsClass 47 = .ok (.aload_n 0, 1) := by decide +kernel
theorem dX9_readsClass_48 : decode cX9_readsClass 48 = .ok (.invokevirtual 299, 3) := by decide +kernel
theorem dX9_readsClass_51 : decode cX9_readsClass 51 = .ok (.ifCond .ne 4, 3) := by decide +kernel
theorem dX9_readsClass_54 : decode cX9_readsClass 54 = .ok (.return_, 1) := by decide +kernel
theorem dX9_readsClass_55 : decode cX9_readsClass 55 = .ok (.aload_n 0, 1) := by decide +kernel
theorem dX9_readsClass_56 : decode cX9_readsClass 56 = .ok (.getfield 273, 3) := by decide +kernel
theorem dX9_readsClass_59 : decode cX9_readsClass 59 = .ok (.lstore 4, 2) := by decide +kernel
theorem dX9_readsClass_61 : decode cX9_readsClass 61 = .ok (.aload_n 0, 1) := by decide +kernel
theorem dX9_readsClass_62 : decode cX9_readsClass 62 = .ok (.invokevirtual 306, 3) := by decide +kernel
theorem dX9_readsClass_65 : decode cX9_readsClass 65 = .ok (.aload_n 0, 1) := by decide +kernel
theorem dX9_readsClass_66 : decode cX9_readsClass 66 = .ok (.getfield 7, 3) := by decide +kernel
theorem dX9_readsClass_69 : decode cX9_readsClass 69 = .ok (.bipush 101, 2) := by decide +kernel
theorem dX9_readsClass_71 : decode cX9_readsClass 71 = .ok (.iload_n 2, 1) := by decide +kernel
theorem dX9_readsClass_72 : decode cX9_readsClass 72 = .ok (.iadd, 1) := by decide +kernel
theorem dX9_readsClass_73 : decode cX9_readsClass 73 = .ok (.aload_n 0, 1) := by decide +kernel
theorem dX9_readsClass_74 : decode cX9_readsClass 74 = .ok (.ldc2_w 322, 3) := by decide +kernel
theorem dX9_readsClass_77 : decode cX9_readsClass 77 = .ok (.invokevirtual 324, 3) := by decide +kernel
theorem dX9_readsClass_80 : decode cX9_readsClass 80 = .ok (.ifCond .eq 10, 3) := by decide +kernel
theorem dX9_readsClass_83 : decode cX9_readsClass 83 = .ok (.aload_n 0, 1) := by decide +kernel
theorem dX9_readsClass_84 : decode cX9_readsClass 84 = .ok (.invokevirtual 327, 3) := by decide +kernel
theorem dX9_readsClass_87 : decode cX9_readsClass 87 = .ok (.goto 4, 3) := by decide +kernel
theorem dX9_readsClass_90 : decode cX9_readsClass 90 = .ok (.iconst (-1), 1) := by decide +kernel
theorem dX9_readsClass_91 : decode cX9_readsClass 91 = .ok (.iastore, 1) := by decide +kernel
theorem dX9_readsClass_92 : decode cX9_readsClass 92 = .ok (.aload_n 0, 1) := by decide +kernel
theorem dX9_readsClass_93 : decode cX9_readsClass 93 = .ok (.getfield 7, 3) := by decide +kernel
theorem dX9_readsClass_96 : decode cX9_readsClass 96 = .ok (.bipush 109, 2) := by decide +kernel
theorem dX9_readsClass_98 : decode cX9_readsClass 98 = .ok (.iload_n 2, 1) := by decide +kernel
theorem dX9_readsClass_99 : decode cX9_readsClass 99 = .ok (.iadd, 1) := by decide +kernel
theorem dX9_readsClass_100 : decode cX9_readsClass 100 = .ok (.aload_n 0, 1) := by decide +kernel
theorem dX9_readsClass_101 : decode cX9_readsClass 101 = .ok (.ldc2_w 330, 3) := by decide +kernel
theorem dX9_readsClass_104 : decode cX9_readsClass 104 = .ok (.invokevirtual 324, 3) := by decide +kernel
theorem dX9_readsClass_107 : decode cX9_readsClass 107 = .ok (.ifCond .eq 13, 3) := by decide +kernel
theorem dX9_readsClass_110 : decode cX9_readsClass 110 = .ok (.aload_n 0, 1) := by decide +kernel
theorem dX9_readsClass_111 : decode cX9_readsClass 111 = .ok (.iconst 0, 1) := by decide +kernel
theorem dX9_readsClass_112 : decode cX9_readsClass 112 = .ok (.bipush 99, 2) := by decide +kernel
theorem dX9_readsClass_114 : decode cX9_readsClass 114 = .ok (.invokevirtual 332, 3) := by decide +kernel
theorem dX9_readsClass_117 : decode cX9_readsClass 117 = .ok (.goto 4, 3) := by decide +kernel
theorem dX9_readsClass_120 : decode cX9_readsClass 120 = .ok (.iconst (-1), 1) := by decide +kernel
theorem dX9_readsClass_121 : decode cX9_readsClass 121 = .ok (.iastore, 1) := by decide +kernel
theorem dX9_readsClass_122 : decode cX9_readsClass 122 = .ok (.aload_n 0, 1) := by decide +kernel
theorem dX9_readsClass_123 : decode cX9_readsClass 123 = .ok (.getfield 7, 3) := by decide +kernel
theorem dX9_readsClass_126 : decode cX9_readsClass 126 = .ok (.bipush 117, 2) := by decide +kernel
theorem dX9_readsClass_128 : decode cX9_readsClass 128 = .ok (.iload_n 2, 1) := by decide +kernel
theorem dX9_readsClass_129 : decode cX9_readsClass 129 = .ok (.iadd, 1) := by decide +kernel
theorem dX9_readsClass_130 : decode cX9_readsClass 130 = .ok (.aload_n 0, 1) := by decide +kernel
theorem dX9_readsClass_131 : decode cX9_readsClass 131 = .ok (.ldc2_w 335, 3) := by decide +kernel
theorem dX9_readsClass_134 : decode cX9_readsClass 134 = .ok (.invokevirtual 324, 3) := by decide +kernel
theorem dX9_readsClass_137 : decode cX9_readsClass 137 = .ok (.ifCond .eq 13, 3) := by decide +kernel
theorem dX9_readsClass_140 : decode cX9_readsClass 140 = .ok (.aload_n 0, 1) := by decide +kernel
theorem dX9_readsClass_141 : decode cX9_readsClass 141 = .ok (.iconst 0, 1) := by decide +kernel
theorem dX9_readsClass_142 : decode cX9_readsClass 142 = .ok (.bipush 9, 2) := by decide +kernel
theorem dX9_readsClass_144 : decode cX9_readsClass 144 = .ok (.invokevirtual 332, 3) := by decide +kernel
theorem dX9_readsClass_147 : decode cX9_readsClass 147 = .ok (.goto 4, 3) := by decide +kernel
theorem dX9_readsClass_150 : decode cX9_readsClass 150 = .ok (.iconst (-1), 1) := by decide +kernel
theorem dX9_readsClass_151 : decode cX9_readsClass 151 = .ok (.iastore, 1) := by decide +kernel
theorem dX9_readsClass_152 : decode cX9_readsClass 152 = .ok (.aload_n 0, 1) := by decide +kernel
theorem dX9_readsClass_153 : decode cX9_readsClass 153 = .ok (.getfield 16, 3) := by decide +kernel
theorem dX9_readsClass_156 : decode cX9_readsClass 156 = .ok (.bipush 8, 2) := by decide +kernel
theorem dX9_readsClass_158 : decode cX9_readsClass 158 = .ok (.iload_n 2, 1) := by decide +kernel
theorem dX9_readsClass_159 : decode cX9_readsClass 159 = .ok (.iadd, 1) := by decide +kernel
theorem dX9_readsClass_160 : decode cX9_readsClass 160 = .ok (.lload 4, 2) := by decide +kernel
theorem dX9_readsClass_162 : decode cX9_readsClass 162 = .ok (.lastore, 1) := by decide +kernel
theorem dX9_readsClass_163 : decode cX9_readsClass 163 = .ok (.aload_n 0, 1) := by decide +kernel
theorem dX9_readsClass_164 : decode cX9_readsClass 164 = .ok (.getfield 7, 3) := by decide +kernel
theorem dX9_readsClass_167 : decode cX9_readsClass 167 = .ok (.sipush 197, 3) := by decide +kernel
theorem dX9_readsClass_170 : decode cX9_readsClass 170 = .ok (.dup2, 1) := by decide +kernel
theorem dX9_readsClass_171 : decode cX9_readsClass 171 = .ok (.iaload, 1) := by decide +kernel
theorem dX9_readsClass_172 : decode cX9_readsClass 172 = .ok (.iconst 1, 1) := by decide +kernel
theorem dX9_readsClass_173 : decode cX9_readsClass 173 = .ok (.iadd, 1) := by decide +kernel
theorem dX9_readsClass_174 : decode cX9_readsClass 174 = .ok (.iastore, 1) := by decide +kernel
theorem dX9_readsClass_175 : decode cX9_readsClass 175 = .ok (.return_, 1) := by decide +kernel
theorem dX9_readsTimer_0 : decode cX9_readsTimer 0 = .ok (.aload_n 0, 1) := by decide +kernel
theorem dX9_readsTimer_1 : decode cX9_readsTimer 1 = .ok (.getfield 7, 3) := by decide +kernel
theorem dX9_readsTimer_4 : decode cX9_readsTimer 4 = .ok (.sipush 198, 3) := by decide +kernel
theorem dX9_readsTimer_7 : decode cX9_readsTimer 7 = .ok (.iaload, 1) := by decide +kernel
theorem dX9_readsTimer_8 : decode cX9_readsTimer 8 = .ok (.istore_n 3, 1) := by decide +kernel
theorem dX9_readsTimer_9 : decode cX9_readsTimer 9 = .ok (.iload_n 3, 1) := by decide +kernel
theorem dX9_readsTimer_10 : decode cX9_readsTimer 10 = .ok (.bipush 24, 2) := by decide +kernel
theorem dX9_readsTimer_12 : decode cX9_readsTimer 12 = .ok (.if_icmp .ne 9, 3) := by decide +kernel
theorem dX9_readsTimer_15 : decode cX9_readsTimer 15 = .ok (.aload_n 0, 1) := by decide +kernel
theorem dX9_readsTimer_16 : decode cX9_readsTimer 16 = .ok (.iconst 4, 1) := by decide +kernel
theorem dX9_readsTimer_17 : decode cX9_readsTimer 17 = .ok (.iload_n 1, 1) := by decide +kernel
theorem dX9_readsTimer_18 : decode cX9_readsTimer 18 = .ok (.invokevirtual 309, 3) := by decide +kernel
theorem dX9_readsTimer_21 : decode cX9_readsTimer 21 = .ok (.aload_n 0, 1) := by decide +kernel
theorem dX9_readsTimer_22 : decode cX9_readsTimer 22 = .ok (.invokevirtual 327, 3) := by decide +kernel
theorem dX9_readsTimer_25 : decode cX9_readsTimer 25 = .ok (.istore 4, 2) := by decide +kernel
theorem dX9_readsTimer_27 : decode cX9_readsTimer 27 = .ok (.iload_n 2, 1) := by decide +kernel
theorem dX9_readsTimer_28 : decode cX9_readsTimer 28 = .ok (.ifCond .eq 13, 3) := by decide +kernel
theorem dX9_readsTimer_31 : decode cX9_readsTimer 31 = .ok (.aload_n 0, 1) := by decide +kernel
theorem dX9_readsTimer_32 : decode cX9_readsTimer 32 = .ok (.iconst 1, 1) := by decide +kernel
theorem dX9_readsTimer_33 : decode cX9_readsTimer 33 = .ok (.bipush 60, 2) := by decide +kernel
theorem dX9_readsTimer_35 : decode cX9_readsTimer 35 = .ok (.invokevirtual 332, 3) := by decide +kernel
theorem dX9_readsTimer_38 : decode cX9_readsTimer 38 = .ok (.goto 4, 3) := by decide +kernel
theorem dX9_readsTimer_41 : decode cX9_readsTimer 41 = .ok (.iconst 0, 1) := by decide +kernel
theorem dX9_readsTimer_42 : decode cX9_readsTimer 42 = .ok (.istore 5, 2) := by decide +kernel
theorem dX9_readsTimer_44 : decode cX9_readsTimer 44 = .ok (.aload_n 0, 1) := by decide +kernel
theorem dX9_readsTimer_45 : decode cX9_readsTimer 45 = .ok (.iconst 0, 1) := by decide +kernel
theorem dX9_readsTimer_46 : decode cX9_readsTimer 46 = .ok (.sipush 300, 3) := by decide +kernel
theorem dX9_readsTimer_49 : decode cX9_readsTimer 49 = .ok (.invokevirtual 332, 3) := by decide +kernel
theorem dX9_readsTimer_52 : decode cX9_readsTimer 52 = .ok (.istore 6, 2) := by decide +kernel
theorem dX9_readsTimer_54 : decode cX9_readsTimer 54 = .ok (.aload_n 0, 1) := by decide +kernel
theorem dX9_readsTimer_55 : decode cX9_readsTimer 55 = .ok (.invokevirtual 299, 3) := by decide +kernel
theorem dX9_readsTimer_58 : decode cX9_readsTimer 58 = .ok (.ifCond .ne 4, 3) := by decide +kernel
theorem dX9_readsTimer_61 : decode cX9_readsTimer 61 = .ok (.return_, 1) := by decide +kernel
theorem dX9_readsTimer_62 : decode cX9_readsTimer 62 = .ok (.aload_n 0, 1) := by decide +kernel
theorem dX9_readsTimer_63 : decode cX9_readsTimer 63 = .ok (.getfield 7, 3) := by decide +kernel
theorem dX9_readsTimer_66 : decode cX9_readsTimer 66 = .ok (.bipush 125, 2) := by decide +kernel
theorem dX9_readsTimer_68 : decode cX9_readsTimer 68 = .ok (.iload_n 3, 1) := by decide +kernel
theorem dX9_readsTimer_69 : decode cX9_readsTimer 69 = .ok (.iadd, 1) := by decide +kernel
theorem dX9_readsTimer_70 : decode cX9_readsTimer 70 = .ok (.iload 4, 2) := by decide +kernel
theorem dX9_readsTimer_72 : decode cX9_readsTimer 72 = .ok (.iastore, 1) := by decide +kernel
theorem dX9_readsTimer_73 : decode cX9_readsTimer 73 = .ok (.aload_n 0, 1) := by decide +kernel
theorem dX9_readsTimer_74 : decode cX9_readsTimer 74 = .ok (.getfield 7, 3) := by decide +kernel
theorem dX9_readsTimer_77 : decode cX9_readsTimer 77 = .ok (.sipush 149, 3) := by decide +kernel
theorem dX9_readsTimer_80 : decode cX9_readsTimer 80 = .ok (.iload_n 3, 1) := by decide +kernel
theorem dX9_readsTimer_81 : decode cX9_readsTimer 81 = .ok (.iadd, 1) := by decide +kernel
theorem dX9_readsTimer_82 : decode cX9_readsTimer 82 = .ok (.iload 5, 2) := by decide +kernel
theorem dX9_readsTimer_84 : decode cX9_readsTimer 84 = .ok (.iastore, 1) := by decide +kernel
theorem dX9_readsTimer_85 : decode cX9_readsTimer 85 = .ok (.aload_n 0, 1) := by decide +kernel
theorem dX9_readsTimer_86 : decode cX9_readsTimer 86 = .ok (.getfield 7, 3) := by decide +kernel
theorem dX9_readsTimer_89 : decode cX9_readsTimer 89 = .ok (.sipush 173, 3) := by decide +kernel
theorem dX9_readsTimer_92 : decode cX9_readsTimer 92 = .ok (.iload_n 3, 1) := by decide +kernel
theorem dX9_readsTimer_93 : decode cX9_readsTimer 93 = .ok (.iadd, 1) := by decide +kernel
theorem dX9_readsTimer_94 : decode cX9_readsTimer 94 = .ok (.iload 6, 2) := by decide +kernel
theorem dX9_readsTimer_96 : decode cX9_readsTimer 96 = .ok (.iastore, 1) := by decide +kernel
theorem dX9_readsTimer_97 : decode cX9_readsTimer 97 = .ok (.aload_n 0, 1) := by decide +kernel
theorem dX9_readsTimer_98 : decode cX9_readsTimer 98 = .ok (.getfield 7, 3) := by decide +kernel
theorem dX9_readsTimer_101 : decode cX9_readsTimer 101 = .ok (.sipush 198, 3) := by decide +kernel
theorem dX9_readsTimer_104 : decode cX9_readsTimer 104 = .ok (.dup2, 1) := by decide +kernel
theorem dX9_readsTimer_105 : decode cX9_readsTimer 105 = .ok (.iaload, 1) := by decide +kernel
theorem dX9_readsTimer_106 : decode cX9_readsTimer 106 = .ok (.iconst 1, 1) := by decide +kernel
theorem dX9_readsTimer_107 : decode cX9_readsTimer 107 = .ok (.iadd, 1) := by decide +kernel
theorem dX9_readsTimer_108 : decode cX9_readsTimer 108 = .ok (.iastore, 1) := by decide +kernel
theorem dX9_readsTimer_109 : decode cX9_readsTimer 109 = .ok (.return_, 1) := by decide +kernel
theorem dX9_readsLine_0 : decode cX9_readsLine 0 = .ok (.aload_n 0, 1) := by decide +kernel
theorem dX9_readsLine_1 : decode cX9_readsLine 1 = .ok (.getfield 270, 3) := by decide +kernel
theorem dX9_readsLine_4 : decode cX9_readsLine 4 = .ok (.istore_n 1, 1) := by decide +kernel
theorem dX9_readsLine_5 : decode cX9_readsLine 5 = .ok (.aload_n 0, 1) := by decide +kernel
theorem dX9_readsLine_6 : decode cX9_readsLine 6 = .ok (.ldc2_w 337, 3) := by decide +kernel
theorem dX9_readsLine_9 : decode cX9_readsLine 9 = .ok (.invokevirtual 324, 3) := by decide +kernel
theorem dX9_readsLine_12 : decode cX9_readsLine 12 = .ok (.ifCond .eq 11, 3) := by decide +kernel
theorem dX9_readsLine_15 : decode cX9_readsLine 15 = .ok (.aload_n 0, 1) := by decide +kernel
theorem dX9_readsLine_16 : decode cX9_readsLine 16 = .ok (.iload_n 1, 1) := by decide +kernel
theorem dX9_readsLine_17 : decode cX9_readsLine 17 = .ok (.invokevirtual 339, 3) := by decide +kernel
theorem dX9_readsLine_20 : decode cX9_readsLine 20 = .ok (.goto 135, 3) := by decide +kernel
theorem dX9_readsLine_23 : decode cX9_readsLine 23 = .ok (.aload_n 0, 1) := by decide +kernel
theorem dX9_readsLine_24 : decode cX9_readsLine 24 = .ok (.ldc2_w 342, 3) := by decide +kernel
theorem dX9_readsLine_27 : decode cX9_readsLine 27 = .ok (.invokevirtual 324, 3) := by decide +kernel
theorem dX9_readsLine_30 : decode cX9_readsLine 30 = .ok (.ifCond .eq 12, 3) := by decide +kernel
theorem dX9_readsLine_33 : decode cX9_readsLine 33 = .ok (.aload_n 0, 1) := by decide +kernel
theorem dX9_readsLine_34 : decode cX9_readsLine 34 = .ok (.iload_n 1, 1) := by decide +kernel
theorem dX9_readsLine_35 : decode cX9_readsLine 35 = .ok (.iconst 0, 1) := by decide +kernel
theorem dX9_readsLine_36 : decode cX9_readsLine 36 = .ok (.invokevirtual 344, 3) := by decide +kernel
theorem dX9_readsLine_39 : decode cX9_readsLine 39 = .ok (.goto 116, 3) := by decide +kernel
theorem dX9_readsLine_42 : decode cX9_readsLine 42 = .ok (.aload_n 0, 1) := by decide +kernel
theorem dX9_readsLine_43 : decode cX9_readsLine 43 = .ok (.ldc2_w 347, 3) := by decide +kernel
theorem dX9_readsLine_46 : decode cX9_readsLine 46 = .ok (.invokevirtual 324, 3) := by decide +kernel
theorem dX9_readsLine_49 : decode cX9_readsLine 49 = .ok (.ifCond .eq 12, 3) := by decide +kernel
theorem dX9_readsLine_52 : decode cX9_readsLine 52 = .ok (.aload_n 0, 1) := by decide +kernel
theorem dX9_readsLine_53 : decode cX9_readsLine 53 = .ok (.iload_n 1, 1) := by decide +kernel
theorem dX9_readsLine_54 : decode cX9_readsLine 54 = .ok (.iconst 1, 1) := by decide +kernel
theorem dX9_readsLine_55 : decode cX9_readsLine 55 = .ok (.invokevirtual 344, 3) := by decide +kernel
theorem dX9_readsLine_58 : decode cX9_readsLine 58 = .ok (.goto 97, 3) := by decide +kernel
theorem dX9_readsLine_61 : decode cX9_readsLine 61 = .ok (.aload_n 0, 1) := by decide +kernel
theorem dX9_readsLine_62 : decode cX9_readsLine 62 = .ok (.ldc2_w 349, 3) := by decide +kernel
theorem dX9_readsLine_65 : decode cX9_readsLine 65 = .ok (.invokevirtual 324, 3) := by decide +kernel
theorem dX9_readsLine_68 : decode cX9_readsLine 68 = .ok (.ifCond .eq 22, 3) := by decide +kernel
theorem dX9_readsLine_71 : decode cX9_readsLine 71 = .ok (.aload_n 0, 1) := by decide +kernel
theorem dX9_readsLine_72 : decode cX9_readsLine 72 = .ok (.getfield 7, 3) := by decide +kernel
theorem dX9_readsLine_75 : decode cX9_readsLine 75 = .ok (.sipush 199, 3) := by decide +kernel
theorem dX9_readsLine_78 : decode cX9_readsLine 78 = .ok (.aload_n 0, 1) := by decide +kernel
theorem dX9_readsLine_79 : decode cX9_readsLine 79 = .ok (.iconst 1, 1) := by decide +kernel
theorem dX9_readsLine_80 : decode cX9_readsLine 80 = .ok (.sipush 300, 3) := by decide +kernel
theorem dX9_readsLine_83 : decode cX9_readsLine 83 = .ok (.invokevirtual 332, 3) := by decide +kernel
theorem dX9_readsLine_86 : decode cX9_readsLine 86 = .ok (.iastore, 1) := by decide +kernel
theorem dX9_readsLine_87 : decode cX9_readsLine 87 = .ok (.goto 68, 3) := by decide +kernel
theorem dX9_readsLine_90 : decode cX9_readsLine 90 = .ok (.aload_n 0, 1) := by decide +kernel
theorem dX9_readsLine_91 : decode cX9_readsLine 91 = .ok (.ldc2_w 351, 3) := by decide +kernel
theorem dX9_readsLine_94 : decode cX9_readsLine 94 = .ok (.invokevirtual 324, 3) := by decide +kernel
theorem dX9_readsLine_97 : decode cX9_readsLine 97 = .ok (.ifCond .eq 21, 3) := by decide +kernel
theorem dX9_readsLine_100 : decode cX9_readsLine 100 = .ok (.aload_n 0, 1) := by decide +kernel
theorem dX9_readsLine_101 : decode cX9_readsLine 101 = .ok (.getfield 7, 3) := by decide +kernel
theorem dX9_readsLine_104 : decode cX9_readsLine 104 = .ok (.sipush 200, 3) := by decide +kernel
theorem dX9_readsLine_107 : decode cX9_readsLine 107 = .ok (.aload_n 0, 1) := by decide +kernel
theorem dX9_readsLine_108 : decode cX9_readsLine 108 = .ok (.iconst 1, 1) := by decide +kernel
theorem dX9_readsLine_109 : decode cX9_readsLine 109 = .ok (.bipush 99, 2) := by decide +kernel
theorem dX9_readsLine_111 : decode cX9_readsLine 111 = .ok (.invokevirtual 332, 3) := by decide +kernel
theorem dX9_readsLine_114 : decode cX9_readsLine 114 = .ok (.iastore, 1) := by decide +kernel
theorem dX9_readsLine_115 : decode cX9_readsLine 115 = .ok (.goto 40, 3) := by decide +kernel
theorem dX9_readsLine_118 : decode cX9_readsLine 118 = .ok (.aload_n 0, 1) := by decide +kernel
theorem dX9_readsLine_119 : decode cX9_readsLine 119 = .ok (.ldc2_w 353, 3) := by decide +kernel
theorem dX9_readsLine_122 : decode cX9_readsLine 122 = .ok (.invokevirtual 324, 3) := by decide +kernel
theorem dX9_readsLine_125 : decode cX9_readsLine 125 = .ok (.ifCond .eq 21, 3) := by decide +kernel
theorem dX9_readsLine_128 : decode cX9_readsLine 128 = .ok (.aload_n 0, 1) := by decide +kernel
theorem dX9_readsLine_129 : decode cX9_readsLine 129 = .ok (.getfield 7, 3) := by decide +kernel
theorem dX9_readsLine_132 : decode cX9_readsLine 132 = .ok (.sipush 201, 3) := by decide +kernel
theorem dX9_readsLine_135 : decode cX9_readsLine 135 = .ok (.aload_n 0, 1) := by decide +kernel
theorem dX9_readsLine_136 : decode cX9_readsLine 136 = .ok (.iconst 0, 1) := by decide +kernel
theorem dX9_readsLine_137 : decode cX9_readsLine 137 = .ok (.bipush 20, 2) := by decide +kernel
theorem dX9_readsLine_139 : decode cX9_readsLine 139 = .ok (.invokevirtual 332, 3) := by decide +kernel
theorem dX9_readsLine_142 : decode cX9_readsLine 142 = .ok (.iastore, 1) := by decide +kernel
theorem dX9_readsLine_143 : decode cX9_readsLine 143 = .ok (.goto 12, 3) := by decide +kernel
theorem dX9_readsLine_146 : decode cX9_readsLine 146 = .ok (.aload_n 0, 1) := by decide +kernel
theorem dX9_readsLine_147 : decode cX9_readsLine 147 = .ok (.iconst 1, 1) := by decide +kernel
theorem dX9_readsLine_148 : decode cX9_readsLine 148 = .ok (.aload_n 0, 1) := by decide +kernel
theorem dX9_readsLine_149 : decode cX9_readsLine 149 = .ok (.getfield 270, 3) := by decide +kernel
theorem dX9_readsLine_152 : decode cX9_readsLine 152 = .ok (.invokevirtual 309, 3) := by decide +kernel
theorem dX9_readsLine_155 : decode cX9_readsLine 155 = .ok (.aload_n 0, 1) := by decide +kernel
theorem dX9_readsLine_156 : decode cX9_readsLine 156 = .ok (.invokevirtual 299, 3) := by decide +kernel
theorem dX9_readsLine_159 : decode cX9_readsLine 159 = .ok (.ifCond .ne 4, 3) := by decide +kernel
theorem dX9_readsLine_162 : decode cX9_readsLine 162 = .ok (.return_, 1) := by decide +kernel
theorem dX9_readsLine_163 : decode cX9_readsLine 163 = .ok (.aload_n 0, 1) := by decide +kernel
theorem dX9_readsLine_164 : decode cX9_readsLine 164 = .ok (.getfield 277, 3) := by decide +kernel
theorem dX9_readsLine_167 : decode cX9_readsLine 167 = .ok (.iconst 3, 1) := by decide +kernel
theorem dX9_readsLine_168 : decode cX9_readsLine 168 = .ok (.if_icmp .ne 10, 3) := by decide +kernel
theorem dX9_readsLine_171 : decode cX9_readsLine 171 = .ok (.aload_n 0, 1) := by decide +kernel
theorem dX9_readsLine_172 : decode cX9_readsLine 172 = .ok (.invokevirtual 306, 3) := by decide +kernel
theorem dX9_readsLine_175 : decode cX9_readsLine 175 = .ok (.goto 12, 3) := by decide +kernel
theorem dX9_readsLine_178 : decode cX9_readsLine 178 = .ok (.aload_n 0, 1) := by decide +kernel
theorem dX9_readsLine_179 : decode cX9_readsLine 179 = .ok (.iconst 1, 1) := by decide +kernel
theorem dX9_readsLine_180 : decode cX9_readsLine 180 = .ok (.aload_n 0, 1) := by decide +kernel
theorem dX9_readsLine_181 : decode cX9_readsLine 181 = .ok (.getfield 270, 3) := by decide +kernel
theorem dX9_readsLine_184 : decode cX9_readsLine 184 = .ok (.invokevirtual 309, 3) := by decide +kernel
theorem dX9_readsLine_187 : decode cX9_readsLine 187 = .ok (.return_, 1) := by decide +kernel
theorem dX9_readCalls_0 : decode cX9_readCalls 0 = .ok (.iconst 0, 1) := by decide +kernel
theorem dX9_readCalls_1 : decode cX9_readCalls 1 = .ok (.istore_n 1, 1) := by decide +kernel
theorem dX9_readCalls_2 : decode cX9_readCalls 2 = .ok (.iconst 0, 1) := by decide +kernel
theorem dX9_readCalls_3 : decode cX9_readCalls 3 = .ok (.istore_n 2, 1) := by decide +kernel
theorem dX9_readCalls_4 : decode cX9_readCalls 4 = .ok (.iload_n 2, 1) := by decide +kernel
theorem dX9_readCalls_5 : decode cX9_readCalls 5 = .ok (.aload_n 0, 1) := by decide +kernel
theorem dX9_readCalls_6 : decode cX9_readCalls 6 = .ok (.getfield 7, 3) := by decide +kernel
theorem dX9_readCalls_9 : decode cX9_readCalls 9 = .ok (.sipush 198, 3) := by decide +kernel
theorem dX9_readCalls_12 : decode cX9_readCalls 12 = .ok (.iaload, 1) := by decide +kernel
theorem dX9_readCalls_13 : decode cX9_readCalls 13 = .ok (.if_icmp .ge 67, 3) := by decide +kernel
theorem dX9_readCalls_16 : decode cX9_readCalls 16 = .ok (.aload_n 0, 1) := by decide +kernel
theorem dX9_readCalls_17 : decode cX9_readCalls 17 = .ok (.getfield 7, 3) := by decide +kernel
theorem dX9_readCalls_20 : decode cX9_readCalls 20 = .ok (.sipush 149, 3) := by decide +kernel
theorem dX9_readCalls_23 : decode cX9_readCalls 23 = .ok (.iload_n 2, 1) := by decide +kernel
theorem dX9_readCalls_24 : decode cX9_readCalls 24 = .ok (.iadd, 1) := by decide +kernel
theorem dX9_readCalls_25 : decode cX9_readCalls 25 = .ok (.iaload, 1) := by decide +kernel
theorem dX9_readCalls_26 : decode cX9_readCalls 26 = .ok (.istore_n 3, 1) := by decide +kernel
theorem dX9_readCalls_27 : decode cX9_readCalls 27 = .ok (.aload_n 0, 1) := by decide +kernel
theorem dX9_readCalls_28 : decode cX9_readCalls 28 = .ok (.getfield 7, 3) := by decide +kernel
theorem dX9_readCalls_31 : decode cX9_readCalls 31 = .ok (.sipush 199, 3) := by decide +kernel
theorem dX9_readCalls_34 : decode cX9_readCalls 34 = .ok (.iaload, 1) := by decide +kernel
theorem dX9_readCalls_35 : decode cX9_readCalls 35 = .ok (.aload_n 0, 1) := by decide +kernel
theorem dX9_readCalls_36 : decode cX9_readCalls 36 = .ok (.getfield 7, 3) := by decide +kernel
theorem dX9_readCalls_39 : decode cX9_readCalls 39 = .ok (.sipush 173, 3) := by decide +kernel
theorem dX9_readCalls_42 : decode cX9_readCalls 42 = .ok (.iload_n 2, 1) := by decide +kernel
theorem dX9_readCalls_43 : decode cX9_readCalls 43 = .ok (.iadd, 1) := by decide +kernel
theorem dX9_readCalls_44 : decode cX9_readCalls 44 = .ok (.iaload, 1) := by decide +kernel
theorem dX9_readCalls_45 : decode cX9_readCalls 45 = .ok (.isub, 1) := by decide +kernel
theorem dX9_readCalls_46 : decode cX9_readCalls 46 = .ok (.istore 4, 2) := by decide +kernel
theorem dX9_readCalls_48 : decode cX9_readCalls 48 = .ok (.iload_n 1, 1) := by decide +kernel
theorem dX9_readCalls_49 : decode cX9_readCalls 49 = .ok (.iload 4, 2) := by decide +kernel
theorem dX9_readCalls_51 : decode cX9_readCalls 51 = .ok (.ifCond .ge 7, 3) := by decide +kernel
theorem dX9_readCalls_54 : decode cX9_readCalls 54 = .ok (.iconst 0, 1) := by decide +kernel
theorem dX9_readCalls_55 : decode cX9_readCalls 55 = .ok (.goto 17, 3) := by decide +kernel
theorem dX9_readCalls_58 : decode cX9_readCalls 58 = .ok (.iload_n 3, 1) := by decide +kernel
theorem dX9_readCalls_59 : decode cX9_readCalls 59 = .ok (.ifCond .ne 7, 3) := by decide +kernel
theorem dX9_readCalls_62 : decode cX9_readCalls 62 = .ok (.iconst 1, 1) := by decide +kernel
theorem dX9_readCalls_63 : decode cX9_readCalls 63 = .ok (.goto 9, 3) := by decide +kernel
theorem dX9_readCalls_66 : decode cX9_readCalls 66 = .ok (.iconst 1, 1) := by decide +kernel
theorem dX9_readCalls_67 : decode cX9_readCalls 67 = .ok (.iload 4, 2) := by decide +kernel
theorem dX9_readCalls_69 : decode cX9_readCalls 69 = .ok (.iload_n 3, 1) := by decide +kernel
theorem dX9_readCalls_70 : decode cX9_readCalls 70 = .ok (.idiv, 1) := by decide +kernel
theorem dX9_readCalls_71 : decode cX9_readCalls 71 = .ok (.iadd, 1) := by decide +kernel
theorem dX9_readCalls_72 : decode cX9_readCalls 72 = .ok (.iadd, 1) := by decide +kernel
theorem dX9_readCalls_73 : decode cX9_readCalls 73 = .ok (.istore_n 1, 1) := by decide +kernel
theorem dX9_readCalls_74 : decode cX9_readCalls 74 = .ok (.iinc 2 1, 3) := by decide +kernel
theorem dX9_readCalls_77 : decode cX9_readCalls 77 = .ok (.goto (-73), 3) := by decide +kernel
theorem dX9_readCalls_80 : decode cX9_readCalls 80 = .ok (.iload_n 1, 1) := by decide +kernel
theorem dX9_readCalls_81 : decode cX9_readCalls 81 = .ok (.ireturn, 1) := by decide +kernel
theorem dX9_text_0 : decode cX9_text 0 = .ok (.aload_n 0, 1) := by decide +kernel
theorem dX9_text_1 : decode cX9_text 1 = .ok (.aload_n 0, 1) := by decide +kernel
theorem dX9_text_2 : decode cX9_text 2 = .ok (.getfield 200, 3) := by decide +kernel
theorem dX9_text_5 : decode cX9_text 5 = .ok (.putfield 261, 3) := by decide +kernel
theorem dX9_text_8 : decode cX9_text 8 = .ok (.aload_n 0, 1) := by decide +kernel
theorem dX9_text_9 : decode cX9_text 9 = .ok (.iconst 0, 1) := by decide +kernel
theorem dX9_text_10 : decode cX9_text 10 = .ok (.putfield 200, 3) := by decide +kernel
theorem dX9_text_13 : decode cX9_text 13 = .ok (.aload_n 0, 1) := by decide +kernel
theorem dX9_text_14 : decode cX9_text 14 = .ok (.iconst 0, 1) := by decide +kernel
theorem dX9_text_15 : decode cX9_text 15 = .ok (.putfield 258, 3) := by decide +kernel
theorem dX9_text_18 : decode cX9_text 18 = .ok (.aload_n 0, 1) := by decide +kernel
theorem dX9_text_19 : decode cX9_text 19 = .ok (.iconst (-1), 1) := by decide +kernel
theorem dX9_text_20 : decode cX9_text 20 = .ok (.putfield 20, 3) := by decide +kernel
theorem dX9_text_23 : decode cX9_text 23 = .ok (.aload_n 0, 1) := by decide +kernel
theorem dX9_text_24 : decode cX9_text 24 = .ok (.iconst 0, 1) := by decide +kernel
theorem dX9_text_25 : decode cX9_text 25 = .ok (.putfield 264, 3) := by decide +kernel
theorem dX9_text_28 : decode cX9_text 28 = .ok (.aload_n 0, 1) := by decide +kernel
theorem dX9_text_29 : decode cX9_text 29 = .ok (.bipush 101, 2) := by decide +kernel
theorem dX9_text_31 : decode cX9_text 31 = .ok (.invokevirtual 66, 3) := by decide +kernel
theorem dX9_text_34 : decode cX9_text 34 = .ok (.aload_n 0, 1) := by decide +kernel
theorem dX9_text_35 : decode cX9_text 35 = .ok (.invokevirtual 306, 3) := by decide +kernel
theorem dX9_text_38 : decode cX9_text 38 = .ok (.aload_n 0, 1) := by decide +kernel
theorem dX9_text_39 : decode cX9_text 39 = .ok (.invokevirtual 299, 3) := by decide +kernel
theorem dX9_text_42 : decode cX9_text 42 = .ok (.ifCond .eq 17, 3) := by decide +kernel
theorem dX9_text_45 : decode cX9_text 45 = .ok (.aload_n 0, 1) := by decide +kernel
theorem dX9_text_46 : decode cX9_text 46 = .ok (.getfield 277, 3) := by decide +kernel
theorem dX9_text_49 : decode cX9_text 49 = .ok (.ifCond .eq 10, 3) := by decide +kernel
theorem dX9_text_52 : decode cX9_text 52 = .ok (.aload_n 0, 1) := by decide +kernel
theorem dX9_text_53 : decode cX9_text 53 = .ok (.invokevirtual 355, 3) := by decide +kernel
theorem dX9_text_56 : decode cX9_text 56 = .ok (.goto (-18), 3) := by decide +kernel
theorem dX9_text_59 : decode cX9_text 59 = .ok (.aload_n 0, 1) := by decide +kernel
theorem dX9_text_60 : decode cX9_text 60 = .ok (.invokevirtual 299, 3) := by decide +kernel
theorem dX9_text_63 : decode cX9_text 63 = .ok (.ifCond .eq 22, 3) := by decide +kernel
theorem dX9_text_66 : decode cX9_text 66 = .ok (.aload_n 0, 1) := by decide +kernel
theorem dX9_text_67 : decode cX9_text 67 = .ok (.invokevirtual 358, 3) := by decide +kernel
theorem dX9_text_70 : decode cX9_text 70 = .ok (.sipush 200, 3) := by decide +kernel
theorem dX9_text_73 : decode cX9_text 73 = .ok (.if_icmp .le 12, 3) := by decide +kernel
theorem dX9_text_76 : decode cX9_text 76 = .ok (.aload_n 0, 1) := by decide +kernel
theorem dX9_text_77 : decode cX9_text 77 = .ok (.iconst 5, 1) := by decide +kernel
theorem dX9_text_78 : decode cX9_text 78 = .ok (.aload_n 0, 1) := by decide +kernel
theorem dX9_text_79 : decode cX9_text 79 = .ok (.getfield 261, 3) := by decide +kernel
theorem dX9_text_82 : decode cX9_text 82 = .ok (.invokevirtual 309, 3) := by decide +kernel
theorem dX9_text_85 : decode cX9_text 85 = .ok (.aload_n 0, 1) := by decide +kernel
theorem dX9_text_86 : decode cX9_text 86 = .ok (.invokevirtual 299, 3) := by decide +kernel
theorem dX9_text_89 : decode cX9_text 89 = .ok (.ifCond .ne 5, 3) := by decide +kernel
theorem dX9_text_92 : decode cX9_text 92 = .ok (.iconst (-1), 1) := by decide +kernel
theorem dX9_text_93 : decode cX9_text 93 = .ok (.ireturn, 1) := by decide +kernel
theorem dX9_text_94 : decode cX9_text 94 = .ok (.iconst 0, 1) := by decide +kernel
theorem dX9_text_95 : decode cX9_text 95 = .ok (.istore_n 1, 1) := by decide +kernel
theorem dX9_text_96 : decode cX9_text 96 = .ok (.iload_n 1, 1) := by decide +kernel
theorem dX9_text_97 : decode cX9_text 97 = .ok (.bipush 101, 2) := by decide +kernel
theorem dX9_text_99 : decode cX9_text 99 = .ok (.if_icmp .ge 24, 3) := by decide +kernel
theorem dX9_text_102 : decode cX9_text 102 = .ok (.aload_n 0, 1) := by decide +kernel
theorem dX9_text_103 : decode cX9_text 103 = .ok (.getfield 7, 3) := by decide +kernel
theorem dX9_text_106 : decode cX9_text 106 = .ok (.iload_n 1, 1) := by decide +kernel
theorem dX9_text_107 : decode cX9_text 107 = .ok (.aload_n 0, 1) := by decide +kernel
theorem dX9_text_108 : decode cX9_text 108 = .ok (.getfield 7, 3) := by decide +kernel
theorem dX9_text_111 : decode cX9_text 111 = .ok (.bipush 101, 2) := by decide +kernel
theorem dX9_text_113 : decode cX9_text 113 = .ok (.iload_n 1, 1) := by decide +kernel
theorem dX9_text_114 : decode cX9_text 114 = .ok (.iadd, 1) := by decide +kernel
theorem dX9_text_115 : decode cX9_text 115 = .ok (.iaload, 1) := by decide +kernel
theorem dX9_text_116 : decode cX9_text 116 = .ok (.iastore, 1) := by decide +kernel
theorem dX9_text_117 : decode cX9_text 117 = .ok (.iinc 1 1, 3) := by decide +kernel
theorem dX9_text_120 : decode cX9_text 120 = .ok (.goto (-24), 3) := by decide +kernel
theorem dX9_text_123 : decode cX9_text 123 = .ok (.iconst 0, 1) := by decide +kernel
theorem dX9_text_124 : decode cX9_text 124 = .ok (.istore_n 1, 1) := by decide +kernel
theorem dX9_text_125 : decode cX9_text 125 = .ok (.iload_n 1, 1) := by decide +kernel
theorem dX9_text_126 : decode cX9_text 126 = .ok (.bipush 8, 2) := by decide +kernel
theorem dX9_text_128 : decode cX9_text 128 = .ok (.if_icmp .ge 24, 3) := by decide +kernel
theorem dX9_text_131 : decode cX9_text 131 = .ok (.aload_n 0, 1) := by decide +kernel
theorem dX9_text_132 : decode cX9_text 132 = .ok (.getfield 16, 3) := by decide +kernel
theorem dX9_text_135 : decode cX9_text 135 = .ok (.iload_n 1, 1) := by decide +kernel
theorem dX9_text_136 : decode cX9_text 136 = .ok (.aload_n 0, 1) := by decide +kernel
theorem dX9_text_137 : decode cX9_text 137 = .ok (.getfield 16, 3) := by decide +kernel
theorem dX9_text_140 : decode cX9_text 140 = .ok (.bipush 8, 2) := by decide +kernel
theorem dX9_text_142 : decode cX9_text 142 = .ok (.iload_n 1, 1) := by decide +kernel
theorem dX9_text_143 : decode cX9_text 143 = .ok (.iadd, 1) := by decide +kernel
theorem dX9_text_144 : decode cX9_text 144 = .ok (.laload, 1) := by decide +kernel
theorem dX9_text_145 : decode cX9_text 145 = .ok (.lastore, 1) := by decide +kernel
theorem dX9_text_146 : decode cX9_text 146 = .ok (.iinc 1 1, 3) := by decide +kernel
theorem dX9_text_149 : decode cX9_text 149 = .ok (.goto (-24), 3) := by decide +kernel
theorem dX9_text_152 : decode cX9_text 152 = .ok (.aload_n 0, 1) := by decide +kernel
theorem dX9_text_153 : decode cX9_text 153 = .ok (.invokevirtual 70, 3) := by decide +kernel
theorem dX9_text_156 : decode cX9_text 156 = .ok (.aload_n 0, 1) := by decide +kernel
theorem dX9_text_157 : decode cX9_text 157 = .ok (.invokevirtual 88, 3) := by decide +kernel
theorem dX9_text_160 : decode cX9_text 160 = .ok (.ireturn, 1) := by decide +kernel
