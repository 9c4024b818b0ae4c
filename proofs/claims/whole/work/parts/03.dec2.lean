theorem dX4_odds_73 : decode cX4_odds 73 = .ok (.bipush 10, 2) := by decide +kernel
theorem dX4_odds_75 : decode cX4_odds 75 = .ok (.iload_n 3, 1) := by decide +kernel
theorem dX4_odds_76 : decode cX4_odds 76 = .ok (.isub, 1) := by decide +kernel
theorem dX4_odds_77 : decode cX4_odds 77 = .ok (.istore 5, 2) := by decide +kernel
theorem dX4_odds_79 : decode cX4_odds 79 = .ok (.bipush 10, 2) := by decide +kernel
theorem dX4_odds_81 : decode cX4_odds 81 = .ok (.istore 6, 2) := by decide +kernel
theorem dX4_odds_83 : decode cX4_odds 83 = .ok (.aload_n 0, 1) := by decide +kernel
theorem dX4_odds_84 : decode cX4_odds 84 = .ok (.iload_n 2, 1) := by decide +kernel
theorem dX4_odds_85 : decode cX4_odds 85 = .ok (.iload_n 1, 1) := by decide +kernel
theorem dX4_odds_86 : decode cX4_odds 86 = .ok (.invokevirtual 184, 3) := by decide +kernel
theorem dX4_odds_89 : decode cX4_odds 89 = .ok (.istore 7, 2) := by decide +kernel
theorem dX4_odds_91 : decode cX4_odds 91 = .ok (.iload 7, 2) := by decide +kernel
theorem dX4_odds_93 : decode cX4_odds 93 = .ok (.ifCond .le 22, 3) := by decide +kernel
theorem dX4_odds_96 : decode cX4_odds 96 = .ok (.iload 5, 2) := by decide +kernel
theorem dX4_odds_98 : decode cX4_odds 98 = .ok (.iload_n 3, 1) := by decide +kernel
theorem dX4_odds_99 : decode cX4_odds 99 = .ok (.imul, 1) := by decide +kernel
theorem dX4_odds_100 : decode cX4_odds 100 = .ok (.istore 5, 2) := by decide +kernel
theorem dX4_odds_102 : decode cX4_odds 102 = .ok (.iload 6, 2) := by decide +kernel
theorem dX4_odds_104 : decode cX4_odds 104 = .ok (.bipush 10, 2) := by decide +kernel
theorem dX4_odds_106 : decode cX4_odds 106 = .ok (.imul, 1) := by decide +kernel
theorem dX4_odds_107 : decode cX4_odds 107 = .ok (.istore 6, 2) := by decide +kernel
theorem dX4_odds_109 : decode cX4_odds 109 = .ok (.iinc 7 (-1), 3) := by decide +kernel
theorem dX4_odds_112 : decode cX4_odds 112 = .ok (.goto (-21), 3) := by decide +kernel
theorem dX4_odds_115 : decode cX4_odds 115 = .ok (.iload 4, 2) := by decide +kernel
theorem dX4_odds_117 : decode cX4_odds 117 = .ok (.ifCond .ne 8, 3) := by decide +kernel
theorem dX4_odds_120 : decode cX4_odds 120 = .ok (.iload 5, 2) := by decide +kernel
theorem dX4_odds_122 : decode cX4_odds 122 = .ok (.goto 5, 3) := by decide +kernel
theorem dX4_odds_125 : decode cX4_odds 125 = .ok (.iload 6, 2) := by decide +kernel
theorem dX4_odds_127 : decode cX4_odds 127 = .ok (.istore 7, 2) := by decide +kernel
theorem dX4_odds_129 : decode cX4_odds 129 = .ok (.iload 6, 2) := by decide +kernel
theorem dX4_odds_131 : decode cX4_odds 131 = .ok (.iload 5, 2) := by decide +kernel
theorem dX4_odds_133 : decode cX4_odds 133 = .ok (.invokestatic 187, 3) := by decide +kernel
theorem dX4_odds_136 : decode cX4_odds 136 = .ok (.istore 8, 2) := by decide +kernel
theorem dX4_odds_138 : decode cX4_odds 138 = .ok (.iload 8, 2) := by decide +kernel
theorem dX4_odds_140 : decode cX4_odds 140 = .ok (.ifCond .le 11, 3) := by decide +kernel
theorem dX4_odds_143 : decode cX4_odds 143 = .ok (.iload 7, 2) := by decide +kernel
theorem dX4_odds_145 : decode cX4_odds 145 = .ok (.iload 8, 2) := by decide +kernel
theorem dX4_odds_147 : decode cX4_odds 147 = .ok (.idiv, 1) := by decide +kernel
theorem dX4_odds_148 : decode cX4_odds 148 = .ok (.goto 5, 3) := by decide +kernel
theorem dX4_odds_151 : decode cX4_odds 151 = .ok (.iload 7, 2) := by decide +kernel
theorem dX4_odds_153 : decode cX4_odds 153 = .ok (.ireturn, 1) := by decide +kernel
theorem dX4_led_0 : decode cX4_led 0 = .ok (.aload_n 0, 1) := by decide +kernel
theorem dX4_led_1 : decode cX4_led 1 = .ok (.getfield 19, 3) := by decide +kernel
theorem dX4_led_4 : decode cX4_led 4 = .ok (.iload_n 1, 1) := by decide +kernel
theorem dX4_led_5 : decode cX4_led 5 = .ok (.invokevirtual 99, 3) := by decide +kernel
theorem dX4_led_8 : decode cX4_led 8 = .ok (.ifCond .eq 14, 3) := by decide +kernel
theorem dX4_led_11 : decode cX4_led 11 = .ok (.aload_n 0, 1) := by decide +kernel
theorem dX4_led_12 : decode cX4_led 12 = .ok (.getfield 19, 3) := by decide +kernel
theorem dX4_led_15 : decode cX4_led 15 = .ok (.iload_n 2, 1) := by decide +kernel
theorem dX4_led_16 : decode cX4_led 16 = .ok (.invokevirtual 81, 3) := by decide +kernel
theorem dX4_led_19 : decode cX4_led 19 = .ok (.ifCond .ne 5, 3) := by decide +kernel
theorem dX4_led_22 : decode cX4_led 22 = .ok (.iconst (-1), 1) := by decide +kernel
theorem dX4_led_23 : decode cX4_led 23 = .ok (.ireturn, 1) := by decide +kernel
theorem dX4_led_24 : decode cX4_led 24 = .ok (.aload_n 0, 1) := by decide +kernel
theorem dX4_led_25 : decode cX4_led 25 = .ok (.iload_n 1, 1) := by decide +kernel
theorem dX4_led_26 : decode cX4_led 26 = .ok (.invokevirtual 112, 3) := by decide +kernel
theorem dX4_led_29 : decode cX4_led 29 = .ok (.ifCond .ne 6, 3) := by decide +kernel
theorem dX4_led_32 : decode cX4_led 32 = .ok (.bipush (-2), 2) := by decide +kernel
theorem dX4_led_34 : decode cX4_led 34 = .ok (.ireturn, 1) := by decide +kernel
theorem dX4_led_35 : decode cX4_led 35 = .ok (.aload_n 0, 1) := by decide +kernel
theorem dX4_led_36 : decode cX4_led 36 = .ok (.getfield 78, 3) := by decide +kernel
theorem dX4_led_39 : decode cX4_led 39 = .ok (.bipush 6, 2) := by decide +kernel
theorem dX4_led_41 : decode cX4_led 41 = .ok (.if_icmp .lt 6, 3) := by decide +kernel
theorem dX4_led_44 : decode cX4_led 44 = .ok (.bipush (-3), 2) := by decide +kernel
theorem dX4_led_46 : decode cX4_led 46 = .ok (.ireturn, 1) := by decide +kernel
theorem dX4_led_47 : decode cX4_led 47 = .ok (.aload_n 0, 1) := by decide +kernel
theorem dX4_led_48 : decode cX4_led 48 = .ok (.getfield 42, 3) := by decide +kernel
theorem dX4_led_51 : decode cX4_led 51 = .ok (.aload_n 0, 1) := by decide +kernel
theorem dX4_led_52 : decode cX4_led 52 = .ok (.getfield 78, 3) := by decide +kernel
theorem dX4_led_55 : decode cX4_led 55 = .ok (.iload_n 1, 1) := by decide +kernel
theorem dX4_led_56 : decode cX4_led 56 = .ok (.iastore, 1) := by decide +kernel
theorem dX4_led_57 : decode cX4_led 57 = .ok (.aload_n 0, 1) := by decide +kernel
theorem dX4_led_58 : decode cX4_led 58 = .ok (.getfield 46, 3) := by decide +kernel
theorem dX4_led_61 : decode cX4_led 61 = .ok (.aload_n 0, 1) := by decide +kernel
theorem dX4_led_62 : decode cX4_led 62 = .ok (.getfield 78, 3) := by decide +kernel
theorem dX4_led_65 : decode cX4_led 65 = .ok (.iload_n 2, 1) := by decide +kernel
theorem dX4_led_66 : decode cX4_led 66 = .ok (.iastore, 1) := by decide +kernel
theorem dX4_led_67 : decode cX4_led 67 = .ok (.aload_n 0, 1) := by decide +kernel
theorem dX4_led_68 : decode cX4_led 68 = .ok (.dup, 1) := by decide +kernel
theorem dX4_led_69 : decode cX4_led 69 = .ok (.getfield 78, 3) := by decide +kernel
theorem dX4_led_72 : decode cX4_led 72 = .ok (.iconst 1, 1) := by decide +kernel
theorem dX4_led_73 : decode cX4_led 73 = .ok (.iadd, 1) := by decide +kernel
theorem dX4_led_74 : decode cX4_led 74 = .ok (.putfield 78, 3) := by decide +kernel
theorem dX4_led_77 : decode cX4_led 77 = .ok (.aload_n 0, 1) := by decide +kernel
theorem dX4_led_78 : decode cX4_led 78 = .ok (.getfield 78, 3) := by decide +kernel
theorem dX4_led_81 : decode cX4_led 81 = .ok (.ireturn, 1) := by decide +kernel
theorem dX4_forget_0 : decode cX4_forget 0 = .ok (.aload_n 0, 1) := by decide +kernel
theorem dX4_forget_1 : decode cX4_forget 1 = .ok (.getfield 78, 3) := by decide +kernel
theorem dX4_forget_4 : decode cX4_forget 4 = .ok (.istore_n 1, 1) := by decide +kernel
theorem dX4_forget_5 : decode cX4_forget 5 = .ok (.aload_n 0, 1) := by decide +kernel
theorem dX4_forget_6 : decode cX4_forget 6 = .ok (.iconst 0, 1) := by decide +kernel
theorem dX4_forget_7 : decode cX4_forget 7 = .ok (.putfield 78, 3) := by decide +kernel
theorem dX4_forget_10 : decode cX4_forget 10 = .ok (.iload_n 1, 1) := by decide +kernel
theorem dX4_forget_11 : decode cX4_forget 11 = .ok (.ireturn, 1) := by decide +kernel
theorem dX4_vanilla_0 : decode cX4_vanilla 0 = .ok (.aload_n 0, 1) := by decide +kernel
theorem dX4_vanilla_1 : decode cX4_vanilla 1 = .ok (.iconst (-1), 1) := by decide +kernel
theorem dX4_vanilla_2 : decode cX4_vanilla 2 = .ok (.invokevirtual 190, 3) := by decide +kernel
theorem dX4_vanilla_5 : decode cX4_vanilla 5 = .ok (.ifCond .eq 8, 3) := by decide +kernel
theorem dX4_vanilla_8 : decode cX4_vanilla 8 = .ok (.bipush 32, 2) := by decide +kernel
theorem dX4_vanilla_10 : decode cX4_vanilla 10 = .ok (.goto 4, 3) := by decide +kernel
theorem dX4_vanilla_13 : decode cX4_vanilla 13 = .ok (.iconst 0, 1) := by decide +kernel
theorem dX4_vanilla_14 : decode cX4_vanilla 14 = .ok (.istore_n 1, 1) := by decide +kernel
theorem dX4_vanilla_15 : decode cX4_vanilla 15 = .ok (.iconst 0, 1) := by decide +kernel
theorem dX4_vanilla_16 : decode cX4_vanilla 16 = .ok (.istore_n 2, 1) := by decide +kernel
theorem dX4_vanilla_17 : decode cX4_vanilla 17 = .ok (.iload_n 2, 1) := by decide +kernel
theorem dX4_vanilla_18 : decode cX4_vanilla 18 = .ok (.aload_n 0, 1) := by decide +kernel
theorem dX4_vanilla_19 : decode cX4_vanilla 19 = .ok (.getfield 19, 3) := by decide +kernel
theorem dX4_vanilla_22 : decode cX4_vanilla 22 = .ok (.invokevirtual 193, 3) := by decide +kernel
theorem dX4_vanilla_25 : decode cX4_vanilla 25 = .ok (.if_icmp .ge 23, 3) := by decide +kernel
theorem dX4_vanilla_28 : decode cX4_vanilla 28 = .ok (.aload_n 0, 1) := by decide +kernel
theorem dX4_vanilla_29 : decode cX4_vanilla 29 = .ok (.iload_n 2, 1) := by decide +kernel
theorem dX4_vanilla_30 : decode cX4_vanilla 30 = .ok (.invokevirtual 190, 3) := by decide +kernel
theorem dX4_vanilla_33 : decode cX4_vanilla 33 = .ok (.ifCond .eq 9, 3) := by decide +kernel
theorem dX4_vanilla_36 : decode cX4_vanilla 36 = .ok (.iload_n 1, 1) := by decide +kernel
theorem dX4_vanilla_37 : decode cX4_vanilla 37 = .ok (.iconst 1, 1) := by decide +kernel
theorem dX4_vanilla_38 : decode cX4_vanilla 38 = .ok (.iload_n 2, 1) := by decide +kernel
theorem dX4_vanilla_39 : decode cX4_vanilla 39 = .ok (.ishl, 1) := by decide +kernel
theorem dX4_vanilla_40 : decode cX4_vanilla 40 = .ok (.ior, 1) := by decide +kernel
theorem dX4_vanilla_41 : decode cX4_vanilla 41 = .ok (.istore_n 1, 1) := by decide +kernel
theorem dX4_vanilla_42 : decode cX4_vanilla 42 = .ok (.iinc 2 1, 3) := by decide +kernel
theorem dX4_vanilla_45 : decode cX4_vanilla 45 = .ok (.goto (-28), 3) := by decide +kernel
theorem dX4_vanilla_48 : decode cX4_vanilla 48 = .ok (.iload_n 1, 1) := by decide +kernel
theorem dX4_vanilla_49 : decode cX4_vanilla 49 = .ok (.ireturn, 1) := by decide +kernel
theorem dX4_mark_0 : decode cX4_mark 0 = .ok (.aload_n 0, 1) := by decide +kernel
theorem dX4_mark_1 : decode cX4_mark 1 = .ok (.getfield 19, 3) := by decide +kernel
theorem dX4_mark_4 : decode cX4_mark 4 = .ok (.iload_n 2, 1) := by decide +kernel
theorem dX4_mark_5 : decode cX4_mark 5 = .ok (.invokevirtual 99, 3) := by decide +kernel
theorem dX4_mark_8 : decode cX4_mark 8 = .ok (.ifCond .ne 6, 3) := by decide +kernel
theorem dX4_mark_11 : decode cX4_mark 11 = .ok (.ldc 84, 2) := by decide +kernel
theorem dX4_mark_13 : decode cX4_mark 13 = .ok (.ireturn, 1) := by decide +kernel
theorem dX4_mark_14 : decode cX4_mark 14 = .ok (.iload_n 1, 1) := by decide +kernel
theorem dX4_mark_15 : decode cX4_mark 15 = .ok (.tableswitch 73 0 5 #[37, 43, 49, 55, 61, 67], 37) := by decide +kernel
theorem dX4_mark_52 : decode cX4_mark 52 = .ok (.aload_n 0, 1) := by decide +kernel
theorem dX4_mark_53 : decode cX4_mark 53 = .ok (.iload_n 2, 1) := by decide +kernel
theorem dX4_mark_54 : decode cX4_mark 54 = .ok (.invokevirtual 196, 3) := by decide +kernel
theorem dX4_mark_57 : decode cX4_mark 57 = .ok (.ireturn, 1) := by decide +kernel
theorem dX4_mark_58 : decode cX4_mark 58 = .ok (.aload_n 0, 1) := by decide +kernel
theorem dX4_mark_59 : decode cX4_mark 59 = .ok (.iload_n 2, 1) := by decide +kernel
theorem dX4_mark_60 : decode cX4_mark 60 = .ok (.invokevirtual 199, 3) := by decide +kernel
theorem dX4_mark_63 : decode cX4_mark 63 = .ok (.ireturn, 1) := by decide +kernel
theorem dX4_mark_64 : decode cX4_mark 64 = .ok (.aload_n 0, 1) := by decide +kernel
theorem dX4_mark_65 : decode cX4_mark 65 = .ok (.iload_n 2, 1) := by decide +kernel
theorem dX4_mark_66 : decode cX4_mark 66 = .ok (.invokevirtual 202, 3) := by decide +kernel
theorem dX4_mark_69 : decode cX4_mark 69 = .ok (.ireturn, 1) := by decide +kernel
theorem dX4_mark_70 : decode cX4_mark 70 = .ok (.aload_n 0, 1) := by decide +kernel
theorem dX4_mark_71 : decode cX4_mark 71 = .ok (.iload_n 2, 1) := by decide +kernel
theorem dX4_mark_72 : decode cX4_mark 72 = .ok (.invokevirtual 205, 3) := by decide +kernel
theorem dX4_mark_75 : decode cX4_mark 75 = .ok (.ireturn, 1) := by decide +kernel
theorem dX4_mark_76 : decode cX4_mark 76 = .ok (.aload_n 0, 1) := by decide +kernel
theorem dX4_mark_77 : decode cX4_mark 77 = .ok (.iload_n 2, 1) := by decide +kernel
theorem dX4_mark_78 : decode cX4_mark 78 = .ok (.invokevirtual 208, 3) := by decide +kernel
theorem dX4_mark_81 : decode cX4_mark 81 = .ok (.ireturn, 1) := by decide +kernel
theorem dX4_mark_82 : decode cX4_mark 82 = .ok (.aload_n 0, 1) := by decide +kernel
theorem dX4_mark_83 : decode cX4_mark 83 = .ok (.iload_n 2, 1) := by decide +kernel
theorem dX4_mark_84 : decode cX4_mark 84 = .ok (.invokevirtual 211, 3) := by decide +kernel
theorem dX4_mark_87 : decode cX4_mark 87 = .ok (.ireturn, 1) := by decide +kernel
theorem dX4_mark_88 : decode cX4_mark 88 = .ok (.ldc 84, 2) := by decide +kernel
theorem dX4_mark_90 : decode cX4_mark 90 = .ok (.ireturn, 1) := by decide +kernel
theorem dX4_keep_0 : decode cX4_keep 0 = .ok (.iload_n 1, 1) := by decide +kernel
theorem dX4_keep_1 : decode cX4_keep 1 = .ok (.ifCond .lt 8, 3) := by decide +kernel
theorem dX4_keep_4 : decode cX4_keep 4 = .ok (.iload_n 1, 1) := by decide +kernel
theorem dX4_keep_5 : decode cX4_keep 5 = .ok (.iconst 2, 1) := by decide +kernel
theorem dX4_keep_6 : decode cX4_keep 6 = .ok (.if_icmp .lt 5, 3) := by decide +kernel
theorem dX4_keep_9 : decode cX4_keep 9 = .ok (.iconst (-1), 1) := by decide +kernel
theorem dX4_keep_10 : decode cX4_keep 10 = .ok (.ireturn, 1) := by decide +kernel
theorem dX4_keep_11 : decode cX4_keep 11 = .ok (.aload_n 0, 1) := by decide +kernel
theorem dX4_keep_12 : decode cX4_keep 12 = .ok (.iload_n 1, 1) := by decide +kernel
theorem dX4_keep_13 : decode cX4_keep 13 = .ok (.invokevirtual 214, 3) := by decide +kernel
theorem dX4_keep_16 : decode cX4_keep 16 = .ok (.aload_n 0, 1) := by decide +kernel
theorem dX4_keep_17 : decode cX4_keep 17 = .ok (.getfield 29, 3) := by decide +kernel
theorem dX4_keep_20 : decode cX4_keep 20 = .ok (.invokevirtual 218, 3) := by decide +kernel
theorem dX4_keep_23 : decode cX4_keep 23 = .ok (.aload_n 0, 1) := by decide +kernel
theorem dX4_keep_24 : decode cX4_keep 24 = .ok (.dup, 1) := by decide +kernel
theorem dX4_keep_25 : decode cX4_keep 25 = .ok (.getfield 74, 3) := by decide +kernel
theorem dX4_keep_28 : decode cX4_keep 28 = .ok (.iconst 1, 1) := by decide +kernel
theorem dX4_keep_29 : decode cX4_keep 29 = .ok (.iload_n 1, 1) := by decide +kernel
theorem dX4_keep_30 : decode cX4_keep 30 = .ok (.ishl, 1) := by decide +kernel
theorem dX4_keep_31 : decode cX4_keep 31 = .ok (.ior, 1) := by decide +kernel
theorem dX4_keep_32 : decode cX4_keep 32 = .ok (.putfield 74, 3) := by decide +kernel
theorem dX4_keep_35 : decode cX4_keep 35 = .ok (.aload_n 0, 1) := by decide +kernel
theorem dX4_keep_36 : decode cX4_keep 36 = .ok (.getfield 29, 3) := by decide +kernel
theorem dX4_keep_39 : decode cX4_keep 39 = .ok (.invokevirtual 137, 3) := by decide +kernel
theorem dX4_keep_42 : decode cX4_keep 42 = .ok (.ireturn, 1) := by decide +kernel
theorem dX4_back_0 : decode cX4_back 0 = .ok (.iload_n 1, 1) := by decide +kernel
theorem dX4_back_1 : decode cX4_back 1 = .ok (.ifCond .lt 8, 3) := by decide +kernel
theorem dX4_back_4 : decode cX4_back 4 = .ok (.iload_n 1, 1) := by decide +kernel
theorem dX4_back_5 : decode cX4_back 5 = .ok (.iconst 2, 1) := by decide +kernel
theorem dX4_back_6 : decode cX4_back 6 = .ok (.if_icmp .lt 5, 3) := by decide +kernel
theorem dX4_back_9 : decode cX4_back 9 = .ok (.iconst (-1), 1) := by decide +kernel
theorem dX4_back_10 : decode cX4_back 10 = .ok (.ireturn, 1) := by decide +kernel
theorem dX4_back_11 : decode cX4_back 11 = .ok (.aload_n 0, 1) := by decide +kernel
theorem dX4_back_12 : decode cX4_back 12 = .ok (.getfield 74, 3) := by decide +kernel
theorem dX4_back_15 : decode cX4_back 15 = .ok (.iconst 1, 1) := by decide +kernel
theorem dX4_back_16 : decode cX4_back 16 = .ok (.iload_n 1, 1) := by decide +kernel
theorem dX4_back_17 : decode cX4_back 17 = .ok (.ishl, 1) := by decide +kernel
theorem dX4_back_18 : decode cX4_back 18 = .ok (.iand, 1) := by decide +kernel
theorem dX4_back_19 : decode cX4_back 19 = .ok (.ifCond .ne 6, 3) := by decide +kernel
theorem dX4_back_22 : decode cX4_back 22 = .ok (.bipush (-2), 2) := by decide +kernel
theorem dX4_back_24 : decode cX4_back 24 = .ok (.ireturn, 1) := by decide +kernel
theorem dX4_back_25 : decode cX4_back 25 = .ok (.aload_n 0, 1) := by decide +kernel
theorem dX4_back_26 : decode cX4_back 26 = .ok (.getfield 29, 3) := by decide +kernel
theorem dX4_back_29 : decode cX4_back 29 = .ok (.aload_n 0, 1) := by decide +kernel
theorem dX4_back_30 : decode cX4_back 30 = .ok (.iload_n 1, 1) := by decide +kernel
theorem dX4_back_31 : decode cX4_back 31 = .ok (.invokevirtual 214, 3) := by decide +kernel
theorem dX4_back_34 : decode cX4_back 34 = .ok (.invokevirtual 218, 3) := by decide +kernel
theorem dX4_back_37 : decode cX4_back 37 = .ok (.aload_n 0, 1) := by decide +kernel
theorem dX4_back_38 : decode cX4_back 38 = .ok (.getfield 29, 3) := by decide +kernel
theorem dX4_back_41 : decode cX4_back 41 = .ok (.invokevirtual 137, 3) := by decide +kernel
theorem dX4_back_44 : decode cX4_back 44 = .ok (.ireturn, 1) := by decide +kernel
theorem dX4_count_0 : decode cX4_count 0 = .ok (.iload_n 1, 1) := by decide +kernel
theorem dX4_count_1 : decode cX4_count 1 = .ok (.tableswitch 72 0 4 #[35, 43, 51, 56, 64], 35) := by decide +kernel
theorem dX4_count_36 : decode cX4_count 36 = .ok (.aload_n 0, 1) := by decide +kernel
theorem dX4_count_37 : decode cX4_count 37 = .ok (.getfield 19, 3) := by decide +kernel
theorem dX4_count_40 : decode cX4_count 40 = .ok (.invokevirtual 193, 3) := by decide +kernel
theorem dX4_count_43 : decode cX4_count 43 = .ok (.ireturn, 1) := by decide +kernel
theorem dX4_count_44 : decode cX4_count 44 = .ok (.aload_n 0, 1) := by decide +kernel
theorem dX4_count_45 : decode cX4_count 45 = .ok (.getfield 19, 3) := by decide +kernel
theorem dX4_count_48 : decode cX4_count 48 = .ok (.invokevirtual 165, 3) := by decide +kernel
theorem dX4_count_51 : decode cX4_count 51 = .ok (.ireturn, 1) := by decide +kernel
theorem dX4_count_52 : decode cX4_count 52 = .ok (.aload_n 0, 1) := by decide +kernel
theorem dX4_count_53 : decode cX4_count 53 = .ok (.getfield 78, 3) := by decide +kernel
theorem dX4_count_56 : decode cX4_count 56 = .ok (.ireturn, 1) := by decide +kernel
theorem dX4_count_57 : decode cX4_count 57 = .ok (.aload_n 0, 1) := by decide +kernel
theorem dX4_count_58 : decode cX4_count 58 = .ok (.getfield 29, 3) := by decide +kernel
theorem dX4_count_61 : decode cX4_count 61 = .ok (.invokevirtual 155, 3) := by decide +kernel
theorem dX4_count_64 : decode cX4_count 64 = .ok (.ireturn, 1) := by decide +kernel
theorem dX4_count_65 : decode cX4_count 65 = .ok (.aload_n 0, 1) := by decide +kernel
theorem dX4_count_66 : decode cX4_count 66 = .ok (.getfield 12, 3) := by decide +kernel
theorem dX4_count_69 : decode cX4_count 69 = .ok (.invokevirtual 60, 3) := by decide +kernel
theorem dX4_count_72 : decode cX4_count 72 = .ok (.ireturn, 1) := by decide +kernel
theorem dX4_count_73 : decode cX4_count 73 = .ok (.iconst (-1), 1) := by decide +kernel
theorem dX4_count_74 : decode cX4_count 74 = .ok (.ireturn, 1) := by decide +kernel
theorem dX4_trace_0 : decode cX4_trace 0 = .ok (.aload_n 0, 1) := by decide +kernel
theorem dX4_trace_1 : decode cX4_trace 1 = .ok (.getfield 221, 3) := by decide +kernel
theorem dX4_trace_4 : decode cX4_trace 4 = .ok (.lreturn, 1) := by decide +kernel
theorem dX4_isOut_0 : decode cX4_isOut 0 = .ok (.aload_n 0, 1) := by decide +kernel
theorem dX4_isOut_1 : decode cX4_isOut 1 = .ok (.getfield 29, 3) := by decide +kernel
theorem dX4_isOut_4 : decode cX4_isOut 4 = .ok (.iload_n 1, 1) := by decide +kernel
theorem dX4_isOut_5 : decode cX4_isOut 5 = .ok (.invokevirtual 105, 3) := by decide +kernel
theorem dX4_isOut_8 : decode cX4_isOut 8 = .ok (.bipush (-9), 2) := by decide +kernel
theorem dX4_isOut_10 : decode cX4_isOut 10 = .ok (.if_icmp .ne 7, 3) := by decide +kernel
theorem dX4_isOut_13 : decode cX4_isOut 13 = .ok (.iconst 1, 1) := by decide +kernel
theorem dX4_isOut_14 : decode cX4_isOut 14 = .ok (.goto 4, 3) := by decide +kernel
theorem dX4_isOut_17 : decode cX4_isOut 17 = .ok (.iconst 0, 1) := by decide +kernel
theorem dX4_isOut_18 : decode cX4_isOut 18 = .ok (.ireturn, 1) := by decide +kernel
theorem dX4_mayGoIn_0 : decode cX4_mayGoIn 0 = .ok (.aload_n 0, 1) := by decide +kernel
theorem dX4_mayGoIn_1 : decode cX4_mayGoIn 1 = .ok (.getfield 29, 3) := by decide +kernel
theorem dX4_mayGoIn_4 : decode cX4_mayGoIn 4 = .ok (.invokevirtual 137, 3) := by decide +kernel
theorem dX4_mayGoIn_7 : decode cX4_mayGoIn 7 = .ok (.istore_n 2, 1) := by decide +kernel
theorem dX4_mayGoIn_8 : decode cX4_mayGoIn 8 = .ok (.aload_n 0, 1) := by decide +kernel
theorem dX4_mayGoIn_9 : decode cX4_mayGoIn 9 = .ok (.iload_n 1, 1) := by decide +kernel
theorem dX4_mayGoIn_10 : decode cX4_mayGoIn 10 = .ok (.invokevirtual 112, 3) := by decide +kernel
theorem dX4_mayGoIn_13 : decode cX4_mayGoIn 13 = .ok (.ifCond .eq 33, 3) := by decide +kernel
theorem dX4_mayGoIn_16 : decode cX4_mayGoIn 16 = .ok (.iload_n 2, 1) := by decide +kernel
theorem dX4_mayGoIn_17 : decode cX4_mayGoIn 17 = .ok (.aload_n 0, 1) := by decide +kernel
theorem dX4_mayGoIn_18 : decode cX4_mayGoIn 18 = .ok (.getfield 19, 3) := by decide +kernel
theorem dX4_mayGoIn_21 : decode cX4_mayGoIn 21 = .ok (.iload_n 1, 1) := by decide +kernel
theorem dX4_mayGoIn_22 : decode cX4_mayGoIn 22 = .ok (.iconst 3, 1) := by decide +kernel
theorem dX4_mayGoIn_23 : decode cX4_mayGoIn 23 = .ok (.invokevirtual 102, 3) := by decide +kernel
theorem dX4_mayGoIn_26 : decode cX4_mayGoIn 26 = .ok (.if_icmp .lt 20, 3) := by decide +kernel
theorem dX4_mayGoIn_29 : decode cX4_mayGoIn 29 = .ok (.iload_n 2, 1) := by decide +kernel
theorem dX4_mayGoIn_30 : decode cX4_mayGoIn 30 = .ok (.aload_n 0, 1) := by decide +kernel
theorem dX4_mayGoIn_31 : decode cX4_mayGoIn 31 = .ok (.getfield 19, 3) := by decide +kernel
theorem dX4_mayGoIn_34 : decode cX4_mayGoIn 34 = .ok (.iload_n 1, 1) := by decide +kernel
theorem dX4_mayGoIn_35 : decode cX4_mayGoIn 35 = .ok (.iconst 4, 1) := by decide +kernel
theorem dX4_mayGoIn_36 : decode cX4_mayGoIn 36 = .ok (.invokevirtual 102, 3) := by decide +kernel
theorem dX4_mayGoIn_39 : decode cX4_mayGoIn 39 = .ok (.if_icmp .gt 7, 3) := by decide +kernel
theorem dX4_mayGoIn_42 : decode cX4_mayGoIn 42 = .ok (.iconst 1, 1) := by decide +kernel
theorem dX4_mayGoIn_43 : decode cX4_mayGoIn 43 = .ok (.goto 4, 3) := by decide +kernel
theorem dX4_mayGoIn_46 : decode cX4_mayGoIn 46 = .ok (.iconst 0, 1) := by decide +kernel
theorem dX4_mayGoIn_47 : decode cX4_mayGoIn 47 = .ok (.ireturn, 1) := by decide +kernel
theorem dX4_outAndGoneSour_0 : decode cX4_outAndGoneSour 0 = .ok (.iconst 0, 1) := by decide +kernel
theorem dX4_outAndGoneSour_1 : decode cX4_outAndGoneSour 1 = .ok (.istore_n 1, 1) := by decide +kernel
theorem dX4_outAndGoneSour_2 : decode cX4_outAndGoneSour 2 = .ok (.iconst 0, 1) := by decide +kernel
theorem dX4_outAndGoneSour_3 : decode cX4_outAndGoneSour 3 = .ok (.istore_n 2, 1) := by decide +kernel
theorem dX4_outAndGoneSour_4 : decode cX4_outAndGoneSour 4 = .ok (.iload_n 2, 1) := by decide +kernel
theorem dX4_outAndGoneSour_5 : decode cX4_outAndGoneSour 5 = .ok (.aload_n 0, 1) := by decide +kernel
theorem dX4_outAndGoneSour_6 : decode cX4_outAndGoneSour 6 = .ok (.getfield 19, 3) := by decide +kernel
theorem dX4_outAndGoneSour_9 : decode cX4_outAndGoneSour 9 = .ok (.invokevirtual 165, 3) := by decide +kernel
theorem dX4_outAndGoneSour_12 : decode cX4_outAndGoneSour 12 = .ok (.if_icmp .ge 42, 3) := by decide +kernel
theorem dX4_outAndGoneSour_15 : decode cX4_outAndGoneSour 15 = .ok (.aload_n 0, 1) := by decide +kernel
theorem dX4_outAndGoneSour_16 : decode cX4_outAndGoneSour 16 = .ok (.iload_n 2, 1) := by decide +kernel
theorem dX4_outAndGoneSour_17 : decode cX4_outAndGoneSour 17 = .ok (.invokevirtual 112, 3) := by decide +kernel
theorem dX4_outAndGoneSour_20 : decode cX4_outAndGoneSour 20 = .ok (.ifCond .eq 28, 3) := by decide +kernel
theorem dX4_outAndGoneSour_23 : decode cX4_outAndGoneSour 23 = .ok (.aload_n 0, 1) := by decide +kernel
theorem dX4_outAndGoneSour_24 : decode cX4_outAndGoneSour 24 = .ok (.getfield 29, 3) := by decide +kernel
theorem dX4_outAndGoneSour_27 : decode cX4_outAndGoneSour 27 = .ok (.invokevirtual 137, 3) := by decide +kernel
theorem dX4_outAndGoneSour_30 : decode cX4_outAndGoneSour 30 = .ok (.aload_n 0, 1) := by decide +kernel
theorem dX4_outAndGoneSour_31 : decode cX4_outAndGoneSour 31 = .ok (.getfield 19, 3) := by decide +kernel
theorem dX4_outAndGoneSour_34 : decode cX4_outAndGoneSour 34 = .ok (.iload_n 2, 1) := by decide +kernel
theorem dX4_outAndGoneSour_35 : decode cX4_outAndGoneSour 35 = .ok (.iconst 4, 1) := by decide +kernel
theorem dX4_outAndGoneSour_36 : decode cX4_outAndGoneSour 36 = .ok (.invokevirtual 102, 3) := by decide +kernel
theorem dX4_outAndGoneSour_39 : decode cX4_outAndGoneSour 39 = .ok (.if_icmp .le 9, 3) := by decide +kernel
theorem dX4_outAndGoneSour_42 : decode cX4_outAndGoneSour 42 = .ok (.iload_n 1, 1) := by decide +kernel
theorem dX4_outAndGoneSour_43 : decode cX4_outAndGoneSour 43 = .ok (.iconst 1, 1) := by decide +kernel
theorem dX4_outAndGoneSour_44 : decode cX4_outAndGoneSour 44 = .ok (.iload_n 2, 1) := by decide +kernel
theorem dX4_outAndGoneSour_45 : decode cX4_outAndGoneSour 45 = .ok (.ishl, 1) := by decide +kernel
theorem dX4_outAndGoneSour_46 : decode cX4_outAndGoneSour 46 = .ok (.ior, 1) := by decide +kernel
theorem dX4_outAndGoneSour_47 : decode cX4_outAndGoneSour 47 = .ok (.istore_n 1, 1) := by decide +kernel
theorem dX4_outAndGoneSour_48 : decode cX4_outAndGoneSour 48 = .ok (.iinc 2 1, 3) := by decide +kernel
theorem dX4_outAndGoneSour_51 : decode cX4_outAndGoneSour 51 = .ok (.goto (-47), 3) := by decide +kernel
theorem dX4_outAndGoneSour_54 : decode cX4_outAndGoneSour 54 = .ok (.iload_n 1, 1) := by decide +kernel
theorem dX4_outAndGoneSour_55 : decode cX4_outAndGoneSour 55 = .ok (.ireturn, 1) := by decide +kernel
theorem dX4_smellOf_0 : decode cX4_smellOf 0 = .ok (.aload_n 0, 1) := by decide +kernel
theorem dX4_smellOf_1 : decode cX4_smellOf 1 = .ok (.getfield 19, 3) := by decide +kernel
theorem dX4_smellOf_4 : decode cX4_smellOf 4 = .ok (.iload_n 1, 1) := by decide +kernel
theorem dX4_smellOf_5 : decode cX4_smellOf 5 = .ok (.iconst 1, 1) := by decide +kernel
theorem dX4_smellOf_6 : decode cX4_smellOf 6 = .ok (.invokevirtual 85, 3) := by decide +kernel
theorem dX4_smellOf_9 : decode cX4_smellOf 9 = .ok (.bipush 9, 2) := by decide +kernel
theorem dX4_smellOf_11 : decode cX4_smellOf 11 = .ok (.isub, 1) := by decide +kernel
theorem dX4_smellOf_12 : decode cX4_smellOf 12 = .ok (.istore 4, 2) := by decide +kernel
theorem dX4_smellOf_14 : decode cX4_smellOf 14 = .ok (.iconst 0, 1) := by decide +kernel
theorem dX4_smellOf_15 : decode cX4_smellOf 15 = .ok (.istore 5, 2) := by decide +kernel
theorem dX4_smellOf_17 : decode cX4_smellOf 17 = .ok (.iload 5, 2) := by decide +kernel
theorem dX4_smellOf_19 : decode cX4_smellOf 19 = .ok (.aload_n 0, 1) := by decide +kernel
theorem dX4_smellOf_20 : decode cX4_smellOf 20 = .ok (.getfield 19, 3) := by decide +kernel
theorem dX4_smellOf_23 : decode cX4_smellOf 23 = .ok (.invokevirtual 165, 3) := by decide +kernel
theorem dX4_smellOf_26 : decode cX4_smellOf 26 = .ok (.if_icmp .ge 52, 3) := by decide +kernel
theorem dX4_smellOf_29 : decode cX4_smellOf 29 = .ok (.aload_n 0, 1) := by decide +kernel
theorem dX4_smellOf_30 : decode cX4_smellOf 30 = .ok (.getfield 29, 3) := by decide +kernel
theorem dX4_smellOf_33 : decode cX4_smellOf 33 = .ok (.iload 5, 2) := by decide +kernel
theorem dX4_smellOf_35 : decode cX4_smellOf 35 = .ok (.invokevirtual 105, 3) := by decide +kernel
theorem dX4_smellOf_38 : decode cX4_smellOf 38 = .ok (.iload_n 1, 1) := by decide +kernel
theorem dX4_smellOf_39 : decode cX4_smellOf 39 = .ok (.if_icmp .ne 33, 3) := by decide +kernel
theorem dX4_smellOf_42 : decode cX4_smellOf 42 = .ok (.iload 4, 2) := by decide +kernel
theorem dX4_smellOf_44 : decode cX4_smellOf 44 = .ok (.aload_n 0, 1) := by decide +kernel
theorem dX4_smellOf_45 : decode cX4_smellOf 45 = .ok (.iload_n 2, 1) := by decide +kernel
theorem dX4_smellOf_46 : decode cX4_smellOf 46 = .ok (.aload_n 0, 1) := by decide +kernel
theorem dX4_smellOf_47 : decode cX4_smellOf 47 = .ok (.getfield 19, 3) := by decide +kernel
theorem dX4_smellOf_50 : decode cX4_smellOf 50 = .ok (.iload 5, 2) := by decide +kernel
theorem dX4_smellOf_52 : decode cX4_smellOf 52 = .ok (.iconst 0, 1) := by decide +kernel
theorem dX4_smellOf_53 : decode cX4_smellOf 53 = .ok (.invokevirtual 102, 3) := by decide +kernel
theorem dX4_smellOf_56 : decode cX4_smellOf 56 = .ok (.aload_n 0, 1) := by decide +kernel
theorem dX4_smellOf_57 : decode cX4_smellOf 57 = .ok (.getfield 19, 3) := by decide +kernel
theorem dX4_smellOf_60 : decode cX4_smellOf 60 = .ok (.iload 5, 2) := by decide +kernel
theorem dX4_smellOf_62 : decode cX4_smellOf 62 = .ok (.iconst 1, 1) := by decide +kernel
theorem dX4_smellOf_63 : decode cX4_smellOf 63 = .ok (.invokevirtual 102, 3) := by decide +kernel
theorem dX4_smellOf_66 : decode cX4_smellOf 66 = .ok (.invokevirtual 225, 3) := by decide +kernel
theorem dX4_smellOf_69 : decode cX4_smellOf 69 = .ok (.iadd, 1) := by decide +kernel
theorem dX4_smellOf_70 : decode cX4_smellOf 70 = .ok (.istore 4, 2) := by decide +kernel
theorem dX4_smellOf_72 : decode cX4_smellOf 72 = .ok (.iinc 5 1, 3) := by decide +kernel
theorem dX4_smellOf_75 : decode cX4_smellOf 75 = .ok (.goto (-58), 3) := by decide +kernel
theorem dX4_smellOf_78 : decode cX4_smellOf 78 = .ok (.iload_n 3, 1) := by decide +kernel
theorem dX4_smellOf_79 : decode cX4_smellOf 79 = .ok (.iload_n 1, 1) := by decide +kernel
theorem dX4_smellOf_80 : decode cX4_smellOf 80 = .ok (.if_icmp .ne 17, 3) := by decide +kernel
theorem dX4_smellOf_83 : decode cX4_smellOf 83 = .ok (.iload 4, 2) := by decide +kernel
theorem dX4_smellOf_85 : decode cX4_smellOf 85 = .ok (.aload_n 0, 1) := by decide +kernel
theorem dX4_smellOf_86 : decode cX4_smellOf 86 = .ok (.iload_n 2, 1) := by decide +kernel
theorem dX4_smellOf_87 : decode cX4_smellOf 87 = .ok (.bipush 9, 2) := by decide +kernel
theorem dX4_smellOf_89 : decode cX4_smellOf 89 = .ok (.iconst 0, 1) := by decide +kernel
theorem dX4_smellOf_90 : decode cX4_smellOf 90 = .ok (.invokevirtual 225, 3) := by decide +kernel
theorem dX4_smellOf_93 : decode cX4_smellOf 93 = .ok (.iadd, 1) := by decide +kernel
theorem dX4_smellOf_94 : decode cX4_smellOf 94 = .ok (.goto 5, 3) := by decide +kernel
theorem dX4_smellOf_97 : decode cX4_smellOf 97 = .ok (.iload 4, 2) := by decide +kernel
theorem dX4_smellOf_99 : decode cX4_smellOf 99 = .ok (.ireturn, 1) := by decide +kernel
theorem dX4_liking_0 : decode cX4_liking 0 = .ok (.aload_n 0, 1) := by decide +kernel
theorem dX4_liking_1 : decode cX4_liking 1 = .ok (.getfield 19, 3) := by decide +kernel
theorem dX4_liking_4 : decode cX4_liking 4 = .ok (.iload_n 1, 1) := by decide +kernel
theorem dX4_liking_5 : decode cX4_liking 5 = .ok (.iconst 0, 1) := by decide +kernel
theorem dX4_liking_6 : decode cX4_liking 6 = .ok (.invokevirtual 102, 3) := by decide +kernel
theorem dX4_liking_9 : decode cX4_liking 9 = .ok (.istore 4, 2) := by decide +kernel
theorem dX4_liking_11 : decode cX4_liking 11 = .ok (.aload_n 0, 1) := by decide +kernel
theorem dX4_liking_12 : decode cX4_liking 12 = .ok (.getfield 19, 3) := by decide +kernel
theorem dX4_liking_15 : decode cX4_liking 15 = .ok (.iload_n 1, 1) := by decide +kernel
theorem dX4_liking_16 : decode cX4_liking 16 = .ok (.iconst 1, 1) := by decide +kernel
theorem dX4_liking_17 : decode cX4_liking 17 = .ok (.invokevirtual 102, 3) := by decide +kernel
theorem dX4_liking_20 : decode cX4_liking 20 = .ok (.istore 5, 2) := by decide +kernel
theorem dX4_liking_22 : decode cX4_liking 22 = .ok (.iload 4, 2) := by decide +kernel
theorem dX4_liking_24 : decode cX4_liking 24 = .ok (.iload_n 2, 1) := by decide +kernel
theorem dX4_liking_25 : decode cX4_liking 25 = .ok (.imul, 1) := by decide +kernel
theorem dX4_liking_26 : decode cX4_liking 26 = .ok (.iload 5, 2) := by decide +kernel
theorem dX4_liking_28 : decode cX4_liking 28 = .ok (.iload_n 3, 1) := by decide +kernel
theorem dX4_liking_29 : decode cX4_liking 29 = .ok (.imul, 1) := by decide +kernel
theorem dX4_liking_30 : decode cX4_liking 30 = .ok (.iadd, 1) := by decide +kernel
theorem dX4_liking_31 : decode cX4_liking 31 = .ok (.iload 4, 2) := by decide +kernel
theorem dX4_liking_33 : decode cX4_liking 33 = .ok (.iload_n 3, 1) := by decide +kernel
theorem dX4_liking_34 : decode cX4_liking 34 = .ok (.imul, 1) := by decide +kernel
theorem dX4_liking_35 : decode cX4_liking 35 = .ok (.isub, 1) := by decide +kernel
theorem dX4_liking_36 : decode cX4_liking 36 = .ok (.iload 5, 2) := by decide +kernel
theorem dX4_liking_38 : decode cX4_liking 38 = .ok (.iload_n 2, 1) := by decide +kernel
theorem dX4_liking_39 : decode cX4_liking 39 = .ok (.imul, 1) := by decide +kernel
theorem dX4_liking_40 : decode cX4_liking 40 = .ok (.isub, 1) := by decide +kernel
theorem dX4_liking_41 : decode cX4_liking 41 = .ok (.ireturn, 1) := by decide +kernel
theorem dX4_noseOf_0 : decode cX4_noseOf 0 = .ok (.bipush (-9), 2) := by decide +kernel
theorem dX4_noseOf_2 : decode cX4_noseOf 2 = .ok (.istore_n 3, 1) := by decide +kernel
theorem dX4_noseOf_3 : decode cX4_noseOf 3 = .ok (.iconst 0, 1) := by decide +kernel
theorem dX4_noseOf_4 : decode cX4_noseOf 4 = .ok (.istore 4, 2) := by decide +kernel
theorem dX4_noseOf_6 : decode cX4_noseOf 6 = .ok (.iconst 0, 1) := by decide +kernel
theorem dX4_noseOf_7 : decode cX4_noseOf 7 = .ok (.istore 5, 2) := by decide +kernel
theorem dX4_noseOf_9 : decode cX4_noseOf 9 = .ok (.iload 5, 2) := by decide +kernel
theorem dX4_noseOf_11 : decode cX4_noseOf 11 = .ok (.aload_n 0, 1) := by decide +kernel
theorem dX4_noseOf_12 : decode cX4_noseOf 12 = .ok (.getfield 19, 3) := by decide +kernel
theorem dX4_noseOf_15 : decode cX4_noseOf 15 = .ok (.invokevirtual 193, 3) := by decide +kernel
theorem dX4_noseOf_18 : decode cX4_noseOf 18 = .ok (.if_icmp .ge 51, 3) := by decide +kernel
theorem dX4_noseOf_21 : decode cX4_noseOf 21 = .ok (.aload_n 0, 1) := by decide +kernel
theorem dX4_noseOf_22 : decode cX4_noseOf 22 = .ok (.getfield 29, 3) := by decide +kernel
theorem dX4_noseOf_25 : decode cX4_noseOf 25 = .ok (.iload 5, 2) := by decide +kernel
theorem dX4_noseOf_27 : decode cX4_noseOf 27 = .ok (.invokevirtual 96, 3) := by decide +kernel
theorem dX4_noseOf_30 : decode cX4_noseOf 30 = .ok (.ifCond .ne 33, 3) := by decide +kernel
theorem dX4_noseOf_33 : decode cX4_noseOf 33 = .ok (.aload_n 0, 1) := by decide +kernel
theorem dX4_noseOf_34 : decode cX4_noseOf 34 = .ok (.iload 5, 2) := by decide +kernel
theorem dX4_noseOf_36 : decode cX4_noseOf 36 = .ok (.iload_n 1, 1) := by decide +kernel
theorem dX4_noseOf_37 : decode cX4_noseOf 37 = .ok (.iload_n 2, 1) := by decide +kernel
theorem dX4_noseOf_38 : decode cX4_noseOf 38 = .ok (.invokevirtual 118, 3) := by decide +kernel
theorem dX4_noseOf_41 : decode cX4_noseOf 41 = .ok (.istore 6, 2) := by decide +kernel
theorem dX4_noseOf_43 : decode cX4_noseOf 43 = .ok (.iload_n 3, 1) := by decide +kernel
theorem dX4_noseOf_44 : decode cX4_noseOf 44 = .ok (.bipush (-9), 2) := by decide +kernel
theorem dX4_noseOf_46 : decode cX4_noseOf 46 = .ok (.if_icmp .eq 10, 3) := by decide +kernel
theorem dX4_noseOf_49 : decode cX4_noseOf 49 = .ok (.iload 6, 2) := by decide +kernel
theorem dX4_noseOf_51 : decode cX4_noseOf 51 = .ok (.iload 4, 2) := by decide +kernel
theorem dX4_noseOf_53 : decode cX4_noseOf 53 = .ok (.if_icmp .le 10, 3) := by decide +kernel
theorem dX4_noseOf_56 : decode cX4_noseOf 56 = .ok (.iload 5, 2) := by decide +kernel
theorem dX4_noseOf_58 : decode cX4_noseOf 58 = .ok (.istore_n 3, 1) := by decide +kernel
theorem dX4_noseOf_59 : decode cX4_noseOf 59 = .ok (.iload 6, 2) := by decide +kernel
theorem dX4_noseOf_61 : decode cX4_noseOf 61 = .ok (.istore 4, 2) := by decide +kernel
theorem dX4_noseOf_63 : decode cX4_noseOf 63 = .ok (.iinc 5 1, 3) := by decide +kernel
theorem dX4_noseOf_66 : decode cX4_noseOf 66 = .ok (.goto (-57), 3) := by decide +kernel
theorem dX4_noseOf_69 : decode cX4_noseOf 69 = .ok (.iload_n 3, 1) := by decide +kernel
theorem dX4_noseOf_70 : decode cX4_noseOf 70 = .ok (.ireturn, 1) := by decide +kernel
theorem dX4_rivalsOf_0 : decode cX4_rivalsOf 0 = .ok (.aload_n 0, 1) := by decide +kernel
theorem dX4_rivalsOf_1 : decode cX4_rivalsOf 1 = .ok (.iload_n 1, 1) := by decide +kernel
theorem dX4_rivalsOf_2 : decode cX4_rivalsOf 2 = .ok (.iload_n 2, 1) := by decide +kernel
theorem dX4_rivalsOf_3 : decode cX4_rivalsOf 3 = .ok (.iconst (-1), 1) := by decide +kernel
theorem dX4_rivalsOf_4 : decode cX4_rivalsOf 4 = .ok (.invokevirtual 118, 3) := by decide +kernel
theorem dX4_rivalsOf_7 : decode cX4_rivalsOf 7 = .ok (.istore_n 3, 1) := by decide +kernel
theorem dX4_rivalsOf_8 : decode cX4_rivalsOf 8 = .ok (.iconst 0, 1) := by decide +kernel
theorem dX4_rivalsOf_9 : decode cX4_rivalsOf 9 = .ok (.istore 4, 2) := by decide +kernel
theorem dX4_rivalsOf_11 : decode cX4_rivalsOf 11 = .ok (.iconst 0, 1) := by decide +kernel
theorem dX4_rivalsOf_12 : decode cX4_rivalsOf 12 = .ok (.istore 5, 2) := by decide +kernel
theorem dX4_rivalsOf_14 : decode cX4_rivalsOf 14 = .ok (.iload 5, 2) := by decide +kernel
theorem dX4_rivalsOf_16 : decode cX4_rivalsOf 16 = .ok (.aload_n 0, 1) := by decide +kernel
theorem dX4_rivalsOf_17 : decode cX4_rivalsOf 17 = .ok (.getfield 19, 3) := by decide +kernel
theorem dX4_rivalsOf_20 : decode cX4_rivalsOf 20 = .ok (.invokevirtual 193, 3) := by decide +kernel
theorem dX4_rivalsOf_23 : decode cX4_rivalsOf 23 = .ok (.if_icmp .ge 58, 3) := by decide +kernel
theorem dX4_rivalsOf_26 : decode cX4_rivalsOf 26 = .ok (.iload 5, 2) := by decide +kernel
theorem dX4_rivalsOf_28 : decode cX4_rivalsOf 28 = .ok (.iload_n 1, 1) := by decide +kernel
theorem dX4_rivalsOf_29 : decode cX4_rivalsOf 29 = .ok (.if_icmp .eq 46, 3) := by decide +kernel
theorem dX4_rivalsOf_32 : decode cX4_rivalsOf 32 = .ok (.aload_n 0, 1) := by decide +kernel
theorem dX4_rivalsOf_33 : decode cX4_rivalsOf 33 = .ok (.getfield 29, 3) := by decide +kernel
theorem dX4_rivalsOf_36 : decode cX4_rivalsOf 36 = .ok (.iload 5, 2) := by decide +kernel
theorem dX4_rivalsOf_38 : decode cX4_rivalsOf 38 = .ok (.invokevirtual 96, 3) := by decide +kernel
theorem dX4_rivalsOf_41 : decode cX4_rivalsOf 41 = .ok (.ifCond .ne 34, 3) := by decide +kernel
theorem dX4_rivalsOf_44 : decode cX4_rivalsOf 44 = .ok (.aload_n 0, 1) := by decide +kernel
theorem dX4_rivalsOf_45 : decode cX4_rivalsOf 45 = .ok (.iload 5, 2) := by decide +kernel
theorem dX4_rivalsOf_47 : decode cX4_rivalsOf 47 = .ok (.iload_n 2, 1) := by decide +kernel
theorem dX4_rivalsOf_48 : decode cX4_rivalsOf 48 = .ok (.iconst (-1), 1) := by decide +kernel
theorem dX4_rivalsOf_49 : decode cX4_rivalsOf 49 = .ok (.invokevirtual 118, 3) := by decide +kernel
theorem dX4_rivalsOf_52 : decode cX4_rivalsOf 52 = .ok (.istore 6, 2) := by decide +kernel
theorem dX4_rivalsOf_54 : decode cX4_rivalsOf 54 = .ok (.iload 6, 2) := by decide +kernel
theorem dX4_rivalsOf_56 : decode cX4_rivalsOf 56 = .ok (.iload_n 3, 1) := by decide +kernel
theorem dX4_rivalsOf_57 : decode cX4_rivalsOf 57 = .ok (.if_icmp .gt 15, 3) := by decide +kernel
theorem dX4_rivalsOf_60 : decode cX4_rivalsOf 60 = .ok (.iload 6, 2) := by decide +kernel
theorem dX4_rivalsOf_62 : decode cX4_rivalsOf 62 = .ok (.iload_n 3, 1) := by decide +kernel
theorem dX4_rivalsOf_63 : decode cX4_rivalsOf 63 = .ok (.if_icmp .ne 12, 3) := by decide +kernel
theorem dX4_rivalsOf_66 : decode cX4_rivalsOf 66 = .ok (.iload 5, 2) := by decide +kernel
theorem dX4_rivalsOf_68 : decode cX4_rivalsOf 68 = .ok (.iload_n 1, 1) := by decide +kernel
theorem dX4_rivalsOf_69 : decode cX4_rivalsOf 69 = .ok (.if_icmp .ge 6, 3) := by decide +kernel
theorem dX4_rivalsOf_72 : decode cX4_rivalsOf 72 = .ok (.iinc 4 1, 3) := by decide +kernel
theorem dX4_rivalsOf_75 : decode cX4_rivalsOf 75 = .ok (.iinc 5 1, 3) := by decide +kernel
theorem dX4_rivalsOf_78 : decode cX4_rivalsOf 78 = .ok (.goto (-64), 3) := by decide +kernel
theorem dX4_rivalsOf_81 : decode cX4_rivalsOf 81 = .ok (.iload 4, 2) := by decide +kernel
theorem dX4_rivalsOf_83 : decode cX4_rivalsOf 83 = .ok (.ireturn, 1) := by decide +kernel
theorem dX4_allLedWith_0 : decode cX4_allLedWith 0 = .ok (.iconst 0, 1) := by decide +kernel
theorem dX4_allLedWith_1 : decode cX4_allLedWith 1 = .ok (.istore_n 2, 1) := by decide +kernel
theorem dX4_allLedWith_2 : decode cX4_allLedWith 2 = .ok (.iload_n 2, 1) := by decide +kernel
theorem dX4_allLedWith_3 : decode cX4_allLedWith 3 = .ok (.aload_n 0, 1) := by decide +kernel
theorem dX4_allLedWith_4 : decode cX4_allLedWith 4 = .ok (.getfield 78, 3) := by decide +kernel
theorem dX4_allLedWith_7 : decode cX4_allLedWith 7 = .ok (.if_icmp .ge 41, 3) := by decide +kernel
theorem dX4_allLedWith_10 : decode cX4_allLedWith 10 = .ok (.aload_n 0, 1) := by decide +kernel
theorem dX4_allLedWith_11 : decode cX4_allLedWith 11 = .ok (.getfield 42, 3) := by decide +kernel
theorem dX4_allLedWith_14 : decode cX4_allLedWith 14 = .ok (.iload_n 2, 1) := by decide +kernel
theorem dX4_allLedWith_15 : decode cX4_allLedWith 15 = .ok (.iaload, 1) := by decide +kernel
theorem dX4_allLedWith_16 : decode cX4_allLedWith 16 = .ok (.istore_n 3, 1) := by decide +kernel
theorem dX4_allLedWith_17 : decode cX4_allLedWith 17 = .ok (.aload_n 0, 1) := by decide +kernel
theorem dX4_allLedWith_18 : decode cX4_allLedWith 18 = .ok (.iload_n 3, 1) := by decide +kernel
theorem dX4_allLedWith_19 : decode cX4_allLedWith 19 = .ok (.invokevirtual 112, 3) := by decide +kernel
theorem dX4_allLedWith_22 : decode cX4_allLedWith 22 = .ok (.ifCond .eq 18, 3) := by decide +kernel
theorem dX4_allLedWith_25 : decode cX4_allLedWith 25 = .ok (.aload_n 0, 1) := by decide +kernel
theorem dX4_allLedWith_26 : decode cX4_allLedWith 26 = .ok (.iload_n 3, 1) := by decide +kernel
theorem dX4_allLedWith_27 : decode cX4_allLedWith 27 = .ok (.iload_n 1, 1) := by decide +kernel
theorem dX4_allLedWith_28 : decode cX4_allLedWith 28 = .ok (.invokevirtual 115, 3) := by decide +kernel
theorem dX4_allLedWith_31 : decode cX4_allLedWith 31 = .ok (.aload_n 0, 1) := by decide +kernel
theorem dX4_allLedWith_32 : decode cX4_allLedWith 32 = .ok (.getfield 46, 3) := by decide +kernel
theorem dX4_allLedWith_35 : decode cX4_allLedWith 35 = .ok (.iload_n 2, 1) := by decide +kernel
theorem dX4_allLedWith_36 : decode cX4_allLedWith 36 = .ok (.iaload, 1) := by decide +kernel
theorem dX4_allLedWith_37 : decode cX4_allLedWith 37 = .ok (.if_icmp .eq 5, 3) := by decide +kernel
theorem dX4_allLedWith_40 : decode cX4_allLedWith 40 = .ok (.iconst 0, 1) := by decide +kernel
theorem dX4_allLedWith_41 : decode cX4_allLedWith 41 = .ok (.ireturn, 1) := by decide +kernel
theorem dX4_allLedWith_42 : decode cX4_allLedWith 42 = .ok (.iinc 2 1, 3) := by decide +kernel
theorem dX4_allLedWith_45 : decode cX4_allLedWith 45 = .ok (.goto (-43), 3) := by decide +kernel
theorem dX4_allLedWith_48 : decode cX4_allLedWith 48 = .ok (.iconst 1, 1) := by decide +kernel
theorem dX4_allLedWith_49 : decode cX4_allLedWith 49 = .ok (.ireturn, 1) := by decide +kernel
theorem dX4_imageCourse_0 : decode cX4_imageCourse 0 = .ok (.iload_n 1, 1) := by decide +kernel
theorem dX4_imageCourse_1 : decode cX4_imageCourse 1 = .ok (.ifCond .ne 10, 3) := by decide +kernel
theorem dX4_imageCourse_4 : decode cX4_imageCourse 4 = .ok (.aload_n 0, 1) := by decide +kernel
theorem dX4_imageCourse_5 : decode cX4_imageCourse 5 = .ok (.getfield 36, 3) := by decide +kernel
theorem dX4_imageCourse_8 : decode cX4_imageCourse 8 = .ok (.goto 7, 3) := by decide +kernel
theorem dX4_imageCourse_11 : decode cX4_imageCourse 11 = .ok (.aload_n 0, 1) := by decide +kernel
theorem dX4_imageCourse_12 : decode cX4_imageCourse 12 = .ok (.getfield 39, 3) := by decide +kernel
theorem dX4_imageCourse_15 : decode cX4_imageCourse 15 = .ok (.areturn, 1) := by decide +kernel
theorem dX4_dividedUp_0 : decode cX4_dividedUp 0 = .ok (.iload_n 1, 1) := by decide +kernel
theorem dX4_dividedUp_1 : decode cX4_dividedUp 1 = .ok (.ifCond .le 13, 3) := by decide +kernel
theorem dX4_dividedUp_4 : decode cX4_dividedUp 4 = .ok (.iload_n 0, 1) := by decide +kernel
theorem dX4_dividedUp_5 : decode cX4_dividedUp 5 = .ok (.iload_n 1, 1) := by decide +kernel
theorem dX4_dividedUp_6 : decode cX4_dividedUp 6 = .ok (.iadd, 1) := by decide +kernel
theorem dX4_dividedUp_7 : decode cX4_dividedUp 7 = .ok (.iconst 1, 1) := by decide +kernel
theorem dX4_dividedUp_8 : decode cX4_dividedUp 8 = .ok (.isub, 1) := by decide +kernel
theorem dX4_dividedUp_9 : decode cX4_dividedUp 9 = .ok (.iload_n 1, 1) := by decide +kernel
theorem dX4_dividedUp_10 : decode cX4_dividedUp 10 = .ok (.idiv, 1) := by decide +kernel
theorem dX4_dividedUp_11 : decode cX4_dividedUp 11 = .ok (.goto 4, 3) := by decide +kernel
theorem dX4_dividedUp_14 : decode cX4_dividedUp 14 = .ok (.iconst 0, 1) := by decide +kernel
theorem dX4_dividedUp_15 : decode cX4_dividedUp 15 = .ok (.ireturn, 1) := by decide +kernel
theorem dX4_commonDivisor_0 : decode cX4_commonDivisor 0 = .ok (.iload_n 0, 1) := by decide +kernel
theorem dX4_commonDivisor_1 : decode cX4_commonDivisor 1 = .ok (.istore_n 2, 1) := by decide +kernel
theorem dX4_commonDivisor_2 : decode cX4_commonDivisor 2 = .ok (.iload_n 1, 1) := by decide +kernel
theorem dX4_commonDivisor_3 : decode cX4_commonDivisor 3 = .ok (.istore_n 3, 1) := by decide +kernel
theorem dX4_commonDivisor_4 : decode cX4_commonDivisor 4 = .ok (.iconst 0, 1) := by decide +kernel
theorem dX4_commonDivisor_5 : decode cX4_commonDivisor 5 = .ok (.istore 4, 2) := by decide +kernel
theorem dX4_commonDivisor_7 : decode cX4_commonDivisor 7 = .ok (.iload 4, 2) := by decide +kernel
theorem dX4_commonDivisor_9 : decode cX4_commonDivisor 9 = .ok (.bipush 64, 2) := by decide +kernel
theorem dX4_commonDivisor_11 : decode cX4_commonDivisor 11 = .ok (.if_icmp .ge 23, 3) := by decide +kernel
theorem dX4_commonDivisor_14 : decode cX4_commonDivisor 14 = .ok (.iload_n 3, 1) := by decide +kernel
theorem dX4_commonDivisor_15 : decode cX4_commonDivisor 15 = .ok (.ifCond .le 19, 3) := by decide +kernel
theorem dX4_commonDivisor_18 : decode cX4_commonDivisor 18 = .ok (.iload_n 2, 1) := by decide +kernel
theorem dX4_commonDivisor_19 : decode cX4_commonDivisor 19 = .ok (.iload_n 3, 1) := by decide +kernel
theorem dX4_commonDivisor_20 : decode cX4_commonDivisor 20 = .ok (.irem, 1) := by decide +kernel
theorem dX4_commonDivisor_21 : decode cX4_commonDivisor 21 = .ok (.istore 5, 2) := by decide +kernel
theorem dX4_commonDivisor_23 : decode cX4_commonDivisor 23 = .ok (.iload_n 3, 1) := by decide +kernel
theorem dX4_commonDivisor_24 : decode cX4_commonDivisor 24 = .ok (.istore_n 2, 1) := by decide +kernel
theorem dX4_commonDivisor_25 : decode cX4_commonDivisor 25 = .ok (.iload 5, 2) := by decide +kernel
theorem dX4_commonDivisor_27 : decode cX4_commonDivisor 27 = .ok (.istore_n 3, 1) := by decide +kernel
theorem dX4_commonDivisor_28 : decode cX4_commonDivisor 28 = .ok (.iinc 4 1, 3) := by decide +kernel
theorem dX4_commonDivisor_31 : decode cX4_commonDivisor 31 = .ok (.goto (-24), 3) := by decide +kernel
theorem dX4_commonDivisor_34 : decode cX4_commonDivisor 34 = .ok (.iload_n 2, 1) := by decide +kernel
theorem dX4_commonDivisor_35 : decode cX4_commonDivisor 35 = .ok (.ireturn, 1) := by decide +kernel
theorem dX4_asDough_0 : decode cX4_asDough 0 = .ok (.aload_n 0, 1) := by decide +kernel
theorem dX4_asDough_1 : decode cX4_asDough 1 = .ok (.dup, 1) := by decide +kernel
theorem dX4_asDough_2 : decode cX4_asDough 2 = .ok (.getfield 221, 3) := by decide +kernel
theorem dX4_asDough_5 : decode cX4_asDough 5 = .ok (.lconst 1, 1) := by decide +kernel
theorem dX4_asDough_6 : decode cX4_asDough 6 = .ok (.ladd, 1) := by decide +kernel
theorem dX4_asDough_7 : decode cX4_asDough 7 = .ok (.putfield 221, 3) := by decide +kernel
theorem dX4_asDough_10 : decode cX4_asDough 10 = .ok (.aload_n 0, 1) := by decide +kernel
theorem dX4_asDough_11 : decode cX4_asDough 11 = .ok (.getfield 19, 3) := by decide +kernel
theorem dX4_asDough_14 : decode cX4_asDough 14 = .ok (.iload_n 1, 1) := by decide +kernel
theorem dX4_asDough_15 : decode cX4_asDough 15 = .ok (.iconst 0, 1) := by decide +kernel
theorem dX4_asDough_16 : decode cX4_asDough 16 = .ok (.invokevirtual 102, 3) := by decide +kernel
theorem dX4_asDough_19 : decode cX4_asDough 19 = .ok (.ireturn, 1) := by decide +kernel
theorem dX4_asCake_0 : decode cX4_asCake 0 = .ok (.aload_n 0, 1) := by decide +kernel
theorem dX4_asCake_1 : decode cX4_asCake 1 = .ok (.dup, 1) := by decide +kernel
theorem dX4_asCake_2 : decode cX4_asCake 2 = .ok (.getfield 221, 3) := by decide +kernel
theorem dX4_asCake_5 : decode cX4_asCake 5 = .ok (.ldc2_w 228, 3) := by decide +kernel
theorem dX4_asCake_8 : decode cX4_asCake 8 = .ok (.ladd, 1) := by decide +kernel
theorem dX4_asCake_9 : decode cX4_asCake 9 = .ok (.putfield 221, 3) := by decide +kernel
theorem dX4_asCake_12 : decode cX4_asCake 12 = .ok (.aload_n 0, 1) := by decide +kernel
theorem dX4_asCake_13 : decode cX4_asCake 13 = .ok (.iload_n 1, 1) := by decide +kernel
theorem dX4_asCake_14 : decode cX4_asCake 14 = .ok (.invokevirtual 196, 3) := by decide +kernel
theorem dX4_asCake_17 : decode cX4_asCake 17 = .ok (.aload_n 0, 1) := by decide +kernel
theorem dX4_asCake_18 : decode cX4_asCake 18 = .ok (.getfield 29, 3) := by decide +kernel
theorem dX4_asCake_21 : decode cX4_asCake 21 = .ok (.iload_n 1, 1) := by decide +kernel
theorem dX4_asCake_22 : decode cX4_asCake 22 = .ok (.invokevirtual 109, 3) := by decide +kernel
theorem dX4_asCake_25 : decode cX4_asCake 25 = .ok (.iadd, 1) := by decide +kernel
theorem dX4_asCake_26 : decode cX4_asCake 26 = .ok (.ireturn, 1) := by decide +kernel
theorem dX4_asHerring_0 : decode cX4_asHerring 0 = .ok (.aload_n 0, 1) := by decide +kernel
theorem dX4_asHerring_1 : decode cX4_asHerring 1 = .ok (.dup, 1) := by decide +kernel
theorem dX4_asHerring_2 : decode cX4_asHerring 2 = .ok (.getfield 221, 3) := by decide +kernel
theorem dX4_asHerring_5 : decode cX4_asHerring 5 = .ok (.ldc2_w 230, 3) := by decide +kernel
theorem dX4_asHerring_8 : decode cX4_asHerring 8 = .ok (.ladd, 1) := by decide +kernel
theorem dX4_asHerring_9 : decode cX4_asHerring 9 = .ok (.putfield 221, 3) := by decide +kernel
theorem dX4_asHerring_12 : decode cX4_asHerring 12 = .ok (.aload_n 0, 1) := by decide +kernel
theorem dX4_asHerring_13 : decode cX4_asHerring 13 = .ok (.iload_n 1, 1) := by decide +kernel
theorem dX4_asHerring_14 : decode cX4_asHerring 14 = .ok (.invokevirtual 196, 3) := by decide +kernel
theorem dX4_asHerring_17 : decode cX4_asHerring 17 = .ok (.aload_n 0, 1) := by decide +kernel
theorem dX4_asHerring_18 : decode cX4_asHerring 18 = .ok (.getfield 19, 3) := by decide +kernel
theorem dX4_asHerring_21 : decode cX4_asHerring 21 = .ok (.iload_n 1, 1) := by decide +kernel
theorem dX4_asHerring_22 : decode cX4_asHerring 22 = .ok (.iconst 1, 1) := by decide +kernel
theorem dX4_asHerring_23 : decode cX4_asHerring 23 = .ok (.invokevirtual 102, 3) := by decide +kernel
theorem dX4_asHerring_26 : decode cX4_asHerring 26 = .ok (.isub, 1) := by decide +kernel
theorem dX4_asHerring_27 : decode cX4_asHerring 27 = .ok (.ireturn, 1) := by decide +kernel
theorem dX4_asBride_0 : decode cX4_asBride 0 = .ok (.aload_n 0, 1) := by decide +kernel
theorem dX4_asBride_1 : decode cX4_asBride 1 = .ok (.dup, 1) := by decide +kernel
theorem dX4_asBride_2 : decode cX4_asBride 2 = .ok (.getfield 221, 3) := by decide +kernel
theorem dX4_asBride_5 : decode cX4_asBride 5 = .ok (.ldc2_w 232, 3) := by decide +kernel
theorem dX4_asBride_8 : decode cX4_asBride 8 = .ok (.ladd, 1) := by decide +kernel
theorem dX4_asBride_9 : decode cX4_asBride 9 = .ok (.putfield 221, 3) := by decide +kernel
theorem dX4_asBride_12 : decode cX4_asBride 12 = .ok (.aload_n 0, 1) := by decide +kernel
theorem dX4_asBride_13 : decode cX4_asBride 13 = .ok (.iload_n 1, 1) := by decide +kernel
theorem dX4_asBride_14 : decode cX4_asBride 14 = .ok (.invokevirtual 199, 3) := by decide +kernel
theorem dX4_asBride_17 : decode cX4_asBride 17 = .ok (.iconst 2, 1) := by decide +kernel
theorem dX4_asBride_18 : decode cX4_asBride 18 = .ok (.imul, 1) := by decide +kernel
theorem dX4_asBride_19 : decode cX4_asBride 19 = .ok (.ireturn, 1) := by decide +kernel
theorem dX4_asWidow_0 : decode cX4_asWidow 0 = .ok (.aload_n 0, 1) := by decide +kernel
theorem dX4_asWidow_1 : decode cX4_asWidow 1 = .ok (.dup, 1) := by decide +kernel
theorem dX4_asWidow_2 : decode cX4_asWidow 2 = .ok (.getfield 221, 3) := by decide +kernel
theorem dX4_asWidow_5 : decode cX4_asWidow 5 = .ok (.ldc2_w 234, 3) := by decide +kernel
theorem dX4_asWidow_8 : decode cX4_asWidow 8 = .ok (.ladd, 1) := by decide +kernel
theorem dX4_asWidow_9 : decode cX4_asWidow 9 = .ok (.putfield 221, 3) := by decide +kernel
theorem dX4_asWidow_12 : decode cX4_asWidow 12 = .ok (.aload_n 0, 1) := by decide +kernel
theorem dX4_asWidow_13 : decode cX4_asWidow 13 = .ok (.iload_n 1, 1) := by decide +kernel
theorem dX4_asWidow_14 : decode cX4_asWidow 14 = .ok (.invokevirtual 202, 3) := by decide +kernel
theorem dX4_asWidow_17 : decode cX4_asWidow 17 = .ok (.iload_n 1, 1) := by decide +kernel
theorem dX4_asWidow_18 : decode cX4_asWidow 18 = .ok (.iadd, 1) := by decide +kernel
theorem dX4_asWidow_19 : decode cX4_asWidow 19 = .ok (.ireturn, 1) := by decide +kernel
theorem dX4_asSniff_0 : decode cX4_asSniff 0 = .ok (.aload_n 0, 1) := by decide +kernel
theorem dX4_asSniff_1 : decode cX4_asSniff 1 = .ok (.dup, 1) := by decide +kernel
theorem dX4_asSniff_2 : decode cX4_asSniff 2 = .ok (.getfield 221, 3) := by decide +kernel
theorem dX4_asSniff_5 : decode cX4_asSniff 5 = .ok (.ldc2_w 236, 3) := by decide +kernel
theorem dX4_asSniff_8 : decode cX4_asSniff 8 = .ok (.ladd, 1) := by decide +kernel
theorem dX4_asSniff_9 : decode cX4_asSniff 9 = .ok (.putfield 221, 3) := by decide +kernel
theorem dX4_asSniff_12 : decode cX4_asSniff 12 = .ok (.aload_n 0, 1) := by decide +kernel
theorem dX4_asSniff_13 : decode cX4_asSniff 13 = .ok (.iload_n 1, 1) := by decide +kernel
theorem dX4_asSniff_14 : decode cX4_asSniff 14 = .ok (.invokevirtual 196, 3) := by decide +kernel
theorem dX4_asSniff_17 : decode cX4_asSniff 17 = .ok (.aload_n 0, 1) := by decide +kernel
theorem dX4_asSniff_18 : decode cX4_asSniff 18 = .ok (.getfield 29, 3) := by decide +kernel
theorem dX4_asSniff_21 : decode cX4_asSniff 21 = .ok (.invokevirtual 137, 3) := by decide +kernel
theorem dX4_asSniff_24 : decode cX4_asSniff 24 = .ok (.iadd, 1) := by decide +kernel
theorem dX4_asSniff_25 : decode cX4_asSniff 25 = .ok (.ireturn, 1) := by decide +kernel
theorem dX5_init_0 : decode cX5_init 0 = .ok (.aload_n 0, 1) := by decide +kernel
theorem dX5_init_1 : decode cX5_init 1 = .ok (.invokespecial 1, 3) := by decide +kernel
theorem dX5_init_4 : decode cX5_init 4 = .ok (.aload_n 0, 1) := by decide +kernel
theorem dX5_init_5 : decode cX5_init 5 = .ok (.sipush 180, 3) := by decide +kernel
theorem dX5_init_8 : decode cX5_init 8 = .ok (.newarray .int, 2) := by decide +kernel
theorem dX5_init_10 : decode cX5_init 10 = .ok (.putfield 7, 3) := by decide +kernel
theorem dX5_init_13 : decode cX5_init 13 = .ok (.aload_n 0, 1) := by decide +kernel
theorem dX5_init_14 : decode cX5_init 14 = .ok (.bipush 43, 2) := by decide +kernel
theorem dX5_init_16 : decode cX5_init 16 = .ok (.newarray .int, 2) := by decide +kernel
theorem dX5_init_18 : decode cX5_init 18 = .ok (.putfield 13, 3) := by decide +kernel
theorem dX5_init_21 : decode cX5_init 21 = .ok (.aload_n 0, 1) := by decide +kernel
theorem dX5_init_22 : decode cX5_init 22 = .ok (.bipush 43, 2) := by decide +kernel
theorem dX5_init_24 : decode cX5_init 24 = .ok (.newarray .int, 2) := by decide +kernel
theorem dX5_init_26 : decode cX5_init 26 = .ok (.putfield 16, 3) := by decide +kernel
theorem dX5_init_29 : decode cX5_init 29 = .ok (.aload_n 0, 1) := by decide +kernel
theorem dX5_init_30 : decode cX5_init 30 = .ok (.sipush 155, 3) := by decide +kernel
theorem dX5_init_33 : decode cX5_init 33 = .ok (.newarray .int, 2) := by decide +kernel
theorem dX5_init_35 : decode cX5_init 35 = .ok (.putfield 19, 3) := by decide +kernel
theorem dX5_init_38 : decode cX5_init 38 = .ok (.aload_n 0, 1) := by decide +kernel
theorem dX5_init_39 : decode cX5_init 39 = .ok (.sipush 310, 3) := by decide +kernel
theorem dX5_init_42 : decode cX5_init 42 = .ok (.newarray .int, 2) := by decide +kernel
theorem dX5_init_44 : decode cX5_init 44 = .ok (.putfield 22, 3) := by decide +kernel
theorem dX5_init_47 : decode cX5_init 47 = .ok (.aload_n 0, 1) := by decide +kernel
theorem dX5_init_48 : decode cX5_init 48 = .ok (.iconst 2, 1) := by decide +kernel
theorem dX5_init_49 : decode cX5_init 49 = .ok (.newarray .boolean, 2) := by decide +kernel
theorem dX5_init_51 : decode cX5_init 51 = .ok (.putfield 25, 3) := by decide +kernel
theorem dX5_init_54 : decode cX5_init 54 = .ok (.aload_n 0, 1) := by decide +kernel
theorem dX5_init_55 : decode cX5_init 55 = .ok (.bipush 6, 2) := by decide +kernel
theorem dX5_init_57 : decode cX5_init 57 = .ok (.newarray .int, 2) := by decide +kernel
theorem dX5_init_59 : decode cX5_init 59 = .ok (.putfield 29, 3) := by decide +kernel
theorem dX5_init_62 : decode cX5_init 62 = .ok (.aload_n 0, 1) := by decide +kernel
theorem dX5_init_63 : decode cX5_init 63 = .ok (.bipush (-9), 2) := by decide +kernel
theorem dX5_init_65 : decode cX5_init 65 = .ok (.putfield 32, 3) := by decide +kernel
theorem dX5_init_68 : decode cX5_init 68 = .ok (.aload_n 0, 1) := by decide +kernel
theorem dX5_init_69 : decode cX5_init 69 = .ok (.bipush 14, 2) := by decide +kernel
theorem dX5_init_71 : decode cX5_init 71 = .ok (.newarray .int, 2) := by decide +kernel
theorem dX5_init_73 : decode cX5_init 73 = .ok (.putfield 36, 3) := by decide +kernel
theorem dX5_init_76 : decode cX5_init 76 = .ok (.aload_n 0, 1) := by decide +kernel
theorem dX5_init_77 : decode cX5_init 77 = .ok (.bipush 64, 2) := by decide +kernel
theorem dX5_init_79 : decode cX5_init 79 = .ok (.newarray .int, 2) := by decide +kernel
theorem dX5_init_81 : decode cX5_init 81 = .ok (.putfield 39, 3) := by decide +kernel
theorem dX5_init_84 : decode cX5_init 84 = .ok (.aload_n 0, 1) := by decide +kernel
theorem dX5_init_85 : decode cX5_init 85 = .ok (.invokevirtual 42, 3) := by decide +kernel
theorem dX5_init_88 : decode cX5_init 88 = .ok (.pop, 1) := by decide +kernel
theorem dX5_init_89 : decode cX5_init 89 = .ok (.aload_n 0, 1) := by decide +kernel
theorem dX5_init_90 : decode cX5_init 90 = .ok (.invokevirtual 46, 3) := by decide +kernel
theorem dX5_init_93 : decode cX5_init 93 = .ok (.return_, 1) := by decide +kernel
theorem dX5_in_0 : decode cX5_in 0 = .ok (.iload_n 0, 1) := by decide +kernel
theorem dX5_in_1 : decode cX5_in 1 = .ok (.iload_n 1, 1) := by decide +kernel
theorem dX5_in_2 : decode cX5_in 2 = .ok (.if_icmp .lt 12, 3) := by decide +kernel
theorem dX5_in_5 : decode cX5_in 5 = .ok (.iload_n 0, 1) := by decide +kernel
theorem dX5_in_6 : decode cX5_in 6 = .ok (.iload_n 2, 1) := by decide +kernel
theorem dX5_in_7 : decode cX5_in 7 = .ok (.if_icmp .gt 7, 3) := by decide +kernel
theorem dX5_in_10 : decode cX5_in 10 = .ok (.iconst 1, 1) := by decide +kernel
theorem dX5_in_11 : decode cX5_in 11 = .ok (.goto 4, 3) := by decide +kernel
theorem dX5_in_14 : decode cX5_in 14 = .ok (.iconst 0, 1) := by decide +kernel
theorem dX5_in_15 : decode cX5_in 15 = .ok (.ireturn, 1) := by decide +kernel
theorem dX5_isOven_0 : decode cX5_isOven 0 = .ok (.iload_n 1, 1) := by decide +kernel
theorem dX5_isOven_1 : decode cX5_isOven 1 = .ok (.iconst 0, 1) := by decide +kernel
theorem dX5_isOven_2 : decode cX5_isOven 2 = .ok (.aload_n 0, 1) := by decide +kernel
theorem dX5_isOven_3 : decode cX5_isOven 3 = .ok (.getfield 13, 3) := by decide +kernel
theorem dX5_isOven_6 : decode cX5_isOven 6 = .ok (.iconst 0, 1) := by decide +kernel
theorem dX5_isOven_7 : decode cX5_isOven 7 = .ok (.iaload, 1) := by decide +kernel
theorem dX5_isOven_8 : decode cX5_isOven 8 = .ok (.iconst 1, 1) := by decide +kernel
theorem dX5_isOven_9 : decode cX5_isOven 9 = .ok (.isub, 1) := by decide +kernel
theorem dX5_isOven_10 : decode cX5_isOven 10 = .ok (.invokestatic 49, 3) := by decide +kernel
theorem dX5_isOven_13 : decode cX5_isOven 13 = .ok (.ireturn, 1) := by decide +kernel
theorem dX5_isDough_0 : decode cX5_isDough 0 = .ok (.iload_n 1, 1) := by decide +kernel
theorem dX5_isDough_1 : decode cX5_isDough 1 = .ok (.iconst 0, 1) := by decide +kernel
theorem dX5_isDough_2 : decode cX5_isDough 2 = .ok (.aload_n 0, 1) := by decide +kernel
theorem dX5_isDough_3 : decode cX5_isDough 3 = .ok (.getfield 13, 3) := by decide +kernel
theorem dX5_isDough_6 : decode cX5_isDough 6 = .ok (.iconst 1, 1) := by decide +kernel
theorem dX5_isDough_7 : decode cX5_isDough 7 = .ok (.iaload, 1) := by decide +kernel
theorem dX5_isDough_8 : decode cX5_isDough 8 = .ok (.iconst 1, 1) := by decide +kernel
theorem dX5_isDough_9 : decode cX5_isDough 9 = .ok (.isub, 1) := by decide +kernel
theorem dX5_isDough_10 : decode cX5_isDough 10 = .ok (.invokestatic 49, 3) := by decide +kernel
theorem dX5_isDough_13 : decode cX5_isDough 13 = .ok (.ireturn, 1) := by decide +kernel
theorem dX5_isShut_0 : decode cX5_isShut 0 = .ok (.aload_n 0, 1) := by decide +kernel
theorem dX5_isShut_1 : decode cX5_isShut 1 = .ok (.getfield 19, 3) := by decide +kernel
theorem dX5_isShut_4 : decode cX5_isShut 4 = .ok (.bipush 12, 2) := by decide +kernel
theorem dX5_isShut_6 : decode cX5_isShut 6 = .ok (.iaload, 1) := by decide +kernel
theorem dX5_isShut_7 : decode cX5_isShut 7 = .ok (.iload_n 1, 1) := by decide +kernel
theorem dX5_isShut_8 : decode cX5_isShut 8 = .ok (.ishr, 1) := by decide +kernel
theorem dX5_isShut_9 : decode cX5_isShut 9 = .ok (.iconst 1, 1) := by decide +kernel
theorem dX5_isShut_10 : decode cX5_isShut 10 = .ok (.iand, 1) := by decide +kernel
theorem dX5_isShut_11 : decode cX5_isShut 11 = .ok (.iconst 1, 1) := by decide +kernel
theorem dX5_isShut_12 : decode cX5_isShut 12 = .ok (.if_icmp .ne 7, 3) := by decide +kernel
theorem dX5_isShut_15 : decode cX5_isShut 15 = .ok (.iconst 1, 1) := by decide +kernel
theorem dX5_isShut_16 : decode cX5_isShut 16 = .ok (.goto 4, 3) := by decide +kernel
theorem dX5_isShut_19 : decode cX5_isShut 19 = .ok (.iconst 0, 1) := by decide +kernel
theorem dX5_isShut_20 : decode cX5_isShut 20 = .ok (.ireturn, 1) := by decide +kernel
theorem dX5_type_0 : decode cX5_type 0 = .ok (.iload_n 1, 1) := by decide +kernel
theorem dX5_type_1 : decode cX5_type 1 = .ok (.iconst 0, 1) := by decide +kernel
theorem dX5_type_2 : decode cX5_type 2 = .ok (.sipush 255, 3) := by decide +kernel
theorem dX5_type_5 : decode cX5_type 5 = .ok (.invokestatic 49, 3) := by decide +kernel
theorem dX5_type_8 : decode cX5_type 8 = .ok (.ifCond .ne 5, 3) := by decide +kernel
theorem dX5_type_11 : decode cX5_type 11 = .ok (.iconst (-1), 1) := by decide +kernel
theorem dX5_type_12 : decode cX5_type 12 = .ok (.ireturn, 1) := by decide +kernel
theorem dX5_type_13 : decode cX5_type 13 = .ok (.aload_n 0, 1) := by decide +kernel
theorem dX5_type_14 : decode cX5_type 14 = .ok (.getfield 53, 3) := by decide +kernel
theorem dX5_type_17 : decode cX5_type 17 = .ok (.sipush 180, 3) := by decide +kernel
theorem dX5_type_20 : decode cX5_type 20 = .ok (.if_icmp .ne 6, 3) := by decide +kernel
theorem dX5_type_23 : decode cX5_type 23 = .ok (.bipush (-3), 2) := by decide +kernel
theorem dX5_type_25 : decode cX5_type 25 = .ok (.ireturn, 1) := by decide +kernel
theorem dX5_type_26 : decode cX5_type 26 = .ok (.aload_n 0, 1) := by decide +kernel
theorem dX5_type_27 : decode cX5_type 27 = .ok (.getfield 7, 3) := by decide +kernel
theorem dX5_type_30 : decode cX5_type 30 = .ok (.aload_n 0, 1) := by decide +kernel
theorem dX5_type_31 : decode cX5_type 31 = .ok (.getfield 53, 3) := by decide +kernel
theorem dX5_type_34 : decode cX5_type 34 = .ok (.iload_n 1, 1) := by decide +kernel
theorem dX5_type_35 : decode cX5_type 35 = .ok (.iastore, 1) := by decide +kernel
theorem dX5_type_36 : decode cX5_type 36 = .ok (.aload_n 0, 1) := by decide +kernel
theorem dX5_type_37 : decode cX5_type 37 = .ok (.dup, 1) := by decide +kernel
theorem dX5_type_38 : decode cX5_type 38 = .ok (.getfield 53, 3) := by decide +kernel
theorem dX5_type_41 : decode cX5_type 41 = .ok (.iconst 1, 1) := by decide +kernel
theorem dX5_type_42 : decode cX5_type 42 = .ok (.iadd, 1) := by decide +kernel
theorem dX5_type_43 : decode cX5_type 43 = .ok (.putfield 53, 3) := by decide +kernel
theorem dX5_type_46 : decode cX5_type 46 = .ok (.aload_n 0, 1) := by decide +kernel
theorem dX5_type_47 : decode cX5_type 47 = .ok (.getfield 53, 3) := by decide +kernel
theorem dX5_type_50 : decode cX5_type 50 = .ok (.ireturn, 1) := by decide +kernel
theorem dX5_clear_0 : decode cX5_clear 0 = .ok (.aload_n 0, 1) := by decide +kernel
theorem dX5_clear_1 : decode cX5_clear 1 = .ok (.getfield 53, 3) := by decide +kernel
theorem dX5_clear_4 : decode cX5_clear 4 = .ok (.istore_n 1, 1) := by decide +kernel
theorem dX5_clear_5 : decode cX5_clear 5 = .ok (.aload_n 0, 1) := by decide +kernel
theorem dX5_clear_6 : decode cX5_clear 6 = .ok (.iconst 0, 1) := by decide +kernel
theorem dX5_clear_7 : decode cX5_clear 7 = .ok (.putfield 53, 3) := by decide +kernel
theorem dX5_clear_10 : decode cX5_clear 10 = .ok (.iload_n 1, 1) := by decide +kernel
theorem dX5_clear_11 : decode cX5_clear 11 = .ok (.ireturn, 1) := by decide +kernel
theorem dX5_letterAt_0 : decode cX5_letterAt 0 = .ok (.iload_n 1, 1) := by decide +kernel
theorem dX5_letterAt_1 : decode cX5_letterAt 1 = .ok (.aload_n 0, 1) := by decide +kernel
theorem dX5_letterAt_2 : decode cX5_letterAt 2 = .ok (.getfield 53, 3) := by decide +kernel
theorem dX5_letterAt_5 : decode cX5_letterAt 5 = .ok (.if_icmp .ge 12, 3) := by decide +kernel
theorem dX5_letterAt_8 : decode cX5_letterAt 8 = .ok (.aload_n 0, 1) := by decide +kernel
theorem dX5_letterAt_9 : decode cX5_letterAt 9 = .ok (.getfield 7, 3) := by decide +kernel
theorem dX5_letterAt_12 : decode cX5_letterAt 12 = .ok (.iload_n 1, 1) := by decide +kernel
theorem dX5_letterAt_13 : decode cX5_letterAt 13 = .ok (.iaload, 1) := by decide +kernel
theorem dX5_letterAt_14 : decode cX5_letterAt 14 = .ok (.goto 4, 3) := by decide +kernel
theorem dX5_letterAt_17 : decode cX5_letterAt 17 = .ok (.iconst (-1), 1) := by decide +kernel
theorem dX5_letterAt_18 : decode cX5_letterAt 18 = .ok (.ireturn, 1) := by decide +kernel
theorem dX5_isLetter_0 : decode cX5_isLetter 0 = .ok (.iload_n 0, 1) := by decide +kernel
theorem dX5_isLetter_1 : decode cX5_isLetter 1 = .ok (.bipush 97, 2) := by decide +kernel
theorem dX5_isLetter_3 : decode cX5_isLetter 3 = .ok (.bipush 122, 2) := by decide +kernel
theorem dX5_isLetter_5 : decode cX5_isLetter 5 = .ok (.invokestatic 49, 3) := by decide +kernel
theorem dX5_isLetter_8 : decode cX5_isLetter 8 = .ok (.ireturn, 1) := by decide +kernel
theorem dX5_isDigit_0 : decode cX5_isDigit 0 = .ok (.iload_n 0, 1) := by decide +kernel
theorem dX5_isDigit_1 : decode cX5_isDigit 1 = .ok (.bipush 48, 2) := by decide +kernel
theorem dX5_isDigit_3 : decode cX5_isDigit 3 = .ok (.bipush 57, 2) := by decide +kernel
theorem dX5_isDigit_5 : decode cX5_isDigit 5 = .ok (.invokestatic 49, 3) := by decide +kernel
theorem dX5_isDigit_8 : decode cX5_isDigit 8 = .ok (.ireturn, 1) := by decide +kernel
theorem dX5_token_0 : decode cX5_token 0 = .ok (.aload_n 0, 1) := by decide +kernel
theorem dX5_token_1 : decode cX5_token 1 = .ok (.aload_n 0, 1) := by decide +kernel
theorem dX5_token_2 : decode cX5_token 2 = .ok (.getfield 56, 3) := by decide +kernel
theorem dX5_token_5 : decode cX5_token 5 = .ok (.invokevirtual 59, 3) := by decide +kernel
theorem dX5_token_8 : decode cX5_token 8 = .ok (.bipush 32, 2) := by decide +kernel
theorem dX5_token_10 : decode cX5_token 10 = .ok (.if_icmp .ne 16, 3) := by decide +kernel
theorem dX5_token_13 : decode cX5_token 13 = .ok (.aload_n 0, 1) := by decide +kernel
theorem dX5_token_14 : decode cX5_token 14 = .ok (.dup, 1) := by decide +kernel
theorem dX5_token_15 : decode cX5_token 15 = .ok (.getfield 56, 3) := by decide +kernel
theorem dX5_token_18 : decode cX5_token 18 = .ok (.iconst 1, 1) := by decide +kernel
theorem dX5_token_19 : decode cX5_token 19 = .ok (.iadd, 1) := by decide +kernel
theorem dX5_token_20 : decode cX5_token 20 = .ok (.putfield 56, 3) := by decide +kernel
theorem dX5_token_23 : decode cX5_token 23 = .ok (.goto (-23), 3) := by decide +kernel
theorem dX5_token_26 : decode cX5_token 26 = .ok (.aload_n 0, 1) := by decide +kernel
theorem dX5_token_27 : decode cX5_token 27 = .ok (.aload_n 0, 1) := by decide +kernel
theorem dX5_token_28 : decode cX5_token 28 = .ok (.getfield 56, 3) := by decide +kernel
theorem dX5_token_31 : decode cX5_token 31 = .ok (.putfield 63, 3) := by decide +kernel
theorem dX5_token_34 : decode cX5_token 34 = .ok (.aload_n 0, 1) := by decide +kernel
theorem dX5_token_35 : decode cX5_token 35 = .ok (.aload_n 0, 1) := by decide +kernel
theorem dX5_token_36 : decode cX5_token 36 = .ok (.getfield 56, 3) := by decide +kernel
theorem dX5_token_39 : decode cX5_token 39 = .ok (.invokevirtual 59, 3) := by decide +kernel
theorem dX5_token_42 : decode cX5_token 42 = .ok (.istore_n 1, 1) := by decide +kernel
theorem dX5_token_43 : decode cX5_token 43 = .ok (.aload_n 0, 1) := by decide +kernel
theorem dX5_token_44 : decode cX5_token 44 = .ok (.iload_n 1, 1) := by decide +kernel
theorem dX5_token_45 : decode cX5_token 45 = .ok (.ifCond .ge 7, 3) := by decide +kernel
theorem dX5_token_48 : decode cX5_token 48 = .ok (.iconst 0, 1) := by decide +kernel
theorem dX5_token_49 : decode cX5_token 49 = .ok (.goto 36, 3) := by decide +kernel
theorem dX5_token_52 : decode cX5_token 52 = .ok (.iload_n 1, 1) := by decide +kernel
theorem dX5_token_53 : decode cX5_token 53 = .ok (.invokestatic 66, 3) := by decide +kernel
theorem dX5_token_56 : decode cX5_token 56 = .ok (.ifCond .eq 7, 3) := by decide +kernel
theorem dX5_token_59 : decode cX5_token 59 = .ok (.iconst 1, 1) := by decide +kernel
theorem dX5_token_60 : decode cX5_token 60 = .ok (.goto 25, 3) := by decide +kernel
theorem dX5_token_63 : decode cX5_token 63 = .ok (.iload_n 1, 1) := by decide +kernel
theorem dX5_token_64 : decode cX5_token 64 = .ok (.invokestatic 70, 3) := by decide +kernel
theorem dX5_token_67 : decode cX5_token 67 = .ok (.ifCond .eq 7, 3) := by decide +kernel
theorem dX5_token_70 : decode cX5_token 70 = .ok (.iconst 2, 1) := by decide +kernel
theorem dX5_token_71 : decode cX5_token 71 = .ok (.goto 14, 3) := by decide +kernel
theorem dX5_token_74 : decode cX5_token 74 = .ok (.iload_n 1, 1) := by decide +kernel
theorem dX5_token_75 : decode cX5_token 75 = .ok (.bipush 59, 2) := by decide +kernel
theorem dX5_token_77 : decode cX5_token 77 = .ok (.if_icmp .ne 7, 3) := by decide +kernel
theorem dX5_token_80 : decode cX5_token 80 = .ok (.iconst 3, 1) := by decide +kernel
theorem dX5_token_81 : decode cX5_token 81 = .ok (.goto 4, 3) := by decide +kernel
theorem dX5_token_84 : decode cX5_token 84 = .ok (.iconst 4, 1) := by decide +kernel
theorem dX5_token_85 : decode cX5_token 85 = .ok (.putfield 73, 3) := by decide +kernel
theorem dX5_token_88 : decode cX5_token 88 = .ok (.aload_n 0, 1) := by decide +kernel
theorem dX5_token_89 : decode cX5_token 89 = .ok (.iload_n 1, 1) := by decide +kernel
theorem dX5_token_90 : decode cX5_token 90 = .ok (.putfield 76, 3) := by decide +kernel
theorem dX5_token_93 : decode cX5_token 93 = .ok (.aload_n 0, 1) := by decide +kernel
theorem dX5_token_94 : decode cX5_token 94 = .ok (.dup, 1) := by decide +kernel
theorem dX5_token_95 : decode cX5_token 95 = .ok (.getfield 56, 3) := by decide +kernel
theorem dX5_token_98 : decode cX5_token 98 = .ok (.aload_n 0, 1) := by decide +kernel
theorem dX5_token_99 : decode cX5_token 99 = .ok (.getfield 73, 3) := by decide +kernel
theorem dX5_token_102 : decode cX5_token 102 = .ok (.ifCond .ne 7, 3) := by decide +kernel
theorem dX5_token_105 : decode cX5_token 105 = .ok (.iconst 0, 1) := by decide +kernel
theorem dX5_token_106 : decode cX5_token 106 = .ok (.goto 4, 3) := by decide +kernel
theorem dX5_token_109 : decode cX5_token 109 = .ok (.iconst 1, 1) := by decide +kernel
theorem dX5_token_110 : decode cX5_token 110 = .ok (.iadd, 1) := by decide +kernel
theorem dX5_token_111 : decode cX5_token 111 = .ok (.putfield 56, 3) := by decide +kernel
theorem dX5_token_114 : decode cX5_token 114 = .ok (.aload_n 0, 1) := by decide +kernel
theorem dX5_token_115 : decode cX5_token 115 = .ok (.getfield 73, 3) := by decide +kernel
theorem dX5_token_118 : decode cX5_token 118 = .ok (.iconst 1, 1) := by decide +kernel
theorem dX5_token_119 : decode cX5_token 119 = .ok (.if_icmp .ne 35, 3) := by decide +kernel
theorem dX5_token_122 : decode cX5_token 122 = .ok (.aload_n 0, 1) := by decide +kernel
theorem dX5_token_123 : decode cX5_token 123 = .ok (.aload_n 0, 1) := by decide +kernel
theorem dX5_token_124 : decode cX5_token 124 = .ok (.getfield 56, 3) := by decide +kernel
theorem dX5_token_127 : decode cX5_token 127 = .ok (.invokevirtual 59, 3) := by decide +kernel
theorem dX5_token_130 : decode cX5_token 130 = .ok (.invokestatic 66, 3) := by decide +kernel
theorem dX5_token_133 : decode cX5_token 133 = .ok (.ifCond .eq 21, 3) := by decide +kernel
theorem dX5_token_136 : decode cX5_token 136 = .ok (.aload_n 0, 1) := by decide +kernel
theorem dX5_token_137 : decode cX5_token 137 = .ok (.iconst 0, 1) := by decide +kernel
theorem dX5_token_138 : decode cX5_token 138 = .ok (.putfield 76, 3) := by decide +kernel
theorem dX5_token_141 : decode cX5_token 141 = .ok (.aload_n 0, 1) := by decide +kernel
theorem dX5_token_142 : decode cX5_token 142 = .ok (.dup, 1) := by decide +kernel
theorem dX5_token_143 : decode cX5_token 143 = .ok (.getfield 56, 3) := by decide +kernel
theorem dX5_token_146 : decode cX5_token 146 = .ok (.iconst 1, 1) := by decide +kernel
theorem dX5_token_147 : decode cX5_token 147 = .ok (.iadd, 1) := by decide +kernel
theorem dX5_token_148 : decode cX5_token 148 = .ok (.putfield 56, 3) := by decide +kernel
theorem dX5_token_151 : decode cX5_token 151 = .ok (.goto (-37), 3) := by decide +kernel
theorem dX5_token_154 : decode cX5_token 154 = .ok (.aload_n 0, 1) := by decide +kernel
theorem dX5_token_155 : decode cX5_token 155 = .ok (.getfield 73, 3) := by decide +kernel
theorem dX5_token_158 : decode cX5_token 158 = .ok (.iconst 2, 1) := by decide +kernel
theorem dX5_token_159 : decode cX5_token 159 = .ok (.if_icmp .ne 83, 3) := by decide +kernel
theorem dX5_token_162 : decode cX5_token 162 = .ok (.aload_n 0, 1) := by decide +kernel
theorem dX5_token_163 : decode cX5_token 163 = .ok (.iload_n 1, 1) := by decide +kernel
theorem dX5_token_164 : decode cX5_token 164 = .ok (.bipush 48, 2) := by decide +kernel
theorem dX5_token_166 : decode cX5_token 166 = .ok (.isub, 1) := by decide +kernel
theorem dX5_token_167 : decode cX5_token 167 = .ok (.putfield 76, 3) := by decide +kernel
theorem dX5_token_170 : decode cX5_token 170 = .ok (.aload_n 0, 1) := by decide +kernel
theorem dX5_token_171 : decode cX5_token 171 = .ok (.aload_n 0, 1) := by decide +kernel
theorem dX5_token_172 : decode cX5_token 172 = .ok (.getfield 56, 3) := by decide +kernel
theorem dX5_token_175 : decode cX5_token 175 = .ok (.invokevirtual 59, 3) := by decide +kernel
theorem dX5_token_178 : decode cX5_token 178 = .ok (.invokestatic 70, 3) := by decide +kernel
theorem dX5_token_181 : decode cX5_token 181 = .ok (.ifCond .eq 61, 3) := by decide +kernel
theorem dX5_token_184 : decode cX5_token 184 = .ok (.aload_n 0, 1) := by decide +kernel
theorem dX5_token_185 : decode cX5_token 185 = .ok (.iload_n 1, 1) := by decide +kernel
theorem dX5_token_186 : decode cX5_token 186 = .ok (.bipush 48, 2) := by decide +kernel
theorem dX5_token_188 : decode cX5_token 188 = .ok (.if_icmp .eq 12, 3) := by decide +kernel
theorem dX5_token_191 : decode cX5_token 191 = .ok (.aload_n 0, 1) := by decide +kernel
theorem dX5_token_192 : decode cX5_token 192 = .ok (.getfield 76, 3) := by decide +kernel
theorem dX5_token_195 : decode cX5_token 195 = .ok (.bipush 99, 2) := by decide +kernel
theorem dX5_token_197 : decode cX5_token 197 = .ok (.if_icmp .le 9, 3) := by decide +kernel
theorem dX5_token_200 : decode cX5_token 200 = .ok (.sipush 1000, 3) := by decide +kernel
theorem dX5_token_203 : decode cX5_token 203 = .ok (.goto 23, 3) := by decide +kernel
theorem dX5_token_206 : decode cX5_token 206 = .ok (.bipush 10, 2) := by decide +kernel
theorem dX5_token_208 : decode cX5_token 208 = .ok (.aload_n 0, 1) := by decide +kernel
theorem dX5_token_209 : decode cX5_token 209 = .ok (.getfield 76, 3) := by decide +kernel
theorem dX5_token_212 : decode cX5_token 212 = .ok (.imul, 1) := by decide +kernel
theorem dX5_token_213 : decode cX5_token 213 = .ok (.aload_n 0, 1) := by decide +kernel
theorem dX5_token_214 : decode cX5_token 214 = .ok (.getfield 7, 3) := by decide +kernel
theorem dX5_token_217 : decode cX5_token 217 = .ok (.aload_n 0, 1) := by decide +kernel
theorem dX5_token_218 : decode cX5_token 218 = .ok (.getfield 56, 3) := by decide +kernel
theorem dX5_token_221 : decode cX5_token 221 = .ok (.iaload, 1) := by decide +kernel
theorem dX5_token_222 : decode cX5_token 222 = .ok (.iadd, 1) := by decide +kernel
theorem dX5_token_223 : decode cX5_token 223 = .ok (.bipush 48, 2) := by decide +kernel
theorem dX5_token_225 : decode cX5_token 225 = .ok (.isub, 1) := by decide +kernel
theorem dX5_token_226 : decode cX5_token 226 = .ok (.putfield 76, 3) := by decide +kernel
theorem dX5_token_229 : decode cX5_token 229 = .ok (.aload_n 0, 1) := by decide +kernel
theorem dX5_token_230 : decode cX5_token 230 = .ok (.dup, 1) := by decide +kernel
theorem dX5_token_231 : decode cX5_token 231 = .ok (.getfield 56, 3) := by decide +kernel
theorem dX5_token_234 : decode cX5_token 234 = .ok (.iconst 1, 1) := by decide +kernel
theorem dX5_token_235 : decode cX5_token 235 = .ok (.iadd, 1) := by decide +kernel
theorem dX5_token_236 : decode cX5_token 236 = .ok (.putfield 56, 3) := by decide +kernel
theorem dX5_token_239 : decode cX5_token 239 = .ok (.goto (-69), 3) := by decide +kernel
theorem dX5_token_242 : decode cX5_token 242 = .ok (.return_, 1) := by decide +kernel
theorem dX5_number_0 : decode cX5_number 0 = .ok (.aload_n 0, 1) := by decide +kernel
theorem dX5_number_1 : decode cX5_number 1 = .ok (.invokevirtual 79, 3) := by decide +kernel
theorem dX5_number_4 : decode cX5_number 4 = .ok (.aload_n 0, 1) := by decide +kernel
theorem dX5_number_5 : decode cX5_number 5 = .ok (.getfield 16, 3) := by decide +kernel
theorem dX5_number_8 : decode cX5_number 8 = .ok (.iload_n 1, 1) := by decide +kernel
theorem dX5_number_9 : decode cX5_number 9 = .ok (.aload_n 0, 1) := by decide +kernel
theorem dX5_number_10 : decode cX5_number 10 = .ok (.getfield 76, 3) := by decide +kernel
theorem dX5_number_13 : decode cX5_number 13 = .ok (.iastore, 1) := by decide +kernel
theorem dX5_number_14 : decode cX5_number 14 = .ok (.aload_n 0, 1) := by decide +kernel
theorem dX5_number_15 : decode cX5_number 15 = .ok (.getfield 73, 3) := by decide +kernel
theorem dX5_number_18 : decode cX5_number 18 = .ok (.iconst 2, 1) := by decide +kernel
theorem dX5_number_19 : decode cX5_number 19 = .ok (.if_icmp .ne 19, 3) := by decide +kernel
theorem dX5_number_22 : decode cX5_number 22 = .ok (.aload_n 0, 1) := by decide +kernel
theorem dX5_number_23 : decode cX5_number 23 = .ok (.getfield 76, 3) := by decide +kernel
theorem dX5_number_26 : decode cX5_number 26 = .ok (.iload_n 2, 1) := by decide +kernel
theorem dX5_number_27 : decode cX5_number 27 = .ok (.iload_n 3, 1) := by decide +kernel
theorem dX5_number_28 : decode cX5_number 28 = .ok (.invokestatic 49, 3) := by decide +kernel
theorem dX5_number_31 : decode cX5_number 31 = .ok (.ifCond .eq 7, 3) := by decide +kernel
theorem dX5_number_34 : decode cX5_number 34 = .ok (.iconst 1, 1) := by decide +kernel
theorem dX5_number_35 : decode cX5_number 35 = .ok (.goto 4, 3) := by decide +kernel
theorem dX5_number_38 : decode cX5_number 38 = .ok (.iconst 0, 1) := by decide +kernel
theorem dX5_number_39 : decode cX5_number 39 = .ok (.ireturn, 1) := by decide +kernel
theorem dX5_readsItem_0 : decode cX5_readsItem 0 = .ok (.aload_n 0, 1) := by decide +kernel
theorem dX5_readsItem_1 : decode cX5_readsItem 1 = .ok (.getfield 73, 3) := by decide +kernel
theorem dX5_readsItem_4 : decode cX5_readsItem 4 = .ok (.iconst 1, 1) := by decide +kernel
theorem dX5_readsItem_5 : decode cX5_readsItem 5 = .ok (.if_icmp .ne 10, 3) := by decide +kernel
theorem dX5_readsItem_8 : decode cX5_readsItem 8 = .ok (.aload_n 0, 1) := by decide +kernel
theorem dX5_readsItem_9 : decode cX5_readsItem 9 = .ok (.getfield 76, 3) := by decide +kernel
theorem dX5_readsItem_12 : decode cX5_readsItem 12 = .ok (.goto 4, 3) := by decide +kernel
theorem dX5_readsItem_15 : decode cX5_readsItem 15 = .ok (.iconst 0, 1) := by decide +kernel
theorem dX5_readsItem_16 : decode cX5_readsItem 16 = .ok (.istore_n 1, 1) := by decide +kernel
theorem dX5_readsItem_17 : decode cX5_readsItem 17 = .ok (.iload_n 1, 1) := by decide +kernel
theorem dX5_readsItem_18 : decode cX5_readsItem 18 = .ok (.bipush 111, 2) := by decide +kernel
theorem dX5_readsItem_20 : decode cX5_readsItem 20 = .ok (.if_icmp .ne 12, 3) := by decide +kernel
theorem dX5_readsItem_23 : decode cX5_readsItem 23 = .ok (.aload_n 0, 1) := by decide +kernel
theorem dX5_readsItem_24 : decode cX5_readsItem 24 = .ok (.getfield 16, 3) := by decide +kernel
theorem dX5_readsItem_27 : decode cX5_readsItem 27 = .ok (.iconst 0, 1) := by decide +kernel
theorem dX5_readsItem_28 : decode cX5_readsItem 28 = .ok (.iaload, 1) := by decide +kernel
theorem dX5_readsItem_29 : decode cX5_readsItem 29 = .ok (.goto 9, 3) := by decide +kernel
theorem dX5_readsItem_32 : decode cX5_readsItem 32 = .ok (.aload_n 0, 1) := by decide +kernel
theorem dX5_readsItem_33 : decode cX5_readsItem 33 = .ok (.getfield 16, 3) := by decide +kernel
theorem dX5_readsItem_36 : decode cX5_readsItem 36 = .ok (.iconst 1, 1) := by decide +kernel
theorem dX5_readsItem_37 : decode cX5_readsItem 37 = .ok (.iaload, 1) := by decide +kernel
theorem dX5_readsItem_38 : decode cX5_readsItem 38 = .ok (.istore_n 2, 1) := by decide +kernel
theorem dX5_readsItem_39 : decode cX5_readsItem 39 = .ok (.iload_n 1, 1) := by decide +kernel
theorem dX5_readsItem_40 : decode cX5_readsItem 40 = .ok (.bipush 111, 2) := by decide +kernel
theorem dX5_readsItem_42 : decode cX5_readsItem 42 = .ok (.if_icmp .ne 49, 3) := by decide +kernel
theorem dX5_readsItem_45 : decode cX5_readsItem 45 = .ok (.iload_n 2, 1) := by decide +kernel
theorem dX5_readsItem_46 : decode cX5_readsItem 46 = .ok (.iconst 5, 1) := by decide +kernel
theorem dX5_readsItem_47 : decode cX5_readsItem 47 = .ok (.if_icmp .eq 30, 3) := by decide +kernel
theorem dX5_readsItem_50 : decode cX5_readsItem 50 = .ok (.aload_n 0, 1) := by decide +kernel
theorem dX5_readsItem_51 : decode cX5_readsItem 51 = .ok (.iconst 3, 1) := by decide +kernel
theorem dX5_readsItem_52 : decode cX5_readsItem 52 = .ok (.iload_n 2, 1) := by decide +kernel
theorem dX5_readsItem_53 : decode cX5_readsItem 53 = .ok (.iadd, 1) := by decide +kernel
theorem dX5_readsItem_54 : decode cX5_readsItem 54 = .ok (.iconst 0, 1) := by decide +kernel
theorem dX5_readsItem_55 : decode cX5_readsItem 55 = .ok (.bipush 40, 2) := by decide +kernel
theorem dX5_readsItem_57 : decode cX5_readsItem 57 = .ok (.invokevirtual 82, 3) := by decide +kernel
theorem dX5_readsItem_60 : decode cX5_readsItem 60 = .ok (.ifCond .eq 17, 3) := by decide +kernel
theorem dX5_readsItem_63 : decode cX5_readsItem 63 = .ok (.aload_n 0, 1) := by decide +kernel
theorem dX5_readsItem_64 : decode cX5_readsItem 64 = .ok (.bipush 8, 2) := by decide +kernel
theorem dX5_readsItem_66 : decode cX5_readsItem 66 = .ok (.iload_n 2, 1) := by decide +kernel
theorem dX5_readsItem_67 : decode cX5_readsItem 67 = .ok (.iadd, 1) := by decide +kernel
theorem dX5_readsItem_68 : decode cX5_readsItem 68 = .ok (.iconst 0, 1) := by decide +kernel
theorem dX5_readsItem_69 : decode cX5_readsItem 69 = .ok (.bipush 18, 2) := by decide +kernel
theorem dX5_readsItem_71 : decode cX5_readsItem 71 = .ok (.invokevirtual 82, 3) := by decide +kernel
theorem dX5_readsItem_74 : decode cX5_readsItem 74 = .ok (.ifCond .ne 5, 3) := by decide +kernel
theorem dX5_readsItem_77 : decode cX5_readsItem 77 = .ok (.iconst 0, 1) := by decide +kernel
theorem dX5_readsItem_78 : decode cX5_readsItem 78 = .ok (.ireturn, 1) := by decide +kernel
theorem dX5_readsItem_79 : decode cX5_readsItem 79 = .ok (.aload_n 0, 1) := by decide +kernel
theorem dX5_readsItem_80 : decode cX5_readsItem 80 = .ok (.getfield 16, 3) := by decide +kernel
theorem dX5_readsItem_83 : decode cX5_readsItem 83 = .ok (.iconst 0, 1) := by decide +kernel
theorem dX5_readsItem_84 : decode cX5_readsItem 84 = .ok (.dup2, 1) := by decide +kernel
theorem dX5_readsItem_85 : decode cX5_readsItem 85 = .ok (.iaload, 1) := by decide +kernel
theorem dX5_readsItem_86 : decode cX5_readsItem 86 = .ok (.iconst 1, 1) := by decide +kernel
theorem dX5_readsItem_87 : decode cX5_readsItem 87 = .ok (.iadd, 1) := by decide +kernel
theorem dX5_readsItem_88 : decode cX5_readsItem 88 = .ok (.iastore, 1) := by decide +kernel
theorem dX5_readsItem_89 : decode cX5_readsItem 89 = .ok (.iconst 1, 1) := by decide +kernel
theorem dX5_readsItem_90 : decode cX5_readsItem 90 = .ok (.ireturn, 1) := by decide +kernel
theorem dX5_readsItem_91 : decode cX5_readsItem 91 = .ok (.iload_n 1, 1) := by decide +kernel
theorem dX5_readsItem_92 : decode cX5_readsItem 92 = .ok (.bipush 100, 2) := by decide +kernel
theorem dX5_readsItem_94 : decode cX5_readsItem 94 = .ok (.if_icmp .ne 87, 3) := by decide +kernel
theorem dX5_readsItem_97 : decode cX5_readsItem 97 = .ok (.iload_n 2, 1) := by decide +kernel
theorem dX5_readsItem_98 : decode cX5_readsItem 98 = .ok (.bipush 6, 2) := by decide +kernel
theorem dX5_readsItem_100 : decode cX5_readsItem 100 = .ok (.if_icmp .eq 81, 3) := by decide +kernel
theorem dX5_readsItem_103 : decode cX5_readsItem 103 = .ok (.aload_n 0, 1) := by decide +kernel
theorem dX5_readsItem_104 : decode cX5_readsItem 104 = .ok (.bipush 13, 2) := by decide +kernel
theorem dX5_readsItem_106 : decode cX5_readsItem 106 = .ok (.iload_n 2, 1) := by decide +kernel
theorem dX5_readsItem_107 : decode cX5_readsItem 107 = .ok (.iadd, 1) := by decide +kernel
theorem dX5_readsItem_108 : decode cX5_readsItem 108 = .ok (.iconst 0, 1) := by decide +kernel
theorem dX5_readsItem_109 : decode cX5_readsItem 109 = .ok (.bipush 9, 2) := by decide +kernel
theorem dX5_readsItem_111 : decode cX5_readsItem 111 = .ok (.invokevirtual 82, 3) := by decide +kernel
theorem dX5_readsItem_114 : decode cX5_readsItem 114 = .ok (.ifCond .eq 67, 3) := by decide +kernel
theorem dX5_readsItem_117 : decode cX5_readsItem 117 = .ok (.aload_n 0, 1) := by decide +kernel
theorem dX5_readsItem_118 : decode cX5_readsItem 118 = .ok (.bipush 19, 2) := by decide +kernel
theorem dX5_readsItem_120 : decode cX5_readsItem 120 = .ok (.iload_n 2, 1) := by decide +kernel
theorem dX5_readsItem_121 : decode cX5_readsItem 121 = .ok (.iadd, 1) := by decide +kernel
theorem dX5_readsItem_122 : decode cX5_readsItem 122 = .ok (.iconst 0, 1) := by decide +kernel
theorem dX5_readsItem_123 : decode cX5_readsItem 123 = .ok (.bipush 9, 2) := by decide +kernel
theorem dX5_readsItem_125 : decode cX5_readsItem 125 = .ok (.invokevirtual 82, 3) := by decide +kernel
theorem dX5_readsItem_128 : decode cX5_readsItem 128 = .ok (.ifCond .eq 53, 3) := by decide +kernel
theorem dX5_readsItem_131 : decode cX5_readsItem 131 = .ok (.aload_n 0, 1) := by decide +kernel
theorem dX5_readsItem_132 : decode cX5_readsItem 132 = .ok (.bipush 25, 2) := by decide +kernel
theorem dX5_readsItem_134 : decode cX5_readsItem 134 = .ok (.iload_n 2, 1) := by decide +kernel
theorem dX5_readsItem_135 : decode cX5_readsItem 135 = .ok (.iadd, 1) := by decide +kernel
theorem dX5_readsItem_136 : decode cX5_readsItem 136 = .ok (.iconst 1, 1) := by decide +kernel
theorem dX5_readsItem_137 : decode cX5_readsItem 137 = .ok (.bipush 99, 2) := by decide +kernel
theorem dX5_readsItem_139 : decode cX5_readsItem 139 = .ok (.invokevirtual 82, 3) := by decide +kernel
theorem dX5_readsItem_142 : decode cX5_readsItem 142 = .ok (.ifCond .eq 39, 3) := by decide +kernel
theorem dX5_readsItem_145 : decode cX5_readsItem 145 = .ok (.aload_n 0, 1) := by decide +kernel
theorem dX5_readsItem_146 : decode cX5_readsItem 146 = .ok (.bipush 31, 2) := by decide +kernel
theorem dX5_readsItem_148 : decode cX5_readsItem 148 = .ok (.iload_n 2, 1) := by decide +kernel
theorem dX5_readsItem_149 : decode cX5_readsItem 149 = .ok (.iadd, 1) := by decide +kernel
theorem dX5_readsItem_150 : decode cX5_readsItem 150 = .ok (.iconst 0, 1) := by decide +kernel
theorem dX5_readsItem_151 : decode cX5_readsItem 151 = .ok (.bipush 60, 2) := by decide +kernel
theorem dX5_readsItem_153 : decode cX5_readsItem 153 = .ok (.invokevirtual 82, 3) := by decide +kernel
theorem dX5_readsItem_156 : decode cX5_readsItem 156 = .ok (.ifCond .eq 25, 3) := by decide +kernel
theorem dX5_readsItem_159 : decode cX5_readsItem 159 = .ok (.aload_n 0, 1) := by decide +kernel
theorem dX5_readsItem_160 : decode cX5_readsItem 160 = .ok (.bipush 37, 2) := by decide +kernel
theorem dX5_readsItem_162 : decode cX5_readsItem 162 = .ok (.iload_n 2, 1) := by decide +kernel
theorem dX5_readsItem_163 : decode cX5_readsItem 163 = .ok (.iadd, 1) := by decide +kernel
theorem dX5_readsItem_164 : decode cX5_readsItem 164 = .ok (.aload_n 0, 1) := by decide +kernel
theorem dX5_readsItem_165 : decode cX5_readsItem 165 = .ok (.getfield 16, 3) := by decide +kernel
theorem dX5_readsItem_168 : decode cX5_readsItem 168 = .ok (.bipush 31, 2) := by decide +kernel
theorem dX5_readsItem_170 : decode cX5_readsItem 170 = .ok (.iload_n 2, 1) := by decide +kernel
theorem dX5_readsItem_171 : decode cX5_readsItem 171 = .ok (.iadd, 1) := by decide +kernel
theorem dX5_readsItem_172 : decode cX5_readsItem 172 = .ok (.iaload, 1) := by decide +kernel
theorem dX5_readsItem_173 : decode cX5_readsItem 173 = .ok (.bipush 99, 2) := by decide +kernel
theorem dX5_readsItem_175 : decode cX5_readsItem 175 = .ok (.invokevirtual 82, 3) := by decide +kernel
theorem dX5_readsItem_178 : decode cX5_readsItem 178 = .ok (.ifCond .ne 5, 3) := by decide +kernel
theorem dX5_readsItem_181 : decode cX5_readsItem 181 = .ok (.iconst 0, 1) := by decide +kernel
theorem dX5_readsItem_182 : decode cX5_readsItem 182 = .ok (.ireturn, 1) := by decide +kernel
theorem dX5_readsItem_183 : decode cX5_readsItem 183 = .ok (.aload_n 0, 1) := by decide +kernel
theorem dX5_readsItem_184 : decode cX5_readsItem 184 = .ok (.getfield 16, 3) := by decide +kernel
theorem dX5_readsItem_187 : decode cX5_readsItem 187 = .ok (.iconst 1, 1) := by decide +kernel
theorem dX5_readsItem_188 : decode cX5_readsItem 188 = .ok (.dup2, 1) := by decide +kernel
theorem dX5_readsItem_189 : decode cX5_readsItem 189 = .ok (.iaload, 1) := by decide +kernel
theorem dX5_readsItem_190 : decode cX5_readsItem 190 = .ok (.iconst 1, 1) := by decide +kernel
theorem dX5_readsItem_191 : decode cX5_readsItem 191 = .ok (.iadd, 1) := by decide +kernel
theorem dX5_readsItem_192 : decode cX5_readsItem 192 = .ok (.iastore, 1) := by decide +kernel
theorem dX5_readsItem_193 : decode cX5_readsItem 193 = .ok (.iconst 1, 1) := by decide +kernel
theorem dX5_readsItem_194 : decode cX5_readsItem 194 = .ok (.ireturn, 1) := by decide +kernel
theorem dX5_reads_0 : decode cX5_reads 0 = .ok (.iconst 0, 1) := by decide +kernel
theorem dX5_reads_1 : decode cX5_reads 1 = .ok (.istore_n 1, 1) := by decide +kernel
theorem dX5_reads_2 : decode cX5_reads 2 = .ok (.iload_n 1, 1) := by decide +kernel
theorem dX5_reads_3 : decode cX5_reads 3 = .ok (.bipush 43, 2) := by decide +kernel
theorem dX5_reads_5 : decode cX5_reads 5 = .ok (.if_icmp .ge 16, 3) := by decide +kernel
theorem dX5_reads_8 : decode cX5_reads 8 = .ok (.aload_n 0, 1) := by decide +kernel
theorem dX5_reads_9 : decode cX5_reads 9 = .ok (.getfield 16, 3) := by decide +kernel
theorem dX5_reads_12 : decode cX5_reads 12 = .ok (.iload_n 1, 1) := by decide +kernel
theorem dX5_reads_13 : decode cX5_reads 13 = .ok (.iconst 0, 1) := by decide +kernel
theorem dX5_reads_14 : decode cX5_reads 14 = .ok (.iastore, 1) := by decide +kernel
theorem dX5_reads_15 : decode cX5_reads 15 = .ok (.iinc 1 1, 3) := by decide +kernel
theorem dX5_reads_18 : decode cX5_reads 18 = .ok (.goto (-16), 3) := by decide +kernel
theorem dX5_reads_21 : decode cX5_reads 21 = .ok (.aload_n 0, 1) := by decide +kernel
theorem dX5_reads_22 : decode cX5_reads 22 = .ok (.iconst 0, 1) := by decide +kernel
theorem dX5_reads_23 : decode cX5_reads 23 = .ok (.putfield 56, 3) := by decide +kernel
theorem dX5_reads_26 : decode cX5_reads 26 = .ok (.aload_n 0, 1) := by decide +kernel
theorem dX5_reads_27 : decode cX5_reads 27 = .ok (.invokevirtual 79, 3) := by decide +kernel
theorem dX5_reads_30 : decode cX5_reads 30 = .ok (.aload_n 0, 1) := by decide +kernel
theorem dX5_reads_31 : decode cX5_reads 31 = .ok (.getfield 73, 3) := by decide +kernel
theorem dX5_reads_34 : decode cX5_reads 34 = .ok (.ifCond .eq 43, 3) := by decide +kernel
theorem dX5_reads_37 : decode cX5_reads 37 = .ok (.aload_n 0, 1) := by decide +kernel
theorem dX5_reads_38 : decode cX5_reads 38 = .ok (.invokevirtual 85, 3) := by decide +kernel
theorem dX5_reads_41 : decode cX5_reads 41 = .ok (.ifCond .ne 5, 3) := by decide +kernel
theorem dX5_reads_44 : decode cX5_reads 44 = .ok (.iconst 0, 1) := by decide +kernel
theorem dX5_reads_45 : decode cX5_reads 45 = .ok (.ireturn, 1) := by decide +kernel
theorem dX5_reads_46 : decode cX5_reads 46 = .ok (.aload_n 0, 1) := by decide +kernel
theorem dX5_reads_47 : decode cX5_reads 47 = .ok (.invokevirtual 79, 3) := by decide +kernel
theorem dX5_reads_50 : decode cX5_reads 50 = .ok (.aload_n 0, 1) := by decide +kernel
theorem dX5_reads_51 : decode cX5_reads 51 = .ok (.getfield 73, 3) := by decide +kernel
theorem dX5_reads_54 : decode cX5_reads 54 = .ok (.iconst 3, 1) := by decide +kernel
theorem dX5_reads_55 : decode cX5_reads 55 = .ok (.if_icmp .eq 5, 3) := by decide +kernel
theorem dX5_reads_58 : decode cX5_reads 58 = .ok (.iconst 0, 1) := by decide +kernel
theorem dX5_reads_59 : decode cX5_reads 59 = .ok (.ireturn, 1) := by decide +kernel
theorem dX5_reads_60 : decode cX5_reads 60 = .ok (.aload_n 0, 1) := by decide +kernel
theorem dX5_reads_61 : decode cX5_reads 61 = .ok (.getfield 16, 3) := by decide +kernel
theorem dX5_reads_64 : decode cX5_reads 64 = .ok (.iconst 2, 1) := by decide +kernel
theorem dX5_reads_65 : decode cX5_reads 65 = .ok (.dup2, 1) := by decide +kernel
theorem dX5_reads_66 : decode cX5_reads 66 = .ok (.iaload, 1) := by decide +kernel
theorem dX5_reads_67 : decode cX5_reads 67 = .ok (.iconst 1, 1) := by decide +kernel
theorem dX5_reads_68 : decode cX5_reads 68 = .ok (.iadd, 1) := by decide +kernel
theorem dX5_reads_69 : decode cX5_reads 69 = .ok (.iastore, 1) := by decide +kernel
theorem dX5_reads_70 : decode cX5_reads 70 = .ok (.aload_n 0, 1) := by decide +kernel
theorem dX5_reads_71 : decode cX5_reads 71 = .ok (.invokevirtual 79, 3) := by decide +kernel
theorem dX5_reads_74 : decode cX5_reads 74 = .ok (.goto (-44), 3) := by decide +kernel
theorem dX5_reads_77 : decode cX5_reads 77 = .ok (.iconst 1, 1) := by decide +kernel
theorem dX5_reads_78 : decode cX5_reads 78 = .ok (.ireturn, 1) := by decide +kernel
theorem dX5_begins_0 : decode cX5_begins 0 = .ok (.iconst 0, 1) := by decide +kernel
theorem dX5_begins_1 : decode cX5_begins 1 = .ok (.istore_n 1, 1) := by decide +kernel
theorem dX5_begins_2 : decode cX5_begins 2 = .ok (.iload_n 1, 1) := by decide +kernel
theorem dX5_begins_3 : decode cX5_begins 3 = .ok (.bipush 43, 2) := by decide +kernel
theorem dX5_begins_5 : decode cX5_begins 5 = .ok (.if_icmp .ge 21, 3) := by decide +kernel
theorem dX5_begins_8 : decode cX5_begins 8 = .ok (.aload_n 0, 1) := by decide +kernel
theorem dX5_begins_9 : decode cX5_begins 9 = .ok (.getfield 13, 3) := by decide +kernel
theorem dX5_begins_12 : decode cX5_begins 12 = .ok (.iload_n 1, 1) := by decide +kernel
theorem dX5_begins_13 : decode cX5_begins 13 = .ok (.aload_n 0, 1) := by decide +kernel
theorem dX5_begins_14 : decode cX5_begins 14 = .ok (.getfield 16, 3) := by decide +kernel
theorem dX5_begins_17 : decode cX5_begins 17 = .ok (.iload_n 1, 1) := by decide +kernel
theorem dX5_begins_18 : decode cX5_begins 18 = .ok (.iaload, 1) := by decide +kernel
theorem dX5_begins_19 : decode cX5_begins 19 = .ok (.iastore, 1) := by decide +kernel
theorem dX5_begins_20 : decode cX5_begins 20 = .ok (.iinc 1 1, 3) := by decide +kernel
theorem dX5_begins_23 : decode cX5_begins 23 = .ok (.goto (-21), 3) := by decide +kernel
theorem dX5_begins_26 : decode cX5_begins 26 = .ok (.iconst 0, 1) := by decide +kernel
theorem dX5_begins_27 : decode cX5_begins 27 = .ok (.istore_n 1, 1) := by decide +kernel
theorem dX5_begins_28 : decode cX5_begins 28 = .ok (.iload_n 1, 1) := by decide +kernel
theorem dX5_begins_29 : decode cX5_begins 29 = .ok (.bipush 14, 2) := by decide +kernel
theorem dX5_begins_31 : decode cX5_begins 31 = .ok (.if_icmp .gt 27, 3) := by decide +kernel
theorem dX5_begins_34 : decode cX5_begins 34 = .ok (.aload_n 0, 1) := by decide +kernel
theorem dX5_begins_35 : decode cX5_begins 35 = .ok (.getfield 19, 3) := by decide +kernel
theorem dX5_begins_38 : decode cX5_begins 38 = .ok (.iload_n 1, 1) := by decide +kernel
theorem dX5_begins_39 : decode cX5_begins 39 = .ok (.iload_n 1, 1) := by decide +kernel
theorem dX5_begins_40 : decode cX5_begins 40 = .ok (.bipush 6, 2) := by decide +kernel
theorem dX5_begins_42 : decode cX5_begins 42 = .ok (.if_icmp .ge 8, 3) := by decide +kernel
theorem dX5_begins_45 : decode cX5_begins 45 = .ok (.bipush (-9), 2) := by decide +kernel
theorem dX5_begins_47 : decode cX5_begins 47 = .ok (.goto 4, 3) := by decide +kernel
theorem dX5_begins_50 : decode cX5_begins 50 = .ok (.iconst 0, 1) := by decide +kernel
theorem dX5_begins_51 : decode cX5_begins 51 = .ok (.iastore, 1) := by decide +kernel
theorem dX5_begins_52 : decode cX5_begins 52 = .ok (.iinc 1 1, 3) := by decide +kernel
theorem dX5_begins_55 : decode cX5_begins 55 = .ok (.goto (-27), 3) := by decide +kernel
theorem dX5_begins_58 : decode cX5_begins 58 = .ok (.aload_n 0, 1) := by decide +kernel
theorem dX5_begins_59 : decode cX5_begins 59 = .ok (.iconst 0, 1) := by decide +kernel
theorem dX5_begins_60 : decode cX5_begins 60 = .ok (.putfield 88, 3) := by decide +kernel
theorem dX5_begins_63 : decode cX5_begins 63 = .ok (.aload_n 0, 1) := by decide +kernel
theorem dX5_begins_64 : decode cX5_begins 64 = .ok (.getfield 25, 3) := by decide +kernel
theorem dX5_begins_67 : decode cX5_begins 67 = .ok (.iconst 0, 1) := by decide +kernel
theorem dX5_begins_68 : decode cX5_begins 68 = .ok (.iconst 0, 1) := by decide +kernel
theorem dX5_begins_69 : decode cX5_begins 69 = .ok (.bastore, 1) := by decide +kernel
theorem dX5_begins_70 : decode cX5_begins 70 = .ok (.aload_n 0, 1) := by decide +kernel
theorem dX5_begins_71 : decode cX5_begins 71 = .ok (.getfield 25, 3) := by decide +kernel
theorem dX5_begins_74 : decode cX5_begins 74 = .ok (.iconst 1, 1) := by decide +kernel
theorem dX5_begins_75 : decode cX5_begins 75 = .ok (.iconst 0, 1) := by decide +kernel
theorem dX5_begins_76 : decode cX5_begins 76 = .ok (.bastore, 1) := by decide +kernel
theorem dX5_begins_77 : decode cX5_begins 77 = .ok (.return_, 1) := by decide +kernel
theorem dX5_quarter_0 : decode cX5_quarter 0 = .ok (.aload_n 0, 1) := by decide +kernel
theorem dX5_quarter_1 : decode cX5_quarter 1 = .ok (.invokevirtual 42, 3) := by decide +kernel
theorem dX5_quarter_4 : decode cX5_quarter 4 = .ok (.ifCond .ne 11, 3) := by decide +kernel
theorem dX5_quarter_7 : decode cX5_quarter 7 = .ok (.bipush (-10), 2) := by decide +kernel
theorem dX5_quarter_9 : decode cX5_quarter 9 = .ok (.aload_n 0, 1) := by decide +kernel
theorem dX5_quarter_10 : decode cX5_quarter 10 = .ok (.getfield 63, 3) := by decide +kernel
theorem dX5_quarter_13 : decode cX5_quarter 13 = .ok (.isub, 1) := by decide +kernel
theorem dX5_quarter_14 : decode cX5_quarter 14 = .ok (.ireturn, 1) := by decide +kernel
theorem dX5_quarter_15 : decode cX5_quarter 15 = .ok (.aload_n 0, 1) := by decide +kernel
theorem dX5_quarter_16 : decode cX5_quarter 16 = .ok (.invokevirtual 46, 3) := by decide +kernel
theorem dX5_quarter_19 : decode cX5_quarter 19 = .ok (.aload_n 0, 1) := by decide +kernel
theorem dX5_quarter_20 : decode cX5_quarter 20 = .ok (.iconst 0, 1) := by decide +kernel
theorem dX5_quarter_21 : decode cX5_quarter 21 = .ok (.putfield 53, 3) := by decide +kernel
theorem dX5_quarter_24 : decode cX5_quarter 24 = .ok (.aload_n 0, 1) := by decide +kernel
theorem dX5_quarter_25 : decode cX5_quarter 25 = .ok (.getfield 13, 3) := by decide +kernel
theorem dX5_quarter_28 : decode cX5_quarter 28 = .ok (.iconst 2, 1) := by decide +kernel
theorem dX5_quarter_29 : decode cX5_quarter 29 = .ok (.iaload, 1) := by decide +kernel
theorem dX5_quarter_30 : decode cX5_quarter 30 = .ok (.ireturn, 1) := by decide +kernel
theorem dX5_ones_0 : decode cX5_ones 0 = .ok (.iconst 0, 1) := by decide +kernel
theorem dX5_ones_1 : decode cX5_ones 1 = .ok (.istore_n 1, 1) := by decide +kernel
theorem dX5_ones_2 : decode cX5_ones 2 = .ok (.iconst 0, 1) := by decide +kernel
theorem dX5_ones_3 : decode cX5_ones 3 = .ok (.istore_n 2, 1) := by decide +kernel
theorem dX5_ones_4 : decode cX5_ones 4 = .ok (.iload_n 2, 1) := by decide +kernel
theorem dX5_ones_5 : decode cX5_ones 5 = .ok (.bipush 6, 2) := by decide +kernel
theorem dX5_ones_7 : decode cX5_ones 7 = .ok (.if_icmp .ge 17, 3) := by decide +kernel
theorem dX5_ones_10 : decode cX5_ones 10 = .ok (.iload_n 1, 1) := by decide +kernel
theorem dX5_ones_11 : decode cX5_ones 11 = .ok (.iload_n 0, 1) := by decide +kernel
theorem dX5_ones_12 : decode cX5_ones 12 = .ok (.iload_n 2, 1) := by decide +kernel
theorem dX5_ones_13 : decode cX5_ones 13 = .ok (.ishr, 1) := by decide +kernel
theorem dX5_ones_14 : decode cX5_ones 14 = .ok (.iconst 1, 1) := by decide +kernel
theorem dX5_ones_15 : decode cX5_ones 15 = .ok (.iand, 1) := by decide +kernel
theorem dX5_ones_16 : decode cX5_ones 16 = .ok (.iadd, 1) := by decide +kernel
theorem dX5_ones_17 : decode cX5_ones 17 = .ok (.istore_n 1, 1) := by decide +kernel
theorem dX5_ones_18 : decode cX5_ones 18 = .ok (.iinc 2 1, 3) := by decide +kernel
theorem dX5_ones_21 : decode cX5_ones 21 = .ok (.goto (-17), 3) := by decide +kernel
theorem dX5_ones_24 : decode cX5_ones 24 = .ok (.iload_n 1, 1) := by decide +kernel
theorem dX5_ones_25 : decode cX5_ones 25 = .ok (.ireturn, 1) := by decide +kernel
theorem dX5_whereAll_0 : decode cX5_whereAll 0 = .ok (.iconst 0, 1) := by decide +kernel
theorem dX5_whereAll_1 : decode cX5_whereAll 1 = .ok (.istore_n 2, 1) := by decide +kernel
theorem dX5_whereAll_2 : decode cX5_whereAll 2 = .ok (.iconst 0, 1) := by decide +kernel
theorem dX5_whereAll_3 : decode cX5_whereAll 3 = .ok (.istore_n 3, 1) := by decide +kernel
theorem dX5_whereAll_4 : decode cX5_whereAll 4 = .ok (.iload_n 3, 1) := by decide +kernel
theorem dX5_whereAll_5 : decode cX5_whereAll 5 = .ok (.aload_n 0, 1) := by decide +kernel
theorem dX5_whereAll_6 : decode cX5_whereAll 6 = .ok (.getfield 13, 3) := by decide +kernel
theorem dX5_whereAll_9 : decode cX5_whereAll 9 = .ok (.iconst 1, 1) := by decide +kernel
theorem dX5_whereAll_10 : decode cX5_whereAll 10 = .ok (.iaload, 1) := by decide +kernel
theorem dX5_whereAll_11 : decode cX5_whereAll 11 = .ok (.if_icmp .ge 29, 3) := by decide +kernel
theorem dX5_whereAll_14 : decode cX5_whereAll 14 = .ok (.iload_n 2, 1) := by decide +kernel
theorem dX5_whereAll_15 : decode cX5_whereAll 15 = .ok (.aload_n 0, 1) := by decide +kernel
theorem dX5_whereAll_16 : decode cX5_whereAll 16 = .ok (.getfield 19, 3) := by decide +kernel
theorem dX5_whereAll_19 : decode cX5_whereAll 19 = .ok (.iload_n 3, 1) := by decide +kernel
theorem dX5_whereAll_20 : decode cX5_whereAll 20 = .ok (.iaload, 1) := by decide +kernel
theorem dX5_whereAll_21 : decode cX5_whereAll 21 = .ok (.iload_n 1, 1) := by decide +kernel
theorem dX5_whereAll_22 : decode cX5_whereAll 22 = .ok (.if_icmp .ne 9, 3) := by decide +kernel
theorem dX5_whereAll_25 : decode cX5_whereAll 25 = .ok (.iconst 1, 1) := by decide +kernel
theorem dX5_whereAll_26 : decode cX5_whereAll 26 = .ok (.iload_n 3, 1) := by decide +kernel
theorem dX5_whereAll_27 : decode cX5_whereAll 27 = .ok (.ishl, 1) := by decide +kernel
theorem dX5_whereAll_28 : decode cX5_whereAll 28 = .ok (.goto 4, 3) := by decide +kernel
theorem dX5_whereAll_31 : decode cX5_whereAll 31 = .ok (.iconst 0, 1) := by decide +kernel
theorem dX5_whereAll_32 : decode cX5_whereAll 32 = .ok (.ior, 1) := by decide +kernel
theorem dX5_whereAll_33 : decode cX5_whereAll 33 = .ok (.istore_n 2, 1) := by decide +kernel
theorem dX5_whereAll_34 : decode cX5_whereAll 34 = .ok (.iinc 3 1, 3) := by decide +kernel
theorem dX5_whereAll_37 : decode cX5_whereAll 37 = .ok (.goto (-33), 3) := by decide +kernel
theorem dX5_whereAll_40 : decode cX5_whereAll 40 = .ok (.iload_n 2, 1) := by decide +kernel
theorem dX5_whereAll_41 : decode cX5_whereAll 41 = .ok (.ireturn, 1) := by decide +kernel
theorem dX5_hot_0 : decode cX5_hot 0 = .ok (.aload_n 0, 1) := by decide +kernel
theorem dX5_hot_1 : decode cX5_hot 1 = .ok (.getfield 13, 3) := by decide +kernel
theorem dX5_hot_4 : decode cX5_hot 4 = .ok (.iconst 3, 1) := by decide +kernel
theorem dX5_hot_5 : decode cX5_hot 5 = .ok (.iload_n 1, 1) := by decide +kernel
theorem dX5_hot_6 : decode cX5_hot 6 = .ok (.iadd, 1) := by decide +kernel
theorem dX5_hot_7 : decode cX5_hot 7 = .ok (.iaload, 1) := by decide +kernel
theorem dX5_hot_8 : decode cX5_hot 8 = .ok (.bipush 10, 2) := by decide +kernel
theorem dX5_hot_10 : decode cX5_hot 10 = .ok (.aload_n 0, 1) := by decide +kernel
theorem dX5_hot_11 : decode cX5_hot 11 = .ok (.iload_n 1, 1) := by decide +kernel
theorem dX5_hot_12 : decode cX5_hot 12 = .ok (.invokevirtual 91, 3) := by decide +kernel
theorem dX5_hot_15 : decode cX5_hot 15 = .ok (.invokestatic 94, 3) := by decide +kernel
theorem dX5_hot_18 : decode cX5_hot 18 = .ok (.isub, 1) := by decide +kernel
theorem dX5_hot_19 : decode cX5_hot 19 = .ok (.imul, 1) := by decide +kernel
theorem dX5_hot_20 : decode cX5_hot 20 = .ok (.bipush 10, 2) := by decide +kernel
theorem dX5_hot_22 : decode cX5_hot 22 = .ok (.idiv, 1) := by decide +kernel
theorem dX5_hot_23 : decode cX5_hot 23 = .ok (.ireturn, 1) := by decide +kernel
theorem dX5_oven_0 : decode cX5_oven 0 = .ok (.aload_n 0, 1) := by decide +kernel
theorem dX5_oven_1 : decode cX5_oven 1 = .ok (.iload_n 1, 1) := by decide +kernel
theorem dX5_oven_2 : decode cX5_oven 2 = .ok (.invokevirtual 97, 3) := by decide +kernel
theorem dX5_oven_5 : decode cX5_oven 5 = .ok (.ifCond .ne 6, 3) := by decide +kernel
theorem dX5_oven_8 : decode cX5_oven 8 = .ok (.ldc 100, 2) := by decide +kernel
theorem dX5_oven_10 : decode cX5_oven 10 = .ok (.ireturn, 1) := by decide +kernel
theorem dX5_oven_11 : decode cX5_oven 11 = .ok (.iload_n 2, 1) := by decide +kernel
theorem dX5_oven_12 : decode cX5_oven 12 = .ok (.tableswitch 84 0 4 #[36, 45, 58, 64, 70], 36) := by decide +kernel
theorem dX5_oven_48 : decode cX5_oven 48 = .ok (.aload_n 0, 1) := by decide +kernel
theorem dX5_oven_49 : decode cX5_oven 49 = .ok (.getfield 13, 3) := by decide +kernel
theorem dX5_oven_52 : decode cX5_oven 52 = .ok (.iconst 3, 1) := by decide +kernel
theorem dX5_oven_53 : decode cX5_oven 53 = .ok (.iload_n 1, 1) := by decide +kernel
theorem dX5_oven_54 : decode cX5_oven 54 = .ok (.iadd, 1) := by decide +kernel
theorem dX5_oven_55 : decode cX5_oven 55 = .ok (.iaload, 1) := by decide +kernel
theorem dX5_oven_56 : decode cX5_oven 56 = .ok (.ireturn, 1) := by decide +kernel
theorem dX5_oven_57 : decode cX5_oven 57 = .ok (.aload_n 0, 1) := by decide +kernel
theorem dX5_oven_58 : decode cX5_oven 58 = .ok (.getfield 13, 3) := by decide +kernel
theorem dX5_oven_61 : decode cX5_oven 61 = .ok (.bipush 8, 2) := by decide +kernel
theorem dX5_oven_63 : decode cX5_oven 63 = .ok (.iload_n 1, 1) := by decide +kernel
theorem dX5_oven_64 : decode cX5_oven 64 = .ok (.iadd, 1) := by decide +kernel
theorem dX5_oven_65 : decode cX5_oven 65 = .ok (.iaload, 1) := by decide +kernel
theorem dX5_oven_66 : decode cX5_oven 66 = .ok (.bipush 9, 2) := by decide +kernel
theorem dX5_oven_68 : decode cX5_oven 68 = .ok (.isub, 1) := by decide +kernel
theorem dX5_oven_69 : decode cX5_oven 69 = .ok (.ireturn, 1) := by decide +kernel
theorem dX5_oven_70 : decode cX5_oven 70 = .ok (.aload_n 0, 1) := by decide +kernel
theorem dX5_oven_71 : decode cX5_oven 71 = .ok (.iload_n 1, 1) := by decide +kernel
theorem dX5_oven_72 : decode cX5_oven 72 = .ok (.invokevirtual 91, 3) := by decide +kernel
theorem dX5_oven_75 : decode cX5_oven 75 = .ok (.ireturn, 1) := by decide +kernel
theorem dX5_oven_76 : decode cX5_oven 76 = .ok (.aload_n 0, 1) := by decide +kernel
theorem dX5_oven_77 : decode cX5_oven 77 = .ok (.iload_n 1, 1) := by decide +kernel
theorem dX5_oven_78 : decode cX5_oven 78 = .ok (.invokevirtual 101, 3) := by decide +kernel
theorem dX5_oven_81 : decode cX5_oven 81 = .ok (.ireturn, 1) := by decide +kernel
theorem dX5_oven_82 : decode cX5_oven 82 = .ok (.aload_n 0, 1) := by decide +kernel
theorem dX5_oven_83 : decode cX5_oven 83 = .ok (.iload_n 1, 1) := by decide +kernel
theorem dX5_oven_84 : decode cX5_oven 84 = .ok (.invokevirtual 104, 3) := by decide +kernel
theorem dX5_oven_87 : decode cX5_oven 87 = .ok (.ifCond .eq 7, 3) := by decide +kernel
theorem dX5_oven_90 : decode cX5_oven 90 = .ok (.iconst 1, 1) := by decide +kernel
theorem dX5_oven_91 : decode cX5_oven 91 = .ok (.goto 4, 3) := by decide +kernel
theorem dX5_oven_94 : decode cX5_oven 94 = .ok (.iconst 0, 1) := by decide +kernel
theorem dX5_oven_95 : decode cX5_oven 95 = .ok (.ireturn, 1) := by decide +kernel
theorem dX5_oven_96 : decode cX5_oven 96 = .ok (.ldc 100, 2) := by decide +kernel
theorem dX5_oven_98 : decode cX5_oven 98 = .ok (.ireturn, 1) := by decide +kernel
theorem dX5_smellOf_0 : decode cX5_smellOf 0 = .ok (.aload_n 0, 1) := by decide +kernel
theorem dX5_smellOf_1 : decode cX5_smellOf 1 = .ok (.getfield 13, 3) := by decide +kernel
theorem dX5_smellOf_4 : decode cX5_smellOf 4 = .ok (.bipush 8, 2) := by decide +kernel
theorem dX5_smellOf_6 : decode cX5_smellOf 6 = .ok (.iload_n 1, 1) := by decide +kernel
theorem dX5_smellOf_7 : decode cX5_smellOf 7 = .ok (.iadd, 1) := by decide +kernel
theorem dX5_smellOf_8 : decode cX5_smellOf 8 = .ok (.iaload, 1) := by decide +kernel
theorem dX5_smellOf_9 : decode cX5_smellOf 9 = .ok (.bipush 9, 2) := by decide +kernel
theorem dX5_smellOf_11 : decode cX5_smellOf 11 = .ok (.isub, 1) := by decide +kernel
theorem dX5_smellOf_12 : decode cX5_smellOf 12 = .ok (.istore_n 3, 1) := by decide +kernel
theorem dX5_smellOf_13 : decode cX5_smellOf 13 = .ok (.iconst 0, 1) := by decide +kernel
theorem dX5_smellOf_14 : decode cX5_smellOf 14 = .ok (.istore 4, 2) := by decide +kernel
theorem dX5_smellOf_16 : decode cX5_smellOf 16 = .ok (.iload 4, 2) := by decide +kernel
theorem dX5_smellOf_18 : decode cX5_smellOf 18 = .ok (.aload_n 0, 1) := by decide +kernel
theorem dX5_smellOf_19 : decode cX5_smellOf 19 = .ok (.getfield 13, 3) := by decide +kernel
theorem dX5_smellOf_22 : decode cX5_smellOf 22 = .ok (.iconst 1, 1) := by decide +kernel
theorem dX5_smellOf_23 : decode cX5_smellOf 23 = .ok (.iaload, 1) := by decide +kernel
theorem dX5_smellOf_24 : decode cX5_smellOf 24 = .ok (.if_icmp .ge 72, 3) := by decide +kernel
theorem dX5_smellOf_27 : decode cX5_smellOf 27 = .ok (.aload_n 0, 1) := by decide +kernel
theorem dX5_smellOf_28 : decode cX5_smellOf 28 = .ok (.getfield 13, 3) := by decide +kernel
theorem dX5_smellOf_31 : decode cX5_smellOf 31 = .ok (.bipush 13, 2) := by decide +kernel
theorem dX5_smellOf_33 : decode cX5_smellOf 33 = .ok (.iload_n 2, 1) := by decide +kernel
theorem dX5_smellOf_34 : decode cX5_smellOf 34 = .ok (.iadd, 1) := by decide +kernel
theorem dX5_smellOf_35 : decode cX5_smellOf 35 = .ok (.iaload, 1) := by decide +kernel
theorem dX5_smellOf_36 : decode cX5_smellOf 36 = .ok (.aload_n 0, 1) := by decide +kernel
theorem dX5_smellOf_37 : decode cX5_smellOf 37 = .ok (.getfield 13, 3) := by decide +kernel
theorem dX5_smellOf_40 : decode cX5_smellOf 40 = .ok (.bipush 19, 2) := by decide +kernel
theorem dX5_smellOf_42 : decode cX5_smellOf 42 = .ok (.iload_n 2, 1) := by decide +kernel
theorem dX5_smellOf_43 : decode cX5_smellOf 43 = .ok (.iadd, 1) := by decide +kernel
theorem dX5_smellOf_44 : decode cX5_smellOf 44 = .ok (.iaload, 1) := by decide +kernel
theorem dX5_smellOf_45 : decode cX5_smellOf 45 = .ok (.isub, 1) := by decide +kernel
theorem dX5_smellOf_46 : decode cX5_smellOf 46 = .ok (.aload_n 0, 1) := by decide +kernel
theorem dX5_smellOf_47 : decode cX5_smellOf 47 = .ok (.getfield 13, 3) := by decide +kernel
theorem dX5_smellOf_50 : decode cX5_smellOf 50 = .ok (.bipush 13, 2) := by decide +kernel
theorem dX5_smellOf_52 : decode cX5_smellOf 52 = .ok (.iload 4, 2) := by decide +kernel
theorem dX5_smellOf_54 : decode cX5_smellOf 54 = .ok (.iadd, 1) := by decide +kernel
theorem dX5_smellOf_55 : decode cX5_smellOf 55 = .ok (.iaload, 1) := by decide +kernel
theorem dX5_smellOf_56 : decode cX5_smellOf 56 = .ok (.aload_n 0, 1) := by decide +kernel
theorem dX5_smellOf_57 : decode cX5_smellOf 57 = .ok (.getfield 13, 3) := by decide +kernel
theorem dX5_smellOf_60 : decode cX5_smellOf 60 = .ok (.bipush 19, 2) := by decide +kernel
theorem dX5_smellOf_62 : decode cX5_smellOf 62 = .ok (.iload 4, 2) := by decide +kernel
theorem dX5_smellOf_64 : decode cX5_smellOf 64 = .ok (.iadd, 1) := by decide +kernel
theorem dX5_smellOf_65 : decode cX5_smellOf 65 = .ok (.iaload, 1) := by decide +kernel
theorem dX5_smellOf_66 : decode cX5_smellOf 66 = .ok (.isub, 1) := by decide +kernel
theorem dX5_smellOf_67 : decode cX5_smellOf 67 = .ok (.imul, 1) := by decide +kernel
theorem dX5_smellOf_68 : decode cX5_smellOf 68 = .ok (.istore 5, 2) := by decide +kernel
theorem dX5_smellOf_70 : decode cX5_smellOf 70 = .ok (.iload_n 3, 1) := by decide +kernel
theorem dX5_smellOf_71 : decode cX5_smellOf 71 = .ok (.aload_n 0, 1) := by decide +kernel
theorem dX5_smellOf_72 : decode cX5_smellOf 72 = .ok (.getfield 19, 3) := by decide +kernel
theorem dX5_smellOf_75 : decode cX5_smellOf 75 = .ok (.iload 4, 2) := by decide +kernel
theorem dX5_smellOf_77 : decode cX5_smellOf 77 = .ok (.iaload, 1) := by decide +kernel
theorem dX5_smellOf_78 : decode cX5_smellOf 78 = .ok (.iload_n 1, 1) := by decide +kernel
theorem dX5_smellOf_79 : decode cX5_smellOf 79 = .ok (.if_icmp .ne 8, 3) := by decide +kernel
theorem dX5_smellOf_82 : decode cX5_smellOf 82 = .ok (.iload 5, 2) := by decide +kernel
theorem dX5_smellOf_84 : decode cX5_smellOf 84 = .ok (.goto 4, 3) := by decide +kernel
theorem dX5_smellOf_87 : decode cX5_smellOf 87 = .ok (.iconst 0, 1) := by decide +kernel
theorem dX5_smellOf_88 : decode cX5_smellOf 88 = .ok (.iadd, 1) := by decide +kernel
theorem dX5_smellOf_89 : decode cX5_smellOf 89 = .ok (.istore_n 3, 1) := by decide +kernel
theorem dX5_smellOf_90 : decode cX5_smellOf 90 = .ok (.iinc 4 1, 3) := by decide +kernel
theorem dX5_smellOf_93 : decode cX5_smellOf 93 = .ok (.goto (-77), 3) := by decide +kernel
theorem dX5_smellOf_96 : decode cX5_smellOf 96 = .ok (.iload_n 3, 1) := by decide +kernel
theorem dX5_smellOf_97 : decode cX5_smellOf 97 = .ok (.ireturn, 1) := by decide +kernel
theorem dX5_noseOf_0 : decode cX5_noseOf 0 = .ok (.bipush (-9), 2) := by decide +kernel
theorem dX5_noseOf_2 : decode cX5_noseOf 2 = .ok (.istore_n 3, 1) := by decide +kernel
theorem dX5_noseOf_3 : decode cX5_noseOf 3 = .ok (.ldc 100, 2) := by decide +kernel
theorem dX5_noseOf_5 : decode cX5_noseOf 5 = .ok (.istore 4, 2) := by decide +kernel
theorem dX5_noseOf_7 : decode cX5_noseOf 7 = .ok (.iconst 0, 1) := by decide +kernel
theorem dX5_noseOf_8 : decode cX5_noseOf 8 = .ok (.istore 5, 2) := by decide +kernel
theorem dX5_noseOf_10 : decode cX5_noseOf 10 = .ok (.iload 5, 2) := by decide +kernel
theorem dX5_noseOf_12 : decode cX5_noseOf 12 = .ok (.aload_n 0, 1) := by decide +kernel
theorem dX5_noseOf_13 : decode cX5_noseOf 13 = .ok (.getfield 13, 3) := by decide +kernel
theorem dX5_noseOf_16 : decode cX5_noseOf 16 = .ok (.iconst 0, 1) := by decide +kernel
theorem dX5_noseOf_17 : decode cX5_noseOf 17 = .ok (.iaload, 1) := by decide +kernel
theorem dX5_noseOf_18 : decode cX5_noseOf 18 = .ok (.if_icmp .ge 77, 3) := by decide +kernel
theorem dX5_noseOf_21 : decode cX5_noseOf 21 = .ok (.aload_n 0, 1) := by decide +kernel
theorem dX5_noseOf_22 : decode cX5_noseOf 22 = .ok (.iload 5, 2) := by decide +kernel
theorem dX5_noseOf_24 : decode cX5_noseOf 24 = .ok (.iload_n 1, 1) := by decide +kernel
theorem dX5_noseOf_25 : decode cX5_noseOf 25 = .ok (.invokevirtual 107, 3) := by decide +kernel
theorem dX5_noseOf_28 : decode cX5_noseOf 28 = .ok (.iload 5, 2) := by decide +kernel
theorem dX5_noseOf_30 : decode cX5_noseOf 30 = .ok (.aload_n 0, 1) := by decide +kernel
theorem dX5_noseOf_31 : decode cX5_noseOf 31 = .ok (.getfield 32, 3) := by decide +kernel
theorem dX5_noseOf_34 : decode cX5_noseOf 34 = .ok (.if_icmp .ne 28, 3) := by decide +kernel
theorem dX5_noseOf_37 : decode cX5_noseOf 37 = .ok (.bipush 9, 2) := by decide +kernel
theorem dX5_noseOf_39 : decode cX5_noseOf 39 = .ok (.aload_n 0, 1) := by decide +kernel
theorem dX5_noseOf_40 : decode cX5_noseOf 40 = .ok (.getfield 13, 3) := by decide +kernel
theorem dX5_noseOf_43 : decode cX5_noseOf 43 = .ok (.bipush 13, 2) := by decide +kernel
theorem dX5_noseOf_45 : decode cX5_noseOf 45 = .ok (.iload_n 1, 1) := by decide +kernel
theorem dX5_noseOf_46 : decode cX5_noseOf 46 = .ok (.iadd, 1) := by decide +kernel
theorem dX5_noseOf_47 : decode cX5_noseOf 47 = .ok (.iaload, 1) := by decide +kernel
theorem dX5_noseOf_48 : decode cX5_noseOf 48 = .ok (.aload_n 0, 1) := by decide +kernel
theorem dX5_noseOf_49 : decode cX5_noseOf 49 = .ok (.getfield 13, 3) := by decide +kernel
theorem dX5_noseOf_52 : decode cX5_noseOf 52 = .ok (.bipush 19, 2) := by decide +kernel
theorem dX5_noseOf_54 : decode cX5_noseOf 54 = .ok (.iload_n 1, 1) := by decide +kernel
theorem dX5_noseOf_55 : decode cX5_noseOf 55 = .ok (.iadd, 1) := by decide +kernel
theorem dX5_noseOf_56 : decode cX5_noseOf 56 = .ok (.iaload, 1) := by decide +kernel
theorem dX5_noseOf_57 : decode cX5_noseOf 57 = .ok (.isub, 1) := by decide +kernel
theorem dX5_noseOf_58 : decode cX5_noseOf 58 = .ok (.imul, 1) := by decide +kernel
theorem dX5_noseOf_59 : decode cX5_noseOf 59 = .ok (.goto 4, 3) := by decide +kernel
theorem dX5_noseOf_62 : decode cX5_noseOf 62 = .ok (.iconst 0, 1) := by decide +kernel
theorem dX5_noseOf_63 : decode cX5_noseOf 63 = .ok (.iadd, 1) := by decide +kernel
theorem dX5_noseOf_64 : decode cX5_noseOf 64 = .ok (.istore 6, 2) := by decide +kernel
theorem dX5_noseOf_66 : decode cX5_noseOf 66 = .ok (.iload_n 2, 1) := by decide +kernel
theorem dX5_noseOf_67 : decode cX5_noseOf 67 = .ok (.iload 5, 2) := by decide +kernel
theorem dX5_noseOf_69 : decode cX5_noseOf 69 = .ok (.ishr, 1) := by decide +kernel
theorem dX5_noseOf_70 : decode cX5_noseOf 70 = .ok (.iconst 1, 1) := by decide +kernel
theorem dX5_noseOf_71 : decode cX5_noseOf 71 = .ok (.iand, 1) := by decide +kernel
theorem dX5_noseOf_72 : decode cX5_noseOf 72 = .ok (.ifCond .ne 17, 3) := by decide +kernel
theorem dX5_noseOf_75 : decode cX5_noseOf 75 = .ok (.iload 6, 2) := by decide +kernel
theorem dX5_noseOf_77 : decode cX5_noseOf 77 = .ok (.iload 4, 2) := by decide +kernel
theorem dX5_noseOf_79 : decode cX5_noseOf 79 = .ok (.if_icmp .le 10, 3) := by decide +kernel
theorem dX5_noseOf_82 : decode cX5_noseOf 82 = .ok (.iload 5, 2) := by decide +kernel
theorem dX5_noseOf_84 : decode cX5_noseOf 84 = .ok (.istore_n 3, 1) := by decide +kernel
theorem dX5_noseOf_85 : decode cX5_noseOf 85 = .ok (.iload 6, 2) := by decide +kernel
theorem dX5_noseOf_87 : decode cX5_noseOf 87 = .ok (.istore 4, 2) := by decide +kernel
theorem dX5_noseOf_89 : decode cX5_noseOf 89 = .ok (.iinc 5 1, 3) := by decide +kernel
theorem dX5_noseOf_92 : decode cX5_noseOf 92 = .ok (.goto (-82), 3) := by decide +kernel
theorem dX5_noseOf_95 : decode cX5_noseOf 95 = .ok (.iload_n 3, 1) := by decide +kernel
theorem dX5_noseOf_96 : decode cX5_noseOf 96 = .ok (.ireturn, 1) := by decide +kernel
theorem dX5_isOut_0 : decode cX5_isOut 0 = .ok (.aload_n 0, 1) := by decide +kernel
theorem dX5_isOut_1 : decode cX5_isOut 1 = .ok (.getfield 19, 3) := by decide +kernel
theorem dX5_isOut_4 : decode cX5_isOut 4 = .ok (.iload_n 1, 1) := by decide +kernel
theorem dX5_isOut_5 : decode cX5_isOut 5 = .ok (.iaload, 1) := by decide +kernel
theorem dX5_isOut_6 : decode cX5_isOut 6 = .ok (.bipush (-9), 2) := by decide +kernel
theorem dX5_isOut_8 : decode cX5_isOut 8 = .ok (.if_icmp .ne 7, 3) := by decide +kernel
theorem dX5_isOut_11 : decode cX5_isOut 11 = .ok (.iconst 1, 1) := by decide +kernel
theorem dX5_isOut_12 : decode cX5_isOut 12 = .ok (.goto 4, 3) := by decide +kernel
theorem dX5_isOut_15 : decode cX5_isOut 15 = .ok (.iconst 0, 1) := by decide +kernel
theorem dX5_isOut_16 : decode cX5_isOut 16 = .ok (.ireturn, 1) := by decide +kernel
theorem dX5_dough_0 : decode cX5_dough 0 = .ok (.aload_n 0, 1) := by decide +kernel
theorem dX5_dough_1 : decode cX5_dough 1 = .ok (.iload_n 1, 1) := by decide +kernel
theorem dX5_dough_2 : decode cX5_dough 2 = .ok (.invokevirtual 111, 3) := by decide +kernel
theorem dX5_dough_5 : decode cX5_dough 5 = .ok (.ifCond .ne 5, 3) := by decide +kernel
theorem dX5_dough_8 : decode cX5_dough 8 = .ok (.iconst (-1), 1) := by decide +kernel
theorem dX5_dough_9 : decode cX5_dough 9 = .ok (.ireturn, 1) := by decide +kernel
theorem dX5_dough_10 : decode cX5_dough 10 = .ok (.iload_n 2, 1) := by decide +kernel
theorem dX5_dough_11 : decode cX5_dough 11 = .ok (.tableswitch 138 0 7 #[45, 55, 65, 75, 85, 95, 102, 112], 45) := by decide +kernel
theorem dX5_dough_56 : decode cX5_dough 56 = .ok (.aload_n 0, 1) := by decide +kernel
theorem dX5_dough_57 : decode cX5_dough 57 = .ok (.getfield 13, 3) := by decide +kernel
theorem dX5_dough_60 : decode cX5_dough 60 = .ok (.bipush 13, 2) := by decide +kernel
theorem dX5_dough_62 : decode cX5_dough 62 = .ok (.iload_n 1, 1) := by decide +kernel
theorem dX5_dough_63 : decode cX5_dough 63 = .ok (.iadd, 1) := by decide +kernel
theorem dX5_dough_64 : decode cX5_dough 64 = .ok (.iaload, 1) := by decide +kernel
theorem dX5_dough_65 : decode cX5_dough 65 = .ok (.ireturn, 1) := by decide +kernel
theorem dX5_dough_66 : decode cX5_dough 66 = .ok (.aload_n 0, 1) := by decide +kernel
theorem dX5_dough_67 : decode cX5_dough 67 = .ok (.getfield 13, 3) := by decide +kernel
theorem dX5_dough_70 : decode cX5_dough 70 = .ok (.bipush 19, 2) := by decide +kernel
theorem dX5_dough_72 : decode cX5_dough 72 = .ok (.iload_n 1, 1) := by decide +kernel
theorem dX5_dough_73 : decode cX5_dough 73 = .ok (.iadd, 1) := by decide +kernel
theorem dX5_dough_74 : decode cX5_dough 74 = .ok (.iaload, 1) := by decide +kernel
theorem dX5_dough_75 : decode cX5_dough 75 = .ok (.ireturn, 1) := by decide +kernel
theorem dX5_dough_76 : decode cX5_dough 76 = .ok (.aload_n 0, 1) := by decide +kernel
theorem dX5_dough_77 : decode cX5_dough 77 = .ok (.getfield 13, 3) := by decide +kernel
theorem dX5_dough_80 : decode cX5_dough 80 = .ok (.bipush 25, 2) := by decide +kernel
theorem dX5_dough_82 : decode cX5_dough 82 = .ok (.iload_n 1, 1) := by decide +kernel
theorem dX5_dough_83 : decode cX5_dough 83 = .ok (.iadd, 1) := by decide +kernel
theorem dX5_dough_84 : decode cX5_dough 84 = .ok (.iaload, 1) := by decide +kernel
theorem dX5_dough_85 : decode cX5_dough 85 = .ok (.ireturn, 1) := by decide +kernel
theorem dX5_dough_86 : decode cX5_dough 86 = .ok (.aload_n 0, 1) := by decide +kernel
theorem dX5_dough_87 : decode cX5_dough 87 = .ok (.getfield 13, 3) := by decide +kernel
theorem dX5_dough_90 : decode cX5_dough 90 = .ok (.bipush 31, 2) := by decide +kernel
theorem dX5_dough_92 : decode cX5_dough 92 = .ok (.iload_n 1, 1) := by decide +kernel
theorem dX5_dough_93 : decode cX5_dough 93 = .ok (.iadd, 1) := by decide +kernel
theorem dX5_dough_94 : decode cX5_dough 94 = .ok (.iaload, 1) := by decide +kernel
theorem dX5_dough_95 : decode cX5_dough 95 = .ok (.ireturn, 1) := by decide +kernel
theorem dX5_dough_96 : decode cX5_dough 96 = .ok (.aload_n 0, 1) := by decide +kernel
theorem dX5_dough_97 : decode cX5_dough 97 = .ok (.getfield 13, 3) := by decide +kernel
theorem dX5_dough_100 : decode cX5_dough 100 = .ok (.bipush 37, 2) := by decide +kernel
theorem dX5_dough_102 : decode cX5_dough 102 = .ok (.iload_n 1, 1) := by decide +kernel
theorem dX5_dough_103 : decode cX5_dough 103 = .ok (.iadd, 1) := by decide +kernel
theorem dX5_dough_104 : decode cX5_dough 104 = .ok (.iaload, 1) := by decide +kernel
theorem dX5_dough_105 : decode cX5_dough 105 = .ok (.ireturn, 1) := by decide +kernel
theorem dX5_dough_106 : decode cX5_dough 106 = .ok (.aload_n 0, 1) := by decide +kernel
theorem dX5_dough_107 : decode cX5_dough 107 = .ok (.getfield 19, 3) := by decide +kernel
theorem dX5_dough_110 : decode cX5_dough 110 = .ok (.iload_n 1, 1) := by decide +kernel
theorem dX5_dough_111 : decode cX5_dough 111 = .ok (.iaload, 1) := by decide +kernel
theorem dX5_dough_112 : decode cX5_dough 112 = .ok (.ireturn, 1) := by decide +kernel
theorem dX5_dough_113 : decode cX5_dough 113 = .ok (.aload_n 0, 1) := by decide +kernel
theorem dX5_dough_114 : decode cX5_dough 114 = .ok (.getfield 19, 3) := by decide +kernel
theorem dX5_dough_117 : decode cX5_dough 117 = .ok (.bipush 6, 2) := by decide +kernel
theorem dX5_dough_119 : decode cX5_dough 119 = .ok (.iload_n 1, 1) := by decide +kernel
theorem dX5_dough_120 : decode cX5_dough 120 = .ok (.iadd, 1) := by decide +kernel
theorem dX5_dough_121 : decode cX5_dough 121 = .ok (.iaload, 1) := by decide +kernel
theorem dX5_dough_122 : decode cX5_dough 122 = .ok (.ireturn, 1) := by decide +kernel
theorem dX5_dough_123 : decode cX5_dough 123 = .ok (.aload_n 0, 1) := by decide +kernel
theorem dX5_dough_124 : decode cX5_dough 124 = .ok (.iload_n 1, 1) := by decide +kernel
theorem dX5_dough_125 : decode cX5_dough 125 = .ok (.invokevirtual 114, 3) := by decide +kernel
theorem dX5_dough_128 : decode cX5_dough 128 = .ok (.ifCond .eq 18, 3) := by decide +kernel
theorem dX5_dough_131 : decode cX5_dough 131 = .ok (.aload_n 0, 1) := by decide +kernel
theorem dX5_dough_132 : decode cX5_dough 132 = .ok (.iload_n 1, 1) := by decide +kernel
theorem dX5_dough_133 : decode cX5_dough 133 = .ok (.aload_n 0, 1) := by decide +kernel
theorem dX5_dough_134 : decode cX5_dough 134 = .ok (.getfield 19, 3) := by decide +kernel
theorem dX5_dough_137 : decode cX5_dough 137 = .ok (.bipush 12, 2) := by decide +kernel
theorem dX5_dough_139 : decode cX5_dough 139 = .ok (.iaload, 1) := by decide +kernel
theorem dX5_dough_140 : decode cX5_dough 140 = .ok (.invokevirtual 117, 3) := by decide +kernel
theorem dX5_dough_143 : decode cX5_dough 143 = .ok (.goto 5, 3) := by decide +kernel
theorem dX5_dough_146 : decode cX5_dough 146 = .ok (.bipush (-9), 2) := by decide +kernel
theorem dX5_dough_148 : decode cX5_dough 148 = .ok (.ireturn, 1) := by decide +kernel
theorem dX5_dough_149 : decode cX5_dough 149 = .ok (.iconst (-1), 1) := by decide +kernel
theorem dX5_dough_150 : decode cX5_dough 150 = .ok (.ireturn, 1) := by decide +kernel
theorem dX5_smell_0 : decode cX5_smell 0 = .ok (.aload_n 0, 1) := by decide +kernel
theorem dX5_smell_1 : decode cX5_smell 1 = .ok (.iload_n 1, 1) := by decide +kernel
theorem dX5_smell_2 : decode cX5_smell 2 = .ok (.invokevirtual 97, 3) := by decide +kernel
theorem dX5_smell_5 : decode cX5_smell 5 = .ok (.ifCond .eq 20, 3) := by decide +kernel
theorem dX5_smell_8 : decode cX5_smell 8 = .ok (.aload_n 0, 1) := by decide +kernel
theorem dX5_smell_9 : decode cX5_smell 9 = .ok (.iload_n 2, 1) := by decide +kernel
theorem dX5_smell_10 : decode cX5_smell 10 = .ok (.invokevirtual 111, 3) := by decide +kernel
theorem dX5_smell_13 : decode cX5_smell 13 = .ok (.ifCond .eq 12, 3) := by decide +kernel
theorem dX5_smell_16 : decode cX5_smell 16 = .ok (.aload_n 0, 1) := by decide +kernel
theorem dX5_smell_17 : decode cX5_smell 17 = .ok (.iload_n 1, 1) := by decide +kernel
theorem dX5_smell_18 : decode cX5_smell 18 = .ok (.iload_n 2, 1) := by decide +kernel
theorem dX5_smell_19 : decode cX5_smell 19 = .ok (.invokevirtual 107, 3) := by decide +kernel
theorem dX5_smell_22 : decode cX5_smell 22 = .ok (.goto 5, 3) := by decide +kernel
theorem dX5_smell_25 : decode cX5_smell 25 = .ok (.ldc 100, 2) := by decide +kernel
theorem dX5_smell_27 : decode cX5_smell 27 = .ok (.ireturn, 1) := by decide +kernel
theorem dX5_keeps_0 : decode cX5_keeps 0 = .ok (.aload_n 0, 1) := by decide +kernel
theorem dX5_keeps_1 : decode cX5_keeps 1 = .ok (.getfield 19, 3) := by decide +kernel
theorem dX5_keeps_4 : decode cX5_keeps 4 = .ok (.bipush 14, 2) := by decide +kernel
theorem dX5_keeps_6 : decode cX5_keeps 6 = .ok (.iaload, 1) := by decide +kernel
theorem dX5_keeps_7 : decode cX5_keeps 7 = .ok (.bipush 10, 2) := by decide +kernel
theorem dX5_keeps_9 : decode cX5_keeps 9 = .ok (.if_icmp .ne 45, 3) := by decide +kernel
theorem dX5_keeps_12 : decode cX5_keeps 12 = .ok (.bipush 15, 2) := by decide +kernel
theorem dX5_keeps_14 : decode cX5_keeps 14 = .ok (.istore_n 1, 1) := by decide +kernel
theorem dX5_keeps_15 : decode cX5_keeps 15 = .ok (.iload_n 1, 1) := by decide +kernel
theorem dX5_keeps_16 : decode cX5_keeps 16 = .ok (.sipush 141, 3) := by decide +kernel
theorem dX5_keeps_19 : decode cX5_keeps 19 = .ok (.if_icmp .ge 24, 3) := by decide +kernel
theorem dX5_keeps_22 : decode cX5_keeps 22 = .ok (.aload_n 0, 1) := by decide +kernel
theorem dX5_keeps_23 : decode cX5_keeps 23 = .ok (.getfield 19, 3) := by decide +kernel
theorem dX5_keeps_26 : decode cX5_keeps 26 = .ok (.iload_n 1, 1) := by decide +kernel
theorem dX5_keeps_27 : decode cX5_keeps 27 = .ok (.aload_n 0, 1) := by decide +kernel
theorem dX5_keeps_28 : decode cX5_keeps 28 = .ok (.getfield 19, 3) := by decide +kernel
theorem dX5_keeps_31 : decode cX5_keeps 31 = .ok (.iload_n 1, 1) := by decide +kernel
theorem dX5_keeps_32 : decode cX5_keeps 32 = .ok (.bipush 14, 2) := by decide +kernel
theorem dX5_keeps_34 : decode cX5_keeps 34 = .ok (.iadd, 1) := by decide +kernel
theorem dX5_keeps_35 : decode cX5_keeps 35 = .ok (.iaload, 1) := by decide +kernel
theorem dX5_keeps_36 : decode cX5_keeps 36 = .ok (.iastore, 1) := by decide +kernel
theorem dX5_keeps_37 : decode cX5_keeps 37 = .ok (.iinc 1 1, 3) := by decide +kernel
theorem dX5_keeps_40 : decode cX5_keeps 40 = .ok (.goto (-25), 3) := by decide +kernel
theorem dX5_keeps_43 : decode cX5_keeps 43 = .ok (.aload_n 0, 1) := by decide +kernel
theorem dX5_keeps_44 : decode cX5_keeps 44 = .ok (.getfield 19, 3) := by decide +kernel
theorem dX5_keeps_47 : decode cX5_keeps 47 = .ok (.bipush 14, 2) := by decide +kernel
theorem dX5_keeps_49 : decode cX5_keeps 49 = .ok (.dup2, 1) := by decide +kernel
theorem dX5_keeps_50 : decode cX5_keeps 50 = .ok (.iaload, 1) := by decide +kernel
theorem dX5_keeps_51 : decode cX5_keeps 51 = .ok (.iconst 1, 1) := by decide +kernel
theorem dX5_keeps_52 : decode cX5_keeps 52 = .ok (.isub, 1) := by decide +kernel
theorem dX5_keeps_53 : decode cX5_keeps 53 = .ok (.iastore, 1) := by decide +kernel
theorem dX5_keeps_54 : decode cX5_keeps 54 = .ok (.bipush 15, 2) := by decide +kernel
theorem dX5_keeps_56 : decode cX5_keeps 56 = .ok (.bipush 14, 2) := by decide +kernel
theorem dX5_keeps_58 : decode cX5_keeps 58 = .ok (.aload_n 0, 1) := by decide +kernel
theorem dX5_keeps_59 : decode cX5_keeps 59 = .ok (.getfield 19, 3) := by decide +kernel
theorem dX5_keeps_62 : decode cX5_keeps 62 = .ok (.bipush 14, 2) := by decide +kernel
theorem dX5_keeps_64 : decode cX5_keeps 64 = .ok (.iaload, 1) := by decide +kernel
theorem dX5_keeps_65 : decode cX5_keeps 65 = .ok (.imul, 1) := by decide +kernel
theorem dX5_keeps_66 : decode cX5_keeps 66 = .ok (.iadd, 1) := by decide +kernel
theorem dX5_keeps_67 : decode cX5_keeps 67 = .ok (.istore_n 1, 1) := by decide +kernel
theorem dX5_keeps_68 : decode cX5_keeps 68 = .ok (.iconst 0, 1) := by decide +kernel
theorem dX5_keeps_69 : decode cX5_keeps 69 = .ok (.istore_n 2, 1) := by decide +kernel
theorem dX5_keeps_70 : decode cX5_keeps 70 = .ok (.iload_n 2, 1) := by decide +kernel
theorem dX5_keeps_71 : decode cX5_keeps 71 = .ok (.bipush 14, 2) := by decide +kernel
theorem dX5_keeps_73 : decode cX5_keeps 73 = .ok (.if_icmp .ge 23, 3) := by decide +kernel
theorem dX5_keeps_76 : decode cX5_keeps 76 = .ok (.aload_n 0, 1) := by decide +kernel
theorem dX5_keeps_77 : decode cX5_keeps 77 = .ok (.getfield 19, 3) := by decide +kernel
theorem dX5_keeps_80 : decode cX5_keeps 80 = .ok (.iload_n 1, 1) := by decide +kernel
theorem dX5_keeps_81 : decode cX5_keeps 81 = .ok (.iload_n 2, 1) := by decide +kernel
theorem dX5_keeps_82 : decode cX5_keeps 82 = .ok (.iadd, 1) := by decide +kernel
theorem dX5_keeps_83 : decode cX5_keeps 83 = .ok (.aload_n 0, 1) := by decide +kernel
theorem dX5_keeps_84 : decode cX5_keeps 84 = .ok (.getfield 19, 3) := by decide +kernel
theorem dX5_keeps_87 : decode cX5_keeps 87 = .ok (.iload_n 2, 1) := by decide +kernel
theorem dX5_keeps_88 : decode cX5_keeps 88 = .ok (.iaload, 1) := by decide +kernel
theorem dX5_keeps_89 : decode cX5_keeps 89 = .ok (.iastore, 1) := by decide +kernel
theorem dX5_keeps_90 : decode cX5_keeps 90 = .ok (.iinc 2 1, 3) := by decide +kernel
theorem dX5_keeps_93 : decode cX5_keeps 93 = .ok (.goto (-23), 3) := by decide +kernel
theorem dX5_keeps_96 : decode cX5_keeps 96 = .ok (.aload_n 0, 1) := by decide +kernel
theorem dX5_keeps_97 : decode cX5_keeps 97 = .ok (.getfield 19, 3) := by decide +kernel
theorem dX5_keeps_100 : decode cX5_keeps 100 = .ok (.bipush 14, 2) := by decide +kernel
theorem dX5_keeps_102 : decode cX5_keeps 102 = .ok (.dup2, 1) := by decide +kernel
theorem dX5_keeps_103 : decode cX5_keeps 103 = .ok (.iaload, 1) := by decide +kernel
theorem dX5_keeps_104 : decode cX5_keeps 104 = .ok (.iconst 1, 1) := by decide +kernel
theorem dX5_keeps_105 : decode cX5_keeps 105 = .ok (.iadd, 1) := by decide +kernel
theorem dX5_keeps_106 : decode cX5_keeps 106 = .ok (.iastore, 1) := by decide +kernel
theorem dX5_keeps_107 : decode cX5_keeps 107 = .ok (.return_, 1) := by decide +kernel
theorem dX5_mayGo_0 : decode cX5_mayGo 0 = .ok (.aload_n 0, 1) := by decide +kernel
theorem dX5_mayGo_1 : decode cX5_mayGo 1 = .ok (.iload_n 1, 1) := by decide +kernel
theorem dX5_mayGo_2 : decode cX5_mayGo 2 = .ok (.invokevirtual 114, 3) := by decide +kernel
theorem dX5_mayGo_5 : decode cX5_mayGo 5 = .ok (.ifCond .eq 38, 3) := by decide +kernel
theorem dX5_mayGo_8 : decode cX5_mayGo 8 = .ok (.aload_n 0, 1) := by decide +kernel
theorem dX5_mayGo_9 : decode cX5_mayGo 9 = .ok (.getfield 19, 3) := by decide +kernel
theorem dX5_mayGo_12 : decode cX5_mayGo 12 = .ok (.bipush 13, 2) := by decide +kernel
theorem dX5_mayGo_14 : decode cX5_mayGo 14 = .ok (.iaload, 1) := by decide +kernel
theorem dX5_mayGo_15 : decode cX5_mayGo 15 = .ok (.aload_n 0, 1) := by decide +kernel
theorem dX5_mayGo_16 : decode cX5_mayGo 16 = .ok (.getfield 13, 3) := by decide +kernel
theorem dX5_mayGo_19 : decode cX5_mayGo 19 = .ok (.bipush 31, 2) := by decide +kernel
theorem dX5_mayGo_21 : decode cX5_mayGo 21 = .ok (.iload_n 1, 1) := by decide +kernel
theorem dX5_mayGo_22 : decode cX5_mayGo 22 = .ok (.iadd, 1) := by decide +kernel
theorem dX5_mayGo_23 : decode cX5_mayGo 23 = .ok (.iaload, 1) := by decide +kernel
theorem dX5_mayGo_24 : decode cX5_mayGo 24 = .ok (.aload_n 0, 1) := by decide +kernel
theorem dX5_mayGo_25 : decode cX5_mayGo 25 = .ok (.getfield 13, 3) := by decide +kernel
theorem dX5_mayGo_28 : decode cX5_mayGo 28 = .ok (.bipush 37, 2) := by decide +kernel
theorem dX5_mayGo_30 : decode cX5_mayGo 30 = .ok (.iload_n 1, 1) := by decide +kernel
theorem dX5_mayGo_31 : decode cX5_mayGo 31 = .ok (.iadd, 1) := by decide +kernel
theorem dX5_mayGo_32 : decode cX5_mayGo 32 = .ok (.iaload, 1) := by decide +kernel
theorem dX5_mayGo_33 : decode cX5_mayGo 33 = .ok (.invokestatic 49, 3) := by decide +kernel
theorem dX5_mayGo_36 : decode cX5_mayGo 36 = .ok (.ifCond .eq 7, 3) := by decide +kernel
theorem dX5_mayGo_39 : decode cX5_mayGo 39 = .ok (.iconst 1, 1) := by decide +kernel
theorem dX5_mayGo_40 : decode cX5_mayGo 40 = .ok (.goto 4, 3) := by decide +kernel
theorem dX5_mayGo_43 : decode cX5_mayGo 43 = .ok (.iconst 0, 1) := by decide +kernel
theorem dX5_mayGo_44 : decode cX5_mayGo 44 = .ok (.ireturn, 1) := by decide +kernel
theorem dX5_follows_0 : decode cX5_follows 0 = .ok (.aload_n 0, 1) := by decide +kernel
theorem dX5_follows_1 : decode cX5_follows 1 = .ok (.iload_n 1, 1) := by decide +kernel
theorem dX5_follows_2 : decode cX5_follows 2 = .ok (.invokevirtual 111, 3) := by decide +kernel
theorem dX5_follows_5 : decode cX5_follows 5 = .ok (.ifCond .ne 5, 3) := by decide +kernel
theorem dX5_follows_8 : decode cX5_follows 8 = .ok (.iconst (-1), 1) := by decide +kernel
theorem dX5_follows_9 : decode cX5_follows 9 = .ok (.ireturn, 1) := by decide +kernel
theorem dX5_follows_10 : decode cX5_follows 10 = .ok (.aload_n 0, 1) := by decide +kernel
theorem dX5_follows_11 : decode cX5_follows 11 = .ok (.iload_n 1, 1) := by decide +kernel
theorem dX5_follows_12 : decode cX5_follows 12 = .ok (.aload_n 0, 1) := by decide +kernel
theorem dX5_follows_13 : decode cX5_follows 13 = .ok (.getfield 19, 3) := by decide +kernel
theorem dX5_follows_16 : decode cX5_follows 16 = .ok (.bipush 12, 2) := by decide +kernel
theorem dX5_follows_18 : decode cX5_follows 18 = .ok (.iaload, 1) := by decide +kernel
theorem dX5_follows_19 : decode cX5_follows 19 = .ok (.invokevirtual 117, 3) := by decide +kernel
theorem dX5_follows_22 : decode cX5_follows 22 = .ok (.istore_n 2, 1) := by decide +kernel
theorem dX5_follows_23 : decode cX5_follows 23 = .ok (.aload_n 0, 1) := by decide +kernel
theorem dX5_follows_24 : decode cX5_follows 24 = .ok (.iload_n 1, 1) := by decide +kernel
theorem dX5_follows_25 : decode cX5_follows 25 = .ok (.invokevirtual 120, 3) := by decide +kernel
theorem dX5_follows_28 : decode cX5_follows 28 = .ok (.ifCond .eq 9, 3) := by decide +kernel
theorem dX5_follows_31 : decode cX5_follows 31 = .ok (.iload_n 2, 1) := by decide +kernel
theorem dX5_follows_32 : decode cX5_follows 32 = .ok (.bipush (-9), 2) := by decide +kernel
theorem dX5_follows_34 : decode cX5_follows 34 = .ok (.if_icmp .ne 6, 3) := by decide +kernel
theorem dX5_follows_37 : decode cX5_follows 37 = .ok (.bipush (-2), 2) := by decide +kernel
theorem dX5_follows_39 : decode cX5_follows 39 = .ok (.ireturn, 1) := by decide +kernel
theorem dX5_follows_40 : decode cX5_follows 40 = .ok (.aload_n 0, 1) := by decide +kernel
theorem dX5_follows_41 : decode cX5_follows 41 = .ok (.invokevirtual 123, 3) := by decide +kernel
theorem dX5_follows_44 : decode cX5_follows 44 = .ok (.aload_n 0, 1) := by decide +kernel
theorem dX5_follows_45 : decode cX5_follows 45 = .ok (.getfield 19, 3) := by decide +kernel
theorem dX5_follows_48 : decode cX5_follows 48 = .ok (.iload_n 1, 1) := by decide +kernel
theorem dX5_follows_49 : decode cX5_follows 49 = .ok (.iload_n 2, 1) := by decide +kernel
theorem dX5_follows_50 : decode cX5_follows 50 = .ok (.iastore, 1) := by decide +kernel
theorem dX5_follows_51 : decode cX5_follows 51 = .ok (.iload_n 2, 1) := by decide +kernel
theorem dX5_follows_52 : decode cX5_follows 52 = .ok (.ireturn, 1) := by decide +kernel
theorem dX5_puts_0 : decode cX5_puts 0 = .ok (.aload_n 0, 1) := by decide +kernel
theorem dX5_puts_1 : decode cX5_puts 1 = .ok (.iload_n 1, 1) := by decide +kernel
theorem dX5_puts_2 : decode cX5_puts 2 = .ok (.invokevirtual 111, 3) := by decide +kernel
theorem dX5_puts_5 : decode cX5_puts 5 = .ok (.ifCond .eq 11, 3) := by decide +kernel
theorem dX5_puts_8 : decode cX5_puts 8 = .ok (.aload_n 0, 1) := by decide +kernel
theorem dX5_puts_9 : decode cX5_puts 9 = .ok (.iload_n 2, 1) := by decide +kernel
theorem dX5_puts_10 : decode cX5_puts 10 = .ok (.invokevirtual 97, 3) := by decide +kernel
theorem dX5_puts_13 : decode cX5_puts 13 = .ok (.ifCond .ne 5, 3) := by decide +kernel
theorem dX5_puts_16 : decode cX5_puts 16 = .ok (.iconst (-1), 1) := by decide +kernel
theorem dX5_puts_17 : decode cX5_puts 17 = .ok (.ireturn, 1) := by decide +kernel
theorem dX5_puts_18 : decode cX5_puts 18 = .ok (.aload_n 0, 1) := by decide +kernel
theorem dX5_puts_19 : decode cX5_puts 19 = .ok (.iload_n 1, 1) := by decide +kernel
theorem dX5_puts_20 : decode cX5_puts 20 = .ok (.invokevirtual 120, 3) := by decide +kernel
theorem dX5_puts_23 : decode cX5_puts 23 = .ok (.ifCond .eq 11, 3) := by decide +kernel
theorem dX5_puts_26 : decode cX5_puts 26 = .ok (.aload_n 0, 1) := by decide +kernel
theorem dX5_puts_27 : decode cX5_puts 27 = .ok (.iload_n 2, 1) := by decide +kernel
theorem dX5_puts_28 : decode cX5_puts 28 = .ok (.invokevirtual 104, 3) := by decide +kernel
theorem dX5_puts_31 : decode cX5_puts 31 = .ok (.ifCond .eq 6, 3) := by decide +kernel
theorem dX5_puts_34 : decode cX5_puts 34 = .ok (.bipush (-2), 2) := by decide +kernel
theorem dX5_puts_36 : decode cX5_puts 36 = .ok (.ireturn, 1) := by decide +kernel
theorem dX5_puts_37 : decode cX5_puts 37 = .ok (.aload_n 0, 1) := by decide +kernel
theorem dX5_puts_38 : decode cX5_puts 38 = .ok (.invokevirtual 123, 3) := by decide +kernel
theorem dX5_puts_41 : decode cX5_puts 41 = .ok (.aload_n 0, 1) := by decide +kernel
theorem dX5_puts_42 : decode cX5_puts 42 = .ok (.getfield 19, 3) := by decide +kernel
theorem dX5_puts_45 : decode cX5_puts 45 = .ok (.iload_n 1, 1) := by decide +kernel
theorem dX5_puts_46 : decode cX5_puts 46 = .ok (.iload_n 2, 1) := by decide +kernel
theorem dX5_puts_47 : decode cX5_puts 47 = .ok (.iastore, 1) := by decide +kernel
theorem dX5_puts_48 : decode cX5_puts 48 = .ok (.aload_n 0, 1) := by decide +kernel
theorem dX5_puts_49 : decode cX5_puts 49 = .ok (.iload_n 2, 1) := by decide +kernel
theorem dX5_puts_50 : decode cX5_puts 50 = .ok (.invokevirtual 91, 3) := by decide +kernel
theorem dX5_puts_53 : decode cX5_puts 53 = .ok (.invokestatic 94, 3) := by decide +kernel
theorem dX5_puts_56 : decode cX5_puts 56 = .ok (.ireturn, 1) := by decide +kernel
theorem dX5_passes_0 : decode cX5_passes 0 = .ok (.iconst 0, 1) := by decide +kernel
theorem dX5_passes_1 : decode cX5_passes 1 = .ok (.istore_n 1, 1) := by decide +kernel
theorem dX5_passes_2 : decode cX5_passes 2 = .ok (.iconst 0, 1) := by decide +kernel
theorem dX5_passes_3 : decode cX5_passes 3 = .ok (.istore_n 2, 1) := by decide +kernel
theorem dX5_passes_4 : decode cX5_passes 4 = .ok (.iload_n 2, 1) := by decide +kernel
theorem dX5_passes_5 : decode cX5_passes 5 = .ok (.aload_n 0, 1) := by decide +kernel
theorem dX5_passes_6 : decode cX5_passes 6 = .ok (.getfield 13, 3) := by decide +kernel
theorem dX5_passes_9 : decode cX5_passes 9 = .ok (.iconst 1, 1) := by decide +kernel
theorem dX5_passes_10 : decode cX5_passes 10 = .ok (.iaload, 1) := by decide +kernel
theorem dX5_passes_11 : decode cX5_passes 11 = .ok (.if_icmp .ge 44, 3) := by decide +kernel
theorem dX5_passes_14 : decode cX5_passes 14 = .ok (.aload_n 0, 1) := by decide +kernel
theorem dX5_passes_15 : decode cX5_passes 15 = .ok (.getfield 19, 3) := by decide +kernel
theorem dX5_passes_18 : decode cX5_passes 18 = .ok (.bipush 6, 2) := by decide +kernel
theorem dX5_passes_20 : decode cX5_passes 20 = .ok (.iload_n 2, 1) := by decide +kernel
theorem dX5_passes_21 : decode cX5_passes 21 = .ok (.iadd, 1) := by decide +kernel
theorem dX5_passes_22 : decode cX5_passes 22 = .ok (.dup2, 1) := by decide +kernel
theorem dX5_passes_23 : decode cX5_passes 23 = .ok (.iaload, 1) := by decide +kernel
theorem dX5_passes_24 : decode cX5_passes 24 = .ok (.aload_n 0, 1) := by decide +kernel
theorem dX5_passes_25 : decode cX5_passes 25 = .ok (.getfield 19, 3) := by decide +kernel
theorem dX5_passes_28 : decode cX5_passes 28 = .ok (.iload_n 2, 1) := by decide +kernel
theorem dX5_passes_29 : decode cX5_passes 29 = .ok (.iaload, 1) := by decide +kernel
theorem dX5_passes_30 : decode cX5_passes 30 = .ok (.ifCond .lt 16, 3) := by decide +kernel
theorem dX5_passes_33 : decode cX5_passes 33 = .ok (.aload_n 0, 1) := by decide +kernel
theorem dX5_passes_34 : decode cX5_passes 34 = .ok (.aload_n 0, 1) := by decide +kernel
theorem dX5_passes_35 : decode cX5_passes 35 = .ok (.getfield 19, 3) := by decide +kernel
theorem dX5_passes_38 : decode cX5_passes 38 = .ok (.iload_n 2, 1) := by decide +kernel
theorem dX5_passes_39 : decode cX5_passes 39 = .ok (.iaload, 1) := by decide +kernel
theorem dX5_passes_40 : decode cX5_passes 40 = .ok (.invokevirtual 101, 3) := by decide +kernel
theorem dX5_passes_43 : decode cX5_passes 43 = .ok (.goto 4, 3) := by decide +kernel
theorem dX5_passes_46 : decode cX5_passes 46 = .ok (.iconst 0, 1) := by decide +kernel
theorem dX5_passes_47 : decode cX5_passes 47 = .ok (.iadd, 1) := by decide +kernel
theorem dX5_passes_48 : decode cX5_passes 48 = .ok (.iastore, 1) := by decide +kernel
theorem dX5_passes_49 : decode cX5_passes 49 = .ok (.iinc 2 1, 3) := by decide +kernel
theorem dX5_passes_52 : decode cX5_passes 52 = .ok (.goto (-48), 3) := by decide +kernel
theorem dX5_passes_55 : decode cX5_passes 55 = .ok (.iconst 0, 1) := by decide +kernel
theorem dX5_passes_56 : decode cX5_passes 56 = .ok (.istore_n 2, 1) := by decide +kernel
theorem dX5_passes_57 : decode cX5_passes 57 = .ok (.iload_n 2, 1) := by decide +kernel
theorem dX5_passes_58 : decode cX5_passes 58 = .ok (.aload_n 0, 1) := by decide +kernel
theorem dX5_passes_59 : decode cX5_passes 59 = .ok (.getfield 13, 3) := by decide +kernel
theorem dX5_passes_62 : decode cX5_passes 62 = .ok (.iconst 1, 1) := by decide +kernel
theorem dX5_passes_63 : decode cX5_passes 63 = .ok (.iaload, 1) := by decide +kernel
theorem dX5_passes_64 : decode cX5_passes 64 = .ok (.if_icmp .ge 50, 3) := by decide +kernel
theorem dX5_passes_67 : decode cX5_passes 67 = .ok (.aload_n 0, 1) := by decide +kernel
theorem dX5_passes_68 : decode cX5_passes 68 = .ok (.getfield 19, 3) := by decide +kernel
theorem dX5_passes_71 : decode cX5_passes 71 = .ok (.iload_n 2, 1) := by decide +kernel
theorem dX5_passes_72 : decode cX5_passes 72 = .ok (.iaload, 1) := by decide +kernel
theorem dX5_passes_73 : decode cX5_passes 73 = .ok (.ifCond .lt 35, 3) := by decide +kernel
theorem dX5_passes_76 : decode cX5_passes 76 = .ok (.aload_n 0, 1) := by decide +kernel
theorem dX5_passes_77 : decode cX5_passes 77 = .ok (.getfield 19, 3) := by decide +kernel
theorem dX5_passes_80 : decode cX5_passes 80 = .ok (.bipush 6, 2) := by decide +kernel
theorem dX5_passes_82 : decode cX5_passes 82 = .ok (.iload_n 2, 1) := by decide +kernel
theorem dX5_passes_83 : decode cX5_passes 83 = .ok (.iadd, 1) := by decide +kernel
theorem dX5_passes_84 : decode cX5_passes 84 = .ok (.iaload, 1) := by decide +kernel
theorem dX5_passes_85 : decode cX5_passes 85 = .ok (.aload_n 0, 1) := by decide +kernel
theorem dX5_passes_86 : decode cX5_passes 86 = .ok (.getfield 13, 3) := by decide +kernel
theorem dX5_passes_89 : decode cX5_passes 89 = .ok (.bipush 25, 2) := by decide +kernel
theorem dX5_passes_91 : decode cX5_passes 91 = .ok (.iload_n 2, 1) := by decide +kernel
theorem dX5_passes_92 : decode cX5_passes 92 = .ok (.iadd, 1) := by decide +kernel
theorem dX5_passes_93 : decode cX5_passes 93 = .ok (.iaload, 1) := by decide +kernel
theorem dX5_passes_94 : decode cX5_passes 94 = .ok (.if_icmp .lt 14, 3) := by decide +kernel
theorem dX5_passes_97 : decode cX5_passes 97 = .ok (.aload_n 0, 1) := by decide +kernel
theorem dX5_passes_98 : decode cX5_passes 98 = .ok (.getfield 19, 3) := by decide +kernel
theorem dX5_passes_101 : decode cX5_passes 101 = .ok (.iload_n 2, 1) := by decide +kernel
theorem dX5_passes_102 : decode cX5_passes 102 = .ok (.bipush (-5), 2) := by decide +kernel
theorem dX5_passes_104 : decode cX5_passes 104 = .ok (.iastore, 1) := by decide +kernel
theorem dX5_passes_105 : decode cX5_passes 105 = .ok (.iinc 1 1, 3) := by decide +kernel
theorem dX5_passes_108 : decode cX5_passes 108 = .ok (.iinc 2 1, 3) := by decide +kernel
theorem dX5_passes_111 : decode cX5_passes 111 = .ok (.goto (-54), 3) := by decide +kernel
theorem dX5_passes_114 : decode cX5_passes 114 = .ok (.aload_n 0, 1) := by decide +kernel
theorem dX5_passes_115 : decode cX5_passes 115 = .ok (.getfield 19, 3) := by decide +kernel
theorem dX5_passes_118 : decode cX5_passes 118 = .ok (.bipush 13, 2) := by decide +kernel
theorem dX5_passes_120 : decode cX5_passes 120 = .ok (.dup2, 1) := by decide +kernel
theorem dX5_passes_121 : decode cX5_passes 121 = .ok (.iaload, 1) := by decide +kernel
theorem dX5_passes_122 : decode cX5_passes 122 = .ok (.iconst 1, 1) := by decide +kernel
theorem dX5_passes_123 : decode cX5_passes 123 = .ok (.iadd, 1) := by decide +kernel
theorem dX5_passes_124 : decode cX5_passes 124 = .ok (.iastore, 1) := by decide +kernel
theorem dX5_passes_125 : decode cX5_passes 125 = .ok (.iload_n 1, 1) := by decide +kernel
theorem dX5_passes_126 : decode cX5_passes 126 = .ok (.ireturn, 1) := by decide +kernel
theorem dX5_minutes_0 : decode cX5_minutes 0 = .ok (.iload_n 1, 1) := by decide +kernel
theorem dX5_minutes_1 : decode cX5_minutes 1 = .ok (.iconst 1, 1) := by decide +kernel
theorem dX5_minutes_2 : decode cX5_minutes 2 = .ok (.bipush 60, 2) := by decide +kernel
theorem dX5_minutes_4 : decode cX5_minutes 4 = .ok (.invokestatic 49, 3) := by decide +kernel
theorem dX5_minutes_7 : decode cX5_minutes 7 = .ok (.ifCond .ne 5, 3) := by decide +kernel
theorem dX5_minutes_10 : decode cX5_minutes 10 = .ok (.iconst (-1), 1) := by decide +kernel
theorem dX5_minutes_11 : decode cX5_minutes 11 = .ok (.ireturn, 1) := by decide +kernel
theorem dX5_minutes_12 : decode cX5_minutes 12 = .ok (.aload_n 0, 1) := by decide +kernel
theorem dX5_minutes_13 : decode cX5_minutes 13 = .ok (.getfield 19, 3) := by decide +kernel
theorem dX5_minutes_16 : decode cX5_minutes 16 = .ok (.bipush 13, 2) := by decide +kernel
theorem dX5_minutes_18 : decode cX5_minutes 18 = .ok (.iaload, 1) := by decide +kernel
theorem dX5_minutes_19 : decode cX5_minutes 19 = .ok (.iload_n 1, 1) := by decide +kernel
theorem dX5_minutes_20 : decode cX5_minutes 20 = .ok (.iadd, 1) := by decide +kernel
theorem dX5_minutes_21 : decode cX5_minutes 21 = .ok (.sipush 999, 3) := by decide +kernel
theorem dX5_minutes_24 : decode cX5_minutes 24 = .ok (.if_icmp .le 6, 3) := by decide +kernel
theorem dX5_minutes_27 : decode cX5_minutes 27 = .ok (.bipush (-2), 2) := by decide +kernel
theorem dX5_minutes_29 : decode cX5_minutes 29 = .ok (.ireturn, 1) := by decide +kernel
theorem dX5_minutes_30 : decode cX5_minutes 30 = .ok (.aload_n 0, 1) := by decide +kernel
theorem dX5_minutes_31 : decode cX5_minutes 31 = .ok (.invokevirtual 123, 3) := by decide +kernel
theorem dX5_minutes_34 : decode cX5_minutes 34 = .ok (.iconst 0, 1) := by decide +kernel
theorem dX5_minutes_35 : decode cX5_minutes 35 = .ok (.istore_n 2, 1) := by decide +kernel
theorem dX5_minutes_36 : decode cX5_minutes 36 = .ok (.iconst 0, 1) := by decide +kernel
theorem dX5_minutes_37 : decode cX5_minutes 37 = .ok (.istore_n 3, 1) := by decide +kernel
theorem dX5_minutes_38 : decode cX5_minutes 38 = .ok (.iload_n 3, 1) := by decide +kernel
theorem dX5_minutes_39 : decode cX5_minutes 39 = .ok (.iload_n 1, 1) := by decide +kernel
theorem dX5_minutes_40 : decode cX5_minutes 40 = .ok (.if_icmp .ge 16, 3) := by decide +kernel
theorem dX5_minutes_43 : decode cX5_minutes 43 = .ok (.iload_n 2, 1) := by decide +kernel
theorem dX5_minutes_44 : decode cX5_minutes 44 = .ok (.aload_n 0, 1) := by decide +kernel
theorem dX5_minutes_45 : decode cX5_minutes 45 = .ok (.invokevirtual 126, 3) := by decide +kernel
theorem dX5_minutes_48 : decode cX5_minutes 48 = .ok (.iadd, 1) := by decide +kernel
theorem dX5_minutes_49 : decode cX5_minutes 49 = .ok (.istore_n 2, 1) := by decide +kernel
