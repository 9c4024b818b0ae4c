theorem dX5_minutes_50 : decode cX5_minutes 50 = .ok (.iinc 3 1, 3) := by decide +kernel
theorem dX5_minutes_53 : decode cX5_minutes 53 = .ok (.goto (-15), 3) := by decide +kernel
theorem dX5_minutes_56 : decode cX5_minutes 56 = .ok (.iload_n 2, 1) := by decide +kernel
theorem dX5_minutes_57 : decode cX5_minutes 57 = .ok (.ireturn, 1) := by decide +kernel
theorem dX5_shuts_0 : decode cX5_shuts 0 = .ok (.aload_n 0, 1) := by decide +kernel
theorem dX5_shuts_1 : decode cX5_shuts 1 = .ok (.iload_n 1, 1) := by decide +kernel
theorem dX5_shuts_2 : decode cX5_shuts 2 = .ok (.invokevirtual 97, 3) := by decide +kernel
theorem dX5_shuts_5 : decode cX5_shuts 5 = .ok (.ifCond .eq 12, 3) := by decide +kernel
theorem dX5_shuts_8 : decode cX5_shuts 8 = .ok (.iload_n 2, 1) := by decide +kernel
theorem dX5_shuts_9 : decode cX5_shuts 9 = .ok (.iconst 0, 1) := by decide +kernel
theorem dX5_shuts_10 : decode cX5_shuts 10 = .ok (.iconst 1, 1) := by decide +kernel
theorem dX5_shuts_11 : decode cX5_shuts 11 = .ok (.invokestatic 49, 3) := by decide +kernel
theorem dX5_shuts_14 : decode cX5_shuts 14 = .ok (.ifCond .ne 5, 3) := by decide +kernel
theorem dX5_shuts_17 : decode cX5_shuts 17 = .ok (.iconst (-1), 1) := by decide +kernel
theorem dX5_shuts_18 : decode cX5_shuts 18 = .ok (.ireturn, 1) := by decide +kernel
theorem dX5_shuts_19 : decode cX5_shuts 19 = .ok (.aload_n 0, 1) := by decide +kernel
theorem dX5_shuts_20 : decode cX5_shuts 20 = .ok (.getfield 19, 3) := by decide +kernel
theorem dX5_shuts_23 : decode cX5_shuts 23 = .ok (.bipush 12, 2) := by decide +kernel
theorem dX5_shuts_25 : decode cX5_shuts 25 = .ok (.iaload, 1) := by decide +kernel
theorem dX5_shuts_26 : decode cX5_shuts 26 = .ok (.iload_n 1, 1) := by decide +kernel
theorem dX5_shuts_27 : decode cX5_shuts 27 = .ok (.ishr, 1) := by decide +kernel
theorem dX5_shuts_28 : decode cX5_shuts 28 = .ok (.iconst 1, 1) := by decide +kernel
theorem dX5_shuts_29 : decode cX5_shuts 29 = .ok (.iand, 1) := by decide +kernel
theorem dX5_shuts_30 : decode cX5_shuts 30 = .ok (.iload_n 2, 1) := by decide +kernel
theorem dX5_shuts_31 : decode cX5_shuts 31 = .ok (.if_icmp .ne 6, 3) := by decide +kernel
theorem dX5_shuts_34 : decode cX5_shuts 34 = .ok (.bipush (-2), 2) := by decide +kernel
theorem dX5_shuts_36 : decode cX5_shuts 36 = .ok (.ireturn, 1) := by decide +kernel
theorem dX5_shuts_37 : decode cX5_shuts 37 = .ok (.aload_n 0, 1) := by decide +kernel
theorem dX5_shuts_38 : decode cX5_shuts 38 = .ok (.invokevirtual 123, 3) := by decide +kernel
theorem dX5_shuts_41 : decode cX5_shuts 41 = .ok (.aload_n 0, 1) := by decide +kernel
theorem dX5_shuts_42 : decode cX5_shuts 42 = .ok (.getfield 19, 3) := by decide +kernel
theorem dX5_shuts_45 : decode cX5_shuts 45 = .ok (.bipush 12, 2) := by decide +kernel
theorem dX5_shuts_47 : decode cX5_shuts 47 = .ok (.dup2, 1) := by decide +kernel
theorem dX5_shuts_48 : decode cX5_shuts 48 = .ok (.iaload, 1) := by decide +kernel
theorem dX5_shuts_49 : decode cX5_shuts 49 = .ok (.iconst 1, 1) := by decide +kernel
theorem dX5_shuts_50 : decode cX5_shuts 50 = .ok (.iload_n 1, 1) := by decide +kernel
theorem dX5_shuts_51 : decode cX5_shuts 51 = .ok (.ishl, 1) := by decide +kernel
theorem dX5_shuts_52 : decode cX5_shuts 52 = .ok (.ixor, 1) := by decide +kernel
theorem dX5_shuts_53 : decode cX5_shuts 53 = .ok (.iastore, 1) := by decide +kernel
theorem dX5_shuts_54 : decode cX5_shuts 54 = .ok (.aload_n 0, 1) := by decide +kernel
theorem dX5_shuts_55 : decode cX5_shuts 55 = .ok (.getfield 19, 3) := by decide +kernel
theorem dX5_shuts_58 : decode cX5_shuts 58 = .ok (.bipush 12, 2) := by decide +kernel
theorem dX5_shuts_60 : decode cX5_shuts 60 = .ok (.iaload, 1) := by decide +kernel
theorem dX5_shuts_61 : decode cX5_shuts 61 = .ok (.invokestatic 94, 3) := by decide +kernel
theorem dX5_shuts_64 : decode cX5_shuts 64 = .ok (.ireturn, 1) := by decide +kernel
theorem dX5_undo_0 : decode cX5_undo 0 = .ok (.aload_n 0, 1) := by decide +kernel
theorem dX5_undo_1 : decode cX5_undo 1 = .ok (.getfield 19, 3) := by decide +kernel
theorem dX5_undo_4 : decode cX5_undo 4 = .ok (.bipush 14, 2) := by decide +kernel
theorem dX5_undo_6 : decode cX5_undo 6 = .ok (.iaload, 1) := by decide +kernel
theorem dX5_undo_7 : decode cX5_undo 7 = .ok (.ifCond .ne 6, 3) := by decide +kernel
theorem dX5_undo_10 : decode cX5_undo 10 = .ok (.bipush (-2), 2) := by decide +kernel
theorem dX5_undo_12 : decode cX5_undo 12 = .ok (.ireturn, 1) := by decide +kernel
theorem dX5_undo_13 : decode cX5_undo 13 = .ok (.aload_n 0, 1) := by decide +kernel
theorem dX5_undo_14 : decode cX5_undo 14 = .ok (.getfield 19, 3) := by decide +kernel
theorem dX5_undo_17 : decode cX5_undo 17 = .ok (.bipush 14, 2) := by decide +kernel
theorem dX5_undo_19 : decode cX5_undo 19 = .ok (.dup2, 1) := by decide +kernel
theorem dX5_undo_20 : decode cX5_undo 20 = .ok (.iaload, 1) := by decide +kernel
theorem dX5_undo_21 : decode cX5_undo 21 = .ok (.iconst 1, 1) := by decide +kernel
theorem dX5_undo_22 : decode cX5_undo 22 = .ok (.isub, 1) := by decide +kernel
theorem dX5_undo_23 : decode cX5_undo 23 = .ok (.iastore, 1) := by decide +kernel
theorem dX5_undo_24 : decode cX5_undo 24 = .ok (.bipush 15, 2) := by decide +kernel
theorem dX5_undo_26 : decode cX5_undo 26 = .ok (.bipush 14, 2) := by decide +kernel
theorem dX5_undo_28 : decode cX5_undo 28 = .ok (.aload_n 0, 1) := by decide +kernel
theorem dX5_undo_29 : decode cX5_undo 29 = .ok (.getfield 19, 3) := by decide +kernel
theorem dX5_undo_32 : decode cX5_undo 32 = .ok (.bipush 14, 2) := by decide +kernel
theorem dX5_undo_34 : decode cX5_undo 34 = .ok (.iaload, 1) := by decide +kernel
theorem dX5_undo_35 : decode cX5_undo 35 = .ok (.imul, 1) := by decide +kernel
theorem dX5_undo_36 : decode cX5_undo 36 = .ok (.iadd, 1) := by decide +kernel
theorem dX5_undo_37 : decode cX5_undo 37 = .ok (.istore_n 1, 1) := by decide +kernel
theorem dX5_undo_38 : decode cX5_undo 38 = .ok (.iconst 0, 1) := by decide +kernel
theorem dX5_undo_39 : decode cX5_undo 39 = .ok (.istore_n 2, 1) := by decide +kernel
theorem dX5_undo_40 : decode cX5_undo 40 = .ok (.iload_n 2, 1) := by decide +kernel
theorem dX5_undo_41 : decode cX5_undo 41 = .ok (.bipush 14, 2) := by decide +kernel
theorem dX5_undo_43 : decode cX5_undo 43 = .ok (.if_icmp .ge 23, 3) := by decide +kernel
theorem dX5_undo_46 : decode cX5_undo 46 = .ok (.aload_n 0, 1) := by decide +kernel
theorem dX5_undo_47 : decode cX5_undo 47 = .ok (.getfield 19, 3) := by decide +kernel
theorem dX5_undo_50 : decode cX5_undo 50 = .ok (.iload_n 2, 1) := by decide +kernel
theorem dX5_undo_51 : decode cX5_undo 51 = .ok (.aload_n 0, 1) := by decide +kernel
theorem dX5_undo_52 : decode cX5_undo 52 = .ok (.getfield 19, 3) := by decide +kernel
theorem dX5_undo_55 : decode cX5_undo 55 = .ok (.iload_n 1, 1) := by decide +kernel
theorem dX5_undo_56 : decode cX5_undo 56 = .ok (.iload_n 2, 1) := by decide +kernel
theorem dX5_undo_57 : decode cX5_undo 57 = .ok (.iadd, 1) := by decide +kernel
theorem dX5_undo_58 : decode cX5_undo 58 = .ok (.iaload, 1) := by decide +kernel
theorem dX5_undo_59 : decode cX5_undo 59 = .ok (.iastore, 1) := by decide +kernel
theorem dX5_undo_60 : decode cX5_undo 60 = .ok (.iinc 2 1, 3) := by decide +kernel
theorem dX5_undo_63 : decode cX5_undo 63 = .ok (.goto (-23), 3) := by decide +kernel
theorem dX5_undo_66 : decode cX5_undo 66 = .ok (.aload_n 0, 1) := by decide +kernel
theorem dX5_undo_67 : decode cX5_undo 67 = .ok (.getfield 19, 3) := by decide +kernel
theorem dX5_undo_70 : decode cX5_undo 70 = .ok (.bipush 14, 2) := by decide +kernel
theorem dX5_undo_72 : decode cX5_undo 72 = .ok (.iaload, 1) := by decide +kernel
theorem dX5_undo_73 : decode cX5_undo 73 = .ok (.ireturn, 1) := by decide +kernel
theorem dX5_now_0 : decode cX5_now 0 = .ok (.iconst 0, 1) := by decide +kernel
theorem dX5_now_1 : decode cX5_now 1 = .ok (.istore_n 2, 1) := by decide +kernel
theorem dX5_now_2 : decode cX5_now 2 = .ok (.iconst 0, 1) := by decide +kernel
theorem dX5_now_3 : decode cX5_now 3 = .ok (.istore_n 3, 1) := by decide +kernel
theorem dX5_now_4 : decode cX5_now 4 = .ok (.iload_n 3, 1) := by decide +kernel
theorem dX5_now_5 : decode cX5_now 5 = .ok (.aload_n 0, 1) := by decide +kernel
theorem dX5_now_6 : decode cX5_now 6 = .ok (.getfield 13, 3) := by decide +kernel
theorem dX5_now_9 : decode cX5_now 9 = .ok (.iconst 1, 1) := by decide +kernel
theorem dX5_now_10 : decode cX5_now 10 = .ok (.iaload, 1) := by decide +kernel
theorem dX5_now_11 : decode cX5_now 11 = .ok (.if_icmp .ge 46, 3) := by decide +kernel
theorem dX5_now_14 : decode cX5_now 14 = .ok (.iload_n 2, 1) := by decide +kernel
theorem dX5_now_15 : decode cX5_now 15 = .ok (.aload_n 0, 1) := by decide +kernel
theorem dX5_now_16 : decode cX5_now 16 = .ok (.iload_n 3, 1) := by decide +kernel
theorem dX5_now_17 : decode cX5_now 17 = .ok (.invokevirtual 114, 3) := by decide +kernel
theorem dX5_now_20 : decode cX5_now 20 = .ok (.ifCond .eq 28, 3) := by decide +kernel
theorem dX5_now_23 : decode cX5_now 23 = .ok (.aload_n 0, 1) := by decide +kernel
theorem dX5_now_24 : decode cX5_now 24 = .ok (.getfield 19, 3) := by decide +kernel
theorem dX5_now_27 : decode cX5_now 27 = .ok (.bipush 13, 2) := by decide +kernel
theorem dX5_now_29 : decode cX5_now 29 = .ok (.iaload, 1) := by decide +kernel
theorem dX5_now_30 : decode cX5_now 30 = .ok (.aload_n 0, 1) := by decide +kernel
theorem dX5_now_31 : decode cX5_now 31 = .ok (.getfield 13, 3) := by decide +kernel
theorem dX5_now_34 : decode cX5_now 34 = .ok (.bipush 37, 2) := by decide +kernel
theorem dX5_now_36 : decode cX5_now 36 = .ok (.iload_n 3, 1) := by decide +kernel
theorem dX5_now_37 : decode cX5_now 37 = .ok (.iadd, 1) := by decide +kernel
theorem dX5_now_38 : decode cX5_now 38 = .ok (.iaload, 1) := by decide +kernel
theorem dX5_now_39 : decode cX5_now 39 = .ok (.if_icmp .le 9, 3) := by decide +kernel
theorem dX5_now_42 : decode cX5_now 42 = .ok (.iconst 1, 1) := by decide +kernel
theorem dX5_now_43 : decode cX5_now 43 = .ok (.iload_n 3, 1) := by decide +kernel
theorem dX5_now_44 : decode cX5_now 44 = .ok (.ishl, 1) := by decide +kernel
theorem dX5_now_45 : decode cX5_now 45 = .ok (.goto 4, 3) := by decide +kernel
theorem dX5_now_48 : decode cX5_now 48 = .ok (.iconst 0, 1) := by decide +kernel
theorem dX5_now_49 : decode cX5_now 49 = .ok (.ior, 1) := by decide +kernel
theorem dX5_now_50 : decode cX5_now 50 = .ok (.istore_n 2, 1) := by decide +kernel
theorem dX5_now_51 : decode cX5_now 51 = .ok (.iinc 3 1, 3) := by decide +kernel
theorem dX5_now_54 : decode cX5_now 54 = .ok (.goto (-50), 3) := by decide +kernel
theorem dX5_now_57 : decode cX5_now 57 = .ok (.iload_n 1, 1) := by decide +kernel
theorem dX5_now_58 : decode cX5_now 58 = .ok (.tableswitch 66 0 4 #[34, 42, 49, 56, 58], 34) := by decide +kernel
theorem dX5_now_92 : decode cX5_now 92 = .ok (.aload_n 0, 1) := by decide +kernel
theorem dX5_now_93 : decode cX5_now 93 = .ok (.getfield 19, 3) := by decide +kernel
theorem dX5_now_96 : decode cX5_now 96 = .ok (.bipush 13, 2) := by decide +kernel
theorem dX5_now_98 : decode cX5_now 98 = .ok (.iaload, 1) := by decide +kernel
theorem dX5_now_99 : decode cX5_now 99 = .ok (.ireturn, 1) := by decide +kernel
theorem dX5_now_100 : decode cX5_now 100 = .ok (.aload_n 0, 1) := by decide +kernel
theorem dX5_now_101 : decode cX5_now 101 = .ok (.bipush (-9), 2) := by decide +kernel
theorem dX5_now_103 : decode cX5_now 103 = .ok (.invokevirtual 91, 3) := by decide +kernel
theorem dX5_now_106 : decode cX5_now 106 = .ok (.ireturn, 1) := by decide +kernel
theorem dX5_now_107 : decode cX5_now 107 = .ok (.aload_n 0, 1) := by decide +kernel
theorem dX5_now_108 : decode cX5_now 108 = .ok (.bipush (-5), 2) := by decide +kernel
theorem dX5_now_110 : decode cX5_now 110 = .ok (.invokevirtual 91, 3) := by decide +kernel
theorem dX5_now_113 : decode cX5_now 113 = .ok (.ireturn, 1) := by decide +kernel
theorem dX5_now_114 : decode cX5_now 114 = .ok (.iload_n 2, 1) := by decide +kernel
theorem dX5_now_115 : decode cX5_now 115 = .ok (.ireturn, 1) := by decide +kernel
theorem dX5_now_116 : decode cX5_now 116 = .ok (.aload_n 0, 1) := by decide +kernel
theorem dX5_now_117 : decode cX5_now 117 = .ok (.getfield 19, 3) := by decide +kernel
theorem dX5_now_120 : decode cX5_now 120 = .ok (.bipush 12, 2) := by decide +kernel
theorem dX5_now_122 : decode cX5_now 122 = .ok (.iaload, 1) := by decide +kernel
theorem dX5_now_123 : decode cX5_now 123 = .ok (.ireturn, 1) := by decide +kernel
theorem dX5_now_124 : decode cX5_now 124 = .ok (.iconst (-1), 1) := by decide +kernel
theorem dX5_now_125 : decode cX5_now 125 = .ok (.ireturn, 1) := by decide +kernel
theorem dX5_holds_0 : decode cX5_holds 0 = .ok (.iconst 0, 1) := by decide +kernel
theorem dX5_holds_1 : decode cX5_holds 1 = .ok (.istore_n 1, 1) := by decide +kernel
theorem dX5_holds_2 : decode cX5_holds 2 = .ok (.iload_n 1, 1) := by decide +kernel
theorem dX5_holds_3 : decode cX5_holds 3 = .ok (.bipush 14, 2) := by decide +kernel
theorem dX5_holds_5 : decode cX5_holds 5 = .ok (.if_icmp .ge 21, 3) := by decide +kernel
theorem dX5_holds_8 : decode cX5_holds 8 = .ok (.aload_n 0, 1) := by decide +kernel
theorem dX5_holds_9 : decode cX5_holds 9 = .ok (.getfield 36, 3) := by decide +kernel
theorem dX5_holds_12 : decode cX5_holds 12 = .ok (.iload_n 1, 1) := by decide +kernel
theorem dX5_holds_13 : decode cX5_holds 13 = .ok (.aload_n 0, 1) := by decide +kernel
theorem dX5_holds_14 : decode cX5_holds 14 = .ok (.getfield 19, 3) := by decide +kernel
theorem dX5_holds_17 : decode cX5_holds 17 = .ok (.iload_n 1, 1) := by decide +kernel
theorem dX5_holds_18 : decode cX5_holds 18 = .ok (.iaload, 1) := by decide +kernel
theorem dX5_holds_19 : decode cX5_holds 19 = .ok (.iastore, 1) := by decide +kernel
theorem dX5_holds_20 : decode cX5_holds 20 = .ok (.iinc 1 1, 3) := by decide +kernel
theorem dX5_holds_23 : decode cX5_holds 23 = .ok (.goto (-21), 3) := by decide +kernel
theorem dX5_holds_26 : decode cX5_holds 26 = .ok (.return_, 1) := by decide +kernel
theorem dX5_lets_0 : decode cX5_lets 0 = .ok (.iconst 0, 1) := by decide +kernel
theorem dX5_lets_1 : decode cX5_lets 1 = .ok (.istore_n 1, 1) := by decide +kernel
theorem dX5_lets_2 : decode cX5_lets 2 = .ok (.iload_n 1, 1) := by decide +kernel
theorem dX5_lets_3 : decode cX5_lets 3 = .ok (.bipush 14, 2) := by decide +kernel
theorem dX5_lets_5 : decode cX5_lets 5 = .ok (.if_icmp .ge 21, 3) := by decide +kernel
theorem dX5_lets_8 : decode cX5_lets 8 = .ok (.aload_n 0, 1) := by decide +kernel
theorem dX5_lets_9 : decode cX5_lets 9 = .ok (.getfield 19, 3) := by decide +kernel
theorem dX5_lets_12 : decode cX5_lets 12 = .ok (.iload_n 1, 1) := by decide +kernel
theorem dX5_lets_13 : decode cX5_lets 13 = .ok (.aload_n 0, 1) := by decide +kernel
theorem dX5_lets_14 : decode cX5_lets 14 = .ok (.getfield 36, 3) := by decide +kernel
theorem dX5_lets_17 : decode cX5_lets 17 = .ok (.iload_n 1, 1) := by decide +kernel
theorem dX5_lets_18 : decode cX5_lets 18 = .ok (.iaload, 1) := by decide +kernel
theorem dX5_lets_19 : decode cX5_lets 19 = .ok (.iastore, 1) := by decide +kernel
theorem dX5_lets_20 : decode cX5_lets 20 = .ok (.iinc 1 1, 3) := by decide +kernel
theorem dX5_lets_23 : decode cX5_lets 23 = .ok (.goto (-21), 3) := by decide +kernel
theorem dX5_lets_26 : decode cX5_lets 26 = .ok (.return_, 1) := by decide +kernel
theorem dX5_when_0 : decode cX5_when 0 = .ok (.aload_n 0, 1) := by decide +kernel
theorem dX5_when_1 : decode cX5_when 1 = .ok (.iload_n 1, 1) := by decide +kernel
theorem dX5_when_2 : decode cX5_when 2 = .ok (.invokevirtual 111, 3) := by decide +kernel
theorem dX5_when_5 : decode cX5_when 5 = .ok (.ifCond .ne 5, 3) := by decide +kernel
theorem dX5_when_8 : decode cX5_when 8 = .ok (.iconst (-1), 1) := by decide +kernel
theorem dX5_when_9 : decode cX5_when 9 = .ok (.ireturn, 1) := by decide +kernel
theorem dX5_when_10 : decode cX5_when 10 = .ok (.aload_n 0, 1) := by decide +kernel
theorem dX5_when_11 : decode cX5_when 11 = .ok (.getfield 19, 3) := by decide +kernel
theorem dX5_when_14 : decode cX5_when 14 = .ok (.iload_n 1, 1) := by decide +kernel
theorem dX5_when_15 : decode cX5_when 15 = .ok (.iaload, 1) := by decide +kernel
theorem dX5_when_16 : decode cX5_when 16 = .ok (.ifCond .ge 6, 3) := by decide +kernel
theorem dX5_when_19 : decode cX5_when 19 = .ok (.bipush (-2), 2) := by decide +kernel
theorem dX5_when_21 : decode cX5_when 21 = .ok (.ireturn, 1) := by decide +kernel
theorem dX5_when_22 : decode cX5_when 22 = .ok (.aload_n 0, 1) := by decide +kernel
theorem dX5_when_23 : decode cX5_when 23 = .ok (.invokevirtual 130, 3) := by decide +kernel
theorem dX5_when_26 : decode cX5_when 26 = .ok (.bipush (-9), 2) := by decide +kernel
theorem dX5_when_28 : decode cX5_when 28 = .ok (.istore_n 2, 1) := by decide +kernel
theorem dX5_when_29 : decode cX5_when 29 = .ok (.iconst 0, 1) := by decide +kernel
theorem dX5_when_30 : decode cX5_when 30 = .ok (.istore_n 3, 1) := by decide +kernel
theorem dX5_when_31 : decode cX5_when 31 = .ok (.iload_n 3, 1) := by decide +kernel
theorem dX5_when_32 : decode cX5_when 32 = .ok (.sipush 200, 3) := by decide +kernel
theorem dX5_when_35 : decode cX5_when 35 = .ok (.if_icmp .ge 44, 3) := by decide +kernel
theorem dX5_when_38 : decode cX5_when 38 = .ok (.iload_n 2, 1) := by decide +kernel
theorem dX5_when_39 : decode cX5_when 39 = .ok (.bipush (-9), 2) := by decide +kernel
theorem dX5_when_41 : decode cX5_when 41 = .ok (.if_icmp .ne 38, 3) := by decide +kernel
theorem dX5_when_44 : decode cX5_when 44 = .ok (.aload_n 0, 1) := by decide +kernel
theorem dX5_when_45 : decode cX5_when 45 = .ok (.invokevirtual 126, 3) := by decide +kernel
theorem dX5_when_48 : decode cX5_when 48 = .ok (.pop, 1) := by decide +kernel
theorem dX5_when_49 : decode cX5_when 49 = .ok (.aload_n 0, 1) := by decide +kernel
theorem dX5_when_50 : decode cX5_when 50 = .ok (.getfield 19, 3) := by decide +kernel
theorem dX5_when_53 : decode cX5_when 53 = .ok (.iload_n 1, 1) := by decide +kernel
theorem dX5_when_54 : decode cX5_when 54 = .ok (.iaload, 1) := by decide +kernel
theorem dX5_when_55 : decode cX5_when 55 = .ok (.bipush (-5), 2) := by decide +kernel
theorem dX5_when_57 : decode cX5_when 57 = .ok (.if_icmp .ne 13, 3) := by decide +kernel
theorem dX5_when_60 : decode cX5_when 60 = .ok (.aload_n 0, 1) := by decide +kernel
theorem dX5_when_61 : decode cX5_when 61 = .ok (.getfield 19, 3) := by decide +kernel
theorem dX5_when_64 : decode cX5_when 64 = .ok (.bipush 13, 2) := by decide +kernel
theorem dX5_when_66 : decode cX5_when 66 = .ok (.iaload, 1) := by decide +kernel
theorem dX5_when_67 : decode cX5_when 67 = .ok (.goto 5, 3) := by decide +kernel
theorem dX5_when_70 : decode cX5_when 70 = .ok (.bipush (-9), 2) := by decide +kernel
theorem dX5_when_72 : decode cX5_when 72 = .ok (.istore_n 2, 1) := by decide +kernel
theorem dX5_when_73 : decode cX5_when 73 = .ok (.iinc 3 1, 3) := by decide +kernel
theorem dX5_when_76 : decode cX5_when 76 = .ok (.goto (-45), 3) := by decide +kernel
theorem dX5_when_79 : decode cX5_when 79 = .ok (.aload_n 0, 1) := by decide +kernel
theorem dX5_when_80 : decode cX5_when 80 = .ok (.invokevirtual 133, 3) := by decide +kernel
theorem dX5_when_83 : decode cX5_when 83 = .ok (.iload_n 2, 1) := by decide +kernel
theorem dX5_when_84 : decode cX5_when 84 = .ok (.ireturn, 1) := by decide +kernel
theorem dX5_moved_0 : decode cX5_moved 0 = .ok (.aload_n 0, 1) := by decide +kernel
theorem dX5_moved_1 : decode cX5_moved 1 = .ok (.iload_n 1, 1) := by decide +kernel
theorem dX5_moved_2 : decode cX5_moved 2 = .ok (.invokevirtual 97, 3) := by decide +kernel
theorem dX5_moved_5 : decode cX5_moved 5 = .ok (.ifCond .ne 5, 3) := by decide +kernel
theorem dX5_moved_8 : decode cX5_moved 8 = .ok (.iconst (-1), 1) := by decide +kernel
theorem dX5_moved_9 : decode cX5_moved 9 = .ok (.ireturn, 1) := by decide +kernel
theorem dX5_moved_10 : decode cX5_moved 10 = .ok (.aload_n 0, 1) := by decide +kernel
theorem dX5_moved_11 : decode cX5_moved 11 = .ok (.iload_n 1, 1) := by decide +kernel
theorem dX5_moved_12 : decode cX5_moved 12 = .ok (.invokevirtual 104, 3) := by decide +kernel
theorem dX5_moved_15 : decode cX5_moved 15 = .ok (.ifCond .eq 6, 3) := by decide +kernel
theorem dX5_moved_18 : decode cX5_moved 18 = .ok (.bipush (-2), 2) := by decide +kernel
theorem dX5_moved_20 : decode cX5_moved 20 = .ok (.ireturn, 1) := by decide +kernel
theorem dX5_moved_21 : decode cX5_moved 21 = .ok (.iconst 0, 1) := by decide +kernel
theorem dX5_moved_22 : decode cX5_moved 22 = .ok (.istore_n 2, 1) := by decide +kernel
theorem dX5_moved_23 : decode cX5_moved 23 = .ok (.iconst 0, 1) := by decide +kernel
theorem dX5_moved_24 : decode cX5_moved 24 = .ok (.istore_n 3, 1) := by decide +kernel
theorem dX5_moved_25 : decode cX5_moved 25 = .ok (.iload_n 3, 1) := by decide +kernel
theorem dX5_moved_26 : decode cX5_moved 26 = .ok (.aload_n 0, 1) := by decide +kernel
theorem dX5_moved_27 : decode cX5_moved 27 = .ok (.getfield 13, 3) := by decide +kernel
theorem dX5_moved_30 : decode cX5_moved 30 = .ok (.iconst 1, 1) := by decide +kernel
theorem dX5_moved_31 : decode cX5_moved 31 = .ok (.iaload, 1) := by decide +kernel
theorem dX5_moved_32 : decode cX5_moved 32 = .ok (.if_icmp .ge 58, 3) := by decide +kernel
theorem dX5_moved_35 : decode cX5_moved 35 = .ok (.iload_n 2, 1) := by decide +kernel
theorem dX5_moved_36 : decode cX5_moved 36 = .ok (.aload_n 0, 1) := by decide +kernel
theorem dX5_moved_37 : decode cX5_moved 37 = .ok (.iload_n 3, 1) := by decide +kernel
theorem dX5_moved_38 : decode cX5_moved 38 = .ok (.invokevirtual 114, 3) := by decide +kernel
theorem dX5_moved_41 : decode cX5_moved 41 = .ok (.ifCond .eq 40, 3) := by decide +kernel
theorem dX5_moved_44 : decode cX5_moved 44 = .ok (.aload_n 0, 1) := by decide +kernel
theorem dX5_moved_45 : decode cX5_moved 45 = .ok (.iload_n 3, 1) := by decide +kernel
theorem dX5_moved_46 : decode cX5_moved 46 = .ok (.aload_n 0, 1) := by decide +kernel
theorem dX5_moved_47 : decode cX5_moved 47 = .ok (.getfield 19, 3) := by decide +kernel
theorem dX5_moved_50 : decode cX5_moved 50 = .ok (.bipush 12, 2) := by decide +kernel
theorem dX5_moved_52 : decode cX5_moved 52 = .ok (.iaload, 1) := by decide +kernel
theorem dX5_moved_53 : decode cX5_moved 53 = .ok (.invokevirtual 117, 3) := by decide +kernel
theorem dX5_moved_56 : decode cX5_moved 56 = .ok (.aload_n 0, 1) := by decide +kernel
theorem dX5_moved_57 : decode cX5_moved 57 = .ok (.iload_n 3, 1) := by decide +kernel
theorem dX5_moved_58 : decode cX5_moved 58 = .ok (.aload_n 0, 1) := by decide +kernel
theorem dX5_moved_59 : decode cX5_moved 59 = .ok (.getfield 19, 3) := by decide +kernel
theorem dX5_moved_62 : decode cX5_moved 62 = .ok (.bipush 12, 2) := by decide +kernel
theorem dX5_moved_64 : decode cX5_moved 64 = .ok (.iaload, 1) := by decide +kernel
theorem dX5_moved_65 : decode cX5_moved 65 = .ok (.iconst 1, 1) := by decide +kernel
theorem dX5_moved_66 : decode cX5_moved 66 = .ok (.iload_n 1, 1) := by decide +kernel
theorem dX5_moved_67 : decode cX5_moved 67 = .ok (.ishl, 1) := by decide +kernel
theorem dX5_moved_68 : decode cX5_moved 68 = .ok (.ior, 1) := by decide +kernel
theorem dX5_moved_69 : decode cX5_moved 69 = .ok (.invokevirtual 117, 3) := by decide +kernel
theorem dX5_moved_72 : decode cX5_moved 72 = .ok (.if_icmp .eq 9, 3) := by decide +kernel
theorem dX5_moved_75 : decode cX5_moved 75 = .ok (.iconst 1, 1) := by decide +kernel
theorem dX5_moved_76 : decode cX5_moved 76 = .ok (.iload_n 3, 1) := by decide +kernel
theorem dX5_moved_77 : decode cX5_moved 77 = .ok (.ishl, 1) := by decide +kernel
theorem dX5_moved_78 : decode cX5_moved 78 = .ok (.goto 4, 3) := by decide +kernel
theorem dX5_moved_81 : decode cX5_moved 81 = .ok (.iconst 0, 1) := by decide +kernel
theorem dX5_moved_82 : decode cX5_moved 82 = .ok (.ior, 1) := by decide +kernel
theorem dX5_moved_83 : decode cX5_moved 83 = .ok (.istore_n 2, 1) := by decide +kernel
theorem dX5_moved_84 : decode cX5_moved 84 = .ok (.iinc 3 1, 3) := by decide +kernel
theorem dX5_moved_87 : decode cX5_moved 87 = .ok (.goto (-62), 3) := by decide +kernel
theorem dX5_moved_90 : decode cX5_moved 90 = .ok (.iload_n 2, 1) := by decide +kernel
theorem dX5_moved_91 : decode cX5_moved 91 = .ok (.ireturn, 1) := by decide +kernel
theorem dX5_doneBy_0 : decode cX5_doneBy 0 = .ok (.aload_n 0, 1) := by decide +kernel
theorem dX5_doneBy_1 : decode cX5_doneBy 1 = .ok (.getfield 13, 3) := by decide +kernel
theorem dX5_doneBy_4 : decode cX5_doneBy 4 = .ok (.iconst 3, 1) := by decide +kernel
theorem dX5_doneBy_5 : decode cX5_doneBy 5 = .ok (.iload_n 2, 1) := by decide +kernel
theorem dX5_doneBy_6 : decode cX5_doneBy 6 = .ok (.iadd, 1) := by decide +kernel
theorem dX5_doneBy_7 : decode cX5_doneBy 7 = .ok (.iaload, 1) := by decide +kernel
theorem dX5_doneBy_8 : decode cX5_doneBy 8 = .ok (.bipush 9, 2) := by decide +kernel
theorem dX5_doneBy_10 : decode cX5_doneBy 10 = .ok (.imul, 1) := by decide +kernel
theorem dX5_doneBy_11 : decode cX5_doneBy 11 = .ok (.bipush 10, 2) := by decide +kernel
theorem dX5_doneBy_13 : decode cX5_doneBy 13 = .ok (.idiv, 1) := by decide +kernel
theorem dX5_doneBy_14 : decode cX5_doneBy 14 = .ok (.istore 5, 2) := by decide +kernel
theorem dX5_doneBy_16 : decode cX5_doneBy 16 = .ok (.iload_n 3, 1) := by decide +kernel
theorem dX5_doneBy_17 : decode cX5_doneBy 17 = .ok (.aload_n 0, 1) := by decide +kernel
theorem dX5_doneBy_18 : decode cX5_doneBy 18 = .ok (.getfield 13, 3) := by decide +kernel
theorem dX5_doneBy_21 : decode cX5_doneBy 21 = .ok (.bipush 31, 2) := by decide +kernel
theorem dX5_doneBy_23 : decode cX5_doneBy 23 = .ok (.iload_n 1, 1) := by decide +kernel
theorem dX5_doneBy_24 : decode cX5_doneBy 24 = .ok (.iadd, 1) := by decide +kernel
theorem dX5_doneBy_25 : decode cX5_doneBy 25 = .ok (.iaload, 1) := by decide +kernel
theorem dX5_doneBy_26 : decode cX5_doneBy 26 = .ok (.if_icmp .le 7, 3) := by decide +kernel
theorem dX5_doneBy_29 : decode cX5_doneBy 29 = .ok (.iload_n 3, 1) := by decide +kernel
theorem dX5_doneBy_30 : decode cX5_doneBy 30 = .ok (.goto 12, 3) := by decide +kernel
theorem dX5_doneBy_33 : decode cX5_doneBy 33 = .ok (.aload_n 0, 1) := by decide +kernel
theorem dX5_doneBy_34 : decode cX5_doneBy 34 = .ok (.getfield 13, 3) := by decide +kernel
theorem dX5_doneBy_37 : decode cX5_doneBy 37 = .ok (.bipush 31, 2) := by decide +kernel
theorem dX5_doneBy_39 : decode cX5_doneBy 39 = .ok (.iload_n 1, 1) := by decide +kernel
theorem dX5_doneBy_40 : decode cX5_doneBy 40 = .ok (.iadd, 1) := by decide +kernel
theorem dX5_doneBy_41 : decode cX5_doneBy 41 = .ok (.iaload, 1) := by decide +kernel
theorem dX5_doneBy_42 : decode cX5_doneBy 42 = .ok (.istore 6, 2) := by decide +kernel
theorem dX5_doneBy_44 : decode cX5_doneBy 44 = .ok (.iload 5, 2) := by decide +kernel
theorem dX5_doneBy_46 : decode cX5_doneBy 46 = .ok (.ifCond .eq 25, 3) := by decide +kernel
theorem dX5_doneBy_49 : decode cX5_doneBy 49 = .ok (.aload_n 0, 1) := by decide +kernel
theorem dX5_doneBy_50 : decode cX5_doneBy 50 = .ok (.iload_n 1, 1) := by decide +kernel
theorem dX5_doneBy_51 : decode cX5_doneBy 51 = .ok (.invokevirtual 114, 3) := by decide +kernel
theorem dX5_doneBy_54 : decode cX5_doneBy 54 = .ok (.ifCond .eq 17, 3) := by decide +kernel
theorem dX5_doneBy_57 : decode cX5_doneBy 57 = .ok (.iload 6, 2) := by decide +kernel
theorem dX5_doneBy_59 : decode cX5_doneBy 59 = .ok (.aload_n 0, 1) := by decide +kernel
theorem dX5_doneBy_60 : decode cX5_doneBy 60 = .ok (.getfield 13, 3) := by decide +kernel
theorem dX5_doneBy_63 : decode cX5_doneBy 63 = .ok (.bipush 37, 2) := by decide +kernel
theorem dX5_doneBy_65 : decode cX5_doneBy 65 = .ok (.iload_n 1, 1) := by decide +kernel
theorem dX5_doneBy_66 : decode cX5_doneBy 66 = .ok (.iadd, 1) := by decide +kernel
theorem dX5_doneBy_67 : decode cX5_doneBy 67 = .ok (.iaload, 1) := by decide +kernel
theorem dX5_doneBy_68 : decode cX5_doneBy 68 = .ok (.if_icmp .le 6, 3) := by decide +kernel
theorem dX5_doneBy_71 : decode cX5_doneBy 71 = .ok (.bipush (-9), 2) := by decide +kernel
theorem dX5_doneBy_73 : decode cX5_doneBy 73 = .ok (.ireturn, 1) := by decide +kernel
theorem dX5_doneBy_74 : decode cX5_doneBy 74 = .ok (.iload 6, 2) := by decide +kernel
theorem dX5_doneBy_76 : decode cX5_doneBy 76 = .ok (.aload_n 0, 1) := by decide +kernel
theorem dX5_doneBy_77 : decode cX5_doneBy 77 = .ok (.getfield 13, 3) := by decide +kernel
theorem dX5_doneBy_80 : decode cX5_doneBy 80 = .ok (.bipush 25, 2) := by decide +kernel
theorem dX5_doneBy_82 : decode cX5_doneBy 82 = .ok (.iload_n 1, 1) := by decide +kernel
theorem dX5_doneBy_83 : decode cX5_doneBy 83 = .ok (.iadd, 1) := by decide +kernel
theorem dX5_doneBy_84 : decode cX5_doneBy 84 = .ok (.iaload, 1) := by decide +kernel
theorem dX5_doneBy_85 : decode cX5_doneBy 85 = .ok (.iload 5, 2) := by decide +kernel
theorem dX5_doneBy_87 : decode cX5_doneBy 87 = .ok (.iadd, 1) := by decide +kernel
theorem dX5_doneBy_88 : decode cX5_doneBy 88 = .ok (.iconst 1, 1) := by decide +kernel
theorem dX5_doneBy_89 : decode cX5_doneBy 89 = .ok (.isub, 1) := by decide +kernel
theorem dX5_doneBy_90 : decode cX5_doneBy 90 = .ok (.iload 5, 2) := by decide +kernel
theorem dX5_doneBy_92 : decode cX5_doneBy 92 = .ok (.idiv, 1) := by decide +kernel
theorem dX5_doneBy_93 : decode cX5_doneBy 93 = .ok (.iadd, 1) := by decide +kernel
theorem dX5_doneBy_94 : decode cX5_doneBy 94 = .ok (.istore 7, 2) := by decide +kernel
theorem dX5_doneBy_96 : decode cX5_doneBy 96 = .ok (.iload 7, 2) := by decide +kernel
theorem dX5_doneBy_98 : decode cX5_doneBy 98 = .ok (.iload 4, 2) := by decide +kernel
theorem dX5_doneBy_100 : decode cX5_doneBy 100 = .ok (.if_icmp .le 8, 3) := by decide +kernel
theorem dX5_doneBy_103 : decode cX5_doneBy 103 = .ok (.bipush (-9), 2) := by decide +kernel
theorem dX5_doneBy_105 : decode cX5_doneBy 105 = .ok (.goto 5, 3) := by decide +kernel
theorem dX5_doneBy_108 : decode cX5_doneBy 108 = .ok (.iload 7, 2) := by decide +kernel
theorem dX5_doneBy_110 : decode cX5_doneBy 110 = .ok (.ireturn, 1) := by decide +kernel
theorem dX5_reckons_0 : decode cX5_reckons 0 = .ok (.iconst 0, 1) := by decide +kernel
theorem dX5_reckons_1 : decode cX5_reckons 1 = .ok (.istore 5, 2) := by decide +kernel
theorem dX5_reckons_3 : decode cX5_reckons 3 = .ok (.iload 5, 2) := by decide +kernel
theorem dX5_reckons_5 : decode cX5_reckons 5 = .ok (.bipush 64, 2) := by decide +kernel
theorem dX5_reckons_7 : decode cX5_reckons 7 = .ok (.if_icmp .ge 28, 3) := by decide +kernel
theorem dX5_reckons_10 : decode cX5_reckons 10 = .ok (.aload_n 0, 1) := by decide +kernel
theorem dX5_reckons_11 : decode cX5_reckons 11 = .ok (.getfield 39, 3) := by decide +kernel
theorem dX5_reckons_14 : decode cX5_reckons 14 = .ok (.iload 5, 2) := by decide +kernel
theorem dX5_reckons_16 : decode cX5_reckons 16 = .ok (.iload 5, 2) := by decide +kernel
theorem dX5_reckons_18 : decode cX5_reckons 18 = .ok (.iload_n 2, 1) := by decide +kernel
theorem dX5_reckons_19 : decode cX5_reckons 19 = .ok (.if_icmp .ne 7, 3) := by decide +kernel
theorem dX5_reckons_22 : decode cX5_reckons 22 = .ok (.iload_n 3, 1) := by decide +kernel
theorem dX5_reckons_23 : decode cX5_reckons 23 = .ok (.goto 5, 3) := by decide +kernel
theorem dX5_reckons_26 : decode cX5_reckons 26 = .ok (.bipush (-9), 2) := by decide +kernel
theorem dX5_reckons_28 : decode cX5_reckons 28 = .ok (.iastore, 1) := by decide +kernel
theorem dX5_reckons_29 : decode cX5_reckons 29 = .ok (.iinc 5 1, 3) := by decide +kernel
theorem dX5_reckons_32 : decode cX5_reckons 32 = .ok (.goto (-29), 3) := by decide +kernel
theorem dX5_reckons_35 : decode cX5_reckons 35 = .ok (.iload_n 2, 1) := by decide +kernel
theorem dX5_reckons_36 : decode cX5_reckons 36 = .ok (.istore 5, 2) := by decide +kernel
theorem dX5_reckons_38 : decode cX5_reckons 38 = .ok (.iload 5, 2) := by decide +kernel
theorem dX5_reckons_40 : decode cX5_reckons 40 = .ok (.iconst 1, 1) := by decide +kernel
theorem dX5_reckons_41 : decode cX5_reckons 41 = .ok (.aload_n 0, 1) := by decide +kernel
theorem dX5_reckons_42 : decode cX5_reckons 42 = .ok (.getfield 13, 3) := by decide +kernel
theorem dX5_reckons_45 : decode cX5_reckons 45 = .ok (.iconst 1, 1) := by decide +kernel
theorem dX5_reckons_46 : decode cX5_reckons 46 = .ok (.iaload, 1) := by decide +kernel
theorem dX5_reckons_47 : decode cX5_reckons 47 = .ok (.ishl, 1) := by decide +kernel
theorem dX5_reckons_48 : decode cX5_reckons 48 = .ok (.if_icmp .ge 140, 3) := by decide +kernel
theorem dX5_reckons_51 : decode cX5_reckons 51 = .ok (.iconst 0, 1) := by decide +kernel
theorem dX5_reckons_52 : decode cX5_reckons 52 = .ok (.istore 6, 2) := by decide +kernel
theorem dX5_reckons_54 : decode cX5_reckons 54 = .ok (.iload 6, 2) := by decide +kernel
theorem dX5_reckons_56 : decode cX5_reckons 56 = .ok (.aload_n 0, 1) := by decide +kernel
theorem dX5_reckons_57 : decode cX5_reckons 57 = .ok (.getfield 13, 3) := by decide +kernel
theorem dX5_reckons_60 : decode cX5_reckons 60 = .ok (.iconst 1, 1) := by decide +kernel
theorem dX5_reckons_61 : decode cX5_reckons 61 = .ok (.iaload, 1) := by decide +kernel
theorem dX5_reckons_62 : decode cX5_reckons 62 = .ok (.if_icmp .ge 120, 3) := by decide +kernel
theorem dX5_reckons_65 : decode cX5_reckons 65 = .ok (.aload_n 0, 1) := by decide +kernel
theorem dX5_reckons_66 : decode cX5_reckons 66 = .ok (.getfield 39, 3) := by decide +kernel
theorem dX5_reckons_69 : decode cX5_reckons 69 = .ok (.iload 5, 2) := by decide +kernel
theorem dX5_reckons_71 : decode cX5_reckons 71 = .ok (.iaload, 1) := by decide +kernel
theorem dX5_reckons_72 : decode cX5_reckons 72 = .ok (.bipush (-9), 2) := by decide +kernel
theorem dX5_reckons_74 : decode cX5_reckons 74 = .ok (.if_icmp .eq 102, 3) := by decide +kernel
theorem dX5_reckons_77 : decode cX5_reckons 77 = .ok (.iload 5, 2) := by decide +kernel
theorem dX5_reckons_79 : decode cX5_reckons 79 = .ok (.iload 6, 2) := by decide +kernel
theorem dX5_reckons_81 : decode cX5_reckons 81 = .ok (.ishr, 1) := by decide +kernel
theorem dX5_reckons_82 : decode cX5_reckons 82 = .ok (.iconst 1, 1) := by decide +kernel
theorem dX5_reckons_83 : decode cX5_reckons 83 = .ok (.iand, 1) := by decide +kernel
theorem dX5_reckons_84 : decode cX5_reckons 84 = .ok (.ifCond .ne 92, 3) := by decide +kernel
theorem dX5_reckons_87 : decode cX5_reckons 87 = .ok (.aload_n 0, 1) := by decide +kernel
theorem dX5_reckons_88 : decode cX5_reckons 88 = .ok (.iload 6, 2) := by decide +kernel
theorem dX5_reckons_90 : decode cX5_reckons 90 = .ok (.iload_n 1, 1) := by decide +kernel
theorem dX5_reckons_91 : decode cX5_reckons 91 = .ok (.aload_n 0, 1) := by decide +kernel
theorem dX5_reckons_92 : decode cX5_reckons 92 = .ok (.getfield 39, 3) := by decide +kernel
theorem dX5_reckons_95 : decode cX5_reckons 95 = .ok (.iload 5, 2) := by decide +kernel
theorem dX5_reckons_97 : decode cX5_reckons 97 = .ok (.iaload, 1) := by decide +kernel
theorem dX5_reckons_98 : decode cX5_reckons 98 = .ok (.iload 4, 2) := by decide +kernel
theorem dX5_reckons_100 : decode cX5_reckons 100 = .ok (.invokevirtual 136, 3) := by decide +kernel
theorem dX5_reckons_103 : decode cX5_reckons 103 = .ok (.istore 7, 2) := by decide +kernel
theorem dX5_reckons_105 : decode cX5_reckons 105 = .ok (.iload 5, 2) := by decide +kernel
theorem dX5_reckons_107 : decode cX5_reckons 107 = .ok (.iconst 1, 1) := by decide +kernel
theorem dX5_reckons_108 : decode cX5_reckons 108 = .ok (.iload 6, 2) := by decide +kernel
theorem dX5_reckons_110 : decode cX5_reckons 110 = .ok (.ishl, 1) := by decide +kernel
theorem dX5_reckons_111 : decode cX5_reckons 111 = .ok (.ior, 1) := by decide +kernel
theorem dX5_reckons_112 : decode cX5_reckons 112 = .ok (.istore 8, 2) := by decide +kernel
theorem dX5_reckons_114 : decode cX5_reckons 114 = .ok (.iload 7, 2) := by decide +kernel
theorem dX5_reckons_116 : decode cX5_reckons 116 = .ok (.bipush (-9), 2) := by decide +kernel
theorem dX5_reckons_118 : decode cX5_reckons 118 = .ok (.if_icmp .eq 31, 3) := by decide +kernel
theorem dX5_reckons_121 : decode cX5_reckons 121 = .ok (.aload_n 0, 1) := by decide +kernel
theorem dX5_reckons_122 : decode cX5_reckons 122 = .ok (.getfield 39, 3) := by decide +kernel
theorem dX5_reckons_125 : decode cX5_reckons 125 = .ok (.iload 8, 2) := by decide +kernel
theorem dX5_reckons_127 : decode cX5_reckons 127 = .ok (.iaload, 1) := by decide +kernel
theorem dX5_reckons_128 : decode cX5_reckons 128 = .ok (.bipush (-9), 2) := by decide +kernel
theorem dX5_reckons_130 : decode cX5_reckons 130 = .ok (.if_icmp .eq 15, 3) := by decide +kernel
theorem dX5_reckons_133 : decode cX5_reckons 133 = .ok (.iload 7, 2) := by decide +kernel
theorem dX5_reckons_135 : decode cX5_reckons 135 = .ok (.aload_n 0, 1) := by decide +kernel
theorem dX5_reckons_136 : decode cX5_reckons 136 = .ok (.getfield 39, 3) := by decide +kernel
theorem dX5_reckons_139 : decode cX5_reckons 139 = .ok (.iload 8, 2) := by decide +kernel
theorem dX5_reckons_141 : decode cX5_reckons 141 = .ok (.iaload, 1) := by decide +kernel
theorem dX5_reckons_142 : decode cX5_reckons 142 = .ok (.if_icmp .ge 7, 3) := by decide +kernel
theorem dX5_reckons_145 : decode cX5_reckons 145 = .ok (.iconst 1, 1) := by decide +kernel
theorem dX5_reckons_146 : decode cX5_reckons 146 = .ok (.goto 4, 3) := by decide +kernel
theorem dX5_reckons_149 : decode cX5_reckons 149 = .ok (.iconst 0, 1) := by decide +kernel
theorem dX5_reckons_150 : decode cX5_reckons 150 = .ok (.istore 9, 2) := by decide +kernel
theorem dX5_reckons_152 : decode cX5_reckons 152 = .ok (.aload_n 0, 1) := by decide +kernel
theorem dX5_reckons_153 : decode cX5_reckons 153 = .ok (.getfield 39, 3) := by decide +kernel
theorem dX5_reckons_156 : decode cX5_reckons 156 = .ok (.iload 8, 2) := by decide +kernel
theorem dX5_reckons_158 : decode cX5_reckons 158 = .ok (.iload 9, 2) := by decide +kernel
theorem dX5_reckons_160 : decode cX5_reckons 160 = .ok (.ifCond .eq 8, 3) := by decide +kernel
theorem dX5_reckons_163 : decode cX5_reckons 163 = .ok (.iload 7, 2) := by decide +kernel
theorem dX5_reckons_165 : decode cX5_reckons 165 = .ok (.goto 10, 3) := by decide +kernel
theorem dX5_reckons_168 : decode cX5_reckons 168 = .ok (.aload_n 0, 1) := by decide +kernel
theorem dX5_reckons_169 : decode cX5_reckons 169 = .ok (.getfield 39, 3) := by decide +kernel
theorem dX5_reckons_172 : decode cX5_reckons 172 = .ok (.iload 8, 2) := by decide +kernel
theorem dX5_reckons_174 : decode cX5_reckons 174 = .ok (.iaload, 1) := by decide +kernel
theorem dX5_reckons_175 : decode cX5_reckons 175 = .ok (.iastore, 1) := by decide +kernel
theorem dX5_reckons_176 : decode cX5_reckons 176 = .ok (.iinc 6 1, 3) := by decide +kernel
theorem dX5_reckons_179 : decode cX5_reckons 179 = .ok (.goto (-125), 3) := by decide +kernel
theorem dX5_reckons_182 : decode cX5_reckons 182 = .ok (.iinc 5 1, 3) := by decide +kernel
theorem dX5_reckons_185 : decode cX5_reckons 185 = .ok (.goto (-147), 3) := by decide +kernel
theorem dX5_reckons_188 : decode cX5_reckons 188 = .ok (.return_, 1) := by decide +kernel
theorem dX5_soonestOf_0 : decode cX5_soonestOf 0 = .ok (.bipush (-9), 2) := by decide +kernel
theorem dX5_soonestOf_2 : decode cX5_soonestOf 2 = .ok (.istore_n 2, 1) := by decide +kernel
theorem dX5_soonestOf_3 : decode cX5_soonestOf 3 = .ok (.iconst 0, 1) := by decide +kernel
theorem dX5_soonestOf_4 : decode cX5_soonestOf 4 = .ok (.istore_n 3, 1) := by decide +kernel
theorem dX5_soonestOf_5 : decode cX5_soonestOf 5 = .ok (.iload_n 3, 1) := by decide +kernel
theorem dX5_soonestOf_6 : decode cX5_soonestOf 6 = .ok (.iconst 1, 1) := by decide +kernel
theorem dX5_soonestOf_7 : decode cX5_soonestOf 7 = .ok (.aload_n 0, 1) := by decide +kernel
theorem dX5_soonestOf_8 : decode cX5_soonestOf 8 = .ok (.getfield 13, 3) := by decide +kernel
theorem dX5_soonestOf_11 : decode cX5_soonestOf 11 = .ok (.iconst 1, 1) := by decide +kernel
theorem dX5_soonestOf_12 : decode cX5_soonestOf 12 = .ok (.iaload, 1) := by decide +kernel
theorem dX5_soonestOf_13 : decode cX5_soonestOf 13 = .ok (.ishl, 1) := by decide +kernel
theorem dX5_soonestOf_14 : decode cX5_soonestOf 14 = .ok (.if_icmp .ge 67, 3) := by decide +kernel
theorem dX5_soonestOf_17 : decode cX5_soonestOf 17 = .ok (.iload_n 3, 1) := by decide +kernel
theorem dX5_soonestOf_18 : decode cX5_soonestOf 18 = .ok (.invokestatic 94, 3) := by decide +kernel
theorem dX5_soonestOf_21 : decode cX5_soonestOf 21 = .ok (.iload_n 1, 1) := by decide +kernel
theorem dX5_soonestOf_22 : decode cX5_soonestOf 22 = .ok (.if_icmp .ne 18, 3) := by decide +kernel
theorem dX5_soonestOf_25 : decode cX5_soonestOf 25 = .ok (.aload_n 0, 1) := by decide +kernel
theorem dX5_soonestOf_26 : decode cX5_soonestOf 26 = .ok (.getfield 39, 3) := by decide +kernel
theorem dX5_soonestOf_29 : decode cX5_soonestOf 29 = .ok (.iload_n 3, 1) := by decide +kernel
theorem dX5_soonestOf_30 : decode cX5_soonestOf 30 = .ok (.iaload, 1) := by decide +kernel
theorem dX5_soonestOf_31 : decode cX5_soonestOf 31 = .ok (.bipush (-9), 2) := by decide +kernel
theorem dX5_soonestOf_33 : decode cX5_soonestOf 33 = .ok (.if_icmp .eq 7, 3) := by decide +kernel
theorem dX5_soonestOf_36 : decode cX5_soonestOf 36 = .ok (.iconst 1, 1) := by decide +kernel
theorem dX5_soonestOf_37 : decode cX5_soonestOf 37 = .ok (.goto 4, 3) := by decide +kernel
theorem dX5_soonestOf_40 : decode cX5_soonestOf 40 = .ok (.iconst 0, 1) := by decide +kernel
theorem dX5_soonestOf_41 : decode cX5_soonestOf 41 = .ok (.istore 4, 2) := by decide +kernel
theorem dX5_soonestOf_43 : decode cX5_soonestOf 43 = .ok (.iload 4, 2) := by decide +kernel
theorem dX5_soonestOf_45 : decode cX5_soonestOf 45 = .ok (.ifCond .eq 28, 3) := by decide +kernel
theorem dX5_soonestOf_48 : decode cX5_soonestOf 48 = .ok (.iload_n 2, 1) := by decide +kernel
theorem dX5_soonestOf_49 : decode cX5_soonestOf 49 = .ok (.bipush (-9), 2) := by decide +kernel
theorem dX5_soonestOf_51 : decode cX5_soonestOf 51 = .ok (.if_icmp .eq 13, 3) := by decide +kernel
theorem dX5_soonestOf_54 : decode cX5_soonestOf 54 = .ok (.aload_n 0, 1) := by decide +kernel
theorem dX5_soonestOf_55 : decode cX5_soonestOf 55 = .ok (.getfield 39, 3) := by decide +kernel
theorem dX5_soonestOf_58 : decode cX5_soonestOf 58 = .ok (.iload_n 3, 1) := by decide +kernel
theorem dX5_soonestOf_59 : decode cX5_soonestOf 59 = .ok (.iaload, 1) := by decide +kernel
theorem dX5_soonestOf_60 : decode cX5_soonestOf 60 = .ok (.iload_n 2, 1) := by decide +kernel
theorem dX5_soonestOf_61 : decode cX5_soonestOf 61 = .ok (.if_icmp .ge 12, 3) := by decide +kernel
theorem dX5_soonestOf_64 : decode cX5_soonestOf 64 = .ok (.aload_n 0, 1) := by decide +kernel
theorem dX5_soonestOf_65 : decode cX5_soonestOf 65 = .ok (.getfield 39, 3) := by decide +kernel
theorem dX5_soonestOf_68 : decode cX5_soonestOf 68 = .ok (.iload_n 3, 1) := by decide +kernel
theorem dX5_soonestOf_69 : decode cX5_soonestOf 69 = .ok (.iaload, 1) := by decide +kernel
theorem dX5_soonestOf_70 : decode cX5_soonestOf 70 = .ok (.goto 4, 3) := by decide +kernel
theorem dX5_soonestOf_73 : decode cX5_soonestOf 73 = .ok (.iload_n 2, 1) := by decide +kernel
theorem dX5_soonestOf_74 : decode cX5_soonestOf 74 = .ok (.istore_n 2, 1) := by decide +kernel
theorem dX5_soonestOf_75 : decode cX5_soonestOf 75 = .ok (.iinc 3 1, 3) := by decide +kernel
theorem dX5_soonestOf_78 : decode cX5_soonestOf 78 = .ok (.goto (-73), 3) := by decide +kernel
theorem dX5_soonestOf_81 : decode cX5_soonestOf 81 = .ok (.iload_n 2, 1) := by decide +kernel
theorem dX5_soonestOf_82 : decode cX5_soonestOf 82 = .ok (.ireturn, 1) := by decide +kernel
theorem dX5_order_0 : decode cX5_order 0 = .ok (.aload_n 0, 1) := by decide +kernel
theorem dX5_order_1 : decode cX5_order 1 = .ok (.iload_n 1, 1) := by decide +kernel
theorem dX5_order_2 : decode cX5_order 2 = .ok (.invokevirtual 97, 3) := by decide +kernel
theorem dX5_order_5 : decode cX5_order 5 = .ok (.ifCond .eq 24, 3) := by decide +kernel
theorem dX5_order_8 : decode cX5_order 8 = .ok (.iload_n 2, 1) := by decide +kernel
theorem dX5_order_9 : decode cX5_order 9 = .ok (.iconst 0, 1) := by decide +kernel
theorem dX5_order_10 : decode cX5_order 10 = .ok (.sipush 999, 3) := by decide +kernel
theorem dX5_order_13 : decode cX5_order 13 = .ok (.invokestatic 49, 3) := by decide +kernel
theorem dX5_order_16 : decode cX5_order 16 = .ok (.ifCond .eq 13, 3) := by decide +kernel
theorem dX5_order_19 : decode cX5_order 19 = .ok (.iload_n 3, 1) := by decide +kernel
theorem dX5_order_20 : decode cX5_order 20 = .ok (.bipush (-2), 2) := by decide +kernel
theorem dX5_order_22 : decode cX5_order 22 = .ok (.iconst 5, 1) := by decide +kernel
theorem dX5_order_23 : decode cX5_order 23 = .ok (.invokestatic 49, 3) := by decide +kernel
theorem dX5_order_26 : decode cX5_order 26 = .ok (.ifCond .ne 5, 3) := by decide +kernel
theorem dX5_order_29 : decode cX5_order 29 = .ok (.iconst (-1), 1) := by decide +kernel
theorem dX5_order_30 : decode cX5_order 30 = .ok (.ireturn, 1) := by decide +kernel
theorem dX5_order_31 : decode cX5_order 31 = .ok (.aload_n 0, 1) := by decide +kernel
theorem dX5_order_32 : decode cX5_order 32 = .ok (.getfield 19, 3) := by decide +kernel
theorem dX5_order_35 : decode cX5_order 35 = .ok (.bipush 13, 2) := by decide +kernel
theorem dX5_order_37 : decode cX5_order 37 = .ok (.iaload, 1) := by decide +kernel
theorem dX5_order_38 : decode cX5_order 38 = .ok (.istore 4, 2) := by decide +kernel
theorem dX5_order_40 : decode cX5_order 40 = .ok (.aload_n 0, 1) := by decide +kernel
theorem dX5_order_41 : decode cX5_order 41 = .ok (.iload_n 1, 1) := by decide +kernel
theorem dX5_order_42 : decode cX5_order 42 = .ok (.iconst 0, 1) := by decide +kernel
theorem dX5_order_43 : decode cX5_order 43 = .ok (.iload 4, 2) := by decide +kernel
theorem dX5_order_45 : decode cX5_order 45 = .ok (.iload_n 2, 1) := by decide +kernel
theorem dX5_order_46 : decode cX5_order 46 = .ok (.invokevirtual 140, 3) := by decide +kernel
theorem dX5_order_49 : decode cX5_order 49 = .ok (.bipush 6, 2) := by decide +kernel
theorem dX5_order_51 : decode cX5_order 51 = .ok (.istore 5, 2) := by decide +kernel
theorem dX5_order_53 : decode cX5_order 53 = .ok (.aload_n 0, 1) := by decide +kernel
theorem dX5_order_54 : decode cX5_order 54 = .ok (.iload 5, 2) := by decide +kernel
theorem dX5_order_56 : decode cX5_order 56 = .ok (.invokevirtual 144, 3) := by decide +kernel
theorem dX5_order_59 : decode cX5_order 59 = .ok (.bipush (-9), 2) := by decide +kernel
theorem dX5_order_61 : decode cX5_order 61 = .ok (.if_icmp .ne 9, 3) := by decide +kernel
theorem dX5_order_64 : decode cX5_order 64 = .ok (.iinc 5 (-1), 3) := by decide +kernel
theorem dX5_order_67 : decode cX5_order 67 = .ok (.goto (-14), 3) := by decide +kernel
theorem dX5_order_70 : decode cX5_order 70 = .ok (.aload_n 0, 1) := by decide +kernel
theorem dX5_order_71 : decode cX5_order 71 = .ok (.iload 5, 2) := by decide +kernel
theorem dX5_order_73 : decode cX5_order 73 = .ok (.invokevirtual 144, 3) := by decide +kernel
theorem dX5_order_76 : decode cX5_order 76 = .ok (.istore 6, 2) := by decide +kernel
theorem dX5_order_78 : decode cX5_order 78 = .ok (.iload_n 3, 1) := by decide +kernel
theorem dX5_order_79 : decode cX5_order 79 = .ok (.ifCond .ge 16, 3) := by decide +kernel
theorem dX5_order_82 : decode cX5_order 82 = .ok (.iload_n 3, 1) := by decide +kernel
theorem dX5_order_83 : decode cX5_order 83 = .ok (.iconst (-1), 1) := by decide +kernel
theorem dX5_order_84 : decode cX5_order 84 = .ok (.if_icmp .ne 8, 3) := by decide +kernel
theorem dX5_order_87 : decode cX5_order 87 = .ok (.iload 5, 2) := by decide +kernel
theorem dX5_order_89 : decode cX5_order 89 = .ok (.goto 5, 3) := by decide +kernel
theorem dX5_order_92 : decode cX5_order 92 = .ok (.iload 6, 2) := by decide +kernel
theorem dX5_order_94 : decode cX5_order 94 = .ok (.ireturn, 1) := by decide +kernel
theorem dX5_order_95 : decode cX5_order 95 = .ok (.iconst 0, 1) := by decide +kernel
theorem dX5_order_96 : decode cX5_order 96 = .ok (.istore 7, 2) := by decide +kernel
theorem dX5_order_98 : decode cX5_order 98 = .ok (.bipush (-9), 2) := by decide +kernel
theorem dX5_order_100 : decode cX5_order 100 = .ok (.istore 8, 2) := by decide +kernel
theorem dX5_order_102 : decode cX5_order 102 = .ok (.iconst 0, 1) := by decide +kernel
theorem dX5_order_103 : decode cX5_order 103 = .ok (.istore 9, 2) := by decide +kernel
theorem dX5_order_105 : decode cX5_order 105 = .ok (.iload 9, 2) := by decide +kernel
theorem dX5_order_107 : decode cX5_order 107 = .ok (.iload_n 3, 1) := by decide +kernel
theorem dX5_order_108 : decode cX5_order 108 = .ok (.if_icmp .gt 134, 3) := by decide +kernel
theorem dX5_order_111 : decode cX5_order 111 = .ok (.iload 9, 2) := by decide +kernel
theorem dX5_order_113 : decode cX5_order 113 = .ok (.iload 5, 2) := by decide +kernel
theorem dX5_order_115 : decode cX5_order 115 = .ok (.if_icmp .ge 127, 3) := by decide +kernel
theorem dX5_order_118 : decode cX5_order 118 = .ok (.bipush (-9), 2) := by decide +kernel
theorem dX5_order_120 : decode cX5_order 120 = .ok (.istore 8, 2) := by decide +kernel
theorem dX5_order_122 : decode cX5_order 122 = .ok (.bipush (-9), 2) := by decide +kernel
theorem dX5_order_124 : decode cX5_order 124 = .ok (.istore 10, 2) := by decide +kernel
theorem dX5_order_126 : decode cX5_order 126 = .ok (.iconst 0, 1) := by decide +kernel
theorem dX5_order_127 : decode cX5_order 127 = .ok (.istore 11, 2) := by decide +kernel
theorem dX5_order_129 : decode cX5_order 129 = .ok (.iload 11, 2) := by decide +kernel
theorem dX5_order_131 : decode cX5_order 131 = .ok (.aload_n 0, 1) := by decide +kernel
theorem dX5_order_132 : decode cX5_order 132 = .ok (.getfield 13, 3) := by decide +kernel
theorem dX5_order_135 : decode cX5_order 135 = .ok (.iconst 1, 1) := by decide +kernel
theorem dX5_order_136 : decode cX5_order 136 = .ok (.iaload, 1) := by decide +kernel
theorem dX5_order_137 : decode cX5_order 137 = .ok (.if_icmp .ge 86, 3) := by decide +kernel
theorem dX5_order_140 : decode cX5_order 140 = .ok (.iload 8, 2) := by decide +kernel
theorem dX5_order_142 : decode cX5_order 142 = .ok (.bipush (-9), 2) := by decide +kernel
theorem dX5_order_144 : decode cX5_order 144 = .ok (.if_icmp .ne 79, 3) := by decide +kernel
theorem dX5_order_147 : decode cX5_order 147 = .ok (.iload 7, 2) := by decide +kernel
theorem dX5_order_149 : decode cX5_order 149 = .ok (.iload 11, 2) := by decide +kernel
theorem dX5_order_151 : decode cX5_order 151 = .ok (.ishr, 1) := by decide +kernel
theorem dX5_order_152 : decode cX5_order 152 = .ok (.iconst 1, 1) := by decide +kernel
theorem dX5_order_153 : decode cX5_order 153 = .ok (.iand, 1) := by decide +kernel
theorem dX5_order_154 : decode cX5_order 154 = .ok (.iconst 1, 1) := by decide +kernel
theorem dX5_order_155 : decode cX5_order 155 = .ok (.if_icmp .ne 8, 3) := by decide +kernel
theorem dX5_order_158 : decode cX5_order 158 = .ok (.bipush (-9), 2) := by decide +kernel
theorem dX5_order_160 : decode cX5_order 160 = .ok (.goto 13, 3) := by decide +kernel
theorem dX5_order_163 : decode cX5_order 163 = .ok (.aload_n 0, 1) := by decide +kernel
theorem dX5_order_164 : decode cX5_order 164 = .ok (.iload 11, 2) := by decide +kernel
theorem dX5_order_166 : decode cX5_order 166 = .ok (.iload_n 1, 1) := by decide +kernel
theorem dX5_order_167 : decode cX5_order 167 = .ok (.iload 4, 2) := by decide +kernel
theorem dX5_order_169 : decode cX5_order 169 = .ok (.iload_n 2, 1) := by decide +kernel
theorem dX5_order_170 : decode cX5_order 170 = .ok (.invokevirtual 136, 3) := by decide +kernel
theorem dX5_order_173 : decode cX5_order 173 = .ok (.istore 10, 2) := by decide +kernel
theorem dX5_order_175 : decode cX5_order 175 = .ok (.iload 10, 2) := by decide +kernel
theorem dX5_order_177 : decode cX5_order 177 = .ok (.bipush (-9), 2) := by decide +kernel
theorem dX5_order_179 : decode cX5_order 179 = .ok (.if_icmp .eq 38, 3) := by decide +kernel
theorem dX5_order_182 : decode cX5_order 182 = .ok (.aload_n 0, 1) := by decide +kernel
theorem dX5_order_183 : decode cX5_order 183 = .ok (.iload_n 1, 1) := by decide +kernel
theorem dX5_order_184 : decode cX5_order 184 = .ok (.iload 7, 2) := by decide +kernel
theorem dX5_order_186 : decode cX5_order 186 = .ok (.iconst 1, 1) := by decide +kernel
theorem dX5_order_187 : decode cX5_order 187 = .ok (.iload 11, 2) := by decide +kernel
theorem dX5_order_189 : decode cX5_order 189 = .ok (.ishl, 1) := by decide +kernel
theorem dX5_order_190 : decode cX5_order 190 = .ok (.ior, 1) := by decide +kernel
theorem dX5_order_191 : decode cX5_order 191 = .ok (.iload 10, 2) := by decide +kernel
theorem dX5_order_193 : decode cX5_order 193 = .ok (.iload_n 2, 1) := by decide +kernel
theorem dX5_order_194 : decode cX5_order 194 = .ok (.invokevirtual 140, 3) := by decide +kernel
theorem dX5_order_197 : decode cX5_order 197 = .ok (.aload_n 0, 1) := by decide +kernel
theorem dX5_order_198 : decode cX5_order 198 = .ok (.iload 5, 2) := by decide +kernel
theorem dX5_order_200 : decode cX5_order 200 = .ok (.invokevirtual 144, 3) := by decide +kernel
theorem dX5_order_203 : decode cX5_order 203 = .ok (.iload 6, 2) := by decide +kernel
theorem dX5_order_205 : decode cX5_order 205 = .ok (.if_icmp .ne 8, 3) := by decide +kernel
theorem dX5_order_208 : decode cX5_order 208 = .ok (.iload 11, 2) := by decide +kernel
theorem dX5_order_210 : decode cX5_order 210 = .ok (.goto 5, 3) := by decide +kernel
theorem dX5_order_213 : decode cX5_order 213 = .ok (.bipush (-9), 2) := by decide +kernel
theorem dX5_order_215 : decode cX5_order 215 = .ok (.istore 8, 2) := by decide +kernel
theorem dX5_order_217 : decode cX5_order 217 = .ok (.iinc 11 1, 3) := by decide +kernel
theorem dX5_order_220 : decode cX5_order 220 = .ok (.goto (-91), 3) := by decide +kernel
theorem dX5_order_223 : decode cX5_order 223 = .ok (.iload 7, 2) := by decide +kernel
theorem dX5_order_225 : decode cX5_order 225 = .ok (.iconst 1, 1) := by decide +kernel
theorem dX5_order_226 : decode cX5_order 226 = .ok (.iload 8, 2) := by decide +kernel
theorem dX5_order_228 : decode cX5_order 228 = .ok (.ishl, 1) := by decide +kernel
theorem dX5_order_229 : decode cX5_order 229 = .ok (.ior, 1) := by decide +kernel
theorem dX5_order_230 : decode cX5_order 230 = .ok (.istore 7, 2) := by decide +kernel
theorem dX5_order_232 : decode cX5_order 232 = .ok (.iload 10, 2) := by decide +kernel
theorem dX5_order_234 : decode cX5_order 234 = .ok (.istore 4, 2) := by decide +kernel
theorem dX5_order_236 : decode cX5_order 236 = .ok (.iinc 9 1, 3) := by decide +kernel
theorem dX5_order_239 : decode cX5_order 239 = .ok (.goto (-134), 3) := by decide +kernel
theorem dX5_order_242 : decode cX5_order 242 = .ok (.iload_n 3, 1) := by decide +kernel
theorem dX5_order_243 : decode cX5_order 243 = .ok (.iload 5, 2) := by decide +kernel
theorem dX5_order_245 : decode cX5_order 245 = .ok (.if_icmp .ge 8, 3) := by decide +kernel
theorem dX5_order_248 : decode cX5_order 248 = .ok (.iload 8, 2) := by decide +kernel
theorem dX5_order_250 : decode cX5_order 250 = .ok (.goto 5, 3) := by decide +kernel
theorem dX5_order_253 : decode cX5_order 253 = .ok (.bipush (-9), 2) := by decide +kernel
theorem dX5_order_255 : decode cX5_order 255 = .ok (.ireturn, 1) := by decide +kernel
theorem dX5_fire_0 : decode cX5_fire 0 = .ok (.aload_n 0, 1) := by decide +kernel
theorem dX5_fire_1 : decode cX5_fire 1 = .ok (.iload_n 1, 1) := by decide +kernel
theorem dX5_fire_2 : decode cX5_fire 2 = .ok (.invokevirtual 111, 3) := by decide +kernel
theorem dX5_fire_5 : decode cX5_fire 5 = .ok (.ifCond .eq 13, 3) := by decide +kernel
theorem dX5_fire_8 : decode cX5_fire 8 = .ok (.iload_n 2, 1) := by decide +kernel
theorem dX5_fire_9 : decode cX5_fire 9 = .ok (.iconst 1, 1) := by decide +kernel
theorem dX5_fire_10 : decode cX5_fire 10 = .ok (.bipush 99, 2) := by decide +kernel
theorem dX5_fire_12 : decode cX5_fire 12 = .ok (.invokestatic 49, 3) := by decide +kernel
theorem dX5_fire_15 : decode cX5_fire 15 = .ok (.ifCond .ne 5, 3) := by decide +kernel
theorem dX5_fire_18 : decode cX5_fire 18 = .ok (.iconst (-1), 1) := by decide +kernel
theorem dX5_fire_19 : decode cX5_fire 19 = .ok (.ireturn, 1) := by decide +kernel
theorem dX5_fire_20 : decode cX5_fire 20 = .ok (.aload_n 0, 1) := by decide +kernel
theorem dX5_fire_21 : decode cX5_fire 21 = .ok (.getfield 13, 3) := by decide +kernel
theorem dX5_fire_24 : decode cX5_fire 24 = .ok (.bipush 25, 2) := by decide +kernel
theorem dX5_fire_26 : decode cX5_fire 26 = .ok (.iload_n 1, 1) := by decide +kernel
theorem dX5_fire_27 : decode cX5_fire 27 = .ok (.iadd, 1) := by decide +kernel
theorem dX5_fire_28 : decode cX5_fire 28 = .ok (.iaload, 1) := by decide +kernel
theorem dX5_fire_29 : decode cX5_fire 29 = .ok (.iload_n 2, 1) := by decide +kernel
theorem dX5_fire_30 : decode cX5_fire 30 = .ok (.iadd, 1) := by decide +kernel
theorem dX5_fire_31 : decode cX5_fire 31 = .ok (.iconst 1, 1) := by decide +kernel
theorem dX5_fire_32 : decode cX5_fire 32 = .ok (.isub, 1) := by decide +kernel
theorem dX5_fire_33 : decode cX5_fire 33 = .ok (.iload_n 2, 1) := by decide +kernel
theorem dX5_fire_34 : decode cX5_fire 34 = .ok (.idiv, 1) := by decide +kernel
theorem dX5_fire_35 : decode cX5_fire 35 = .ok (.istore_n 3, 1) := by decide +kernel
theorem dX5_fire_36 : decode cX5_fire 36 = .ok (.bipush 10, 2) := by decide +kernel
theorem dX5_fire_38 : decode cX5_fire 38 = .ok (.iload_n 3, 1) := by decide +kernel
theorem dX5_fire_39 : decode cX5_fire 39 = .ok (.imul, 1) := by decide +kernel
theorem dX5_fire_40 : decode cX5_fire 40 = .ok (.bipush 8, 2) := by decide +kernel
theorem dX5_fire_42 : decode cX5_fire 42 = .ok (.iadd, 1) := by decide +kernel
theorem dX5_fire_43 : decode cX5_fire 43 = .ok (.bipush 9, 2) := by decide +kernel
theorem dX5_fire_45 : decode cX5_fire 45 = .ok (.idiv, 1) := by decide +kernel
theorem dX5_fire_46 : decode cX5_fire 46 = .ok (.ireturn, 1) := by decide +kernel
theorem dX5_odds_0 : decode cX5_odds 0 = .ok (.aload_n 0, 1) := by decide +kernel
theorem dX5_odds_1 : decode cX5_odds 1 = .ok (.iload_n 1, 1) := by decide +kernel
theorem dX5_odds_2 : decode cX5_odds 2 = .ok (.invokevirtual 111, 3) := by decide +kernel
theorem dX5_odds_5 : decode cX5_odds 5 = .ok (.ifCond .eq 31, 3) := by decide +kernel
theorem dX5_odds_8 : decode cX5_odds 8 = .ok (.aload_n 0, 1) := by decide +kernel
theorem dX5_odds_9 : decode cX5_odds 9 = .ok (.iload_n 2, 1) := by decide +kernel
theorem dX5_odds_10 : decode cX5_odds 10 = .ok (.invokevirtual 97, 3) := by decide +kernel
theorem dX5_odds_13 : decode cX5_odds 13 = .ok (.ifCond .eq 23, 3) := by decide +kernel
theorem dX5_odds_16 : decode cX5_odds 16 = .ok (.iload_n 3, 1) := by decide +kernel
theorem dX5_odds_17 : decode cX5_odds 17 = .ok (.iconst 0, 1) := by decide +kernel
theorem dX5_odds_18 : decode cX5_odds 18 = .ok (.bipush 10, 2) := by decide +kernel
theorem dX5_odds_20 : decode cX5_odds 20 = .ok (.invokestatic 49, 3) := by decide +kernel
theorem dX5_odds_23 : decode cX5_odds 23 = .ok (.ifCond .eq 13, 3) := by decide +kernel
theorem dX5_odds_26 : decode cX5_odds 26 = .ok (.iload 4, 2) := by decide +kernel
theorem dX5_odds_28 : decode cX5_odds 28 = .ok (.iconst 0, 1) := by decide +kernel
theorem dX5_odds_29 : decode cX5_odds 29 = .ok (.iconst 1, 1) := by decide +kernel
theorem dX5_odds_30 : decode cX5_odds 30 = .ok (.invokestatic 49, 3) := by decide +kernel
theorem dX5_odds_33 : decode cX5_odds 33 = .ok (.ifCond .ne 5, 3) := by decide +kernel
theorem dX5_odds_36 : decode cX5_odds 36 = .ok (.iconst (-1), 1) := by decide +kernel
theorem dX5_odds_37 : decode cX5_odds 37 = .ok (.ireturn, 1) := by decide +kernel
theorem dX5_odds_38 : decode cX5_odds 38 = .ok (.aload_n 0, 1) := by decide +kernel
theorem dX5_odds_39 : decode cX5_odds 39 = .ok (.iload_n 1, 1) := by decide +kernel
theorem dX5_odds_40 : decode cX5_odds 40 = .ok (.invokevirtual 114, 3) := by decide +kernel
theorem dX5_odds_43 : decode cX5_odds 43 = .ok (.ifCond .ne 6, 3) := by decide +kernel
theorem dX5_odds_46 : decode cX5_odds 46 = .ok (.bipush (-2), 2) := by decide +kernel
theorem dX5_odds_48 : decode cX5_odds 48 = .ok (.ireturn, 1) := by decide +kernel
theorem dX5_odds_49 : decode cX5_odds 49 = .ok (.iconst 0, 1) := by decide +kernel
theorem dX5_odds_50 : decode cX5_odds 50 = .ok (.istore 5, 2) := by decide +kernel
theorem dX5_odds_52 : decode cX5_odds 52 = .ok (.iconst 1, 1) := by decide +kernel
theorem dX5_odds_53 : decode cX5_odds 53 = .ok (.istore 6, 2) := by decide +kernel
theorem dX5_odds_55 : decode cX5_odds 55 = .ok (.iconst 0, 1) := by decide +kernel
theorem dX5_odds_56 : decode cX5_odds 56 = .ok (.istore 7, 2) := by decide +kernel
theorem dX5_odds_58 : decode cX5_odds 58 = .ok (.iload 7, 2) := by decide +kernel
theorem dX5_odds_60 : decode cX5_odds 60 = .ok (.aload_n 0, 1) := by decide +kernel
theorem dX5_odds_61 : decode cX5_odds 61 = .ok (.getfield 13, 3) := by decide +kernel
theorem dX5_odds_64 : decode cX5_odds 64 = .ok (.iconst 0, 1) := by decide +kernel
theorem dX5_odds_65 : decode cX5_odds 65 = .ok (.iaload, 1) := by decide +kernel
theorem dX5_odds_66 : decode cX5_odds 66 = .ok (.if_icmp .ge 29, 3) := by decide +kernel
theorem dX5_odds_69 : decode cX5_odds 69 = .ok (.iload 6, 2) := by decide +kernel
theorem dX5_odds_71 : decode cX5_odds 71 = .ok (.aload_n 0, 1) := by decide +kernel
theorem dX5_odds_72 : decode cX5_odds 72 = .ok (.iload 7, 2) := by decide +kernel
theorem dX5_odds_74 : decode cX5_odds 74 = .ok (.invokevirtual 104, 3) := by decide +kernel
theorem dX5_odds_77 : decode cX5_odds 77 = .ok (.ifCond .eq 7, 3) := by decide +kernel
theorem dX5_odds_80 : decode cX5_odds 80 = .ok (.iconst 1, 1) := by decide +kernel
theorem dX5_odds_81 : decode cX5_odds 81 = .ok (.goto 5, 3) := by decide +kernel
theorem dX5_odds_84 : decode cX5_odds 84 = .ok (.bipush 10, 2) := by decide +kernel
theorem dX5_odds_86 : decode cX5_odds 86 = .ok (.imul, 1) := by decide +kernel
theorem dX5_odds_87 : decode cX5_odds 87 = .ok (.istore 6, 2) := by decide +kernel
theorem dX5_odds_89 : decode cX5_odds 89 = .ok (.iinc 7 1, 3) := by decide +kernel
theorem dX5_odds_92 : decode cX5_odds 92 = .ok (.goto (-34), 3) := by decide +kernel
theorem dX5_odds_95 : decode cX5_odds 95 = .ok (.iconst 0, 1) := by decide +kernel
theorem dX5_odds_96 : decode cX5_odds 96 = .ok (.istore 7, 2) := by decide +kernel
theorem dX5_odds_98 : decode cX5_odds 98 = .ok (.iload 7, 2) := by decide +kernel
theorem dX5_odds_100 : decode cX5_odds 100 = .ok (.iconst 1, 1) := by decide +kernel
theorem dX5_odds_101 : decode cX5_odds 101 = .ok (.aload_n 0, 1) := by decide +kernel
theorem dX5_odds_102 : decode cX5_odds 102 = .ok (.getfield 13, 3) := by decide +kernel
theorem dX5_odds_105 : decode cX5_odds 105 = .ok (.iconst 0, 1) := by decide +kernel
theorem dX5_odds_106 : decode cX5_odds 106 = .ok (.iaload, 1) := by decide +kernel
theorem dX5_odds_107 : decode cX5_odds 107 = .ok (.ishl, 1) := by decide +kernel
theorem dX5_odds_108 : decode cX5_odds 108 = .ok (.if_icmp .ge 112, 3) := by decide +kernel
theorem dX5_odds_111 : decode cX5_odds 111 = .ok (.iload 7, 2) := by decide +kernel
theorem dX5_odds_113 : decode cX5_odds 113 = .ok (.aload_n 0, 1) := by decide +kernel
theorem dX5_odds_114 : decode cX5_odds 114 = .ok (.getfield 19, 3) := by decide +kernel
theorem dX5_odds_117 : decode cX5_odds 117 = .ok (.bipush 12, 2) := by decide +kernel
theorem dX5_odds_119 : decode cX5_odds 119 = .ok (.iaload, 1) := by decide +kernel
theorem dX5_odds_120 : decode cX5_odds 120 = .ok (.iand, 1) := by decide +kernel
theorem dX5_odds_121 : decode cX5_odds 121 = .ok (.ifCond .ne 93, 3) := by decide +kernel
theorem dX5_odds_124 : decode cX5_odds 124 = .ok (.iconst 1, 1) := by decide +kernel
theorem dX5_odds_125 : decode cX5_odds 125 = .ok (.istore 8, 2) := by decide +kernel
theorem dX5_odds_127 : decode cX5_odds 127 = .ok (.iconst 0, 1) := by decide +kernel
theorem dX5_odds_128 : decode cX5_odds 128 = .ok (.istore 9, 2) := by decide +kernel
theorem dX5_odds_130 : decode cX5_odds 130 = .ok (.iload 9, 2) := by decide +kernel
theorem dX5_odds_132 : decode cX5_odds 132 = .ok (.aload_n 0, 1) := by decide +kernel
theorem dX5_odds_133 : decode cX5_odds 133 = .ok (.getfield 13, 3) := by decide +kernel
theorem dX5_odds_136 : decode cX5_odds 136 = .ok (.iconst 0, 1) := by decide +kernel
theorem dX5_odds_137 : decode cX5_odds 137 = .ok (.iaload, 1) := by decide +kernel
theorem dX5_odds_138 : decode cX5_odds 138 = .ok (.if_icmp .ge 46, 3) := by decide +kernel
theorem dX5_odds_141 : decode cX5_odds 141 = .ok (.iload 8, 2) := by decide +kernel
theorem dX5_odds_143 : decode cX5_odds 143 = .ok (.aload_n 0, 1) := by decide +kernel
theorem dX5_odds_144 : decode cX5_odds 144 = .ok (.iload 9, 2) := by decide +kernel
theorem dX5_odds_146 : decode cX5_odds 146 = .ok (.invokevirtual 104, 3) := by decide +kernel
theorem dX5_odds_149 : decode cX5_odds 149 = .ok (.ifCond .eq 7, 3) := by decide +kernel
theorem dX5_odds_152 : decode cX5_odds 152 = .ok (.iconst 1, 1) := by decide +kernel
theorem dX5_odds_153 : decode cX5_odds 153 = .ok (.goto 22, 3) := by decide +kernel
theorem dX5_odds_156 : decode cX5_odds 156 = .ok (.iload 7, 2) := by decide +kernel
theorem dX5_odds_158 : decode cX5_odds 158 = .ok (.iload 9, 2) := by decide +kernel
theorem dX5_odds_160 : decode cX5_odds 160 = .ok (.ishr, 1) := by decide +kernel
theorem dX5_odds_161 : decode cX5_odds 161 = .ok (.iconst 1, 1) := by decide +kernel
theorem dX5_odds_162 : decode cX5_odds 162 = .ok (.iand, 1) := by decide +kernel
theorem dX5_odds_163 : decode cX5_odds 163 = .ok (.iconst 1, 1) := by decide +kernel
theorem dX5_odds_164 : decode cX5_odds 164 = .ok (.if_icmp .ne 7, 3) := by decide +kernel
theorem dX5_odds_167 : decode cX5_odds 167 = .ok (.iload_n 3, 1) := by decide +kernel
theorem dX5_odds_168 : decode cX5_odds 168 = .ok (.goto 7, 3) := by decide +kernel
theorem dX5_odds_171 : decode cX5_odds 171 = .ok (.bipush 10, 2) := by decide +kernel
theorem dX5_odds_173 : decode cX5_odds 173 = .ok (.iload_n 3, 1) := by decide +kernel
theorem dX5_odds_174 : decode cX5_odds 174 = .ok (.isub, 1) := by decide +kernel
theorem dX5_odds_175 : decode cX5_odds 175 = .ok (.imul, 1) := by decide +kernel
theorem dX5_odds_176 : decode cX5_odds 176 = .ok (.istore 8, 2) := by decide +kernel
theorem dX5_odds_178 : decode cX5_odds 178 = .ok (.iinc 9 1, 3) := by decide +kernel
theorem dX5_odds_181 : decode cX5_odds 181 = .ok (.goto (-51), 3) := by decide +kernel
theorem dX5_odds_184 : decode cX5_odds 184 = .ok (.iload 5, 2) := by decide +kernel
theorem dX5_odds_186 : decode cX5_odds 186 = .ok (.aload_n 0, 1) := by decide +kernel
theorem dX5_odds_187 : decode cX5_odds 187 = .ok (.iload_n 1, 1) := by decide +kernel
theorem dX5_odds_188 : decode cX5_odds 188 = .ok (.aload_n 0, 1) := by decide +kernel
theorem dX5_odds_189 : decode cX5_odds 189 = .ok (.getfield 19, 3) := by decide +kernel
theorem dX5_odds_192 : decode cX5_odds 192 = .ok (.bipush 12, 2) := by decide +kernel
theorem dX5_odds_194 : decode cX5_odds 194 = .ok (.iaload, 1) := by decide +kernel
theorem dX5_odds_195 : decode cX5_odds 195 = .ok (.iload 7, 2) := by decide +kernel
theorem dX5_odds_197 : decode cX5_odds 197 = .ok (.ior, 1) := by decide +kernel
theorem dX5_odds_198 : decode cX5_odds 198 = .ok (.invokevirtual 117, 3) := by decide +kernel
theorem dX5_odds_201 : decode cX5_odds 201 = .ok (.iload_n 2, 1) := by decide +kernel
theorem dX5_odds_202 : decode cX5_odds 202 = .ok (.if_icmp .ne 8, 3) := by decide +kernel
theorem dX5_odds_205 : decode cX5_odds 205 = .ok (.iload 8, 2) := by decide +kernel
theorem dX5_odds_207 : decode cX5_odds 207 = .ok (.goto 4, 3) := by decide +kernel
theorem dX5_odds_210 : decode cX5_odds 210 = .ok (.iconst 0, 1) := by decide +kernel
theorem dX5_odds_211 : decode cX5_odds 211 = .ok (.iadd, 1) := by decide +kernel
theorem dX5_odds_212 : decode cX5_odds 212 = .ok (.istore 5, 2) := by decide +kernel
theorem dX5_odds_214 : decode cX5_odds 214 = .ok (.iinc 7 1, 3) := by decide +kernel
theorem dX5_odds_217 : decode cX5_odds 217 = .ok (.goto (-119), 3) := by decide +kernel
theorem dX5_odds_220 : decode cX5_odds 220 = .ok (.iload 5, 2) := by decide +kernel
theorem dX5_odds_222 : decode cX5_odds 222 = .ok (.istore 7, 2) := by decide +kernel
theorem dX5_odds_224 : decode cX5_odds 224 = .ok (.iload 6, 2) := by decide +kernel
theorem dX5_odds_226 : decode cX5_odds 226 = .ok (.istore 8, 2) := by decide +kernel
theorem dX5_odds_228 : decode cX5_odds 228 = .ok (.iload 8, 2) := by decide +kernel
theorem dX5_odds_230 : decode cX5_odds 230 = .ok (.ifCond .le 21, 3) := by decide +kernel
theorem dX5_odds_233 : decode cX5_odds 233 = .ok (.iload 7, 2) := by decide +kernel
theorem dX5_odds_235 : decode cX5_odds 235 = .ok (.iload 8, 2) := by decide +kernel
theorem dX5_odds_237 : decode cX5_odds 237 = .ok (.irem, 1) := by decide +kernel
theorem dX5_odds_238 : decode cX5_odds 238 = .ok (.istore 9, 2) := by decide +kernel
theorem dX5_odds_240 : decode cX5_odds 240 = .ok (.iload 8, 2) := by decide +kernel
theorem dX5_odds_242 : decode cX5_odds 242 = .ok (.istore 7, 2) := by decide +kernel
theorem dX5_odds_244 : decode cX5_odds 244 = .ok (.iload 9, 2) := by decide +kernel
theorem dX5_odds_246 : decode cX5_odds 246 = .ok (.istore 8, 2) := by decide +kernel
theorem dX5_odds_248 : decode cX5_odds 248 = .ok (.goto (-20), 3) := by decide +kernel
theorem dX5_odds_251 : decode cX5_odds 251 = .ok (.iload 4, 2) := by decide +kernel
theorem dX5_odds_253 : decode cX5_odds 253 = .ok (.ifCond .ne 11, 3) := by decide +kernel
theorem dX5_odds_256 : decode cX5_odds 256 = .ok (.iload 5, 2) := by decide +kernel
theorem dX5_odds_258 : decode cX5_odds 258 = .ok (.iload 7, 2) := by decide +kernel
theorem dX5_odds_260 : decode cX5_odds 260 = .ok (.idiv, 1) := by decide +kernel
theorem dX5_odds_261 : decode cX5_odds 261 = .ok (.goto 8, 3) := by decide +kernel
theorem dX5_odds_264 : decode cX5_odds 264 = .ok (.iload 6, 2) := by decide +kernel
theorem dX5_odds_266 : decode cX5_odds 266 = .ok (.iload 7, 2) := by decide +kernel
theorem dX5_odds_268 : decode cX5_odds 268 = .ok (.idiv, 1) := by decide +kernel
theorem dX5_odds_269 : decode cX5_odds 269 = .ok (.ireturn, 1) := by decide +kernel
theorem dX5_led_0 : decode cX5_led 0 = .ok (.aload_n 0, 1) := by decide +kernel
theorem dX5_led_1 : decode cX5_led 1 = .ok (.iload_n 1, 1) := by decide +kernel
theorem dX5_led_2 : decode cX5_led 2 = .ok (.invokevirtual 111, 3) := by decide +kernel
theorem dX5_led_5 : decode cX5_led 5 = .ok (.ifCond .eq 11, 3) := by decide +kernel
theorem dX5_led_8 : decode cX5_led 8 = .ok (.aload_n 0, 1) := by decide +kernel
theorem dX5_led_9 : decode cX5_led 9 = .ok (.iload_n 2, 1) := by decide +kernel
theorem dX5_led_10 : decode cX5_led 10 = .ok (.invokevirtual 97, 3) := by decide +kernel
theorem dX5_led_13 : decode cX5_led 13 = .ok (.ifCond .ne 5, 3) := by decide +kernel
theorem dX5_led_16 : decode cX5_led 16 = .ok (.iconst (-1), 1) := by decide +kernel
theorem dX5_led_17 : decode cX5_led 17 = .ok (.ireturn, 1) := by decide +kernel
theorem dX5_led_18 : decode cX5_led 18 = .ok (.aload_n 0, 1) := by decide +kernel
theorem dX5_led_19 : decode cX5_led 19 = .ok (.iload_n 1, 1) := by decide +kernel
theorem dX5_led_20 : decode cX5_led 20 = .ok (.invokevirtual 114, 3) := by decide +kernel
theorem dX5_led_23 : decode cX5_led 23 = .ok (.ifCond .ne 6, 3) := by decide +kernel
theorem dX5_led_26 : decode cX5_led 26 = .ok (.bipush (-2), 2) := by decide +kernel
theorem dX5_led_28 : decode cX5_led 28 = .ok (.ireturn, 1) := by decide +kernel
theorem dX5_led_29 : decode cX5_led 29 = .ok (.aload_n 0, 1) := by decide +kernel
theorem dX5_led_30 : decode cX5_led 30 = .ok (.getfield 88, 3) := by decide +kernel
theorem dX5_led_33 : decode cX5_led 33 = .ok (.bipush 6, 2) := by decide +kernel
theorem dX5_led_35 : decode cX5_led 35 = .ok (.if_icmp .ne 6, 3) := by decide +kernel
theorem dX5_led_38 : decode cX5_led 38 = .ok (.bipush (-3), 2) := by decide +kernel
theorem dX5_led_40 : decode cX5_led 40 = .ok (.ireturn, 1) := by decide +kernel
theorem dX5_led_41 : decode cX5_led 41 = .ok (.aload_n 0, 1) := by decide +kernel
theorem dX5_led_42 : decode cX5_led 42 = .ok (.getfield 29, 3) := by decide +kernel
theorem dX5_led_45 : decode cX5_led 45 = .ok (.aload_n 0, 1) := by decide +kernel
theorem dX5_led_46 : decode cX5_led 46 = .ok (.getfield 88, 3) := by decide +kernel
theorem dX5_led_49 : decode cX5_led 49 = .ok (.bipush 10, 2) := by decide +kernel
theorem dX5_led_51 : decode cX5_led 51 = .ok (.iload_n 1, 1) := by decide +kernel
theorem dX5_led_52 : decode cX5_led 52 = .ok (.imul, 1) := by decide +kernel
theorem dX5_led_53 : decode cX5_led 53 = .ok (.iload_n 2, 1) := by decide +kernel
theorem dX5_led_54 : decode cX5_led 54 = .ok (.iadd, 1) := by decide +kernel
theorem dX5_led_55 : decode cX5_led 55 = .ok (.iastore, 1) := by decide +kernel
theorem dX5_led_56 : decode cX5_led 56 = .ok (.aload_n 0, 1) := by decide +kernel
theorem dX5_led_57 : decode cX5_led 57 = .ok (.dup, 1) := by decide +kernel
theorem dX5_led_58 : decode cX5_led 58 = .ok (.getfield 88, 3) := by decide +kernel
theorem dX5_led_61 : decode cX5_led 61 = .ok (.iconst 1, 1) := by decide +kernel
theorem dX5_led_62 : decode cX5_led 62 = .ok (.iadd, 1) := by decide +kernel
theorem dX5_led_63 : decode cX5_led 63 = .ok (.putfield 88, 3) := by decide +kernel
theorem dX5_led_66 : decode cX5_led 66 = .ok (.aload_n 0, 1) := by decide +kernel
theorem dX5_led_67 : decode cX5_led 67 = .ok (.getfield 88, 3) := by decide +kernel
theorem dX5_led_70 : decode cX5_led 70 = .ok (.ireturn, 1) := by decide +kernel
theorem dX5_forget_0 : decode cX5_forget 0 = .ok (.aload_n 0, 1) := by decide +kernel
theorem dX5_forget_1 : decode cX5_forget 1 = .ok (.getfield 88, 3) := by decide +kernel
theorem dX5_forget_4 : decode cX5_forget 4 = .ok (.istore_n 1, 1) := by decide +kernel
theorem dX5_forget_5 : decode cX5_forget 5 = .ok (.aload_n 0, 1) := by decide +kernel
theorem dX5_forget_6 : decode cX5_forget 6 = .ok (.iconst 0, 1) := by decide +kernel
theorem dX5_forget_7 : decode cX5_forget 7 = .ok (.putfield 88, 3) := by decide +kernel
theorem dX5_forget_10 : decode cX5_forget 10 = .ok (.iload_n 1, 1) := by decide +kernel
theorem dX5_forget_11 : decode cX5_forget 11 = .ok (.ireturn, 1) := by decide +kernel
theorem dX5_vanilla_0 : decode cX5_vanilla 0 = .ok (.iconst 0, 1) := by decide +kernel
theorem dX5_vanilla_1 : decode cX5_vanilla 1 = .ok (.istore_n 1, 1) := by decide +kernel
theorem dX5_vanilla_2 : decode cX5_vanilla 2 = .ok (.iconst 0, 1) := by decide +kernel
theorem dX5_vanilla_3 : decode cX5_vanilla 3 = .ok (.istore_n 2, 1) := by decide +kernel
theorem dX5_vanilla_4 : decode cX5_vanilla 4 = .ok (.iload_n 2, 1) := by decide +kernel
theorem dX5_vanilla_5 : decode cX5_vanilla 5 = .ok (.iconst 5, 1) := by decide +kernel
theorem dX5_vanilla_6 : decode cX5_vanilla 6 = .ok (.if_icmp .gt 134, 3) := by decide +kernel
theorem dX5_vanilla_9 : decode cX5_vanilla 9 = .ok (.aload_n 0, 1) := by decide +kernel
theorem dX5_vanilla_10 : decode cX5_vanilla 10 = .ok (.iload_n 2, 1) := by decide +kernel
theorem dX5_vanilla_11 : decode cX5_vanilla 11 = .ok (.iconst 5, 1) := by decide +kernel
theorem dX5_vanilla_12 : decode cX5_vanilla 12 = .ok (.if_icmp .ne 8, 3) := by decide +kernel
theorem dX5_vanilla_15 : decode cX5_vanilla 15 = .ok (.bipush (-9), 2) := by decide +kernel
theorem dX5_vanilla_17 : decode cX5_vanilla 17 = .ok (.goto 4, 3) := by decide +kernel
theorem dX5_vanilla_20 : decode cX5_vanilla 20 = .ok (.iload_n 2, 1) := by decide +kernel
theorem dX5_vanilla_21 : decode cX5_vanilla 21 = .ok (.putfield 32, 3) := by decide +kernel
theorem dX5_vanilla_24 : decode cX5_vanilla 24 = .ok (.iload_n 2, 1) := by decide +kernel
theorem dX5_vanilla_25 : decode cX5_vanilla 25 = .ok (.iconst 5, 1) := by decide +kernel
theorem dX5_vanilla_26 : decode cX5_vanilla 26 = .ok (.if_icmp .eq 13, 3) := by decide +kernel
theorem dX5_vanilla_29 : decode cX5_vanilla 29 = .ok (.iload_n 2, 1) := by decide +kernel
theorem dX5_vanilla_30 : decode cX5_vanilla 30 = .ok (.aload_n 0, 1) := by decide +kernel
theorem dX5_vanilla_31 : decode cX5_vanilla 31 = .ok (.getfield 13, 3) := by decide +kernel
theorem dX5_vanilla_34 : decode cX5_vanilla 34 = .ok (.iconst 0, 1) := by decide +kernel
theorem dX5_vanilla_35 : decode cX5_vanilla 35 = .ok (.iaload, 1) := by decide +kernel
theorem dX5_vanilla_36 : decode cX5_vanilla 36 = .ok (.if_icmp .ge 7, 3) := by decide +kernel
theorem dX5_vanilla_39 : decode cX5_vanilla 39 = .ok (.iconst 1, 1) := by decide +kernel
theorem dX5_vanilla_40 : decode cX5_vanilla 40 = .ok (.goto 4, 3) := by decide +kernel
theorem dX5_vanilla_43 : decode cX5_vanilla 43 = .ok (.iconst 0, 1) := by decide +kernel
theorem dX5_vanilla_44 : decode cX5_vanilla 44 = .ok (.istore_n 3, 1) := by decide +kernel
theorem dX5_vanilla_45 : decode cX5_vanilla 45 = .ok (.iconst 0, 1) := by decide +kernel
theorem dX5_vanilla_46 : decode cX5_vanilla 46 = .ok (.istore 4, 2) := by decide +kernel
theorem dX5_vanilla_48 : decode cX5_vanilla 48 = .ok (.iload 4, 2) := by decide +kernel
theorem dX5_vanilla_50 : decode cX5_vanilla 50 = .ok (.aload_n 0, 1) := by decide +kernel
theorem dX5_vanilla_51 : decode cX5_vanilla 51 = .ok (.getfield 88, 3) := by decide +kernel
theorem dX5_vanilla_54 : decode cX5_vanilla 54 = .ok (.if_icmp .ge 66, 3) := by decide +kernel
theorem dX5_vanilla_57 : decode cX5_vanilla 57 = .ok (.aload_n 0, 1) := by decide +kernel
theorem dX5_vanilla_58 : decode cX5_vanilla 58 = .ok (.getfield 29, 3) := by decide +kernel
theorem dX5_vanilla_61 : decode cX5_vanilla 61 = .ok (.iload 4, 2) := by decide +kernel
theorem dX5_vanilla_63 : decode cX5_vanilla 63 = .ok (.iaload, 1) := by decide +kernel
theorem dX5_vanilla_64 : decode cX5_vanilla 64 = .ok (.bipush 10, 2) := by decide +kernel
theorem dX5_vanilla_66 : decode cX5_vanilla 66 = .ok (.idiv, 1) := by decide +kernel
theorem dX5_vanilla_67 : decode cX5_vanilla 67 = .ok (.istore 5, 2) := by decide +kernel
theorem dX5_vanilla_69 : decode cX5_vanilla 69 = .ok (.iload_n 3, 1) := by decide +kernel
theorem dX5_vanilla_70 : decode cX5_vanilla 70 = .ok (.ifCond .eq 42, 3) := by decide +kernel
theorem dX5_vanilla_73 : decode cX5_vanilla 73 = .ok (.aload_n 0, 1) := by decide +kernel
theorem dX5_vanilla_74 : decode cX5_vanilla 74 = .ok (.iload 5, 2) := by decide +kernel
theorem dX5_vanilla_76 : decode cX5_vanilla 76 = .ok (.invokevirtual 114, 3) := by decide +kernel
theorem dX5_vanilla_79 : decode cX5_vanilla 79 = .ok (.ifCond .eq 33, 3) := by decide +kernel
theorem dX5_vanilla_82 : decode cX5_vanilla 82 = .ok (.aload_n 0, 1) := by decide +kernel
theorem dX5_vanilla_83 : decode cX5_vanilla 83 = .ok (.iload 5, 2) := by decide +kernel
theorem dX5_vanilla_85 : decode cX5_vanilla 85 = .ok (.aload_n 0, 1) := by decide +kernel
theorem dX5_vanilla_86 : decode cX5_vanilla 86 = .ok (.getfield 19, 3) := by decide +kernel
theorem dX5_vanilla_89 : decode cX5_vanilla 89 = .ok (.bipush 12, 2) := by decide +kernel
theorem dX5_vanilla_91 : decode cX5_vanilla 91 = .ok (.iaload, 1) := by decide +kernel
theorem dX5_vanilla_92 : decode cX5_vanilla 92 = .ok (.invokevirtual 117, 3) := by decide +kernel
theorem dX5_vanilla_95 : decode cX5_vanilla 95 = .ok (.aload_n 0, 1) := by decide +kernel
theorem dX5_vanilla_96 : decode cX5_vanilla 96 = .ok (.getfield 29, 3) := by decide +kernel
theorem dX5_vanilla_99 : decode cX5_vanilla 99 = .ok (.iload 4, 2) := by decide +kernel
theorem dX5_vanilla_101 : decode cX5_vanilla 101 = .ok (.iaload, 1) := by decide +kernel
theorem dX5_vanilla_102 : decode cX5_vanilla 102 = .ok (.bipush 10, 2) := by decide +kernel
theorem dX5_vanilla_104 : decode cX5_vanilla 104 = .ok (.irem, 1) := by decide +kernel
theorem dX5_vanilla_105 : decode cX5_vanilla 105 = .ok (.if_icmp .ne 7, 3) := by decide +kernel
theorem dX5_vanilla_108 : decode cX5_vanilla 108 = .ok (.iconst 1, 1) := by decide +kernel
theorem dX5_vanilla_109 : decode cX5_vanilla 109 = .ok (.goto 4, 3) := by decide +kernel
theorem dX5_vanilla_112 : decode cX5_vanilla 112 = .ok (.iconst 0, 1) := by decide +kernel
theorem dX5_vanilla_113 : decode cX5_vanilla 113 = .ok (.istore_n 3, 1) := by decide +kernel
theorem dX5_vanilla_114 : decode cX5_vanilla 114 = .ok (.iinc 4 1, 3) := by decide +kernel
theorem dX5_vanilla_117 : decode cX5_vanilla 117 = .ok (.goto (-69), 3) := by decide +kernel
theorem dX5_vanilla_120 : decode cX5_vanilla 120 = .ok (.iload_n 1, 1) := by decide +kernel
theorem dX5_vanilla_121 : decode cX5_vanilla 121 = .ok (.iload_n 3, 1) := by decide +kernel
theorem dX5_vanilla_122 : decode cX5_vanilla 122 = .ok (.ifCond .eq 9, 3) := by decide +kernel
theorem dX5_vanilla_125 : decode cX5_vanilla 125 = .ok (.iconst 1, 1) := by decide +kernel
theorem dX5_vanilla_126 : decode cX5_vanilla 126 = .ok (.iload_n 2, 1) := by decide +kernel
theorem dX5_vanilla_127 : decode cX5_vanilla 127 = .ok (.ishl, 1) := by decide +kernel
theorem dX5_vanilla_128 : decode cX5_vanilla 128 = .ok (.goto 4, 3) := by decide +kernel
theorem dX5_vanilla_131 : decode cX5_vanilla 131 = .ok (.iconst 0, 1) := by decide +kernel
theorem dX5_vanilla_132 : decode cX5_vanilla 132 = .ok (.ior, 1) := by decide +kernel
theorem dX5_vanilla_133 : decode cX5_vanilla 133 = .ok (.istore_n 1, 1) := by decide +kernel
theorem dX5_vanilla_134 : decode cX5_vanilla 134 = .ok (.iinc 2 1, 3) := by decide +kernel
theorem dX5_vanilla_137 : decode cX5_vanilla 137 = .ok (.goto (-133), 3) := by decide +kernel
theorem dX5_vanilla_140 : decode cX5_vanilla 140 = .ok (.aload_n 0, 1) := by decide +kernel
theorem dX5_vanilla_141 : decode cX5_vanilla 141 = .ok (.bipush (-9), 2) := by decide +kernel
theorem dX5_vanilla_143 : decode cX5_vanilla 143 = .ok (.putfield 32, 3) := by decide +kernel
theorem dX5_vanilla_146 : decode cX5_vanilla 146 = .ok (.iload_n 1, 1) := by decide +kernel
theorem dX5_vanilla_147 : decode cX5_vanilla 147 = .ok (.ireturn, 1) := by decide +kernel
theorem dX5_mark_0 : decode cX5_mark 0 = .ok (.iload_n 1, 1) := by decide +kernel
theorem dX5_mark_1 : decode cX5_mark 1 = .ok (.iconst 0, 1) := by decide +kernel
theorem dX5_mark_2 : decode cX5_mark 2 = .ok (.iconst 5, 1) := by decide +kernel
theorem dX5_mark_3 : decode cX5_mark 3 = .ok (.invokestatic 49, 3) := by decide +kernel
theorem dX5_mark_6 : decode cX5_mark 6 = .ok (.ifCond .eq 11, 3) := by decide +kernel
theorem dX5_mark_9 : decode cX5_mark 9 = .ok (.aload_n 0, 1) := by decide +kernel
theorem dX5_mark_10 : decode cX5_mark 10 = .ok (.iload_n 2, 1) := by decide +kernel
theorem dX5_mark_11 : decode cX5_mark 11 = .ok (.invokevirtual 111, 3) := by decide +kernel
theorem dX5_mark_14 : decode cX5_mark 14 = .ok (.ifCond .ne 6, 3) := by decide +kernel
theorem dX5_mark_17 : decode cX5_mark 17 = .ok (.ldc 100, 2) := by decide +kernel
theorem dX5_mark_19 : decode cX5_mark 19 = .ok (.ireturn, 1) := by decide +kernel
theorem dX5_mark_20 : decode cX5_mark 20 = .ok (.aload_n 0, 1) := by decide +kernel
theorem dX5_mark_21 : decode cX5_mark 21 = .ok (.dup, 1) := by decide +kernel
theorem dX5_mark_22 : decode cX5_mark 22 = .ok (.getfield 147, 3) := by decide +kernel
theorem dX5_mark_25 : decode cX5_mark 25 = .ok (.iload_n 1, 1) := by decide +kernel
theorem dX5_mark_26 : decode cX5_mark 26 = .ok (.ifCond .ne 7, 3) := by decide +kernel
theorem dX5_mark_29 : decode cX5_mark 29 = .ok (.lconst 1, 1) := by decide +kernel
theorem dX5_mark_30 : decode cX5_mark 30 = .ok (.goto 50, 3) := by decide +kernel
theorem dX5_mark_33 : decode cX5_mark 33 = .ok (.iload_n 1, 1) := by decide +kernel
theorem dX5_mark_34 : decode cX5_mark 34 = .ok (.iconst 1, 1) := by decide +kernel
theorem dX5_mark_35 : decode cX5_mark 35 = .ok (.if_icmp .ne 9, 3) := by decide +kernel
theorem dX5_mark_38 : decode cX5_mark 38 = .ok (.ldc2_w 151, 3) := by decide +kernel
theorem dX5_mark_41 : decode cX5_mark 41 = .ok (.goto 39, 3) := by decide +kernel
theorem dX5_mark_44 : decode cX5_mark 44 = .ok (.iload_n 1, 1) := by decide +kernel
theorem dX5_mark_45 : decode cX5_mark 45 = .ok (.iconst 2, 1) := by decide +kernel
theorem dX5_mark_46 : decode cX5_mark 46 = .ok (.if_icmp .ne 9, 3) := by decide +kernel
theorem dX5_mark_49 : decode cX5_mark 49 = .ok (.ldc2_w 153, 3) := by decide +kernel
theorem dX5_mark_52 : decode cX5_mark 52 = .ok (.goto 28, 3) := by decide +kernel
theorem dX5_mark_55 : decode cX5_mark 55 = .ok (.iload_n 1, 1) := by decide +kernel
theorem dX5_mark_56 : decode cX5_mark 56 = .ok (.iconst 3, 1) := by decide +kernel
theorem dX5_mark_57 : decode cX5_mark 57 = .ok (.if_icmp .ne 9, 3) := by decide +kernel
theorem dX5_mark_60 : decode cX5_mark 60 = .ok (.ldc2_w 155, 3) := by decide +kernel
theorem dX5_mark_63 : decode cX5_mark 63 = .ok (.goto 17, 3) := by decide +kernel
theorem dX5_mark_66 : decode cX5_mark 66 = .ok (.iload_n 1, 1) := by decide +kernel
theorem dX5_mark_67 : decode cX5_mark 67 = .ok (.iconst 4, 1) := by decide +kernel
theorem dX5_mark_68 : decode cX5_mark 68 = .ok (.if_icmp .ne 9, 3) := by decide +kernel
theorem dX5_mark_71 : decode cX5_mark 71 = .ok (.ldc2_w 157, 3) := by decide +kernel
theorem dX5_mark_74 : decode cX5_mark 74 = .ok (.goto 6, 3) := by decide +kernel
theorem dX5_mark_77 : decode cX5_mark 77 = .ok (.ldc2_w 159, 3) := by decide +kernel
theorem dX5_mark_80 : decode cX5_mark 80 = .ok (.ladd, 1) := by decide +kernel
theorem dX5_mark_81 : decode cX5_mark 81 = .ok (.putfield 147, 3) := by decide +kernel
theorem dX5_mark_84 : decode cX5_mark 84 = .ok (.aload_n 0, 1) := by decide +kernel
theorem dX5_mark_85 : decode cX5_mark 85 = .ok (.getfield 13, 3) := by decide +kernel
theorem dX5_mark_88 : decode cX5_mark 88 = .ok (.bipush 13, 2) := by decide +kernel
theorem dX5_mark_90 : decode cX5_mark 90 = .ok (.iload_n 2, 1) := by decide +kernel
theorem dX5_mark_91 : decode cX5_mark 91 = .ok (.iadd, 1) := by decide +kernel
theorem dX5_mark_92 : decode cX5_mark 92 = .ok (.iaload, 1) := by decide +kernel
theorem dX5_mark_93 : decode cX5_mark 93 = .ok (.istore_n 3, 1) := by decide +kernel
theorem dX5_mark_94 : decode cX5_mark 94 = .ok (.iload_n 3, 1) := by decide +kernel
theorem dX5_mark_95 : decode cX5_mark 95 = .ok (.aload_n 0, 1) := by decide +kernel
theorem dX5_mark_96 : decode cX5_mark 96 = .ok (.getfield 19, 3) := by decide +kernel
theorem dX5_mark_99 : decode cX5_mark 99 = .ok (.bipush 6, 2) := by decide +kernel
theorem dX5_mark_101 : decode cX5_mark 101 = .ok (.iload_n 2, 1) := by decide +kernel
theorem dX5_mark_102 : decode cX5_mark 102 = .ok (.iadd, 1) := by decide +kernel
theorem dX5_mark_103 : decode cX5_mark 103 = .ok (.iaload, 1) := by decide +kernel
theorem dX5_mark_104 : decode cX5_mark 104 = .ok (.iadd, 1) := by decide +kernel
theorem dX5_mark_105 : decode cX5_mark 105 = .ok (.istore 4, 2) := by decide +kernel
theorem dX5_mark_107 : decode cX5_mark 107 = .ok (.iload_n 3, 1) := by decide +kernel
theorem dX5_mark_108 : decode cX5_mark 108 = .ok (.aload_n 0, 1) := by decide +kernel
theorem dX5_mark_109 : decode cX5_mark 109 = .ok (.getfield 13, 3) := by decide +kernel
theorem dX5_mark_112 : decode cX5_mark 112 = .ok (.bipush 19, 2) := by decide +kernel
theorem dX5_mark_114 : decode cX5_mark 114 = .ok (.iload_n 2, 1) := by decide +kernel
theorem dX5_mark_115 : decode cX5_mark 115 = .ok (.iadd, 1) := by decide +kernel
theorem dX5_mark_116 : decode cX5_mark 116 = .ok (.iaload, 1) := by decide +kernel
theorem dX5_mark_117 : decode cX5_mark 117 = .ok (.isub, 1) := by decide +kernel
theorem dX5_mark_118 : decode cX5_mark 118 = .ok (.istore 5, 2) := by decide +kernel
theorem dX5_mark_120 : decode cX5_mark 120 = .ok (.iload_n 1, 1) := by decide +kernel
theorem dX5_mark_121 : decode cX5_mark 121 = .ok (.ifCond .ne 7, 3) := by decide +kernel
theorem dX5_mark_124 : decode cX5_mark 124 = .ok (.iload_n 3, 1) := by decide +kernel
theorem dX5_mark_125 : decode cX5_mark 125 = .ok (.goto 56, 3) := by decide +kernel
theorem dX5_mark_128 : decode cX5_mark 128 = .ok (.iload_n 1, 1) := by decide +kernel
theorem dX5_mark_129 : decode cX5_mark 129 = .ok (.iconst 1, 1) := by decide +kernel
theorem dX5_mark_130 : decode cX5_mark 130 = .ok (.if_icmp .ne 8, 3) := by decide +kernel
theorem dX5_mark_133 : decode cX5_mark 133 = .ok (.iload 4, 2) := by decide +kernel
theorem dX5_mark_135 : decode cX5_mark 135 = .ok (.goto 46, 3) := by decide +kernel
theorem dX5_mark_138 : decode cX5_mark 138 = .ok (.iload_n 1, 1) := by decide +kernel
theorem dX5_mark_139 : decode cX5_mark 139 = .ok (.iconst 2, 1) := by decide +kernel
theorem dX5_mark_140 : decode cX5_mark 140 = .ok (.if_icmp .ne 8, 3) := by decide +kernel
theorem dX5_mark_143 : decode cX5_mark 143 = .ok (.iload 5, 2) := by decide +kernel
theorem dX5_mark_145 : decode cX5_mark 145 = .ok (.goto 36, 3) := by decide +kernel
theorem dX5_mark_148 : decode cX5_mark 148 = .ok (.iload_n 1, 1) := by decide +kernel
theorem dX5_mark_149 : decode cX5_mark 149 = .ok (.iconst 3, 1) := by decide +kernel
theorem dX5_mark_150 : decode cX5_mark 150 = .ok (.if_icmp .ne 10, 3) := by decide +kernel
theorem dX5_mark_153 : decode cX5_mark 153 = .ok (.iconst 2, 1) := by decide +kernel
theorem dX5_mark_154 : decode cX5_mark 154 = .ok (.iload 4, 2) := by decide +kernel
theorem dX5_mark_156 : decode cX5_mark 156 = .ok (.imul, 1) := by decide +kernel
theorem dX5_mark_157 : decode cX5_mark 157 = .ok (.goto 24, 3) := by decide +kernel
theorem dX5_mark_160 : decode cX5_mark 160 = .ok (.iload_n 1, 1) := by decide +kernel
theorem dX5_mark_161 : decode cX5_mark 161 = .ok (.iconst 4, 1) := by decide +kernel
theorem dX5_mark_162 : decode cX5_mark 162 = .ok (.if_icmp .ne 10, 3) := by decide +kernel
theorem dX5_mark_165 : decode cX5_mark 165 = .ok (.iload 5, 2) := by decide +kernel
theorem dX5_mark_167 : decode cX5_mark 167 = .ok (.iload_n 2, 1) := by decide +kernel
theorem dX5_mark_168 : decode cX5_mark 168 = .ok (.iadd, 1) := by decide +kernel
theorem dX5_mark_169 : decode cX5_mark 169 = .ok (.goto 12, 3) := by decide +kernel
theorem dX5_mark_172 : decode cX5_mark 172 = .ok (.iload_n 3, 1) := by decide +kernel
theorem dX5_mark_173 : decode cX5_mark 173 = .ok (.aload_n 0, 1) := by decide +kernel
theorem dX5_mark_174 : decode cX5_mark 174 = .ok (.getfield 19, 3) := by decide +kernel
theorem dX5_mark_177 : decode cX5_mark 177 = .ok (.bipush 13, 2) := by decide +kernel
theorem dX5_mark_179 : decode cX5_mark 179 = .ok (.iaload, 1) := by decide +kernel
theorem dX5_mark_180 : decode cX5_mark 180 = .ok (.iadd, 1) := by decide +kernel
theorem dX5_mark_181 : decode cX5_mark 181 = .ok (.ireturn, 1) := by decide +kernel
theorem dX5_keep_0 : decode cX5_keep 0 = .ok (.iload_n 1, 1) := by decide +kernel
theorem dX5_keep_1 : decode cX5_keep 1 = .ok (.iconst 0, 1) := by decide +kernel
theorem dX5_keep_2 : decode cX5_keep 2 = .ok (.iconst 1, 1) := by decide +kernel
theorem dX5_keep_3 : decode cX5_keep 3 = .ok (.invokestatic 49, 3) := by decide +kernel
theorem dX5_keep_6 : decode cX5_keep 6 = .ok (.ifCond .ne 5, 3) := by decide +kernel
theorem dX5_keep_9 : decode cX5_keep 9 = .ok (.iconst (-1), 1) := by decide +kernel
theorem dX5_keep_10 : decode cX5_keep 10 = .ok (.ireturn, 1) := by decide +kernel
theorem dX5_keep_11 : decode cX5_keep 11 = .ok (.iconst 0, 1) := by decide +kernel
theorem dX5_keep_12 : decode cX5_keep 12 = .ok (.istore_n 2, 1) := by decide +kernel
theorem dX5_keep_13 : decode cX5_keep 13 = .ok (.iload_n 2, 1) := by decide +kernel
theorem dX5_keep_14 : decode cX5_keep 14 = .ok (.sipush 155, 3) := by decide +kernel
theorem dX5_keep_17 : decode cX5_keep 17 = .ok (.if_icmp .ge 27, 3) := by decide +kernel
theorem dX5_keep_20 : decode cX5_keep 20 = .ok (.aload_n 0, 1) := by decide +kernel
theorem dX5_keep_21 : decode cX5_keep 21 = .ok (.getfield 22, 3) := by decide +kernel
theorem dX5_keep_24 : decode cX5_keep 24 = .ok (.sipush 155, 3) := by decide +kernel
theorem dX5_keep_27 : decode cX5_keep 27 = .ok (.iload_n 1, 1) := by decide +kernel
theorem dX5_keep_28 : decode cX5_keep 28 = .ok (.imul, 1) := by decide +kernel
theorem dX5_keep_29 : decode cX5_keep 29 = .ok (.iload_n 2, 1) := by decide +kernel
theorem dX5_keep_30 : decode cX5_keep 30 = .ok (.iadd, 1) := by decide +kernel
theorem dX5_keep_31 : decode cX5_keep 31 = .ok (.aload_n 0, 1) := by decide +kernel
theorem dX5_keep_32 : decode cX5_keep 32 = .ok (.getfield 19, 3) := by decide +kernel
theorem dX5_keep_35 : decode cX5_keep 35 = .ok (.iload_n 2, 1) := by decide +kernel
theorem dX5_keep_36 : decode cX5_keep 36 = .ok (.iaload, 1) := by decide +kernel
theorem dX5_keep_37 : decode cX5_keep 37 = .ok (.iastore, 1) := by decide +kernel
theorem dX5_keep_38 : decode cX5_keep 38 = .ok (.iinc 2 1, 3) := by decide +kernel
theorem dX5_keep_41 : decode cX5_keep 41 = .ok (.goto (-28), 3) := by decide +kernel
theorem dX5_keep_44 : decode cX5_keep 44 = .ok (.aload_n 0, 1) := by decide +kernel
theorem dX5_keep_45 : decode cX5_keep 45 = .ok (.getfield 25, 3) := by decide +kernel
theorem dX5_keep_48 : decode cX5_keep 48 = .ok (.iload_n 1, 1) := by decide +kernel
theorem dX5_keep_49 : decode cX5_keep 49 = .ok (.iconst 1, 1) := by decide +kernel
theorem dX5_keep_50 : decode cX5_keep 50 = .ok (.bastore, 1) := by decide +kernel
theorem dX5_keep_51 : decode cX5_keep 51 = .ok (.aload_n 0, 1) := by decide +kernel
theorem dX5_keep_52 : decode cX5_keep 52 = .ok (.getfield 19, 3) := by decide +kernel
theorem dX5_keep_55 : decode cX5_keep 55 = .ok (.bipush 13, 2) := by decide +kernel
theorem dX5_keep_57 : decode cX5_keep 57 = .ok (.iaload, 1) := by decide +kernel
theorem dX5_keep_58 : decode cX5_keep 58 = .ok (.ireturn, 1) := by decide +kernel
theorem dX5_back_0 : decode cX5_back 0 = .ok (.iload_n 1, 1) := by decide +kernel
theorem dX5_back_1 : decode cX5_back 1 = .ok (.iconst 0, 1) := by decide +kernel
theorem dX5_back_2 : decode cX5_back 2 = .ok (.iconst 1, 1) := by decide +kernel
theorem dX5_back_3 : decode cX5_back 3 = .ok (.invokestatic 49, 3) := by decide +kernel
theorem dX5_back_6 : decode cX5_back 6 = .ok (.ifCond .ne 5, 3) := by decide +kernel
theorem dX5_back_9 : decode cX5_back 9 = .ok (.iconst (-1), 1) := by decide +kernel
theorem dX5_back_10 : decode cX5_back 10 = .ok (.ireturn, 1) := by decide +kernel
theorem dX5_back_11 : decode cX5_back 11 = .ok (.aload_n 0, 1) := by decide +kernel
theorem dX5_back_12 : decode cX5_back 12 = .ok (.getfield 25, 3) := by decide +kernel
theorem dX5_back_15 : decode cX5_back 15 = .ok (.iload_n 1, 1) := by decide +kernel
theorem dX5_back_16 : decode cX5_back 16 = .ok (.baload, 1) := by decide +kernel
theorem dX5_back_17 : decode cX5_back 17 = .ok (.ifCond .ne 6, 3) := by decide +kernel
theorem dX5_back_20 : decode cX5_back 20 = .ok (.bipush (-2), 2) := by decide +kernel
theorem dX5_back_22 : decode cX5_back 22 = .ok (.ireturn, 1) := by decide +kernel
theorem dX5_back_23 : decode cX5_back 23 = .ok (.iconst 0, 1) := by decide +kernel
theorem dX5_back_24 : decode cX5_back 24 = .ok (.istore_n 2, 1) := by decide +kernel
theorem dX5_back_25 : decode cX5_back 25 = .ok (.iload_n 2, 1) := by decide +kernel
theorem dX5_back_26 : decode cX5_back 26 = .ok (.sipush 155, 3) := by decide +kernel
theorem dX5_back_29 : decode cX5_back 29 = .ok (.if_icmp .ge 27, 3) := by decide +kernel
theorem dX5_back_32 : decode cX5_back 32 = .ok (.aload_n 0, 1) := by decide +kernel
theorem dX5_back_33 : decode cX5_back 33 = .ok (.getfield 19, 3) := by decide +kernel
theorem dX5_back_36 : decode cX5_back 36 = .ok (.iload_n 2, 1) := by decide +kernel
theorem dX5_back_37 : decode cX5_back 37 = .ok (.aload_n 0, 1) := by decide +kernel
theorem dX5_back_38 : decode cX5_back 38 = .ok (.getfield 22, 3) := by decide +kernel
theorem dX5_back_41 : decode cX5_back 41 = .ok (.sipush 155, 3) := by decide +kernel
theorem dX5_back_44 : decode cX5_back 44 = .ok (.iload_n 1, 1) := by decide +kernel
theorem dX5_back_45 : decode cX5_back 45 = .ok (.imul, 1) := by decide +kernel
theorem dX5_back_46 : decode cX5_back 46 = .ok (.iload_n 2, 1) := by decide +kernel
theorem dX5_back_47 : decode cX5_back 47 = .ok (.iadd, 1) := by decide +kernel
theorem dX5_back_48 : decode cX5_back 48 = .ok (.iaload, 1) := by decide +kernel
theorem dX5_back_49 : decode cX5_back 49 = .ok (.iastore, 1) := by decide +kernel
theorem dX5_back_50 : decode cX5_back 50 = .ok (.iinc 2 1, 3) := by decide +kernel
theorem dX5_back_53 : decode cX5_back 53 = .ok (.goto (-28), 3) := by decide +kernel
theorem dX5_back_56 : decode cX5_back 56 = .ok (.aload_n 0, 1) := by decide +kernel
theorem dX5_back_57 : decode cX5_back 57 = .ok (.getfield 19, 3) := by decide +kernel
theorem dX5_back_60 : decode cX5_back 60 = .ok (.bipush 13, 2) := by decide +kernel
theorem dX5_back_62 : decode cX5_back 62 = .ok (.iaload, 1) := by decide +kernel
theorem dX5_back_63 : decode cX5_back 63 = .ok (.ireturn, 1) := by decide +kernel
theorem dX5_count_0 : decode cX5_count 0 = .ok (.iload_n 1, 1) := by decide +kernel
theorem dX5_count_1 : decode cX5_count 1 = .ok (.tableswitch 67 0 4 #[35, 42, 49, 54, 62], 35) := by decide +kernel
theorem dX5_count_36 : decode cX5_count 36 = .ok (.aload_n 0, 1) := by decide +kernel
theorem dX5_count_37 : decode cX5_count 37 = .ok (.getfield 13, 3) := by decide +kernel
theorem dX5_count_40 : decode cX5_count 40 = .ok (.iconst 0, 1) := by decide +kernel
theorem dX5_count_41 : decode cX5_count 41 = .ok (.iaload, 1) := by decide +kernel
theorem dX5_count_42 : decode cX5_count 42 = .ok (.ireturn, 1) := by decide +kernel
theorem dX5_count_43 : decode cX5_count 43 = .ok (.aload_n 0, 1) := by decide +kernel
theorem dX5_count_44 : decode cX5_count 44 = .ok (.getfield 13, 3) := by decide +kernel
theorem dX5_count_47 : decode cX5_count 47 = .ok (.iconst 1, 1) := by decide +kernel
theorem dX5_count_48 : decode cX5_count 48 = .ok (.iaload, 1) := by decide +kernel
theorem dX5_count_49 : decode cX5_count 49 = .ok (.ireturn, 1) := by decide +kernel
theorem dX5_count_50 : decode cX5_count 50 = .ok (.aload_n 0, 1) := by decide +kernel
theorem dX5_count_51 : decode cX5_count 51 = .ok (.getfield 88, 3) := by decide +kernel
theorem dX5_count_54 : decode cX5_count 54 = .ok (.ireturn, 1) := by decide +kernel
theorem dX5_count_55 : decode cX5_count 55 = .ok (.aload_n 0, 1) := by decide +kernel
theorem dX5_count_56 : decode cX5_count 56 = .ok (.getfield 19, 3) := by decide +kernel
theorem dX5_count_59 : decode cX5_count 59 = .ok (.bipush 14, 2) := by decide +kernel
theorem dX5_count_61 : decode cX5_count 61 = .ok (.iaload, 1) := by decide +kernel
theorem dX5_count_62 : decode cX5_count 62 = .ok (.ireturn, 1) := by decide +kernel
theorem dX5_count_63 : decode cX5_count 63 = .ok (.aload_n 0, 1) := by decide +kernel
theorem dX5_count_64 : decode cX5_count 64 = .ok (.getfield 53, 3) := by decide +kernel
theorem dX5_count_67 : decode cX5_count 67 = .ok (.ireturn, 1) := by decide +kernel
theorem dX5_count_68 : decode cX5_count 68 = .ok (.iconst (-1), 1) := by decide +kernel
theorem dX5_count_69 : decode cX5_count 69 = .ok (.ireturn, 1) := by decide +kernel
theorem dX5_trace_0 : decode cX5_trace 0 = .ok (.aload_n 0, 1) := by decide +kernel
theorem dX5_trace_1 : decode cX5_trace 1 = .ok (.getfield 147, 3) := by decide +kernel
theorem dX5_trace_4 : decode cX5_trace 4 = .ok (.lreturn, 1) := by decide +kernel
theorem dJ6_bitCount_0f7a4_0 : decode cJ6_bitCount_0f7a4 0 = .ok (.iload_n 0, 1) := by decide +kernel
theorem dJ6_bitCount_0f7a4_1 : decode cJ6_bitCount_0f7a4 1 = .ok (.iload_n 0, 1) := by decide +kernel
theorem dJ6_bitCount_0f7a4_2 : decode cJ6_bitCount_0f7a4 2 = .ok (.iconst 1, 1) := by decide +kernel
theorem dJ6_bitCount_0f7a4_3 : decode cJ6_bitCount_0f7a4 3 = .ok (.iushr, 1) := by decide +kernel
theorem dJ6_bitCount_0f7a4_4 : decode cJ6_bitCount_0f7a4 4 = .ok (.ldc_w 265, 3) := by decide +kernel
theorem dJ6_bitCount_0f7a4_7 : decode cJ6_bitCount_0f7a4 7 = .ok (.iand, 1) := by decide +kernel
theorem dJ6_bitCount_0f7a4_8 : decode cJ6_bitCount_0f7a4 8 = .ok (.isub, 1) := by decide +kernel
theorem dJ6_bitCount_0f7a4_9 : decode cJ6_bitCount_0f7a4 9 = .ok (.istore_n 0, 1) := by decide +kernel
theorem dJ6_bitCount_0f7a4_10 : decode cJ6_bitCount_0f7a4 10 = .ok (.iload_n 0, 1) := by decide +kernel
theorem dJ6_bitCount_0f7a4_11 : decode cJ6_bitCount_0f7a4 11 = .ok (.ldc_w 266, 3) := by decide +kernel
theorem dJ6_bitCount_0f7a4_14 : decode cJ6_bitCount_0f7a4 14 = .ok (.iand, 1) := by decide +kernel
theorem dJ6_bitCount_0f7a4_15 : decode cJ6_bitCount_0f7a4 15 = .ok (.iload_n 0, 1) := by decide +kernel
theorem dJ6_bitCount_0f7a4_16 : decode cJ6_bitCount_0f7a4 16 = .ok (.iconst 2, 1) := by decide +kernel
theorem dJ6_bitCount_0f7a4_17 : decode cJ6_bitCount_0f7a4 17 = .ok (.iushr, 1) := by decide +kernel
theorem dJ6_bitCount_0f7a4_18 : decode cJ6_bitCount_0f7a4 18 = .ok (.ldc_w 266, 3) := by decide +kernel
theorem dJ6_bitCount_0f7a4_21 : decode cJ6_bitCount_0f7a4 21 = .ok (.iand, 1) := by decide +kernel
theorem dJ6_bitCount_0f7a4_22 : decode cJ6_bitCount_0f7a4 22 = .ok (.iadd, 1) := by decide +kernel
theorem dJ6_bitCount_0f7a4_23 : decode cJ6_bitCount_0f7a4 23 = .ok (.istore_n 0, 1) := by decide +kernel
theorem dJ6_bitCount_0f7a4_24 : decode cJ6_bitCount_0f7a4 24 = .ok (.iload_n 0, 1) := by decide +kernel
theorem dJ6_bitCount_0f7a4_25 : decode cJ6_bitCount_0f7a4 25 = .ok (.iload_n 0, 1) := by decide +kernel
theorem dJ6_bitCount_0f7a4_26 : decode cJ6_bitCount_0f7a4 26 = .ok (.iconst 4, 1) := by decide +kernel
theorem dJ6_bitCount_0f7a4_27 : decode cJ6_bitCount_0f7a4 27 = .ok (.iushr, 1) := by decide +kernel
theorem dJ6_bitCount_0f7a4_28 : decode cJ6_bitCount_0f7a4 28 = .ok (.iadd, 1) := by decide +kernel
theorem dJ6_bitCount_0f7a4_29 : decode cJ6_bitCount_0f7a4 29 = .ok (.ldc_w 267, 3) := by decide +kernel
theorem dJ6_bitCount_0f7a4_32 : decode cJ6_bitCount_0f7a4 32 = .ok (.iand, 1) := by decide +kernel
theorem dJ6_bitCount_0f7a4_33 : decode cJ6_bitCount_0f7a4 33 = .ok (.istore_n 0, 1) := by decide +kernel
theorem dJ6_bitCount_0f7a4_34 : decode cJ6_bitCount_0f7a4 34 = .ok (.iload_n 0, 1) := by decide +kernel
theorem dJ6_bitCount_0f7a4_35 : decode cJ6_bitCount_0f7a4 35 = .ok (.iload_n 0, 1) := by decide +kernel
theorem dJ6_bitCount_0f7a4_36 : decode cJ6_bitCount_0f7a4 36 = .ok (.bipush 8, 2) := by decide +kernel
theorem dJ6_bitCount_0f7a4_38 : decode cJ6_bitCount_0f7a4 38 = .ok (.iushr, 1) := by decide +kernel
theorem dJ6_bitCount_0f7a4_39 : decode cJ6_bitCount_0f7a4 39 = .ok (.iadd, 1) := by decide +kernel
theorem dJ6_bitCount_0f7a4_40 : decode cJ6_bitCount_0f7a4 40 = .ok (.istore_n 0, 1) := by decide +kernel
theorem dJ6_bitCount_0f7a4_41 : decode cJ6_bitCount_0f7a4 41 = .ok (.iload_n 0, 1) := by decide +kernel
theorem dJ6_bitCount_0f7a4_42 : decode cJ6_bitCount_0f7a4 42 = .ok (.iload_n 0, 1) := by decide +kernel
theorem dJ6_bitCount_0f7a4_43 : decode cJ6_bitCount_0f7a4 43 = .ok (.bipush 16, 2) := by decide +kernel
theorem dJ6_bitCount_0f7a4_45 : decode cJ6_bitCount_0f7a4 45 = .ok (.iushr, 1) := by decide +kernel
theorem dJ6_bitCount_0f7a4_46 : decode cJ6_bitCount_0f7a4 46 = .ok (.iadd, 1) := by decide +kernel
theorem dJ6_bitCount_0f7a4_47 : decode cJ6_bitCount_0f7a4 47 = .ok (.istore_n 0, 1) := by decide +kernel
theorem dJ6_bitCount_0f7a4_48 : decode cJ6_bitCount_0f7a4 48 = .ok (.iload_n 0, 1) := by decide +kernel
theorem dJ6_bitCount_0f7a4_49 : decode cJ6_bitCount_0f7a4 49 = .ok (.bipush 63, 2) := by decide +kernel
theorem dJ6_bitCount_0f7a4_51 : decode cJ6_bitCount_0f7a4 51 = .ok (.iand, 1) := by decide +kernel
theorem dJ6_bitCount_0f7a4_52 : decode cJ6_bitCount_0f7a4 52 = .ok (.ireturn, 1) := by decide +kernel
theorem dJ9_max_7cf53_0 : decode cJ9_max_7cf53 0 = .ok (.iload_n 0, 1) := by decide +kernel
theorem dJ9_max_7cf53_1 : decode cJ9_max_7cf53 1 = .ok (.iload_n 1, 1) := by decide +kernel
theorem dJ9_max_7cf53_2 : decode cJ9_max_7cf53 2 = .ok (.if_icmp .lt 7, 3) := by decide +kernel
theorem dJ9_max_7cf53_5 : decode cJ9_max_7cf53 5 = .ok (.iload_n 0, 1) := by decide +kernel
theorem dJ9_max_7cf53_6 : decode cJ9_max_7cf53 6 = .ok (.goto 4, 3) := by decide +kernel
theorem dJ9_max_7cf53_9 : decode cJ9_max_7cf53 9 = .ok (.iload_n 1, 1) := by decide +kernel
theorem dJ9_max_7cf53_10 : decode cJ9_max_7cf53 10 = .ok (.ireturn, 1) := by decide +kernel
theorem dJ9_min_7cf53_0 : decode cJ9_min_7cf53 0 = .ok (.iload_n 0, 1) := by decide +kernel
theorem dJ9_min_7cf53_1 : decode cJ9_min_7cf53 1 = .ok (.iload_n 1, 1) := by decide +kernel
theorem dJ9_min_7cf53_2 : decode cJ9_min_7cf53 2 = .ok (.if_icmp .gt 7, 3) := by decide +kernel
theorem dJ9_min_7cf53_5 : decode cJ9_min_7cf53 5 = .ok (.iload_n 0, 1) := by decide +kernel
theorem dJ9_min_7cf53_6 : decode cJ9_min_7cf53 6 = .ok (.goto 4, 3) := by decide +kernel
theorem dJ9_min_7cf53_9 : decode cJ9_min_7cf53 9 = .ok (.iload_n 1, 1) := by decide +kernel
theorem dJ9_min_7cf53_10 : decode cJ9_min_7cf53 10 = .ok (.ireturn, 1) := by decide +kernel
theorem dL_law_0 : decode cL_law 0 = .ok (.new 7, 3) := by decide +kernel
theorem dL_law_3 : decode cL_law 3 = .ok (.dup, 1) := by decide +kernel
theorem dL_law_4 : decode cL_law 4 = .ok (.invokespecial 9, 3) := by decide +kernel
theorem dL_law_7 : decode cL_law 7 = .ok (.astore_n 1, 1) := by decide +kernel
theorem dL_law_8 : decode cL_law 8 = .ok (.new 10, 3) := by decide +kernel
theorem dL_law_11 : decode cL_law 11 = .ok (.dup, 1) := by decide +kernel
theorem dL_law_12 : decode cL_law 12 = .ok (.invokespecial 12, 3) := by decide +kernel
theorem dL_law_15 : decode cL_law 15 = .ok (.astore_n 2, 1) := by decide +kernel
theorem dL_law_16 : decode cL_law 16 = .ok (.iconst 0, 1) := by decide +kernel
theorem dL_law_17 : decode cL_law 17 = .ok (.istore_n 3, 1) := by decide +kernel
theorem dL_law_18 : decode cL_law 18 = .ok (.iload_n 3, 1) := by decide +kernel
theorem dL_law_19 : decode cL_law 19 = .ok (.aload_n 0, 1) := by decide +kernel
theorem dL_law_20 : decode cL_law 20 = .ok (.arraylength, 1) := by decide +kernel
theorem dL_law_21 : decode cL_law 21 = .ok (.iconst 5, 1) := by decide +kernel
theorem dL_law_22 : decode cL_law 22 = .ok (.isub, 1) := by decide +kernel
theorem dL_law_23 : decode cL_law 23 = .ok (.if_icmp .gt 777, 3) := by decide +kernel
theorem dL_law_26 : decode cL_law 26 = .ok (.aload_n 0, 1) := by decide +kernel
theorem dL_law_27 : decode cL_law 27 = .ok (.iload_n 3, 1) := by decide +kernel
theorem dL_law_28 : decode cL_law 28 = .ok (.iaload, 1) := by decide +kernel
theorem dL_law_29 : decode cL_law 29 = .ok (.bipush 31, 2) := by decide +kernel
theorem dL_law_31 : decode cL_law 31 = .ok (.iand, 1) := by decide +kernel
theorem dL_law_32 : decode cL_law 32 = .ok (.tableswitch 762 0 24 #[116, 139, 152, 165, 198, 231, 264, 287, 320, 343, 376, 389, 412, 435, 458, 501, 534, 587, 620, 633, 646, 679, 702, 725, 748], 116) := by decide +kernel
theorem dL_law_148 : decode cL_law 148 = .ok (.aload_n 1, 1) := by decide +kernel
theorem dL_law_149 : decode cL_law 149 = .ok (.aload_n 0, 1) := by decide +kernel
theorem dL_law_150 : decode cL_law 150 = .ok (.iload_n 3, 1) := by decide +kernel
theorem dL_law_151 : decode cL_law 151 = .ok (.iconst 1, 1) := by decide +kernel
theorem dL_law_152 : decode cL_law 152 = .ok (.iadd, 1) := by decide +kernel
theorem dL_law_153 : decode cL_law 153 = .ok (.iaload, 1) := by decide +kernel
theorem dL_law_154 : decode cL_law 154 = .ok (.invokevirtual 13, 3) := by decide +kernel
theorem dL_law_157 : decode cL_law 157 = .ok (.aload_n 2, 1) := by decide +kernel
theorem dL_law_158 : decode cL_law 158 = .ok (.aload_n 0, 1) := by decide +kernel
theorem dL_law_159 : decode cL_law 159 = .ok (.iload_n 3, 1) := by decide +kernel
theorem dL_law_160 : decode cL_law 160 = .ok (.iconst 1, 1) := by decide +kernel
theorem dL_law_161 : decode cL_law 161 = .ok (.iadd, 1) := by decide +kernel
theorem dL_law_162 : decode cL_law 162 = .ok (.iaload, 1) := by decide +kernel
theorem dL_law_163 : decode cL_law 163 = .ok (.invokevirtual 17, 3) := by decide +kernel
theorem dL_law_166 : decode cL_law 166 = .ok (.if_icmp .eq 628, 3) := by decide +kernel
theorem dL_law_169 : decode cL_law 169 = .ok (.iconst 0, 1) := by decide +kernel
theorem dL_law_170 : decode cL_law 170 = .ok (.ireturn, 1) := by decide +kernel
theorem dL_law_171 : decode cL_law 171 = .ok (.aload_n 1, 1) := by decide +kernel
theorem dL_law_172 : decode cL_law 172 = .ok (.invokevirtual 18, 3) := by decide +kernel
theorem dL_law_175 : decode cL_law 175 = .ok (.aload_n 2, 1) := by decide +kernel
theorem dL_law_176 : decode cL_law 176 = .ok (.invokevirtual 22, 3) := by decide +kernel
theorem dL_law_179 : decode cL_law 179 = .ok (.if_icmp .eq 615, 3) := by decide +kernel
theorem dL_law_182 : decode cL_law 182 = .ok (.iconst 0, 1) := by decide +kernel
theorem dL_law_183 : decode cL_law 183 = .ok (.ireturn, 1) := by decide +kernel
theorem dL_law_184 : decode cL_law 184 = .ok (.aload_n 1, 1) := by decide +kernel
theorem dL_law_185 : decode cL_law 185 = .ok (.invokevirtual 23, 3) := by decide +kernel
theorem dL_law_188 : decode cL_law 188 = .ok (.aload_n 2, 1) := by decide +kernel
theorem dL_law_189 : decode cL_law 189 = .ok (.invokevirtual 26, 3) := by decide +kernel
theorem dL_law_192 : decode cL_law 192 = .ok (.if_icmp .eq 602, 3) := by decide +kernel
theorem dL_law_195 : decode cL_law 195 = .ok (.iconst 0, 1) := by decide +kernel
theorem dL_law_196 : decode cL_law 196 = .ok (.ireturn, 1) := by decide +kernel
theorem dL_law_197 : decode cL_law 197 = .ok (.aload_n 1, 1) := by decide +kernel
theorem dL_law_198 : decode cL_law 198 = .ok (.aload_n 0, 1) := by decide +kernel
theorem dL_law_199 : decode cL_law 199 = .ok (.iload_n 3, 1) := by decide +kernel
theorem dL_law_200 : decode cL_law 200 = .ok (.iconst 1, 1) := by decide +kernel
theorem dL_law_201 : decode cL_law 201 = .ok (.iadd, 1) := by decide +kernel
theorem dL_law_202 : decode cL_law 202 = .ok (.iaload, 1) := by decide +kernel
theorem dL_law_203 : decode cL_law 203 = .ok (.aload_n 0, 1) := by decide +kernel
theorem dL_law_204 : decode cL_law 204 = .ok (.iload_n 3, 1) := by decide +kernel
theorem dL_law_205 : decode cL_law 205 = .ok (.iconst 2, 1) := by decide +kernel
theorem dL_law_206 : decode cL_law 206 = .ok (.iadd, 1) := by decide +kernel
theorem dL_law_207 : decode cL_law 207 = .ok (.iaload, 1) := by decide +kernel
theorem dL_law_208 : decode cL_law 208 = .ok (.invokevirtual 27, 3) := by decide +kernel
theorem dL_law_211 : decode cL_law 211 = .ok (.aload_n 2, 1) := by decide +kernel
theorem dL_law_212 : decode cL_law 212 = .ok (.aload_n 0, 1) := by decide +kernel
theorem dL_law_213 : decode cL_law 213 = .ok (.iload_n 3, 1) := by decide +kernel
theorem dL_law_214 : decode cL_law 214 = .ok (.iconst 1, 1) := by decide +kernel
theorem dL_law_215 : decode cL_law 215 = .ok (.iadd, 1) := by decide +kernel
theorem dL_law_216 : decode cL_law 216 = .ok (.iaload, 1) := by decide +kernel
theorem dL_law_217 : decode cL_law 217 = .ok (.aload_n 0, 1) := by decide +kernel
theorem dL_law_218 : decode cL_law 218 = .ok (.iload_n 3, 1) := by decide +kernel
theorem dL_law_219 : decode cL_law 219 = .ok (.iconst 2, 1) := by decide +kernel
theorem dL_law_220 : decode cL_law 220 = .ok (.iadd, 1) := by decide +kernel
theorem dL_law_221 : decode cL_law 221 = .ok (.iaload, 1) := by decide +kernel
theorem dL_law_222 : decode cL_law 222 = .ok (.invokevirtual 31, 3) := by decide +kernel
theorem dL_law_225 : decode cL_law 225 = .ok (.if_icmp .eq 569, 3) := by decide +kernel
theorem dL_law_228 : decode cL_law 228 = .ok (.iconst 0, 1) := by decide +kernel
theorem dL_law_229 : decode cL_law 229 = .ok (.ireturn, 1) := by decide +kernel
theorem dL_law_230 : decode cL_law 230 = .ok (.aload_n 1, 1) := by decide +kernel
theorem dL_law_231 : decode cL_law 231 = .ok (.aload_n 0, 1) := by decide +kernel
theorem dL_law_232 : decode cL_law 232 = .ok (.iload_n 3, 1) := by decide +kernel
theorem dL_law_233 : decode cL_law 233 = .ok (.iconst 1, 1) := by decide +kernel
theorem dL_law_234 : decode cL_law 234 = .ok (.iadd, 1) := by decide +kernel
theorem dL_law_235 : decode cL_law 235 = .ok (.iaload, 1) := by decide +kernel
theorem dL_law_236 : decode cL_law 236 = .ok (.aload_n 0, 1) := by decide +kernel
theorem dL_law_237 : decode cL_law 237 = .ok (.iload_n 3, 1) := by decide +kernel
theorem dL_law_238 : decode cL_law 238 = .ok (.iconst 2, 1) := by decide +kernel
theorem dL_law_239 : decode cL_law 239 = .ok (.iadd, 1) := by decide +kernel
theorem dL_law_240 : decode cL_law 240 = .ok (.iaload, 1) := by decide +kernel
theorem dL_law_241 : decode cL_law 241 = .ok (.invokevirtual 32, 3) := by decide +kernel
theorem dL_law_244 : decode cL_law 244 = .ok (.aload_n 2, 1) := by decide +kernel
theorem dL_law_245 : decode cL_law 245 = .ok (.aload_n 0, 1) := by decide +kernel
theorem dL_law_246 : decode cL_law 246 = .ok (.iload_n 3, 1) := by decide +kernel
theorem dL_law_247 : decode cL_law 247 = .ok (.iconst 1, 1) := by decide +kernel
theorem dL_law_248 : decode cL_law 248 = .ok (.iadd, 1) := by decide +kernel
theorem dL_law_249 : decode cL_law 249 = .ok (.iaload, 1) := by decide +kernel
theorem dL_law_250 : decode cL_law 250 = .ok (.aload_n 0, 1) := by decide +kernel
theorem dL_law_251 : decode cL_law 251 = .ok (.iload_n 3, 1) := by decide +kernel
theorem dL_law_252 : decode cL_law 252 = .ok (.iconst 2, 1) := by decide +kernel
theorem dL_law_253 : decode cL_law 253 = .ok (.iadd, 1) := by decide +kernel
theorem dL_law_254 : decode cL_law 254 = .ok (.iaload, 1) := by decide +kernel
theorem dL_law_255 : decode cL_law 255 = .ok (.invokevirtual 35, 3) := by decide +kernel
theorem dL_law_258 : decode cL_law 258 = .ok (.if_icmp .eq 536, 3) := by decide +kernel
theorem dL_law_261 : decode cL_law 261 = .ok (.iconst 0, 1) := by decide +kernel
theorem dL_law_262 : decode cL_law 262 = .ok (.ireturn, 1) := by decide +kernel
theorem dL_law_263 : decode cL_law 263 = .ok (.aload_n 1, 1) := by decide +kernel
theorem dL_law_264 : decode cL_law 264 = .ok (.aload_n 0, 1) := by decide +kernel
theorem dL_law_265 : decode cL_law 265 = .ok (.iload_n 3, 1) := by decide +kernel
theorem dL_law_266 : decode cL_law 266 = .ok (.iconst 1, 1) := by decide +kernel
theorem dL_law_267 : decode cL_law 267 = .ok (.iadd, 1) := by decide +kernel
theorem dL_law_268 : decode cL_law 268 = .ok (.iaload, 1) := by decide +kernel
theorem dL_law_269 : decode cL_law 269 = .ok (.aload_n 0, 1) := by decide +kernel
theorem dL_law_270 : decode cL_law 270 = .ok (.iload_n 3, 1) := by decide +kernel
theorem dL_law_271 : decode cL_law 271 = .ok (.iconst 2, 1) := by decide +kernel
theorem dL_law_272 : decode cL_law 272 = .ok (.iadd, 1) := by decide +kernel
theorem dL_law_273 : decode cL_law 273 = .ok (.iaload, 1) := by decide +kernel
theorem dL_law_274 : decode cL_law 274 = .ok (.invokevirtual 36, 3) := by decide +kernel
theorem dL_law_277 : decode cL_law 277 = .ok (.aload_n 2, 1) := by decide +kernel
theorem dL_law_278 : decode cL_law 278 = .ok (.aload_n 0, 1) := by decide +kernel
theorem dL_law_279 : decode cL_law 279 = .ok (.iload_n 3, 1) := by decide +kernel
theorem dL_law_280 : decode cL_law 280 = .ok (.iconst 1, 1) := by decide +kernel
theorem dL_law_281 : decode cL_law 281 = .ok (.iadd, 1) := by decide +kernel
theorem dL_law_282 : decode cL_law 282 = .ok (.iaload, 1) := by decide +kernel
theorem dL_law_283 : decode cL_law 283 = .ok (.aload_n 0, 1) := by decide +kernel
theorem dL_law_284 : decode cL_law 284 = .ok (.iload_n 3, 1) := by decide +kernel
theorem dL_law_285 : decode cL_law 285 = .ok (.iconst 2, 1) := by decide +kernel
theorem dL_law_286 : decode cL_law 286 = .ok (.iadd, 1) := by decide +kernel
theorem dL_law_287 : decode cL_law 287 = .ok (.iaload, 1) := by decide +kernel
theorem dL_law_288 : decode cL_law 288 = .ok (.invokevirtual 39, 3) := by decide +kernel
theorem dL_law_291 : decode cL_law 291 = .ok (.if_icmp .eq 503, 3) := by decide +kernel
theorem dL_law_294 : decode cL_law 294 = .ok (.iconst 0, 1) := by decide +kernel
theorem dL_law_295 : decode cL_law 295 = .ok (.ireturn, 1) := by decide +kernel
theorem dL_law_296 : decode cL_law 296 = .ok (.aload_n 1, 1) := by decide +kernel
theorem dL_law_297 : decode cL_law 297 = .ok (.aload_n 0, 1) := by decide +kernel
theorem dL_law_298 : decode cL_law 298 = .ok (.iload_n 3, 1) := by decide +kernel
theorem dL_law_299 : decode cL_law 299 = .ok (.iconst 1, 1) := by decide +kernel
theorem dL_law_300 : decode cL_law 300 = .ok (.iadd, 1) := by decide +kernel
theorem dL_law_301 : decode cL_law 301 = .ok (.iaload, 1) := by decide +kernel
theorem dL_law_302 : decode cL_law 302 = .ok (.invokevirtual 40, 3) := by decide +kernel
theorem dL_law_305 : decode cL_law 305 = .ok (.aload_n 2, 1) := by decide +kernel
theorem dL_law_306 : decode cL_law 306 = .ok (.aload_n 0, 1) := by decide +kernel
theorem dL_law_307 : decode cL_law 307 = .ok (.iload_n 3, 1) := by decide +kernel
theorem dL_law_308 : decode cL_law 308 = .ok (.iconst 1, 1) := by decide +kernel
theorem dL_law_309 : decode cL_law 309 = .ok (.iadd, 1) := by decide +kernel
theorem dL_law_310 : decode cL_law 310 = .ok (.iaload, 1) := by decide +kernel
theorem dL_law_311 : decode cL_law 311 = .ok (.invokevirtual 43, 3) := by decide +kernel
theorem dL_law_314 : decode cL_law 314 = .ok (.if_icmp .eq 480, 3) := by decide +kernel
theorem dL_law_317 : decode cL_law 317 = .ok (.iconst 0, 1) := by decide +kernel
theorem dL_law_318 : decode cL_law 318 = .ok (.ireturn, 1) := by decide +kernel
theorem dL_law_319 : decode cL_law 319 = .ok (.aload_n 1, 1) := by decide +kernel
theorem dL_law_320 : decode cL_law 320 = .ok (.aload_n 0, 1) := by decide +kernel
theorem dL_law_321 : decode cL_law 321 = .ok (.iload_n 3, 1) := by decide +kernel
theorem dL_law_322 : decode cL_law 322 = .ok (.iconst 1, 1) := by decide +kernel
theorem dL_law_323 : decode cL_law 323 = .ok (.iadd, 1) := by decide +kernel
theorem dL_law_324 : decode cL_law 324 = .ok (.iaload, 1) := by decide +kernel
theorem dL_law_325 : decode cL_law 325 = .ok (.aload_n 0, 1) := by decide +kernel
theorem dL_law_326 : decode cL_law 326 = .ok (.iload_n 3, 1) := by decide +kernel
theorem dL_law_327 : decode cL_law 327 = .ok (.iconst 2, 1) := by decide +kernel
theorem dL_law_328 : decode cL_law 328 = .ok (.iadd, 1) := by decide +kernel
theorem dL_law_329 : decode cL_law 329 = .ok (.iaload, 1) := by decide +kernel
theorem dL_law_330 : decode cL_law 330 = .ok (.invokevirtual 44, 3) := by decide +kernel
theorem dL_law_333 : decode cL_law 333 = .ok (.aload_n 2, 1) := by decide +kernel
theorem dL_law_334 : decode cL_law 334 = .ok (.aload_n 0, 1) := by decide +kernel
theorem dL_law_335 : decode cL_law 335 = .ok (.iload_n 3, 1) := by decide +kernel
theorem dL_law_336 : decode cL_law 336 = .ok (.iconst 1, 1) := by decide +kernel
theorem dL_law_337 : decode cL_law 337 = .ok (.iadd, 1) := by decide +kernel
theorem dL_law_338 : decode cL_law 338 = .ok (.iaload, 1) := by decide +kernel
theorem dL_law_339 : decode cL_law 339 = .ok (.aload_n 0, 1) := by decide +kernel
theorem dL_law_340 : decode cL_law 340 = .ok (.iload_n 3, 1) := by decide +kernel
theorem dL_law_341 : decode cL_law 341 = .ok (.iconst 2, 1) := by decide +kernel
theorem dL_law_342 : decode cL_law 342 = .ok (.iadd, 1) := by decide +kernel
theorem dL_law_343 : decode cL_law 343 = .ok (.iaload, 1) := by decide +kernel
theorem dL_law_344 : decode cL_law 344 = .ok (.invokevirtual 47, 3) := by decide +kernel
theorem dL_law_347 : decode cL_law 347 = .ok (.if_icmp .eq 447, 3) := by decide +kernel
theorem dL_law_350 : decode cL_law 350 = .ok (.iconst 0, 1) := by decide +kernel
theorem dL_law_351 : decode cL_law 351 = .ok (.ireturn, 1) := by decide +kernel
theorem dL_law_352 : decode cL_law 352 = .ok (.aload_n 1, 1) := by decide +kernel
theorem dL_law_353 : decode cL_law 353 = .ok (.aload_n 0, 1) := by decide +kernel
theorem dL_law_354 : decode cL_law 354 = .ok (.iload_n 3, 1) := by decide +kernel
theorem dL_law_355 : decode cL_law 355 = .ok (.iconst 1, 1) := by decide +kernel
theorem dL_law_356 : decode cL_law 356 = .ok (.iadd, 1) := by decide +kernel
theorem dL_law_357 : decode cL_law 357 = .ok (.iaload, 1) := by decide +kernel
theorem dL_law_358 : decode cL_law 358 = .ok (.invokevirtual 48, 3) := by decide +kernel
theorem dL_law_361 : decode cL_law 361 = .ok (.aload_n 2, 1) := by decide +kernel
theorem dL_law_362 : decode cL_law 362 = .ok (.aload_n 0, 1) := by decide +kernel
theorem dL_law_363 : decode cL_law 363 = .ok (.iload_n 3, 1) := by decide +kernel
theorem dL_law_364 : decode cL_law 364 = .ok (.iconst 1, 1) := by decide +kernel
theorem dL_law_365 : decode cL_law 365 = .ok (.iadd, 1) := by decide +kernel
theorem dL_law_366 : decode cL_law 366 = .ok (.iaload, 1) := by decide +kernel
theorem dL_law_367 : decode cL_law 367 = .ok (.invokevirtual 51, 3) := by decide +kernel
theorem dL_law_370 : decode cL_law 370 = .ok (.if_icmp .eq 424, 3) := by decide +kernel
theorem dL_law_373 : decode cL_law 373 = .ok (.iconst 0, 1) := by decide +kernel
theorem dL_law_374 : decode cL_law 374 = .ok (.ireturn, 1) := by decide +kernel
theorem dL_law_375 : decode cL_law 375 = .ok (.aload_n 1, 1) := by decide +kernel
theorem dL_law_376 : decode cL_law 376 = .ok (.aload_n 0, 1) := by decide +kernel
theorem dL_law_377 : decode cL_law 377 = .ok (.iload_n 3, 1) := by decide +kernel
theorem dL_law_378 : decode cL_law 378 = .ok (.iconst 1, 1) := by decide +kernel
theorem dL_law_379 : decode cL_law 379 = .ok (.iadd, 1) := by decide +kernel
theorem dL_law_380 : decode cL_law 380 = .ok (.iaload, 1) := by decide +kernel
theorem dL_law_381 : decode cL_law 381 = .ok (.aload_n 0, 1) := by decide +kernel
theorem dL_law_382 : decode cL_law 382 = .ok (.iload_n 3, 1) := by decide +kernel
theorem dL_law_383 : decode cL_law 383 = .ok (.iconst 2, 1) := by decide +kernel
theorem dL_law_384 : decode cL_law 384 = .ok (.iadd, 1) := by decide +kernel
theorem dL_law_385 : decode cL_law 385 = .ok (.iaload, 1) := by decide +kernel
theorem dL_law_386 : decode cL_law 386 = .ok (.invokevirtual 52, 3) := by decide +kernel
theorem dL_law_389 : decode cL_law 389 = .ok (.aload_n 2, 1) := by decide +kernel
theorem dL_law_390 : decode cL_law 390 = .ok (.aload_n 0, 1) := by decide +kernel
theorem dL_law_391 : decode cL_law 391 = .ok (.iload_n 3, 1) := by decide +kernel
theorem dL_law_392 : decode cL_law 392 = .ok (.iconst 1, 1) := by decide +kernel
theorem dL_law_393 : decode cL_law 393 = .ok (.iadd, 1) := by decide +kernel
theorem dL_law_394 : decode cL_law 394 = .ok (.iaload, 1) := by decide +kernel
theorem dL_law_395 : decode cL_law 395 = .ok (.aload_n 0, 1) := by decide +kernel
theorem dL_law_396 : decode cL_law 396 = .ok (.iload_n 3, 1) := by decide +kernel
theorem dL_law_397 : decode cL_law 397 = .ok (.iconst 2, 1) := by decide +kernel
theorem dL_law_398 : decode cL_law 398 = .ok (.iadd, 1) := by decide +kernel
theorem dL_law_399 : decode cL_law 399 = .ok (.iaload, 1) := by decide +kernel
theorem dL_law_400 : decode cL_law 400 = .ok (.invokevirtual 55, 3) := by decide +kernel
theorem dL_law_403 : decode cL_law 403 = .ok (.if_icmp .eq 391, 3) := by decide +kernel
theorem dL_law_406 : decode cL_law 406 = .ok (.iconst 0, 1) := by decide +kernel
theorem dL_law_407 : decode cL_law 407 = .ok (.ireturn, 1) := by decide +kernel
theorem dL_law_408 : decode cL_law 408 = .ok (.aload_n 1, 1) := by decide +kernel
theorem dL_law_409 : decode cL_law 409 = .ok (.invokevirtual 56, 3) := by decide +kernel
theorem dL_law_412 : decode cL_law 412 = .ok (.aload_n 2, 1) := by decide +kernel
theorem dL_law_413 : decode cL_law 413 = .ok (.invokevirtual 59, 3) := by decide +kernel
theorem dL_law_416 : decode cL_law 416 = .ok (.if_icmp .eq 378, 3) := by decide +kernel
theorem dL_law_419 : decode cL_law 419 = .ok (.iconst 0, 1) := by decide +kernel
theorem dL_law_420 : decode cL_law 420 = .ok (.ireturn, 1) := by decide +kernel
theorem dL_law_421 : decode cL_law 421 = .ok (.aload_n 1, 1) := by decide +kernel
theorem dL_law_422 : decode cL_law 422 = .ok (.aload_n 0, 1) := by decide +kernel
theorem dL_law_423 : decode cL_law 423 = .ok (.iload_n 3, 1) := by decide +kernel
theorem dL_law_424 : decode cL_law 424 = .ok (.iconst 1, 1) := by decide +kernel
theorem dL_law_425 : decode cL_law 425 = .ok (.iadd, 1) := by decide +kernel
theorem dL_law_426 : decode cL_law 426 = .ok (.iaload, 1) := by decide +kernel
theorem dL_law_427 : decode cL_law 427 = .ok (.invokevirtual 60, 3) := by decide +kernel
theorem dL_law_430 : decode cL_law 430 = .ok (.aload_n 2, 1) := by decide +kernel
theorem dL_law_431 : decode cL_law 431 = .ok (.aload_n 0, 1) := by decide +kernel
theorem dL_law_432 : decode cL_law 432 = .ok (.iload_n 3, 1) := by decide +kernel
theorem dL_law_433 : decode cL_law 433 = .ok (.iconst 1, 1) := by decide +kernel
theorem dL_law_434 : decode cL_law 434 = .ok (.iadd, 1) := by decide +kernel
theorem dL_law_435 : decode cL_law 435 = .ok (.iaload, 1) := by decide +kernel
theorem dL_law_436 : decode cL_law 436 = .ok (.invokevirtual 63, 3) := by decide +kernel
theorem dL_law_439 : decode cL_law 439 = .ok (.if_icmp .eq 355, 3) := by decide +kernel
theorem dL_law_442 : decode cL_law 442 = .ok (.iconst 0, 1) := by decide +kernel
theorem dL_law_443 : decode cL_law 443 = .ok (.ireturn, 1) := by decide +kernel
theorem dL_law_444 : decode cL_law 444 = .ok (.aload_n 1, 1) := by decide +kernel
theorem dL_law_445 : decode cL_law 445 = .ok (.aload_n 0, 1) := by decide +kernel
theorem dL_law_446 : decode cL_law 446 = .ok (.iload_n 3, 1) := by decide +kernel
theorem dL_law_447 : decode cL_law 447 = .ok (.iconst 1, 1) := by decide +kernel
theorem dL_law_448 : decode cL_law 448 = .ok (.iadd, 1) := by decide +kernel
theorem dL_law_449 : decode cL_law 449 = .ok (.iaload, 1) := by decide +kernel
theorem dL_law_450 : decode cL_law 450 = .ok (.invokevirtual 64, 3) := by decide +kernel
theorem dL_law_453 : decode cL_law 453 = .ok (.aload_n 2, 1) := by decide +kernel
theorem dL_law_454 : decode cL_law 454 = .ok (.aload_n 0, 1) := by decide +kernel
theorem dL_law_455 : decode cL_law 455 = .ok (.iload_n 3, 1) := by decide +kernel
theorem dL_law_456 : decode cL_law 456 = .ok (.iconst 1, 1) := by decide +kernel
theorem dL_law_457 : decode cL_law 457 = .ok (.iadd, 1) := by decide +kernel
theorem dL_law_458 : decode cL_law 458 = .ok (.iaload, 1) := by decide +kernel
theorem dL_law_459 : decode cL_law 459 = .ok (.invokevirtual 67, 3) := by decide +kernel
theorem dL_law_462 : decode cL_law 462 = .ok (.if_icmp .eq 332, 3) := by decide +kernel
theorem dL_law_465 : decode cL_law 465 = .ok (.iconst 0, 1) := by decide +kernel
theorem dL_law_466 : decode cL_law 466 = .ok (.ireturn, 1) := by decide +kernel
theorem dL_law_467 : decode cL_law 467 = .ok (.aload_n 1, 1) := by decide +kernel
theorem dL_law_468 : decode cL_law 468 = .ok (.aload_n 0, 1) := by decide +kernel
theorem dL_law_469 : decode cL_law 469 = .ok (.iload_n 3, 1) := by decide +kernel
theorem dL_law_470 : decode cL_law 470 = .ok (.iconst 1, 1) := by decide +kernel
theorem dL_law_471 : decode cL_law 471 = .ok (.iadd, 1) := by decide +kernel
theorem dL_law_472 : decode cL_law 472 = .ok (.iaload, 1) := by decide +kernel
theorem dL_law_473 : decode cL_law 473 = .ok (.invokevirtual 68, 3) := by decide +kernel
theorem dL_law_476 : decode cL_law 476 = .ok (.aload_n 2, 1) := by decide +kernel
theorem dL_law_477 : decode cL_law 477 = .ok (.aload_n 0, 1) := by decide +kernel
theorem dL_law_478 : decode cL_law 478 = .ok (.iload_n 3, 1) := by decide +kernel
theorem dL_law_479 : decode cL_law 479 = .ok (.iconst 1, 1) := by decide +kernel
theorem dL_law_480 : decode cL_law 480 = .ok (.iadd, 1) := by decide +kernel
theorem dL_law_481 : decode cL_law 481 = .ok (.iaload, 1) := by decide +kernel
theorem dL_law_482 : decode cL_law 482 = .ok (.invokevirtual 71, 3) := by decide +kernel
theorem dL_law_485 : decode cL_law 485 = .ok (.if_icmp .eq 309, 3) := by decide +kernel
theorem dL_law_488 : decode cL_law 488 = .ok (.iconst 0, 1) := by decide +kernel
theorem dL_law_489 : decode cL_law 489 = .ok (.ireturn, 1) := by decide +kernel
theorem dL_law_490 : decode cL_law 490 = .ok (.aload_n 1, 1) := by decide +kernel
theorem dL_law_491 : decode cL_law 491 = .ok (.aload_n 0, 1) := by decide +kernel
theorem dL_law_492 : decode cL_law 492 = .ok (.iload_n 3, 1) := by decide +kernel
theorem dL_law_493 : decode cL_law 493 = .ok (.iconst 1, 1) := by decide +kernel
theorem dL_law_494 : decode cL_law 494 = .ok (.iadd, 1) := by decide +kernel
theorem dL_law_495 : decode cL_law 495 = .ok (.iaload, 1) := by decide +kernel
theorem dL_law_496 : decode cL_law 496 = .ok (.aload_n 0, 1) := by decide +kernel
theorem dL_law_497 : decode cL_law 497 = .ok (.iload_n 3, 1) := by decide +kernel
theorem dL_law_498 : decode cL_law 498 = .ok (.iconst 2, 1) := by decide +kernel
theorem dL_law_499 : decode cL_law 499 = .ok (.iadd, 1) := by decide +kernel
theorem dL_law_500 : decode cL_law 500 = .ok (.iaload, 1) := by decide +kernel
theorem dL_law_501 : decode cL_law 501 = .ok (.aload_n 0, 1) := by decide +kernel
theorem dL_law_502 : decode cL_law 502 = .ok (.iload_n 3, 1) := by decide +kernel
theorem dL_law_503 : decode cL_law 503 = .ok (.iconst 3, 1) := by decide +kernel
theorem dL_law_504 : decode cL_law 504 = .ok (.iadd, 1) := by decide +kernel
theorem dL_law_505 : decode cL_law 505 = .ok (.iaload, 1) := by decide +kernel
theorem dL_law_506 : decode cL_law 506 = .ok (.invokevirtual 72, 3) := by decide +kernel
theorem dL_law_509 : decode cL_law 509 = .ok (.aload_n 2, 1) := by decide +kernel
theorem dL_law_510 : decode cL_law 510 = .ok (.aload_n 0, 1) := by decide +kernel
theorem dL_law_511 : decode cL_law 511 = .ok (.iload_n 3, 1) := by decide +kernel
theorem dL_law_512 : decode cL_law 512 = .ok (.iconst 1, 1) := by decide +kernel
theorem dL_law_513 : decode cL_law 513 = .ok (.iadd, 1) := by decide +kernel
theorem dL_law_514 : decode cL_law 514 = .ok (.iaload, 1) := by decide +kernel
theorem dL_law_515 : decode cL_law 515 = .ok (.aload_n 0, 1) := by decide +kernel
theorem dL_law_516 : decode cL_law 516 = .ok (.iload_n 3, 1) := by decide +kernel
theorem dL_law_517 : decode cL_law 517 = .ok (.iconst 2, 1) := by decide +kernel
theorem dL_law_518 : decode cL_law 518 = .ok (.iadd, 1) := by decide +kernel
theorem dL_law_519 : decode cL_law 519 = .ok (.iaload, 1) := by decide +kernel
theorem dL_law_520 : decode cL_law 520 = .ok (.aload_n 0, 1) := by decide +kernel
theorem dL_law_521 : decode cL_law 521 = .ok (.iload_n 3, 1) := by decide +kernel
theorem dL_law_522 : decode cL_law 522 = .ok (.iconst 3, 1) := by decide +kernel
theorem dL_law_523 : decode cL_law 523 = .ok (.iadd, 1) := by decide +kernel
theorem dL_law_524 : decode cL_law 524 = .ok (.iaload, 1) := by decide +kernel
theorem dL_law_525 : decode cL_law 525 = .ok (.invokevirtual 76, 3) := by decide +kernel
theorem dL_law_528 : decode cL_law 528 = .ok (.if_icmp .eq 266, 3) := by decide +kernel
theorem dL_law_531 : decode cL_law 531 = .ok (.iconst 0, 1) := by decide +kernel
theorem dL_law_532 : decode cL_law 532 = .ok (.ireturn, 1) := by decide +kernel
theorem dL_law_533 : decode cL_law 533 = .ok (.aload_n 1, 1) := by decide +kernel
theorem dL_law_534 : decode cL_law 534 = .ok (.aload_n 0, 1) := by decide +kernel
theorem dL_law_535 : decode cL_law 535 = .ok (.iload_n 3, 1) := by decide +kernel
theorem dL_law_536 : decode cL_law 536 = .ok (.iconst 1, 1) := by decide +kernel
theorem dL_law_537 : decode cL_law 537 = .ok (.iadd, 1) := by decide +kernel
theorem dL_law_538 : decode cL_law 538 = .ok (.iaload, 1) := by decide +kernel
theorem dL_law_539 : decode cL_law 539 = .ok (.aload_n 0, 1) := by decide +kernel
theorem dL_law_540 : decode cL_law 540 = .ok (.iload_n 3, 1) := by decide +kernel
theorem dL_law_541 : decode cL_law 541 = .ok (.iconst 2, 1) := by decide +kernel
theorem dL_law_542 : decode cL_law 542 = .ok (.iadd, 1) := by decide +kernel
theorem dL_law_543 : decode cL_law 543 = .ok (.iaload, 1) := by decide +kernel
theorem dL_law_544 : decode cL_law 544 = .ok (.invokevirtual 77, 3) := by decide +kernel
theorem dL_law_547 : decode cL_law 547 = .ok (.aload_n 2, 1) := by decide +kernel
theorem dL_law_548 : decode cL_law 548 = .ok (.aload_n 0, 1) := by decide +kernel
theorem dL_law_549 : decode cL_law 549 = .ok (.iload_n 3, 1) := by decide +kernel
theorem dL_law_550 : decode cL_law 550 = .ok (.iconst 1, 1) := by decide +kernel
theorem dL_law_551 : decode cL_law 551 = .ok (.iadd, 1) := by decide +kernel
theorem dL_law_552 : decode cL_law 552 = .ok (.iaload, 1) := by decide +kernel
theorem dL_law_553 : decode cL_law 553 = .ok (.aload_n 0, 1) := by decide +kernel
theorem dL_law_554 : decode cL_law 554 = .ok (.iload_n 3, 1) := by decide +kernel
theorem dL_law_555 : decode cL_law 555 = .ok (.iconst 2, 1) := by decide +kernel
theorem dL_law_556 : decode cL_law 556 = .ok (.iadd, 1) := by decide +kernel
theorem dL_law_557 : decode cL_law 557 = .ok (.iaload, 1) := by decide +kernel
theorem dL_law_558 : decode cL_law 558 = .ok (.invokevirtual 80, 3) := by decide +kernel
theorem dL_law_561 : decode cL_law 561 = .ok (.if_icmp .eq 233, 3) := by decide +kernel
theorem dL_law_564 : decode cL_law 564 = .ok (.iconst 0, 1) := by decide +kernel
theorem dL_law_565 : decode cL_law 565 = .ok (.ireturn, 1) := by decide +kernel
theorem dL_law_566 : decode cL_law 566 = .ok (.aload_n 1, 1) := by decide +kernel
theorem dL_law_567 : decode cL_law 567 = .ok (.aload_n 0, 1) := by decide +kernel
theorem dL_law_568 : decode cL_law 568 = .ok (.iload_n 3, 1) := by decide +kernel
theorem dL_law_569 : decode cL_law 569 = .ok (.iconst 1, 1) := by decide +kernel
theorem dL_law_570 : decode cL_law 570 = .ok (.iadd, 1) := by decide +kernel
theorem dL_law_571 : decode cL_law 571 = .ok (.iaload, 1) := by decide +kernel
theorem dL_law_572 : decode cL_law 572 = .ok (.aload_n 0, 1) := by decide +kernel
theorem dL_law_573 : decode cL_law 573 = .ok (.iload_n 3, 1) := by decide +kernel
theorem dL_law_574 : decode cL_law 574 = .ok (.iconst 2, 1) := by decide +kernel
theorem dL_law_575 : decode cL_law 575 = .ok (.iadd, 1) := by decide +kernel
theorem dL_law_576 : decode cL_law 576 = .ok (.iaload, 1) := by decide +kernel
theorem dL_law_577 : decode cL_law 577 = .ok (.aload_n 0, 1) := by decide +kernel
theorem dL_law_578 : decode cL_law 578 = .ok (.iload_n 3, 1) := by decide +kernel
theorem dL_law_579 : decode cL_law 579 = .ok (.iconst 3, 1) := by decide +kernel
theorem dL_law_580 : decode cL_law 580 = .ok (.iadd, 1) := by decide +kernel
theorem dL_law_581 : decode cL_law 581 = .ok (.iaload, 1) := by decide +kernel
theorem dL_law_582 : decode cL_law 582 = .ok (.aload_n 0, 1) := by decide +kernel
theorem dL_law_583 : decode cL_law 583 = .ok (.iload_n 3, 1) := by decide +kernel
theorem dL_law_584 : decode cL_law 584 = .ok (.iconst 4, 1) := by decide +kernel
theorem dL_law_585 : decode cL_law 585 = .ok (.iadd, 1) := by decide +kernel
theorem dL_law_586 : decode cL_law 586 = .ok (.iaload, 1) := by decide +kernel
theorem dL_law_587 : decode cL_law 587 = .ok (.invokevirtual 81, 3) := by decide +kernel
theorem dL_law_590 : decode cL_law 590 = .ok (.aload_n 2, 1) := by decide +kernel
theorem dL_law_591 : decode cL_law 591 = .ok (.aload_n 0, 1) := by decide +kernel
theorem dL_law_592 : decode cL_law 592 = .ok (.iload_n 3, 1) := by decide +kernel
theorem dL_law_593 : decode cL_law 593 = .ok (.iconst 1, 1) := by decide +kernel
theorem dL_law_594 : decode cL_law 594 = .ok (.iadd, 1) := by decide +kernel
theorem dL_law_595 : decode cL_law 595 = .ok (.iaload, 1) := by decide +kernel
theorem dL_law_596 : decode cL_law 596 = .ok (.aload_n 0, 1) := by decide +kernel
theorem dL_law_597 : decode cL_law 597 = .ok (.iload_n 3, 1) := by decide +kernel
theorem dL_law_598 : decode cL_law 598 = .ok (.iconst 2, 1) := by decide +kernel
theorem dL_law_599 : decode cL_law 599 = .ok (.iadd, 1) := by decide +kernel
theorem dL_law_600 : decode cL_law 600 = .ok (.iaload, 1) := by decide +kernel
theorem dL_law_601 : decode cL_law 601 = .ok (.aload_n 0, 1) := by decide +kernel
theorem dL_law_602 : decode cL_law 602 = .ok (.iload_n 3, 1) := by decide +kernel
theorem dL_law_603 : decode cL_law 603 = .ok (.iconst 3, 1) := by decide +kernel
theorem dL_law_604 : decode cL_law 604 = .ok (.iadd, 1) := by decide +kernel
theorem dL_law_605 : decode cL_law 605 = .ok (.iaload, 1) := by decide +kernel
theorem dL_law_606 : decode cL_law 606 = .ok (.aload_n 0, 1) := by decide +kernel
theorem dL_law_607 : decode cL_law 607 = .ok (.iload_n 3, 1) := by decide +kernel
theorem dL_law_608 : decode cL_law 608 = .ok (.iconst 4, 1) := by decide +kernel
theorem dL_law_609 : decode cL_law 609 = .ok (.iadd, 1) := by decide +kernel
theorem dL_law_610 : decode cL_law 610 = .ok (.iaload, 1) := by decide +kernel
theorem dL_law_611 : decode cL_law 611 = .ok (.invokevirtual 85, 3) := by decide +kernel
theorem dL_law_614 : decode cL_law 614 = .ok (.if_icmp .eq 180, 3) := by decide +kernel
theorem dL_law_617 : decode cL_law 617 = .ok (.iconst 0, 1) := by decide +kernel
theorem dL_law_618 : decode cL_law 618 = .ok (.ireturn, 1) := by decide +kernel
theorem dL_law_619 : decode cL_law 619 = .ok (.aload_n 1, 1) := by decide +kernel
theorem dL_law_620 : decode cL_law 620 = .ok (.aload_n 0, 1) := by decide +kernel
theorem dL_law_621 : decode cL_law 621 = .ok (.iload_n 3, 1) := by decide +kernel
theorem dL_law_622 : decode cL_law 622 = .ok (.iconst 1, 1) := by decide +kernel
theorem dL_law_623 : decode cL_law 623 = .ok (.iadd, 1) := by decide +kernel
theorem dL_law_624 : decode cL_law 624 = .ok (.iaload, 1) := by decide +kernel
theorem dL_law_625 : decode cL_law 625 = .ok (.aload_n 0, 1) := by decide +kernel
theorem dL_law_626 : decode cL_law 626 = .ok (.iload_n 3, 1) := by decide +kernel
theorem dL_law_627 : decode cL_law 627 = .ok (.iconst 2, 1) := by decide +kernel
theorem dL_law_628 : decode cL_law 628 = .ok (.iadd, 1) := by decide +kernel
theorem dL_law_629 : decode cL_law 629 = .ok (.iaload, 1) := by decide +kernel
theorem dL_law_630 : decode cL_law 630 = .ok (.invokevirtual 86, 3) := by decide +kernel
theorem dL_law_633 : decode cL_law 633 = .ok (.aload_n 2, 1) := by decide +kernel
theorem dL_law_634 : decode cL_law 634 = .ok (.aload_n 0, 1) := by decide +kernel
theorem dL_law_635 : decode cL_law 635 = .ok (.iload_n 3, 1) := by decide +kernel
theorem dL_law_636 : decode cL_law 636 = .ok (.iconst 1, 1) := by decide +kernel
theorem dL_law_637 : decode cL_law 637 = .ok (.iadd, 1) := by decide +kernel
theorem dL_law_638 : decode cL_law 638 = .ok (.iaload, 1) := by decide +kernel
theorem dL_law_639 : decode cL_law 639 = .ok (.aload_n 0, 1) := by decide +kernel
theorem dL_law_640 : decode cL_law 640 = .ok (.iload_n 3, 1) := by decide +kernel
theorem dL_law_641 : decode cL_law 641 = .ok (.iconst 2, 1) := by decide +kernel
theorem dL_law_642 : decode cL_law 642 = .ok (.iadd, 1) := by decide +kernel
theorem dL_law_643 : decode cL_law 643 = .ok (.iaload, 1) := by decide +kernel
theorem dL_law_644 : decode cL_law 644 = .ok (.invokevirtual 89, 3) := by decide +kernel
theorem dL_law_647 : decode cL_law 647 = .ok (.if_icmp .eq 147, 3) := by decide +kernel
theorem dL_law_650 : decode cL_law 650 = .ok (.iconst 0, 1) := by decide +kernel
theorem dL_law_651 : decode cL_law 651 = .ok (.ireturn, 1) := by decide +kernel
theorem dL_law_652 : decode cL_law 652 = .ok (.aload_n 1, 1) := by decide +kernel
theorem dL_law_653 : decode cL_law 653 = .ok (.invokevirtual 90, 3) := by decide +kernel
theorem dL_law_656 : decode cL_law 656 = .ok (.aload_n 2, 1) := by decide +kernel
theorem dL_law_657 : decode cL_law 657 = .ok (.invokevirtual 93, 3) := by decide +kernel
theorem dL_law_660 : decode cL_law 660 = .ok (.if_icmp .eq 134, 3) := by decide +kernel
theorem dL_law_663 : decode cL_law 663 = .ok (.iconst 0, 1) := by decide +kernel
theorem dL_law_664 : decode cL_law 664 = .ok (.ireturn, 1) := by decide +kernel
theorem dL_law_665 : decode cL_law 665 = .ok (.aload_n 1, 1) := by decide +kernel
theorem dL_law_666 : decode cL_law 666 = .ok (.invokevirtual 94, 3) := by decide +kernel
theorem dL_law_669 : decode cL_law 669 = .ok (.aload_n 2, 1) := by decide +kernel
theorem dL_law_670 : decode cL_law 670 = .ok (.invokevirtual 97, 3) := by decide +kernel
theorem dL_law_673 : decode cL_law 673 = .ok (.if_icmp .eq 121, 3) := by decide +kernel
theorem dL_law_676 : decode cL_law 676 = .ok (.iconst 0, 1) := by decide +kernel
theorem dL_law_677 : decode cL_law 677 = .ok (.ireturn, 1) := by decide +kernel
theorem dL_law_678 : decode cL_law 678 = .ok (.aload_n 1, 1) := by decide +kernel
theorem dL_law_679 : decode cL_law 679 = .ok (.aload_n 0, 1) := by decide +kernel
theorem dL_law_680 : decode cL_law 680 = .ok (.iload_n 3, 1) := by decide +kernel
theorem dL_law_681 : decode cL_law 681 = .ok (.iconst 1, 1) := by decide +kernel
theorem dL_law_682 : decode cL_law 682 = .ok (.iadd, 1) := by decide +kernel
theorem dL_law_683 : decode cL_law 683 = .ok (.iaload, 1) := by decide +kernel
theorem dL_law_684 : decode cL_law 684 = .ok (.aload_n 0, 1) := by decide +kernel
theorem dL_law_685 : decode cL_law 685 = .ok (.iload_n 3, 1) := by decide +kernel
theorem dL_law_686 : decode cL_law 686 = .ok (.iconst 2, 1) := by decide +kernel
theorem dL_law_687 : decode cL_law 687 = .ok (.iadd, 1) := by decide +kernel
theorem dL_law_688 : decode cL_law 688 = .ok (.iaload, 1) := by decide +kernel
theorem dL_law_689 : decode cL_law 689 = .ok (.invokevirtual 98, 3) := by decide +kernel
theorem dL_law_692 : decode cL_law 692 = .ok (.aload_n 2, 1) := by decide +kernel
theorem dL_law_693 : decode cL_law 693 = .ok (.aload_n 0, 1) := by decide +kernel
theorem dL_law_694 : decode cL_law 694 = .ok (.iload_n 3, 1) := by decide +kernel
theorem dL_law_695 : decode cL_law 695 = .ok (.iconst 1, 1) := by decide +kernel
theorem dL_law_696 : decode cL_law 696 = .ok (.iadd, 1) := by decide +kernel
theorem dL_law_697 : decode cL_law 697 = .ok (.iaload, 1) := by decide +kernel
theorem dL_law_698 : decode cL_law 698 = .ok (.aload_n 0, 1) := by decide +kernel
theorem dL_law_699 : decode cL_law 699 = .ok (.iload_n 3, 1) := by decide +kernel
theorem dL_law_700 : decode cL_law 700 = .ok (.iconst 2, 1) := by decide +kernel
theorem dL_law_701 : decode cL_law 701 = .ok (.iadd, 1) := by decide +kernel
theorem dL_law_702 : decode cL_law 702 = .ok (.iaload, 1) := by decide +kernel
theorem dL_law_703 : decode cL_law 703 = .ok (.invokevirtual 101, 3) := by decide +kernel
theorem dL_law_706 : decode cL_law 706 = .ok (.if_icmp .eq 88, 3) := by decide +kernel
theorem dL_law_709 : decode cL_law 709 = .ok (.iconst 0, 1) := by decide +kernel
theorem dL_law_710 : decode cL_law 710 = .ok (.ireturn, 1) := by decide +kernel
theorem dL_law_711 : decode cL_law 711 = .ok (.aload_n 1, 1) := by decide +kernel
theorem dL_law_712 : decode cL_law 712 = .ok (.aload_n 0, 1) := by decide +kernel
theorem dL_law_713 : decode cL_law 713 = .ok (.iload_n 3, 1) := by decide +kernel
theorem dL_law_714 : decode cL_law 714 = .ok (.iconst 1, 1) := by decide +kernel
theorem dL_law_715 : decode cL_law 715 = .ok (.iadd, 1) := by decide +kernel
theorem dL_law_716 : decode cL_law 716 = .ok (.iaload, 1) := by decide +kernel
theorem dL_law_717 : decode cL_law 717 = .ok (.invokevirtual 102, 3) := by decide +kernel
theorem dL_law_720 : decode cL_law 720 = .ok (.aload_n 2, 1) := by decide +kernel
theorem dL_law_721 : decode cL_law 721 = .ok (.aload_n 0, 1) := by decide +kernel
theorem dL_law_722 : decode cL_law 722 = .ok (.iload_n 3, 1) := by decide +kernel
theorem dL_law_723 : decode cL_law 723 = .ok (.iconst 1, 1) := by decide +kernel
theorem dL_law_724 : decode cL_law 724 = .ok (.iadd, 1) := by decide +kernel
theorem dL_law_725 : decode cL_law 725 = .ok (.iaload, 1) := by decide +kernel
theorem dL_law_726 : decode cL_law 726 = .ok (.invokevirtual 105, 3) := by decide +kernel
theorem dL_law_729 : decode cL_law 729 = .ok (.if_icmp .eq 65, 3) := by decide +kernel
theorem dL_law_732 : decode cL_law 732 = .ok (.iconst 0, 1) := by decide +kernel
theorem dL_law_733 : decode cL_law 733 = .ok (.ireturn, 1) := by decide +kernel
theorem dL_law_734 : decode cL_law 734 = .ok (.aload_n 1, 1) := by decide +kernel
theorem dL_law_735 : decode cL_law 735 = .ok (.aload_n 0, 1) := by decide +kernel
theorem dL_law_736 : decode cL_law 736 = .ok (.iload_n 3, 1) := by decide +kernel
theorem dL_law_737 : decode cL_law 737 = .ok (.iconst 1, 1) := by decide +kernel
theorem dL_law_738 : decode cL_law 738 = .ok (.iadd, 1) := by decide +kernel
theorem dL_law_739 : decode cL_law 739 = .ok (.iaload, 1) := by decide +kernel
theorem dL_law_740 : decode cL_law 740 = .ok (.invokevirtual 106, 3) := by decide +kernel
theorem dL_law_743 : decode cL_law 743 = .ok (.aload_n 2, 1) := by decide +kernel
theorem dL_law_744 : decode cL_law 744 = .ok (.aload_n 0, 1) := by decide +kernel
theorem dL_law_745 : decode cL_law 745 = .ok (.iload_n 3, 1) := by decide +kernel
theorem dL_law_746 : decode cL_law 746 = .ok (.iconst 1, 1) := by decide +kernel
theorem dL_law_747 : decode cL_law 747 = .ok (.iadd, 1) := by decide +kernel
theorem dL_law_748 : decode cL_law 748 = .ok (.iaload, 1) := by decide +kernel
theorem dL_law_749 : decode cL_law 749 = .ok (.invokevirtual 109, 3) := by decide +kernel
theorem dL_law_752 : decode cL_law 752 = .ok (.if_icmp .eq 42, 3) := by decide +kernel
theorem dL_law_755 : decode cL_law 755 = .ok (.iconst 0, 1) := by decide +kernel
theorem dL_law_756 : decode cL_law 756 = .ok (.ireturn, 1) := by decide +kernel
theorem dL_law_757 : decode cL_law 757 = .ok (.aload_n 1, 1) := by decide +kernel
theorem dL_law_758 : decode cL_law 758 = .ok (.aload_n 0, 1) := by decide +kernel
theorem dL_law_759 : decode cL_law 759 = .ok (.iload_n 3, 1) := by decide +kernel
theorem dL_law_760 : decode cL_law 760 = .ok (.iconst 1, 1) := by decide +kernel
theorem dL_law_761 : decode cL_law 761 = .ok (.iadd, 1) := by decide +kernel
theorem dL_law_762 : decode cL_law 762 = .ok (.iaload, 1) := by decide +kernel
theorem dL_law_763 : decode cL_law 763 = .ok (.invokevirtual 110, 3) := by decide +kernel
theorem dL_law_766 : decode cL_law 766 = .ok (.aload_n 2, 1) := by decide +kernel
theorem dL_law_767 : decode cL_law 767 = .ok (.aload_n 0, 1) := by decide +kernel
theorem dL_law_768 : decode cL_law 768 = .ok (.iload_n 3, 1) := by decide +kernel
theorem dL_law_769 : decode cL_law 769 = .ok (.iconst 1, 1) := by decide +kernel
theorem dL_law_770 : decode cL_law 770 = .ok (.iadd, 1) := by decide +kernel
theorem dL_law_771 : decode cL_law 771 = .ok (.iaload, 1) := by decide +kernel
theorem dL_law_772 : decode cL_law 772 = .ok (.invokevirtual 113, 3) := by decide +kernel
theorem dL_law_775 : decode cL_law 775 = .ok (.if_icmp .eq 19, 3) := by decide +kernel
theorem dL_law_778 : decode cL_law 778 = .ok (.iconst 0, 1) := by decide +kernel
theorem dL_law_779 : decode cL_law 779 = .ok (.ireturn, 1) := by decide +kernel
theorem dL_law_780 : decode cL_law 780 = .ok (.aload_n 1, 1) := by decide +kernel
theorem dL_law_781 : decode cL_law 781 = .ok (.invokevirtual 114, 3) := by decide +kernel
theorem dL_law_784 : decode cL_law 784 = .ok (.aload_n 2, 1) := by decide +kernel
theorem dL_law_785 : decode cL_law 785 = .ok (.invokevirtual 118, 3) := by decide +kernel
theorem dL_law_788 : decode cL_law 788 = .ok (.lcmp, 1) := by decide +kernel
theorem dL_law_789 : decode cL_law 789 = .ok (.ifCond .eq 5, 3) := by decide +kernel
theorem dL_law_792 : decode cL_law 792 = .ok (.iconst 0, 1) := by decide +kernel
theorem dL_law_793 : decode cL_law 793 = .ok (.ireturn, 1) := by decide +kernel
theorem dL_law_794 : decode cL_law 794 = .ok (.iinc 3 5, 3) := by decide +kernel
theorem dL_law_797 : decode cL_law 797 = .ok (.goto (-779), 3) := by decide +kernel
theorem dL_law_800 : decode cL_law 800 = .ok (.iconst 1, 1) := by decide +kernel
theorem dL_law_801 : decode cL_law 801 = .ok (.ireturn, 1) := by decide +kernel
