theorem dX0_init_0 : decode cX0_init 0 = .ok (.aload_n 0, 1) := by decide +kernel
theorem dX0_init_1 : decode cX0_init 1 = .ok (.invokespecial 5, 3) := by decide +kernel
theorem dX0_init_4 : decode cX0_init 4 = .ok (.aload_n 0, 1) := by decide +kernel
theorem dX0_init_5 : decode cX0_init 5 = .ok (.sipush 154, 3) := by decide +kernel
theorem dX0_init_8 : decode cX0_init 8 = .ok (.newarray .int, 2) := by decide +kernel
theorem dX0_init_10 : decode cX0_init 10 = .ok (.putfield 11, 3) := by decide +kernel
theorem dX0_init_13 : decode cX0_init 13 = .ok (.aload_n 0, 1) := by decide +kernel
theorem dX0_init_14 : decode cX0_init 14 = .ok (.invokevirtual 15, 3) := by decide +kernel
theorem dX0_init_17 : decode cX0_init 17 = .ok (.return_, 1) := by decide +kernel
theorem dX0_begin_0 : decode cX0_begin 0 = .ok (.aload_n 0, 1) := by decide +kernel
theorem dX0_begin_1 : decode cX0_begin 1 = .ok (.iconst 0, 1) := by decide +kernel
theorem dX0_begin_2 : decode cX0_begin 2 = .ok (.putfield 18, 3) := by decide +kernel
theorem dX0_begin_5 : decode cX0_begin 5 = .ok (.aload_n 0, 1) := by decide +kernel
theorem dX0_begin_6 : decode cX0_begin 6 = .ok (.getfield 11, 3) := by decide +kernel
theorem dX0_begin_9 : decode cX0_begin 9 = .ok (.iconst 0, 1) := by decide +kernel
theorem dX0_begin_10 : decode cX0_begin 10 = .ok (.iconst 0, 1) := by decide +kernel
theorem dX0_begin_11 : decode cX0_begin 11 = .ok (.iastore, 1) := by decide +kernel
theorem dX0_begin_12 : decode cX0_begin 12 = .ok (.aload_n 0, 1) := by decide +kernel
theorem dX0_begin_13 : decode cX0_begin 13 = .ok (.getfield 11, 3) := by decide +kernel
theorem dX0_begin_16 : decode cX0_begin 16 = .ok (.iconst 1, 1) := by decide +kernel
theorem dX0_begin_17 : decode cX0_begin 17 = .ok (.iconst 0, 1) := by decide +kernel
theorem dX0_begin_18 : decode cX0_begin 18 = .ok (.iastore, 1) := by decide +kernel
theorem dX0_begin_19 : decode cX0_begin 19 = .ok (.iconst 0, 1) := by decide +kernel
theorem dX0_begin_20 : decode cX0_begin 20 = .ok (.istore_n 1, 1) := by decide +kernel
theorem dX0_begin_21 : decode cX0_begin 21 = .ok (.iload_n 1, 1) := by decide +kernel
theorem dX0_begin_22 : decode cX0_begin 22 = .ok (.bipush 6, 2) := by decide +kernel
theorem dX0_begin_24 : decode cX0_begin 24 = .ok (.if_icmp .ge 29, 3) := by decide +kernel
theorem dX0_begin_27 : decode cX0_begin 27 = .ok (.aload_n 0, 1) := by decide +kernel
theorem dX0_begin_28 : decode cX0_begin 28 = .ok (.getfield 11, 3) := by decide +kernel
theorem dX0_begin_31 : decode cX0_begin 31 = .ok (.iconst 2, 1) := by decide +kernel
theorem dX0_begin_32 : decode cX0_begin 32 = .ok (.iload_n 1, 1) := by decide +kernel
theorem dX0_begin_33 : decode cX0_begin 33 = .ok (.iadd, 1) := by decide +kernel
theorem dX0_begin_34 : decode cX0_begin 34 = .ok (.bipush (-9), 2) := by decide +kernel
theorem dX0_begin_36 : decode cX0_begin 36 = .ok (.iastore, 1) := by decide +kernel
theorem dX0_begin_37 : decode cX0_begin 37 = .ok (.aload_n 0, 1) := by decide +kernel
theorem dX0_begin_38 : decode cX0_begin 38 = .ok (.getfield 11, 3) := by decide +kernel
theorem dX0_begin_41 : decode cX0_begin 41 = .ok (.bipush 8, 2) := by decide +kernel
theorem dX0_begin_43 : decode cX0_begin 43 = .ok (.iload_n 1, 1) := by decide +kernel
theorem dX0_begin_44 : decode cX0_begin 44 = .ok (.iadd, 1) := by decide +kernel
theorem dX0_begin_45 : decode cX0_begin 45 = .ok (.iconst 0, 1) := by decide +kernel
theorem dX0_begin_46 : decode cX0_begin 46 = .ok (.iastore, 1) := by decide +kernel
theorem dX0_begin_47 : decode cX0_begin 47 = .ok (.iinc 1 1, 3) := by decide +kernel
theorem dX0_begin_50 : decode cX0_begin 50 = .ok (.goto (-29), 3) := by decide +kernel
theorem dX0_begin_53 : decode cX0_begin 53 = .ok (.return_, 1) := by decide +kernel
theorem dX0_copyAll_0 : decode cX0_copyAll 0 = .ok (.aload_n 1, 1) := by decide +kernel
theorem dX0_copyAll_1 : decode cX0_copyAll 1 = .ok (.getfield 11, 3) := by decide +kernel
theorem dX0_copyAll_4 : decode cX0_copyAll 4 = .ok (.iconst 0, 1) := by decide +kernel
theorem dX0_copyAll_5 : decode cX0_copyAll 5 = .ok (.aload_n 0, 1) := by decide +kernel
theorem dX0_copyAll_6 : decode cX0_copyAll 6 = .ok (.getfield 11, 3) := by decide +kernel
theorem dX0_copyAll_9 : decode cX0_copyAll 9 = .ok (.iconst 0, 1) := by decide +kernel
theorem dX0_copyAll_10 : decode cX0_copyAll 10 = .ok (.aload_n 0, 1) := by decide +kernel
theorem dX0_copyAll_11 : decode cX0_copyAll 11 = .ok (.getfield 11, 3) := by decide +kernel
theorem dX0_copyAll_14 : decode cX0_copyAll 14 = .ok (.arraylength, 1) := by decide +kernel
theorem dX0_copyAll_15 : decode cX0_copyAll 15 = .ok (.invokestatic 22, 3) := by decide +kernel
theorem dX0_copyAll_18 : decode cX0_copyAll 18 = .ok (.aload_n 0, 1) := by decide +kernel
theorem dX0_copyAll_19 : decode cX0_copyAll 19 = .ok (.aload_n 1, 1) := by decide +kernel
theorem dX0_copyAll_20 : decode cX0_copyAll 20 = .ok (.getfield 18, 3) := by decide +kernel
theorem dX0_copyAll_23 : decode cX0_copyAll 23 = .ok (.putfield 18, 3) := by decide +kernel
theorem dX0_copyAll_26 : decode cX0_copyAll 26 = .ok (.return_, 1) := by decide +kernel
theorem dX0_copyNow_0 : decode cX0_copyNow 0 = .ok (.aload_n 1, 1) := by decide +kernel
theorem dX0_copyNow_1 : decode cX0_copyNow 1 = .ok (.getfield 11, 3) := by decide +kernel
theorem dX0_copyNow_4 : decode cX0_copyNow 4 = .ok (.aload_n 1, 1) := by decide +kernel
theorem dX0_copyNow_5 : decode cX0_copyNow 5 = .ok (.invokevirtual 28, 3) := by decide +kernel
theorem dX0_copyNow_8 : decode cX0_copyNow 8 = .ok (.aload_n 0, 1) := by decide +kernel
theorem dX0_copyNow_9 : decode cX0_copyNow 9 = .ok (.getfield 11, 3) := by decide +kernel
theorem dX0_copyNow_12 : decode cX0_copyNow 12 = .ok (.iconst 0, 1) := by decide +kernel
theorem dX0_copyNow_13 : decode cX0_copyNow 13 = .ok (.bipush 14, 2) := by decide +kernel
theorem dX0_copyNow_15 : decode cX0_copyNow 15 = .ok (.invokestatic 22, 3) := by decide +kernel
theorem dX0_copyNow_18 : decode cX0_copyNow 18 = .ok (.aload_n 0, 1) := by decide +kernel
theorem dX0_copyNow_19 : decode cX0_copyNow 19 = .ok (.iconst 0, 1) := by decide +kernel
theorem dX0_copyNow_20 : decode cX0_copyNow 20 = .ok (.putfield 18, 3) := by decide +kernel
theorem dX0_copyNow_23 : decode cX0_copyNow 23 = .ok (.return_, 1) := by decide +kernel
theorem dX0_remember_0 : decode cX0_remember 0 = .ok (.aload_n 0, 1) := by decide +kernel
theorem dX0_remember_1 : decode cX0_remember 1 = .ok (.getfield 18, 3) := by decide +kernel
theorem dX0_remember_4 : decode cX0_remember 4 = .ok (.bipush 10, 2) := by decide +kernel
theorem dX0_remember_6 : decode cX0_remember 6 = .ok (.if_icmp .ge 40, 3) := by decide +kernel
theorem dX0_remember_9 : decode cX0_remember 9 = .ok (.aload_n 0, 1) := by decide +kernel
theorem dX0_remember_10 : decode cX0_remember 10 = .ok (.getfield 11, 3) := by decide +kernel
theorem dX0_remember_13 : decode cX0_remember 13 = .ok (.aload_n 0, 1) := by decide +kernel
theorem dX0_remember_14 : decode cX0_remember 14 = .ok (.invokevirtual 28, 3) := by decide +kernel
theorem dX0_remember_17 : decode cX0_remember 17 = .ok (.aload_n 0, 1) := by decide +kernel
theorem dX0_remember_18 : decode cX0_remember 18 = .ok (.getfield 11, 3) := by decide +kernel
theorem dX0_remember_21 : decode cX0_remember 21 = .ok (.aload_n 0, 1) := by decide +kernel
theorem dX0_remember_22 : decode cX0_remember 22 = .ok (.invokevirtual 28, 3) := by decide +kernel
theorem dX0_remember_25 : decode cX0_remember 25 = .ok (.bipush 14, 2) := by decide +kernel
theorem dX0_remember_27 : decode cX0_remember 27 = .ok (.iadd, 1) := by decide +kernel
theorem dX0_remember_28 : decode cX0_remember 28 = .ok (.bipush 14, 2) := by decide +kernel
theorem dX0_remember_30 : decode cX0_remember 30 = .ok (.invokestatic 22, 3) := by decide +kernel
theorem dX0_remember_33 : decode cX0_remember 33 = .ok (.aload_n 0, 1) := by decide +kernel
theorem dX0_remember_34 : decode cX0_remember 34 = .ok (.dup, 1) := by decide +kernel
theorem dX0_remember_35 : decode cX0_remember 35 = .ok (.getfield 18, 3) := by decide +kernel
theorem dX0_remember_38 : decode cX0_remember 38 = .ok (.iconst 1, 1) := by decide +kernel
theorem dX0_remember_39 : decode cX0_remember 39 = .ok (.iadd, 1) := by decide +kernel
theorem dX0_remember_40 : decode cX0_remember 40 = .ok (.putfield 18, 3) := by decide +kernel
theorem dX0_remember_43 : decode cX0_remember 43 = .ok (.goto 20, 3) := by decide +kernel
theorem dX0_remember_46 : decode cX0_remember 46 = .ok (.aload_n 0, 1) := by decide +kernel
theorem dX0_remember_47 : decode cX0_remember 47 = .ok (.getfield 11, 3) := by decide +kernel
theorem dX0_remember_50 : decode cX0_remember 50 = .ok (.bipush 14, 2) := by decide +kernel
theorem dX0_remember_52 : decode cX0_remember 52 = .ok (.aload_n 0, 1) := by decide +kernel
theorem dX0_remember_53 : decode cX0_remember 53 = .ok (.getfield 11, 3) := by decide +kernel
theorem dX0_remember_56 : decode cX0_remember 56 = .ok (.iconst 0, 1) := by decide +kernel
theorem dX0_remember_57 : decode cX0_remember 57 = .ok (.sipush 140, 3) := by decide +kernel
theorem dX0_remember_60 : decode cX0_remember 60 = .ok (.invokestatic 22, 3) := by decide +kernel
theorem dX0_remember_63 : decode cX0_remember 63 = .ok (.return_, 1) := by decide +kernel
theorem dX0_takeBack_0 : decode cX0_takeBack 0 = .ok (.aload_n 0, 1) := by decide +kernel
theorem dX0_takeBack_1 : decode cX0_takeBack 1 = .ok (.getfield 18, 3) := by decide +kernel
theorem dX0_takeBack_4 : decode cX0_takeBack 4 = .ok (.ifCond .gt 5, 3) := by decide +kernel
theorem dX0_takeBack_7 : decode cX0_takeBack 7 = .ok (.iconst 0, 1) := by decide +kernel
theorem dX0_takeBack_8 : decode cX0_takeBack 8 = .ok (.ireturn, 1) := by decide +kernel
theorem dX0_takeBack_9 : decode cX0_takeBack 9 = .ok (.aload_n 0, 1) := by decide +kernel
theorem dX0_takeBack_10 : decode cX0_takeBack 10 = .ok (.dup, 1) := by decide +kernel
theorem dX0_takeBack_11 : decode cX0_takeBack 11 = .ok (.getfield 18, 3) := by decide +kernel
theorem dX0_takeBack_14 : decode cX0_takeBack 14 = .ok (.iconst 1, 1) := by decide +kernel
theorem dX0_takeBack_15 : decode cX0_takeBack 15 = .ok (.isub, 1) := by decide +kernel
theorem dX0_takeBack_16 : decode cX0_takeBack 16 = .ok (.putfield 18, 3) := by decide +kernel
theorem dX0_takeBack_19 : decode cX0_takeBack 19 = .ok (.iconst 1, 1) := by decide +kernel
theorem dX0_takeBack_20 : decode cX0_takeBack 20 = .ok (.ireturn, 1) := by decide +kernel
theorem dX0_known_0 : decode cX0_known 0 = .ok (.aload_n 0, 1) := by decide +kernel
theorem dX0_known_1 : decode cX0_known 1 = .ok (.getfield 18, 3) := by decide +kernel
theorem dX0_known_4 : decode cX0_known 4 = .ok (.ireturn, 1) := by decide +kernel
theorem dX0_minute_0 : decode cX0_minute 0 = .ok (.aload_n 0, 1) := by decide +kernel
theorem dX0_minute_1 : decode cX0_minute 1 = .ok (.getfield 11, 3) := by decide +kernel
theorem dX0_minute_4 : decode cX0_minute 4 = .ok (.aload_n 0, 1) := by decide +kernel
theorem dX0_minute_5 : decode cX0_minute 5 = .ok (.invokevirtual 28, 3) := by decide +kernel
theorem dX0_minute_8 : decode cX0_minute 8 = .ok (.iconst 0, 1) := by decide +kernel
theorem dX0_minute_9 : decode cX0_minute 9 = .ok (.iadd, 1) := by decide +kernel
theorem dX0_minute_10 : decode cX0_minute 10 = .ok (.iaload, 1) := by decide +kernel
theorem dX0_minute_11 : decode cX0_minute 11 = .ok (.ireturn, 1) := by decide +kernel
theorem dX0_shutBits_0 : decode cX0_shutBits 0 = .ok (.aload_n 0, 1) := by decide +kernel
theorem dX0_shutBits_1 : decode cX0_shutBits 1 = .ok (.getfield 11, 3) := by decide +kernel
theorem dX0_shutBits_4 : decode cX0_shutBits 4 = .ok (.aload_n 0, 1) := by decide +kernel
theorem dX0_shutBits_5 : decode cX0_shutBits 5 = .ok (.invokevirtual 28, 3) := by decide +kernel
theorem dX0_shutBits_8 : decode cX0_shutBits 8 = .ok (.iconst 1, 1) := by decide +kernel
theorem dX0_shutBits_9 : decode cX0_shutBits 9 = .ok (.iadd, 1) := by decide +kernel
theorem dX0_shutBits_10 : decode cX0_shutBits 10 = .ok (.iaload, 1) := by decide +kernel
theorem dX0_shutBits_11 : decode cX0_shutBits 11 = .ok (.ireturn, 1) := by decide +kernel
theorem dX0_isShut_0 : decode cX0_isShut 0 = .ok (.aload_n 0, 1) := by decide +kernel
theorem dX0_isShut_1 : decode cX0_isShut 1 = .ok (.invokevirtual 32, 3) := by decide +kernel
theorem dX0_isShut_4 : decode cX0_isShut 4 = .ok (.iconst 1, 1) := by decide +kernel
theorem dX0_isShut_5 : decode cX0_isShut 5 = .ok (.iload_n 1, 1) := by decide +kernel
theorem dX0_isShut_6 : decode cX0_isShut 6 = .ok (.ishl, 1) := by decide +kernel
theorem dX0_isShut_7 : decode cX0_isShut 7 = .ok (.iand, 1) := by decide +kernel
theorem dX0_isShut_8 : decode cX0_isShut 8 = .ok (.ifCond .eq 7, 3) := by decide +kernel
theorem dX0_isShut_11 : decode cX0_isShut 11 = .ok (.iconst 1, 1) := by decide +kernel
theorem dX0_isShut_12 : decode cX0_isShut 12 = .ok (.goto 4, 3) := by decide +kernel
theorem dX0_isShut_15 : decode cX0_isShut 15 = .ok (.iconst 0, 1) := by decide +kernel
theorem dX0_isShut_16 : decode cX0_isShut 16 = .ok (.ireturn, 1) := by decide +kernel
theorem dX0_turnDoor_0 : decode cX0_turnDoor 0 = .ok (.aload_n 0, 1) := by decide +kernel
theorem dX0_turnDoor_1 : decode cX0_turnDoor 1 = .ok (.getfield 11, 3) := by decide +kernel
theorem dX0_turnDoor_4 : decode cX0_turnDoor 4 = .ok (.aload_n 0, 1) := by decide +kernel
theorem dX0_turnDoor_5 : decode cX0_turnDoor 5 = .ok (.invokevirtual 28, 3) := by decide +kernel
theorem dX0_turnDoor_8 : decode cX0_turnDoor 8 = .ok (.iconst 1, 1) := by decide +kernel
theorem dX0_turnDoor_9 : decode cX0_turnDoor 9 = .ok (.iadd, 1) := by decide +kernel
theorem dX0_turnDoor_10 : decode cX0_turnDoor 10 = .ok (.dup2, 1) := by decide +kernel
theorem dX0_turnDoor_11 : decode cX0_turnDoor 11 = .ok (.iaload, 1) := by decide +kernel
theorem dX0_turnDoor_12 : decode cX0_turnDoor 12 = .ok (.iconst 1, 1) := by decide +kernel
theorem dX0_turnDoor_13 : decode cX0_turnDoor 13 = .ok (.iload_n 1, 1) := by decide +kernel
theorem dX0_turnDoor_14 : decode cX0_turnDoor 14 = .ok (.ishl, 1) := by decide +kernel
theorem dX0_turnDoor_15 : decode cX0_turnDoor 15 = .ok (.ixor, 1) := by decide +kernel
theorem dX0_turnDoor_16 : decode cX0_turnDoor 16 = .ok (.iastore, 1) := by decide +kernel
theorem dX0_turnDoor_17 : decode cX0_turnDoor 17 = .ok (.return_, 1) := by decide +kernel
theorem dX0_place_0 : decode cX0_place 0 = .ok (.iload_n 1, 1) := by decide +kernel
theorem dX0_place_1 : decode cX0_place 1 = .ok (.invokestatic 35, 3) := by decide +kernel
theorem dX0_place_4 : decode cX0_place 4 = .ok (.ifCond .eq 19, 3) := by decide +kernel
theorem dX0_place_7 : decode cX0_place 7 = .ok (.aload_n 0, 1) := by decide +kernel
theorem dX0_place_8 : decode cX0_place 8 = .ok (.getfield 11, 3) := by decide +kernel
theorem dX0_place_11 : decode cX0_place 11 = .ok (.aload_n 0, 1) := by decide +kernel
theorem dX0_place_12 : decode cX0_place 12 = .ok (.invokevirtual 28, 3) := by decide +kernel
theorem dX0_place_15 : decode cX0_place 15 = .ok (.iconst 2, 1) := by decide +kernel
theorem dX0_place_16 : decode cX0_place 16 = .ok (.iadd, 1) := by decide +kernel
theorem dX0_place_17 : decode cX0_place 17 = .ok (.iload_n 1, 1) := by decide +kernel
theorem dX0_place_18 : decode cX0_place 18 = .ok (.iadd, 1) := by decide +kernel
theorem dX0_place_19 : decode cX0_place 19 = .ok (.iaload, 1) := by decide +kernel
theorem dX0_place_20 : decode cX0_place 20 = .ok (.goto 5, 3) := by decide +kernel
theorem dX0_place_23 : decode cX0_place 23 = .ok (.bipush (-9), 2) := by decide +kernel
theorem dX0_place_25 : decode cX0_place 25 = .ok (.ireturn, 1) := by decide +kernel
theorem dX0_baked_0 : decode cX0_baked 0 = .ok (.iload_n 1, 1) := by decide +kernel
theorem dX0_baked_1 : decode cX0_baked 1 = .ok (.invokestatic 35, 3) := by decide +kernel
theorem dX0_baked_4 : decode cX0_baked 4 = .ok (.ifCond .eq 20, 3) := by decide +kernel
theorem dX0_baked_7 : decode cX0_baked 7 = .ok (.aload_n 0, 1) := by decide +kernel
theorem dX0_baked_8 : decode cX0_baked 8 = .ok (.getfield 11, 3) := by decide +kernel
theorem dX0_baked_11 : decode cX0_baked 11 = .ok (.aload_n 0, 1) := by decide +kernel
theorem dX0_baked_12 : decode cX0_baked 12 = .ok (.invokevirtual 28, 3) := by decide +kernel
theorem dX0_baked_15 : decode cX0_baked 15 = .ok (.bipush 8, 2) := by decide +kernel
theorem dX0_baked_17 : decode cX0_baked 17 = .ok (.iadd, 1) := by decide +kernel
theorem dX0_baked_18 : decode cX0_baked 18 = .ok (.iload_n 1, 1) := by decide +kernel
theorem dX0_baked_19 : decode cX0_baked 19 = .ok (.iadd, 1) := by decide +kernel
theorem dX0_baked_20 : decode cX0_baked 20 = .ok (.iaload, 1) := by decide +kernel
theorem dX0_baked_21 : decode cX0_baked 21 = .ok (.goto 4, 3) := by decide +kernel
theorem dX0_baked_24 : decode cX0_baked 24 = .ok (.iconst 0, 1) := by decide +kernel
theorem dX0_baked_25 : decode cX0_baked 25 = .ok (.ireturn, 1) := by decide +kernel
theorem dX0_putIn_0 : decode cX0_putIn 0 = .ok (.iload_n 1, 1) := by decide +kernel
theorem dX0_putIn_1 : decode cX0_putIn 1 = .ok (.invokestatic 35, 3) := by decide +kernel
theorem dX0_putIn_4 : decode cX0_putIn 4 = .ok (.ifCond .eq 32, 3) := by decide +kernel
theorem dX0_putIn_7 : decode cX0_putIn 7 = .ok (.aload_n 0, 1) := by decide +kernel
theorem dX0_putIn_8 : decode cX0_putIn 8 = .ok (.getfield 11, 3) := by decide +kernel
theorem dX0_putIn_11 : decode cX0_putIn 11 = .ok (.aload_n 0, 1) := by decide +kernel
theorem dX0_putIn_12 : decode cX0_putIn 12 = .ok (.invokevirtual 28, 3) := by decide +kernel
theorem dX0_putIn_15 : decode cX0_putIn 15 = .ok (.iconst 2, 1) := by decide +kernel
theorem dX0_putIn_16 : decode cX0_putIn 16 = .ok (.iadd, 1) := by decide +kernel
theorem dX0_putIn_17 : decode cX0_putIn 17 = .ok (.iload_n 1, 1) := by decide +kernel
theorem dX0_putIn_18 : decode cX0_putIn 18 = .ok (.iadd, 1) := by decide +kernel
theorem dX0_putIn_19 : decode cX0_putIn 19 = .ok (.iload_n 2, 1) := by decide +kernel
theorem dX0_putIn_20 : decode cX0_putIn 20 = .ok (.iastore, 1) := by decide +kernel
theorem dX0_putIn_21 : decode cX0_putIn 21 = .ok (.aload_n 0, 1) := by decide +kernel
theorem dX0_putIn_22 : decode cX0_putIn 22 = .ok (.getfield 11, 3) := by decide +kernel
theorem dX0_putIn_25 : decode cX0_putIn 25 = .ok (.aload_n 0, 1) := by decide +kernel
theorem dX0_putIn_26 : decode cX0_putIn 26 = .ok (.invokevirtual 28, 3) := by decide +kernel
theorem dX0_putIn_29 : decode cX0_putIn 29 = .ok (.bipush 8, 2) := by decide +kernel
theorem dX0_putIn_31 : decode cX0_putIn 31 = .ok (.iadd, 1) := by decide +kernel
theorem dX0_putIn_32 : decode cX0_putIn 32 = .ok (.iload_n 1, 1) := by decide +kernel
theorem dX0_putIn_33 : decode cX0_putIn 33 = .ok (.iadd, 1) := by decide +kernel
theorem dX0_putIn_34 : decode cX0_putIn 34 = .ok (.iconst 0, 1) := by decide +kernel
theorem dX0_putIn_35 : decode cX0_putIn 35 = .ok (.iastore, 1) := by decide +kernel
theorem dX0_putIn_36 : decode cX0_putIn 36 = .ok (.return_, 1) := by decide +kernel
theorem dX0_placedAt_0 : decode cX0_placedAt 0 = .ok (.iconst 0, 1) := by decide +kernel
theorem dX0_placedAt_1 : decode cX0_placedAt 1 = .ok (.istore_n 3, 1) := by decide +kernel
theorem dX0_placedAt_2 : decode cX0_placedAt 2 = .ok (.iconst 0, 1) := by decide +kernel
theorem dX0_placedAt_3 : decode cX0_placedAt 3 = .ok (.istore 4, 2) := by decide +kernel
theorem dX0_placedAt_5 : decode cX0_placedAt 5 = .ok (.iload 4, 2) := by decide +kernel
theorem dX0_placedAt_7 : decode cX0_placedAt 7 = .ok (.aload_n 1, 1) := by decide +kernel
theorem dX0_placedAt_8 : decode cX0_placedAt 8 = .ok (.invokevirtual 39, 3) := by decide +kernel
theorem dX0_placedAt_11 : decode cX0_placedAt 11 = .ok (.if_icmp .ge 26, 3) := by decide +kernel
theorem dX0_placedAt_14 : decode cX0_placedAt 14 = .ok (.aload_n 0, 1) := by decide +kernel
theorem dX0_placedAt_15 : decode cX0_placedAt 15 = .ok (.iload 4, 2) := by decide +kernel
theorem dX0_placedAt_17 : decode cX0_placedAt 17 = .ok (.invokevirtual 44, 3) := by decide +kernel
theorem dX0_placedAt_20 : decode cX0_placedAt 20 = .ok (.iload_n 2, 1) := by decide +kernel
theorem dX0_placedAt_21 : decode cX0_placedAt 21 = .ok (.if_icmp .ne 10, 3) := by decide +kernel
theorem dX0_placedAt_24 : decode cX0_placedAt 24 = .ok (.iload_n 3, 1) := by decide +kernel
theorem dX0_placedAt_25 : decode cX0_placedAt 25 = .ok (.iconst 1, 1) := by decide +kernel
theorem dX0_placedAt_26 : decode cX0_placedAt 26 = .ok (.iload 4, 2) := by decide +kernel
theorem dX0_placedAt_28 : decode cX0_placedAt 28 = .ok (.ishl, 1) := by decide +kernel
theorem dX0_placedAt_29 : decode cX0_placedAt 29 = .ok (.ior, 1) := by decide +kernel
theorem dX0_placedAt_30 : decode cX0_placedAt 30 = .ok (.istore_n 3, 1) := by decide +kernel
theorem dX0_placedAt_31 : decode cX0_placedAt 31 = .ok (.iinc 4 1, 3) := by decide +kernel
theorem dX0_placedAt_34 : decode cX0_placedAt 34 = .ok (.goto (-29), 3) := by decide +kernel
theorem dX0_placedAt_37 : decode cX0_placedAt 37 = .ok (.iload_n 3, 1) := by decide +kernel
theorem dX0_placedAt_38 : decode cX0_placedAt 38 = .ok (.ireturn, 1) := by decide +kernel
theorem dX0_hot_0 : decode cX0_hot 0 = .ok (.aload_n 0, 1) := by decide +kernel
theorem dX0_hot_1 : decode cX0_hot 1 = .ok (.aload_n 1, 1) := by decide +kernel
theorem dX0_hot_2 : decode cX0_hot 2 = .ok (.iload_n 2, 1) := by decide +kernel
theorem dX0_hot_3 : decode cX0_hot 3 = .ok (.invokevirtual 48, 3) := by decide +kernel
theorem dX0_hot_6 : decode cX0_hot 6 = .ok (.invokestatic 52, 3) := by decide +kernel
theorem dX0_hot_9 : decode cX0_hot 9 = .ok (.istore_n 3, 1) := by decide +kernel
theorem dX0_hot_10 : decode cX0_hot 10 = .ok (.aload_n 1, 1) := by decide +kernel
theorem dX0_hot_11 : decode cX0_hot 11 = .ok (.iload_n 2, 1) := by decide +kernel
theorem dX0_hot_12 : decode cX0_hot 12 = .ok (.iconst 0, 1) := by decide +kernel
theorem dX0_hot_13 : decode cX0_hot 13 = .ok (.invokevirtual 57, 3) := by decide +kernel
theorem dX0_hot_16 : decode cX0_hot 16 = .ok (.bipush 10, 2) := by decide +kernel
theorem dX0_hot_18 : decode cX0_hot 18 = .ok (.iload_n 3, 1) := by decide +kernel
theorem dX0_hot_19 : decode cX0_hot 19 = .ok (.isub, 1) := by decide +kernel
theorem dX0_hot_20 : decode cX0_hot 20 = .ok (.imul, 1) := by decide +kernel
theorem dX0_hot_21 : decode cX0_hot 21 = .ok (.bipush 10, 2) := by decide +kernel
theorem dX0_hot_23 : decode cX0_hot 23 = .ok (.idiv, 1) := by decide +kernel
theorem dX0_hot_24 : decode cX0_hot 24 = .ok (.ireturn, 1) := by decide +kernel
theorem dX0_passMinute_0 : decode cX0_passMinute 0 = .ok (.aload_n 0, 1) := by decide +kernel
theorem dX0_passMinute_1 : decode cX0_passMinute 1 = .ok (.getfield 11, 3) := by decide +kernel
theorem dX0_passMinute_4 : decode cX0_passMinute 4 = .ok (.aload_n 0, 1) := by decide +kernel
theorem dX0_passMinute_5 : decode cX0_passMinute 5 = .ok (.invokevirtual 28, 3) := by decide +kernel
theorem dX0_passMinute_8 : decode cX0_passMinute 8 = .ok (.iconst 0, 1) := by decide +kernel
theorem dX0_passMinute_9 : decode cX0_passMinute 9 = .ok (.iadd, 1) := by decide +kernel
theorem dX0_passMinute_10 : decode cX0_passMinute 10 = .ok (.dup2, 1) := by decide +kernel
theorem dX0_passMinute_11 : decode cX0_passMinute 11 = .ok (.iaload, 1) := by decide +kernel
theorem dX0_passMinute_12 : decode cX0_passMinute 12 = .ok (.iconst 1, 1) := by decide +kernel
theorem dX0_passMinute_13 : decode cX0_passMinute 13 = .ok (.iadd, 1) := by decide +kernel
theorem dX0_passMinute_14 : decode cX0_passMinute 14 = .ok (.iastore, 1) := by decide +kernel
theorem dX0_passMinute_15 : decode cX0_passMinute 15 = .ok (.iconst 0, 1) := by decide +kernel
theorem dX0_passMinute_16 : decode cX0_passMinute 16 = .ok (.istore_n 2, 1) := by decide +kernel
theorem dX0_passMinute_17 : decode cX0_passMinute 17 = .ok (.iload_n 2, 1) := by decide +kernel
theorem dX0_passMinute_18 : decode cX0_passMinute 18 = .ok (.aload_n 1, 1) := by decide +kernel
theorem dX0_passMinute_19 : decode cX0_passMinute 19 = .ok (.invokevirtual 39, 3) := by decide +kernel
theorem dX0_passMinute_22 : decode cX0_passMinute 22 = .ok (.if_icmp .ge 48, 3) := by decide +kernel
theorem dX0_passMinute_25 : decode cX0_passMinute 25 = .ok (.aload_n 1, 1) := by decide +kernel
theorem dX0_passMinute_26 : decode cX0_passMinute 26 = .ok (.aload_n 0, 1) := by decide +kernel
theorem dX0_passMinute_27 : decode cX0_passMinute 27 = .ok (.iload_n 2, 1) := by decide +kernel
theorem dX0_passMinute_28 : decode cX0_passMinute 28 = .ok (.invokevirtual 44, 3) := by decide +kernel
theorem dX0_passMinute_31 : decode cX0_passMinute 31 = .ok (.invokevirtual 61, 3) := by decide +kernel
theorem dX0_passMinute_34 : decode cX0_passMinute 34 = .ok (.ifCond .eq 30, 3) := by decide +kernel
theorem dX0_passMinute_37 : decode cX0_passMinute 37 = .ok (.aload_n 0, 1) := by decide +kernel
theorem dX0_passMinute_38 : decode cX0_passMinute 38 = .ok (.getfield 11, 3) := by decide +kernel
theorem dX0_passMinute_41 : decode cX0_passMinute 41 = .ok (.aload_n 0, 1) := by decide +kernel
theorem dX0_passMinute_42 : decode cX0_passMinute 42 = .ok (.invokevirtual 28, 3) := by decide +kernel
theorem dX0_passMinute_45 : decode cX0_passMinute 45 = .ok (.bipush 8, 2) := by decide +kernel
theorem dX0_passMinute_47 : decode cX0_passMinute 47 = .ok (.iadd, 1) := by decide +kernel
theorem dX0_passMinute_48 : decode cX0_passMinute 48 = .ok (.iload_n 2, 1) := by decide +kernel
theorem dX0_passMinute_49 : decode cX0_passMinute 49 = .ok (.iadd, 1) := by decide +kernel
theorem dX0_passMinute_50 : decode cX0_passMinute 50 = .ok (.dup2, 1) := by decide +kernel
theorem dX0_passMinute_51 : decode cX0_passMinute 51 = .ok (.iaload, 1) := by decide +kernel
theorem dX0_passMinute_52 : decode cX0_passMinute 52 = .ok (.aload_n 0, 1) := by decide +kernel
theorem dX0_passMinute_53 : decode cX0_passMinute 53 = .ok (.aload_n 1, 1) := by decide +kernel
theorem dX0_passMinute_54 : decode cX0_passMinute 54 = .ok (.aload_n 0, 1) := by decide +kernel
theorem dX0_passMinute_55 : decode cX0_passMinute 55 = .ok (.iload_n 2, 1) := by decide +kernel
theorem dX0_passMinute_56 : decode cX0_passMinute 56 = .ok (.invokevirtual 44, 3) := by decide +kernel
theorem dX0_passMinute_59 : decode cX0_passMinute 59 = .ok (.invokevirtual 64, 3) := by decide +kernel
theorem dX0_passMinute_62 : decode cX0_passMinute 62 = .ok (.iadd, 1) := by decide +kernel
theorem dX0_passMinute_63 : decode cX0_passMinute 63 = .ok (.iastore, 1) := by decide +kernel
theorem dX0_passMinute_64 : decode cX0_passMinute 64 = .ok (.iinc 2 1, 3) := by decide +kernel
theorem dX0_passMinute_67 : decode cX0_passMinute 67 = .ok (.goto (-50), 3) := by decide +kernel
theorem dX0_passMinute_70 : decode cX0_passMinute 70 = .ok (.iconst 0, 1) := by decide +kernel
theorem dX0_passMinute_71 : decode cX0_passMinute 71 = .ok (.istore_n 2, 1) := by decide +kernel
theorem dX0_passMinute_72 : decode cX0_passMinute 72 = .ok (.iload_n 2, 1) := by decide +kernel
theorem dX0_passMinute_73 : decode cX0_passMinute 73 = .ok (.aload_n 1, 1) := by decide +kernel
theorem dX0_passMinute_74 : decode cX0_passMinute 74 = .ok (.invokevirtual 39, 3) := by decide +kernel
theorem dX0_passMinute_77 : decode cX0_passMinute 77 = .ok (.if_icmp .ge 50, 3) := by decide +kernel
theorem dX0_passMinute_80 : decode cX0_passMinute 80 = .ok (.aload_n 1, 1) := by decide +kernel
theorem dX0_passMinute_81 : decode cX0_passMinute 81 = .ok (.aload_n 0, 1) := by decide +kernel
theorem dX0_passMinute_82 : decode cX0_passMinute 82 = .ok (.iload_n 2, 1) := by decide +kernel
theorem dX0_passMinute_83 : decode cX0_passMinute 83 = .ok (.invokevirtual 44, 3) := by decide +kernel
theorem dX0_passMinute_86 : decode cX0_passMinute 86 = .ok (.invokevirtual 61, 3) := by decide +kernel
theorem dX0_passMinute_89 : decode cX0_passMinute 89 = .ok (.ifCond .eq 32, 3) := by decide +kernel
theorem dX0_passMinute_92 : decode cX0_passMinute 92 = .ok (.aload_n 0, 1) := by decide +kernel
theorem dX0_passMinute_93 : decode cX0_passMinute 93 = .ok (.iload_n 2, 1) := by decide +kernel
theorem dX0_passMinute_94 : decode cX0_passMinute 94 = .ok (.invokevirtual 67, 3) := by decide +kernel
theorem dX0_passMinute_97 : decode cX0_passMinute 97 = .ok (.aload_n 1, 1) := by decide +kernel
theorem dX0_passMinute_98 : decode cX0_passMinute 98 = .ok (.iload_n 2, 1) := by decide +kernel
theorem dX0_passMinute_99 : decode cX0_passMinute 99 = .ok (.iconst 2, 1) := by decide +kernel
theorem dX0_passMinute_100 : decode cX0_passMinute 100 = .ok (.invokevirtual 70, 3) := by decide +kernel
theorem dX0_passMinute_103 : decode cX0_passMinute 103 = .ok (.if_icmp .lt 18, 3) := by decide +kernel
theorem dX0_passMinute_106 : decode cX0_passMinute 106 = .ok (.aload_n 0, 1) := by decide +kernel
theorem dX0_passMinute_107 : decode cX0_passMinute 107 = .ok (.getfield 11, 3) := by decide +kernel
theorem dX0_passMinute_110 : decode cX0_passMinute 110 = .ok (.aload_n 0, 1) := by decide +kernel
theorem dX0_passMinute_111 : decode cX0_passMinute 111 = .ok (.invokevirtual 28, 3) := by decide +kernel
theorem dX0_passMinute_114 : decode cX0_passMinute 114 = .ok (.iconst 2, 1) := by decide +kernel
theorem dX0_passMinute_115 : decode cX0_passMinute 115 = .ok (.iadd, 1) := by decide +kernel
theorem dX0_passMinute_116 : decode cX0_passMinute 116 = .ok (.iload_n 2, 1) := by decide +kernel
theorem dX0_passMinute_117 : decode cX0_passMinute 117 = .ok (.iadd, 1) := by decide +kernel
theorem dX0_passMinute_118 : decode cX0_passMinute 118 = .ok (.bipush (-5), 2) := by decide +kernel
theorem dX0_passMinute_120 : decode cX0_passMinute 120 = .ok (.iastore, 1) := by decide +kernel
theorem dX0_passMinute_121 : decode cX0_passMinute 121 = .ok (.iinc 2 1, 3) := by decide +kernel
theorem dX0_passMinute_124 : decode cX0_passMinute 124 = .ok (.goto (-52), 3) := by decide +kernel
theorem dX0_passMinute_127 : decode cX0_passMinute 127 = .ok (.return_, 1) := by decide +kernel
theorem dX0_base_0 : decode cX0_base 0 = .ok (.aload_n 0, 1) := by decide +kernel
theorem dX0_base_1 : decode cX0_base 1 = .ok (.getfield 18, 3) := by decide +kernel
theorem dX0_base_4 : decode cX0_base 4 = .ok (.bipush 14, 2) := by decide +kernel
theorem dX0_base_6 : decode cX0_base 6 = .ok (.imul, 1) := by decide +kernel
theorem dX0_base_7 : decode cX0_base 7 = .ok (.ireturn, 1) := by decide +kernel
theorem dX0_isPlace_0 : decode cX0_isPlace 0 = .ok (.iload_n 0, 1) := by decide +kernel
theorem dX0_isPlace_1 : decode cX0_isPlace 1 = .ok (.ifCond .lt 13, 3) := by decide +kernel
theorem dX0_isPlace_4 : decode cX0_isPlace 4 = .ok (.iload_n 0, 1) := by decide +kernel
theorem dX0_isPlace_5 : decode cX0_isPlace 5 = .ok (.bipush 6, 2) := by decide +kernel
theorem dX0_isPlace_7 : decode cX0_isPlace 7 = .ok (.if_icmp .ge 7, 3) := by decide +kernel
theorem dX0_isPlace_10 : decode cX0_isPlace 10 = .ok (.iconst 1, 1) := by decide +kernel
theorem dX0_isPlace_11 : decode cX0_isPlace 11 = .ok (.goto 4, 3) := by decide +kernel
theorem dX0_isPlace_14 : decode cX0_isPlace 14 = .ok (.iconst 0, 1) := by decide +kernel
theorem dX0_isPlace_15 : decode cX0_isPlace 15 = .ok (.ireturn, 1) := by decide +kernel
theorem dX1_init_0 : decode cX1_init 0 = .ok (.aload_n 0, 1) := by decide +kernel
theorem dX1_init_1 : decode cX1_init 1 = .ok (.invokespecial 3, 3) := by decide +kernel
theorem dX1_init_4 : decode cX1_init 4 = .ok (.aload_n 0, 1) := by decide +kernel
theorem dX1_init_5 : decode cX1_init 5 = .ok (.bipush 6, 2) := by decide +kernel
theorem dX1_init_7 : decode cX1_init 7 = .ok (.newarray .int, 2) := by decide +kernel
theorem dX1_init_9 : decode cX1_init 9 = .ok (.putfield 9, 3) := by decide +kernel
theorem dX1_init_12 : decode cX1_init 12 = .ok (.aload_n 0, 1) := by decide +kernel
theorem dX1_init_13 : decode cX1_init 13 = .ok (.bipush 6, 2) := by decide +kernel
theorem dX1_init_15 : decode cX1_init 15 = .ok (.newarray .int, 2) := by decide +kernel
theorem dX1_init_17 : decode cX1_init 17 = .ok (.putfield 15, 3) := by decide +kernel
theorem dX1_init_20 : decode cX1_init 20 = .ok (.aload_n 0, 1) := by decide +kernel
theorem dX1_init_21 : decode cX1_init 21 = .ok (.bipush 6, 2) := by decide +kernel
theorem dX1_init_23 : decode cX1_init 23 = .ok (.newarray .int, 2) := by decide +kernel
theorem dX1_init_25 : decode cX1_init 25 = .ok (.putfield 18, 3) := by decide +kernel
theorem dX1_init_28 : decode cX1_init 28 = .ok (.return_, 1) := by decide +kernel
theorem dX1_find_0 : decode cX1_find 0 = .ok (.aload_n 0, 1) := by decide +kernel
theorem dX1_find_1 : decode cX1_find 1 = .ok (.iconst 0, 1) := by decide +kernel
theorem dX1_find_2 : decode cX1_find 2 = .ok (.putfield 21, 3) := by decide +kernel
theorem dX1_find_5 : decode cX1_find 5 = .ok (.aload_n 0, 1) := by decide +kernel
theorem dX1_find_6 : decode cX1_find 6 = .ok (.aload_n 2, 1) := by decide +kernel
theorem dX1_find_7 : decode cX1_find 7 = .ok (.invokevirtual 25, 3) := by decide +kernel
theorem dX1_find_10 : decode cX1_find 10 = .ok (.putfield 31, 3) := by decide +kernel
theorem dX1_find_13 : decode cX1_find 13 = .ok (.aload_n 0, 1) := by decide +kernel
theorem dX1_find_14 : decode cX1_find 14 = .ok (.iload 4, 2) := by decide +kernel
theorem dX1_find_16 : decode cX1_find 16 = .ok (.putfield 34, 3) := by decide +kernel
theorem dX1_find_19 : decode cX1_find 19 = .ok (.aload_n 1, 1) := by decide +kernel
theorem dX1_find_20 : decode cX1_find 20 = .ok (.iload_n 3, 1) := by decide +kernel
theorem dX1_find_21 : decode cX1_find 21 = .ok (.iconst 0, 1) := by decide +kernel
theorem dX1_find_22 : decode cX1_find 22 = .ok (.invokevirtual 37, 3) := by decide +kernel
theorem dX1_find_25 : decode cX1_find 25 = .ok (.bipush 9, 2) := by decide +kernel
theorem dX1_find_27 : decode cX1_find 27 = .ok (.imul, 1) := by decide +kernel
theorem dX1_find_28 : decode cX1_find 28 = .ok (.bipush 10, 2) := by decide +kernel
theorem dX1_find_30 : decode cX1_find 30 = .ok (.idiv, 1) := by decide +kernel
theorem dX1_find_31 : decode cX1_find 31 = .ok (.istore 5, 2) := by decide +kernel
theorem dX1_find_33 : decode cX1_find 33 = .ok (.iload 5, 2) := by decide +kernel
theorem dX1_find_35 : decode cX1_find 35 = .ok (.ifCond .gt 4, 3) := by decide +kernel
theorem dX1_find_38 : decode cX1_find 38 = .ok (.return_, 1) := by decide +kernel
theorem dX1_find_39 : decode cX1_find 39 = .ok (.iconst 0, 1) := by decide +kernel
theorem dX1_find_40 : decode cX1_find 40 = .ok (.istore 6, 2) := by decide +kernel
theorem dX1_find_42 : decode cX1_find 42 = .ok (.iload 6, 2) := by decide +kernel
theorem dX1_find_44 : decode cX1_find 44 = .ok (.aload_n 1, 1) := by decide +kernel
theorem dX1_find_45 : decode cX1_find 45 = .ok (.invokevirtual 43, 3) := by decide +kernel
theorem dX1_find_48 : decode cX1_find 48 = .ok (.if_icmp .ge 35, 3) := by decide +kernel
theorem dX1_find_51 : decode cX1_find 51 = .ok (.iload 6, 2) := by decide +kernel
theorem dX1_find_53 : decode cX1_find 53 = .ok (.bipush 6, 2) := by decide +kernel
theorem dX1_find_55 : decode cX1_find 55 = .ok (.if_icmp .ge 28, 3) := by decide +kernel
theorem dX1_find_58 : decode cX1_find 58 = .ok (.aload_n 0, 1) := by decide +kernel
theorem dX1_find_59 : decode cX1_find 59 = .ok (.getfield 18, 3) := by decide +kernel
theorem dX1_find_62 : decode cX1_find 62 = .ok (.iload 6, 2) := by decide +kernel
theorem dX1_find_64 : decode cX1_find 64 = .ok (.aload_n 1, 1) := by decide +kernel
theorem dX1_find_65 : decode cX1_find 65 = .ok (.iload 6, 2) := by decide +kernel
theorem dX1_find_67 : decode cX1_find 67 = .ok (.iconst 2, 1) := by decide +kernel
theorem dX1_find_68 : decode cX1_find 68 = .ok (.invokevirtual 46, 3) := by decide +kernel
theorem dX1_find_71 : decode cX1_find 71 = .ok (.iload 5, 2) := by decide +kernel
theorem dX1_find_73 : decode cX1_find 73 = .ok (.invokestatic 49, 3) := by decide +kernel
theorem dX1_find_76 : decode cX1_find 76 = .ok (.iastore, 1) := by decide +kernel
theorem dX1_find_77 : decode cX1_find 77 = .ok (.iinc 6 1, 3) := by decide +kernel
theorem dX1_find_80 : decode cX1_find 80 = .ok (.goto (-38), 3) := by decide +kernel
theorem dX1_find_83 : decode cX1_find 83 = .ok (.aload_n 0, 1) := by decide +kernel
theorem dX1_find_84 : decode cX1_find 84 = .ok (.aload_n 1, 1) := by decide +kernel
theorem dX1_find_85 : decode cX1_find 85 = .ok (.aload_n 2, 1) := by decide +kernel
theorem dX1_find_86 : decode cX1_find 86 = .ok (.aload_n 1, 1) := by decide +kernel
theorem dX1_find_87 : decode cX1_find 87 = .ok (.bipush (-9), 2) := by decide +kernel
theorem dX1_find_89 : decode cX1_find 89 = .ok (.invokevirtual 52, 3) := by decide +kernel
theorem dX1_find_92 : decode cX1_find 92 = .ok (.iconst 0, 1) := by decide +kernel
theorem dX1_find_93 : decode cX1_find 93 = .ok (.aload_n 2, 1) := by decide +kernel
theorem dX1_find_94 : decode cX1_find 94 = .ok (.invokevirtual 25, 3) := by decide +kernel
theorem dX1_find_97 : decode cX1_find 97 = .ok (.invokevirtual 56, 3) := by decide +kernel
theorem dX1_find_100 : decode cX1_find 100 = .ok (.return_, 1) := by decide +kernel
theorem dX1_bestCount_0 : decode cX1_bestCount 0 = .ok (.aload_n 0, 1) := by decide +kernel
theorem dX1_bestCount_1 : decode cX1_bestCount 1 = .ok (.getfield 21, 3) := by decide +kernel
theorem dX1_bestCount_4 : decode cX1_bestCount 4 = .ok (.ireturn, 1) := by decide +kernel
theorem dX1_bestEnd_0 : decode cX1_bestEnd 0 = .ok (.aload_n 0, 1) := by decide +kernel
theorem dX1_bestEnd_1 : decode cX1_bestEnd 1 = .ok (.getfield 31, 3) := by decide +kernel
theorem dX1_bestEnd_4 : decode cX1_bestEnd 4 = .ok (.ireturn, 1) := by decide +kernel
theorem dX1_bestAt_0 : decode cX1_bestAt 0 = .ok (.iload_n 1, 1) := by decide +kernel
theorem dX1_bestAt_1 : decode cX1_bestAt 1 = .ok (.ifCond .lt 26, 3) := by decide +kernel
theorem dX1_bestAt_4 : decode cX1_bestAt 4 = .ok (.iload_n 1, 1) := by decide +kernel
theorem dX1_bestAt_5 : decode cX1_bestAt 5 = .ok (.aload_n 0, 1) := by decide +kernel
theorem dX1_bestAt_6 : decode cX1_bestAt 6 = .ok (.getfield 21, 3) := by decide +kernel
theorem dX1_bestAt_9 : decode cX1_bestAt 9 = .ok (.if_icmp .ge 18, 3) := by decide +kernel
theorem dX1_bestAt_12 : decode cX1_bestAt 12 = .ok (.iload_n 1, 1) := by decide +kernel
theorem dX1_bestAt_13 : decode cX1_bestAt 13 = .ok (.bipush 6, 2) := by decide +kernel
theorem dX1_bestAt_15 : decode cX1_bestAt 15 = .ok (.if_icmp .ge 12, 3) := by decide +kernel
theorem dX1_bestAt_18 : decode cX1_bestAt 18 = .ok (.aload_n 0, 1) := by decide +kernel
theorem dX1_bestAt_19 : decode cX1_bestAt 19 = .ok (.getfield 15, 3) := by decide +kernel
theorem dX1_bestAt_22 : decode cX1_bestAt 22 = .ok (.iload_n 1, 1) := by decide +kernel
theorem dX1_bestAt_23 : decode cX1_bestAt 23 = .ok (.iaload, 1) := by decide +kernel
theorem dX1_bestAt_24 : decode cX1_bestAt 24 = .ok (.goto 5, 3) := by decide +kernel
theorem dX1_bestAt_27 : decode cX1_bestAt 27 = .ok (.bipush (-9), 2) := by decide +kernel
theorem dX1_bestAt_29 : decode cX1_bestAt 29 = .ok (.ireturn, 1) := by decide +kernel
theorem dX1_extend_0 : decode cX1_extend 0 = .ok (.aload_n 0, 1) := by decide +kernel
theorem dX1_extend_1 : decode cX1_extend 1 = .ok (.iload_n 3, 1) := by decide +kernel
theorem dX1_extend_2 : decode cX1_extend 2 = .ok (.iload 4, 2) := by decide +kernel
theorem dX1_extend_4 : decode cX1_extend 4 = .ok (.invokevirtual 60, 3) := by decide +kernel
theorem dX1_extend_7 : decode cX1_extend 7 = .ok (.iload_n 3, 1) := by decide +kernel
theorem dX1_extend_8 : decode cX1_extend 8 = .ok (.bipush 6, 2) := by decide +kernel
theorem dX1_extend_10 : decode cX1_extend 10 = .ok (.if_icmp .lt 4, 3) := by decide +kernel
theorem dX1_extend_13 : decode cX1_extend 13 = .ok (.return_, 1) := by decide +kernel
theorem dX1_extend_14 : decode cX1_extend 14 = .ok (.iconst 0, 1) := by decide +kernel
theorem dX1_extend_15 : decode cX1_extend 15 = .ok (.istore 5, 2) := by decide +kernel
theorem dX1_extend_17 : decode cX1_extend 17 = .ok (.iload 5, 2) := by decide +kernel
theorem dX1_extend_19 : decode cX1_extend 19 = .ok (.bipush 6, 2) := by decide +kernel
theorem dX1_extend_21 : decode cX1_extend 21 = .ok (.if_icmp .ge 91, 3) := by decide +kernel
theorem dX1_extend_24 : decode cX1_extend 24 = .ok (.iload_n 2, 1) := by decide +kernel
theorem dX1_extend_25 : decode cX1_extend 25 = .ok (.iconst 1, 1) := by decide +kernel
theorem dX1_extend_26 : decode cX1_extend 26 = .ok (.iload 5, 2) := by decide +kernel
theorem dX1_extend_28 : decode cX1_extend 28 = .ok (.ishl, 1) := by decide +kernel
theorem dX1_extend_29 : decode cX1_extend 29 = .ok (.iand, 1) := by decide +kernel
theorem dX1_extend_30 : decode cX1_extend 30 = .ok (.ifCond .eq 76, 3) := by decide +kernel
theorem dX1_extend_33 : decode cX1_extend 33 = .ok (.iload 4, 2) := by decide +kernel
theorem dX1_extend_35 : decode cX1_extend 35 = .ok (.aload_n 1, 1) := by decide +kernel
theorem dX1_extend_36 : decode cX1_extend 36 = .ok (.iload 5, 2) := by decide +kernel
theorem dX1_extend_38 : decode cX1_extend 38 = .ok (.iconst 3, 1) := by decide +kernel
theorem dX1_extend_39 : decode cX1_extend 39 = .ok (.invokevirtual 46, 3) := by decide +kernel
theorem dX1_extend_42 : decode cX1_extend 42 = .ok (.invokestatic 64, 3) := by decide +kernel
theorem dX1_extend_45 : decode cX1_extend 45 = .ok (.istore 6, 2) := by decide +kernel
theorem dX1_extend_47 : decode cX1_extend 47 = .ok (.iload 6, 2) := by decide +kernel
theorem dX1_extend_49 : decode cX1_extend 49 = .ok (.aload_n 0, 1) := by decide +kernel
theorem dX1_extend_50 : decode cX1_extend 50 = .ok (.getfield 18, 3) := by decide +kernel
theorem dX1_extend_53 : decode cX1_extend 53 = .ok (.iload 5, 2) := by decide +kernel
theorem dX1_extend_55 : decode cX1_extend 55 = .ok (.iaload, 1) := by decide +kernel
theorem dX1_extend_56 : decode cX1_extend 56 = .ok (.iadd, 1) := by decide +kernel
theorem dX1_extend_57 : decode cX1_extend 57 = .ok (.istore 7, 2) := by decide +kernel
theorem dX1_extend_59 : decode cX1_extend 59 = .ok (.iload 6, 2) := by decide +kernel
theorem dX1_extend_61 : decode cX1_extend 61 = .ok (.aload_n 1, 1) := by decide +kernel
theorem dX1_extend_62 : decode cX1_extend 62 = .ok (.iload 5, 2) := by decide +kernel
theorem dX1_extend_64 : decode cX1_extend 64 = .ok (.iconst 4, 1) := by decide +kernel
theorem dX1_extend_65 : decode cX1_extend 65 = .ok (.invokevirtual 46, 3) := by decide +kernel
theorem dX1_extend_68 : decode cX1_extend 68 = .ok (.if_icmp .gt 38, 3) := by decide +kernel
theorem dX1_extend_71 : decode cX1_extend 71 = .ok (.iload 7, 2) := by decide +kernel
theorem dX1_extend_73 : decode cX1_extend 73 = .ok (.aload_n 0, 1) := by decide +kernel
theorem dX1_extend_74 : decode cX1_extend 74 = .ok (.getfield 34, 3) := by decide +kernel
theorem dX1_extend_77 : decode cX1_extend 77 = .ok (.if_icmp .gt 29, 3) := by decide +kernel
theorem dX1_extend_80 : decode cX1_extend 80 = .ok (.aload_n 0, 1) := by decide +kernel
theorem dX1_extend_81 : decode cX1_extend 81 = .ok (.getfield 9, 3) := by decide +kernel
theorem dX1_extend_84 : decode cX1_extend 84 = .ok (.iload_n 3, 1) := by decide +kernel
theorem dX1_extend_85 : decode cX1_extend 85 = .ok (.iload 5, 2) := by decide +kernel
theorem dX1_extend_87 : decode cX1_extend 87 = .ok (.iastore, 1) := by decide +kernel
theorem dX1_extend_88 : decode cX1_extend 88 = .ok (.aload_n 0, 1) := by decide +kernel
theorem dX1_extend_89 : decode cX1_extend 89 = .ok (.aload_n 1, 1) := by decide +kernel
theorem dX1_extend_90 : decode cX1_extend 90 = .ok (.iload_n 2, 1) := by decide +kernel
theorem dX1_extend_91 : decode cX1_extend 91 = .ok (.iconst 1, 1) := by decide +kernel
theorem dX1_extend_92 : decode cX1_extend 92 = .ok (.iload 5, 2) := by decide +kernel
theorem dX1_extend_94 : decode cX1_extend 94 = .ok (.ishl, 1) := by decide +kernel
theorem dX1_extend_95 : decode cX1_extend 95 = .ok (.iconst (-1), 1) := by decide +kernel
theorem dX1_extend_96 : decode cX1_extend 96 = .ok (.ixor, 1) := by decide +kernel
theorem dX1_extend_97 : decode cX1_extend 97 = .ok (.iand, 1) := by decide +kernel
theorem dX1_extend_98 : decode cX1_extend 98 = .ok (.iload_n 3, 1) := by decide +kernel
theorem dX1_extend_99 : decode cX1_extend 99 = .ok (.iconst 1, 1) := by decide +kernel
theorem dX1_extend_100 : decode cX1_extend 100 = .ok (.iadd, 1) := by decide +kernel
theorem dX1_extend_101 : decode cX1_extend 101 = .ok (.iload 7, 2) := by decide +kernel
theorem dX1_extend_103 : decode cX1_extend 103 = .ok (.invokevirtual 56, 3) := by decide +kernel
theorem dX1_extend_106 : decode cX1_extend 106 = .ok (.iinc 5 1, 3) := by decide +kernel
theorem dX1_extend_109 : decode cX1_extend 109 = .ok (.goto (-92), 3) := by decide +kernel
theorem dX1_extend_112 : decode cX1_extend 112 = .ok (.return_, 1) := by decide +kernel
theorem dX1_weigh_0 : decode cX1_weigh 0 = .ok (.iload_n 1, 1) := by decide +kernel
theorem dX1_weigh_1 : decode cX1_weigh 1 = .ok (.aload_n 0, 1) := by decide +kernel
theorem dX1_weigh_2 : decode cX1_weigh 2 = .ok (.getfield 21, 3) := by decide +kernel
theorem dX1_weigh_5 : decode cX1_weigh 5 = .ok (.if_icmp .gt 19, 3) := by decide +kernel
theorem dX1_weigh_8 : decode cX1_weigh 8 = .ok (.iload_n 1, 1) := by decide +kernel
theorem dX1_weigh_9 : decode cX1_weigh 9 = .ok (.aload_n 0, 1) := by decide +kernel
theorem dX1_weigh_10 : decode cX1_weigh 10 = .ok (.getfield 21, 3) := by decide +kernel
theorem dX1_weigh_13 : decode cX1_weigh 13 = .ok (.if_icmp .ne 35, 3) := by decide +kernel
theorem dX1_weigh_16 : decode cX1_weigh 16 = .ok (.iload_n 2, 1) := by decide +kernel
theorem dX1_weigh_17 : decode cX1_weigh 17 = .ok (.aload_n 0, 1) := by decide +kernel
theorem dX1_weigh_18 : decode cX1_weigh 18 = .ok (.getfield 31, 3) := by decide +kernel
theorem dX1_weigh_21 : decode cX1_weigh 21 = .ok (.if_icmp .ge 27, 3) := by decide +kernel
theorem dX1_weigh_24 : decode cX1_weigh 24 = .ok (.aload_n 0, 1) := by decide +kernel
theorem dX1_weigh_25 : decode cX1_weigh 25 = .ok (.iload_n 1, 1) := by decide +kernel
theorem dX1_weigh_26 : decode cX1_weigh 26 = .ok (.putfield 21, 3) := by decide +kernel
theorem dX1_weigh_29 : decode cX1_weigh 29 = .ok (.aload_n 0, 1) := by decide +kernel
theorem dX1_weigh_30 : decode cX1_weigh 30 = .ok (.iload_n 2, 1) := by decide +kernel
theorem dX1_weigh_31 : decode cX1_weigh 31 = .ok (.putfield 31, 3) := by decide +kernel
theorem dX1_weigh_34 : decode cX1_weigh 34 = .ok (.aload_n 0, 1) := by decide +kernel
theorem dX1_weigh_35 : decode cX1_weigh 35 = .ok (.getfield 9, 3) := by decide +kernel
theorem dX1_weigh_38 : decode cX1_weigh 38 = .ok (.iconst 0, 1) := by decide +kernel
theorem dX1_weigh_39 : decode cX1_weigh 39 = .ok (.aload_n 0, 1) := by decide +kernel
theorem dX1_weigh_40 : decode cX1_weigh 40 = .ok (.getfield 15, 3) := by decide +kernel
theorem dX1_weigh_43 : decode cX1_weigh 43 = .ok (.iconst 0, 1) := by decide +kernel
theorem dX1_weigh_44 : decode cX1_weigh 44 = .ok (.iload_n 1, 1) := by decide +kernel
theorem dX1_weigh_45 : decode cX1_weigh 45 = .ok (.invokestatic 69, 3) := by decide +kernel
theorem dX1_weigh_48 : decode cX1_weigh 48 = .ok (.return_, 1) := by decide +kernel
theorem dX2_init_0 : decode cX2_init 0 = .ok (.aload_n 0, 1) := by decide +kernel
theorem dX2_init_1 : decode cX2_init 1 = .ok (.invokespecial 3, 3) := by decide +kernel
theorem dX2_init_4 : decode cX2_init 4 = .ok (.aload_n 0, 1) := by decide +kernel
theorem dX2_init_5 : decode cX2_init 5 = .ok (.sipush 180, 3) := by decide +kernel
theorem dX2_init_8 : decode cX2_init 8 = .ok (.newarray .int, 2) := by decide +kernel
theorem dX2_init_10 : decode cX2_init 10 = .ok (.putfield 11, 3) := by decide +kernel
theorem dX2_init_13 : decode cX2_init 13 = .ok (.return_, 1) := by decide +kernel
theorem dX2_add_0 : decode cX2_add 0 = .ok (.aload_n 0, 1) := by decide +kernel
theorem dX2_add_1 : decode cX2_add 1 = .ok (.getfield 15, 3) := by decide +kernel
theorem dX2_add_4 : decode cX2_add 4 = .ok (.sipush 180, 3) := by decide +kernel
theorem dX2_add_7 : decode cX2_add 7 = .ok (.if_icmp .lt 5, 3) := by decide +kernel
theorem dX2_add_10 : decode cX2_add 10 = .ok (.iconst 0, 1) := by decide +kernel
theorem dX2_add_11 : decode cX2_add 11 = .ok (.ireturn, 1) := by decide +kernel
theorem dX2_add_12 : decode cX2_add 12 = .ok (.aload_n 0, 1) := by decide +kernel
theorem dX2_add_13 : decode cX2_add 13 = .ok (.getfield 11, 3) := by decide +kernel
theorem dX2_add_16 : decode cX2_add 16 = .ok (.aload_n 0, 1) := by decide +kernel
theorem dX2_add_17 : decode cX2_add 17 = .ok (.getfield 15, 3) := by decide +kernel
theorem dX2_add_20 : decode cX2_add 20 = .ok (.iload_n 1, 1) := by decide +kernel
theorem dX2_add_21 : decode cX2_add 21 = .ok (.iastore, 1) := by decide +kernel
theorem dX2_add_22 : decode cX2_add 22 = .ok (.aload_n 0, 1) := by decide +kernel
theorem dX2_add_23 : decode cX2_add 23 = .ok (.dup, 1) := by decide +kernel
theorem dX2_add_24 : decode cX2_add 24 = .ok (.getfield 15, 3) := by decide +kernel
theorem dX2_add_27 : decode cX2_add 27 = .ok (.iconst 1, 1) := by decide +kernel
theorem dX2_add_28 : decode cX2_add 28 = .ok (.iadd, 1) := by decide +kernel
theorem dX2_add_29 : decode cX2_add 29 = .ok (.putfield 15, 3) := by decide +kernel
theorem dX2_add_32 : decode cX2_add 32 = .ok (.iconst 1, 1) := by decide +kernel
theorem dX2_add_33 : decode cX2_add 33 = .ok (.ireturn, 1) := by decide +kernel
theorem dX2_length_0 : decode cX2_length 0 = .ok (.aload_n 0, 1) := by decide +kernel
theorem dX2_length_1 : decode cX2_length 1 = .ok (.getfield 15, 3) := by decide +kernel
theorem dX2_length_4 : decode cX2_length 4 = .ok (.ireturn, 1) := by decide +kernel
theorem dX2_empty_0 : decode cX2_empty 0 = .ok (.aload_n 0, 1) := by decide +kernel
theorem dX2_empty_1 : decode cX2_empty 1 = .ok (.iconst 0, 1) := by decide +kernel
theorem dX2_empty_2 : decode cX2_empty 2 = .ok (.putfield 15, 3) := by decide +kernel
theorem dX2_empty_5 : decode cX2_empty 5 = .ok (.return_, 1) := by decide +kernel
theorem dX2_read_0 : decode cX2_read 0 = .ok (.aload_n 0, 1) := by decide +kernel
theorem dX2_read_1 : decode cX2_read 1 = .ok (.iconst 0, 1) := by decide +kernel
theorem dX2_read_2 : decode cX2_read 2 = .ok (.putfield 19, 3) := by decide +kernel
theorem dX2_read_5 : decode cX2_read 5 = .ok (.aload_n 1, 1) := by decide +kernel
theorem dX2_read_6 : decode cX2_read 6 = .ok (.invokevirtual 22, 3) := by decide +kernel
theorem dX2_read_9 : decode cX2_read 9 = .ok (.iconst 0, 1) := by decide +kernel
theorem dX2_read_10 : decode cX2_read 10 = .ok (.istore_n 2, 1) := by decide +kernel
theorem dX2_read_11 : decode cX2_read 11 = .ok (.aload_n 0, 1) := by decide +kernel
theorem dX2_read_12 : decode cX2_read 12 = .ok (.invokevirtual 27, 3) := by decide +kernel
theorem dX2_read_15 : decode cX2_read 15 = .ok (.aload_n 0, 1) := by decide +kernel
theorem dX2_read_16 : decode cX2_read 16 = .ok (.getfield 30, 3) := by decide +kernel
theorem dX2_read_19 : decode cX2_read 19 = .ok (.ifCond .eq 32, 3) := by decide +kernel
theorem dX2_read_22 : decode cX2_read 22 = .ok (.iload_n 2, 1) := by decide +kernel
theorem dX2_read_23 : decode cX2_read 23 = .ok (.sipush 180, 3) := by decide +kernel
theorem dX2_read_26 : decode cX2_read 26 = .ok (.if_icmp .gt 25, 3) := by decide +kernel
theorem dX2_read_29 : decode cX2_read 29 = .ok (.aload_n 0, 1) := by decide +kernel
theorem dX2_read_30 : decode cX2_read 30 = .ok (.aload_n 1, 1) := by decide +kernel
theorem dX2_read_31 : decode cX2_read 31 = .ok (.invokevirtual 33, 3) := by decide +kernel
theorem dX2_read_34 : decode cX2_read 34 = .ok (.ifCond .ne 11, 3) := by decide +kernel
theorem dX2_read_37 : decode cX2_read 37 = .ok (.bipush (-10), 2) := by decide +kernel
theorem dX2_read_39 : decode cX2_read 39 = .ok (.aload_n 0, 1) := by decide +kernel
theorem dX2_read_40 : decode cX2_read 40 = .ok (.getfield 37, 3) := by decide +kernel
theorem dX2_read_43 : decode cX2_read 43 = .ok (.isub, 1) := by decide +kernel
theorem dX2_read_44 : decode cX2_read 44 = .ok (.ireturn, 1) := by decide +kernel
theorem dX2_read_45 : decode cX2_read 45 = .ok (.iinc 2 1, 3) := by decide +kernel
theorem dX2_read_48 : decode cX2_read 48 = .ok (.goto (-33), 3) := by decide +kernel
theorem dX2_read_51 : decode cX2_read 51 = .ok (.iload_n 2, 1) := by decide +kernel
theorem dX2_read_52 : decode cX2_read 52 = .ok (.ireturn, 1) := by decide +kernel
theorem dX2_readItem_0 : decode cX2_readItem 0 = .ok (.aload_n 0, 1) := by decide +kernel
theorem dX2_readItem_1 : decode cX2_readItem 1 = .ok (.getfield 30, 3) := by decide +kernel
theorem dX2_readItem_4 : decode cX2_readItem 4 = .ok (.iconst 1, 1) := by decide +kernel
theorem dX2_readItem_5 : decode cX2_readItem 5 = .ok (.if_icmp .eq 5, 3) := by decide +kernel
theorem dX2_readItem_8 : decode cX2_readItem 8 = .ok (.iconst 0, 1) := by decide +kernel
theorem dX2_readItem_9 : decode cX2_readItem 9 = .ok (.ireturn, 1) := by decide +kernel
theorem dX2_readItem_10 : decode cX2_readItem 10 = .ok (.aload_n 0, 1) := by decide +kernel
theorem dX2_readItem_11 : decode cX2_readItem 11 = .ok (.getfield 40, 3) := by decide +kernel
theorem dX2_readItem_14 : decode cX2_readItem 14 = .ok (.bipush 111, 2) := by decide +kernel
theorem dX2_readItem_16 : decode cX2_readItem 16 = .ok (.if_icmp .ne 27, 3) := by decide +kernel
theorem dX2_readItem_19 : decode cX2_readItem 19 = .ok (.aload_n 1, 1) := by decide +kernel
theorem dX2_readItem_20 : decode cX2_readItem 20 = .ok (.invokevirtual 43, 3) := by decide +kernel
theorem dX2_readItem_23 : decode cX2_readItem 23 = .ok (.ifCond .eq 15, 3) := by decide +kernel
theorem dX2_readItem_26 : decode cX2_readItem 26 = .ok (.aload_n 0, 1) := by decide +kernel
theorem dX2_readItem_27 : decode cX2_readItem 27 = .ok (.aload_n 1, 1) := by decide +kernel
theorem dX2_readItem_28 : decode cX2_readItem 28 = .ok (.invokevirtual 47, 3) := by decide +kernel
theorem dX2_readItem_31 : decode cX2_readItem 31 = .ok (.ifCond .eq 7, 3) := by decide +kernel
theorem dX2_readItem_34 : decode cX2_readItem 34 = .ok (.iconst 1, 1) := by decide +kernel
theorem dX2_readItem_35 : decode cX2_readItem 35 = .ok (.goto 4, 3) := by decide +kernel
theorem dX2_readItem_38 : decode cX2_readItem 38 = .ok (.iconst 0, 1) := by decide +kernel
theorem dX2_readItem_39 : decode cX2_readItem 39 = .ok (.istore_n 2, 1) := by decide +kernel
theorem dX2_readItem_40 : decode cX2_readItem 40 = .ok (.goto 38, 3) := by decide +kernel
theorem dX2_readItem_43 : decode cX2_readItem 43 = .ok (.aload_n 0, 1) := by decide +kernel
theorem dX2_readItem_44 : decode cX2_readItem 44 = .ok (.getfield 40, 3) := by decide +kernel
theorem dX2_readItem_47 : decode cX2_readItem 47 = .ok (.bipush 100, 2) := by decide +kernel
theorem dX2_readItem_49 : decode cX2_readItem 49 = .ok (.if_icmp .ne 27, 3) := by decide +kernel
theorem dX2_readItem_52 : decode cX2_readItem 52 = .ok (.aload_n 1, 1) := by decide +kernel
theorem dX2_readItem_53 : decode cX2_readItem 53 = .ok (.invokevirtual 50, 3) := by decide +kernel
theorem dX2_readItem_56 : decode cX2_readItem 56 = .ok (.ifCond .eq 15, 3) := by decide +kernel
theorem dX2_readItem_59 : decode cX2_readItem 59 = .ok (.aload_n 0, 1) := by decide +kernel
theorem dX2_readItem_60 : decode cX2_readItem 60 = .ok (.aload_n 1, 1) := by decide +kernel
theorem dX2_readItem_61 : decode cX2_readItem 61 = .ok (.invokevirtual 53, 3) := by decide +kernel
theorem dX2_readItem_64 : decode cX2_readItem 64 = .ok (.ifCond .eq 7, 3) := by decide +kernel
theorem dX2_readItem_67 : decode cX2_readItem 67 = .ok (.iconst 1, 1) := by decide +kernel
theorem dX2_readItem_68 : decode cX2_readItem 68 = .ok (.goto 4, 3) := by decide +kernel
theorem dX2_readItem_71 : decode cX2_readItem 71 = .ok (.iconst 0, 1) := by decide +kernel
theorem dX2_readItem_72 : decode cX2_readItem 72 = .ok (.istore_n 2, 1) := by decide +kernel
theorem dX2_readItem_73 : decode cX2_readItem 73 = .ok (.goto 5, 3) := by decide +kernel
theorem dX2_readItem_76 : decode cX2_readItem 76 = .ok (.iconst 0, 1) := by decide +kernel
theorem dX2_readItem_77 : decode cX2_readItem 77 = .ok (.istore_n 2, 1) := by decide +kernel
theorem dX2_readItem_78 : decode cX2_readItem 78 = .ok (.iload_n 2, 1) := by decide +kernel
theorem dX2_readItem_79 : decode cX2_readItem 79 = .ok (.ifCond .eq 11, 3) := by decide +kernel
theorem dX2_readItem_82 : decode cX2_readItem 82 = .ok (.aload_n 0, 1) := by decide +kernel
theorem dX2_readItem_83 : decode cX2_readItem 83 = .ok (.getfield 30, 3) := by decide +kernel
theorem dX2_readItem_86 : decode cX2_readItem 86 = .ok (.iconst 3, 1) := by decide +kernel
theorem dX2_readItem_87 : decode cX2_readItem 87 = .ok (.if_icmp .eq 5, 3) := by decide +kernel
theorem dX2_readItem_90 : decode cX2_readItem 90 = .ok (.iconst 0, 1) := by decide +kernel
theorem dX2_readItem_91 : decode cX2_readItem 91 = .ok (.ireturn, 1) := by decide +kernel
theorem dX2_readItem_92 : decode cX2_readItem 92 = .ok (.aload_n 0, 1) := by decide +kernel
theorem dX2_readItem_93 : decode cX2_readItem 93 = .ok (.invokevirtual 27, 3) := by decide +kernel
theorem dX2_readItem_96 : decode cX2_readItem 96 = .ok (.iconst 1, 1) := by decide +kernel
theorem dX2_readItem_97 : decode cX2_readItem 97 = .ok (.ireturn, 1) := by decide +kernel
theorem dX2_readOvenNumbers_0 : decode cX2_readOvenNumbers 0 = .ok (.aload_n 0, 1) := by decide +kernel
theorem dX2_readOvenNumbers_1 : decode cX2_readOvenNumbers 1 = .ok (.invokevirtual 27, 3) := by decide +kernel
theorem dX2_readOvenNumbers_4 : decode cX2_readOvenNumbers 4 = .ok (.iconst 0, 1) := by decide +kernel
theorem dX2_readOvenNumbers_5 : decode cX2_readOvenNumbers 5 = .ok (.istore_n 2, 1) := by decide +kernel
theorem dX2_readOvenNumbers_6 : decode cX2_readOvenNumbers 6 = .ok (.iload_n 2, 1) := by decide +kernel
theorem dX2_readOvenNumbers_7 : decode cX2_readOvenNumbers 7 = .ok (.iconst 2, 1) := by decide +kernel
theorem dX2_readOvenNumbers_8 : decode cX2_readOvenNumbers 8 = .ok (.if_icmp .ge 37, 3) := by decide +kernel
theorem dX2_readOvenNumbers_11 : decode cX2_readOvenNumbers 11 = .ok (.aload_n 0, 1) := by decide +kernel
theorem dX2_readOvenNumbers_12 : decode cX2_readOvenNumbers 12 = .ok (.iconst 0, 1) := by decide +kernel
theorem dX2_readOvenNumbers_13 : decode cX2_readOvenNumbers 13 = .ok (.getstatic 56, 3) := by decide +kernel
theorem dX2_readOvenNumbers_16 : decode cX2_readOvenNumbers 16 = .ok (.iload_n 2, 1) := by decide +kernel
theorem dX2_readOvenNumbers_17 : decode cX2_readOvenNumbers 17 = .ok (.iaload, 1) := by decide +kernel
theorem dX2_readOvenNumbers_18 : decode cX2_readOvenNumbers 18 = .ok (.invokevirtual 59, 3) := by decide +kernel
theorem dX2_readOvenNumbers_21 : decode cX2_readOvenNumbers 21 = .ok (.ifCond .ne 5, 3) := by decide +kernel
theorem dX2_readOvenNumbers_24 : decode cX2_readOvenNumbers 24 = .ok (.iconst 0, 1) := by decide +kernel
theorem dX2_readOvenNumbers_25 : decode cX2_readOvenNumbers 25 = .ok (.ireturn, 1) := by decide +kernel
theorem dX2_readOvenNumbers_26 : decode cX2_readOvenNumbers 26 = .ok (.aload_n 1, 1) := by decide +kernel
theorem dX2_readOvenNumbers_27 : decode cX2_readOvenNumbers 27 = .ok (.iload_n 2, 1) := by decide +kernel
theorem dX2_readOvenNumbers_28 : decode cX2_readOvenNumbers 28 = .ok (.aload_n 0, 1) := by decide +kernel
theorem dX2_readOvenNumbers_29 : decode cX2_readOvenNumbers 29 = .ok (.getfield 40, 3) := by decide +kernel
theorem dX2_readOvenNumbers_32 : decode cX2_readOvenNumbers 32 = .ok (.invokevirtual 63, 3) := by decide +kernel
theorem dX2_readOvenNumbers_35 : decode cX2_readOvenNumbers 35 = .ok (.aload_n 0, 1) := by decide +kernel
theorem dX2_readOvenNumbers_36 : decode cX2_readOvenNumbers 36 = .ok (.invokevirtual 27, 3) := by decide +kernel
theorem dX2_readOvenNumbers_39 : decode cX2_readOvenNumbers 39 = .ok (.iinc 2 1, 3) := by decide +kernel
theorem dX2_readOvenNumbers_42 : decode cX2_readOvenNumbers 42 = .ok (.goto (-36), 3) := by decide +kernel
theorem dX2_readOvenNumbers_45 : decode cX2_readOvenNumbers 45 = .ok (.iconst 1, 1) := by decide +kernel
theorem dX2_readOvenNumbers_46 : decode cX2_readOvenNumbers 46 = .ok (.ireturn, 1) := by decide +kernel
theorem dX2_readDoughNumbers_0 : decode cX2_readDoughNumbers 0 = .ok (.aload_n 0, 1) := by decide +kernel
theorem dX2_readDoughNumbers_1 : decode cX2_readDoughNumbers 1 = .ok (.invokevirtual 27, 3) := by decide +kernel
theorem dX2_readDoughNumbers_4 : decode cX2_readDoughNumbers 4 = .ok (.iconst 0, 1) := by decide +kernel
theorem dX2_readDoughNumbers_5 : decode cX2_readDoughNumbers 5 = .ok (.istore_n 2, 1) := by decide +kernel
theorem dX2_readDoughNumbers_6 : decode cX2_readDoughNumbers 6 = .ok (.iload_n 2, 1) := by decide +kernel
theorem dX2_readDoughNumbers_7 : decode cX2_readDoughNumbers 7 = .ok (.iconst 5, 1) := by decide +kernel
theorem dX2_readDoughNumbers_8 : decode cX2_readDoughNumbers 8 = .ok (.if_icmp .ge 62, 3) := by decide +kernel
theorem dX2_readDoughNumbers_11 : decode cX2_readDoughNumbers 11 = .ok (.iload_n 2, 1) := by decide +kernel
theorem dX2_readDoughNumbers_12 : decode cX2_readDoughNumbers 12 = .ok (.iconst 4, 1) := by decide +kernel
theorem dX2_readDoughNumbers_13 : decode cX2_readDoughNumbers 13 = .ok (.if_icmp .ne 17, 3) := by decide +kernel
theorem dX2_readDoughNumbers_16 : decode cX2_readDoughNumbers 16 = .ok (.aload_n 1, 1) := by decide +kernel
theorem dX2_readDoughNumbers_17 : decode cX2_readDoughNumbers 17 = .ok (.aload_n 1, 1) := by decide +kernel
theorem dX2_readDoughNumbers_18 : decode cX2_readDoughNumbers 18 = .ok (.invokevirtual 67, 3) := by decide +kernel
theorem dX2_readDoughNumbers_21 : decode cX2_readDoughNumbers 21 = .ok (.iconst 1, 1) := by decide +kernel
theorem dX2_readDoughNumbers_22 : decode cX2_readDoughNumbers 22 = .ok (.isub, 1) := by decide +kernel
theorem dX2_readDoughNumbers_23 : decode cX2_readDoughNumbers 23 = .ok (.iconst 3, 1) := by decide +kernel
theorem dX2_readDoughNumbers_24 : decode cX2_readDoughNumbers 24 = .ok (.invokevirtual 71, 3) := by decide +kernel
theorem dX2_readDoughNumbers_27 : decode cX2_readDoughNumbers 27 = .ok (.goto 8, 3) := by decide +kernel
theorem dX2_readDoughNumbers_30 : decode cX2_readDoughNumbers 30 = .ok (.getstatic 75, 3) := by decide +kernel
theorem dX2_readDoughNumbers_33 : decode cX2_readDoughNumbers 33 = .ok (.iload_n 2, 1) := by decide +kernel
theorem dX2_readDoughNumbers_34 : decode cX2_readDoughNumbers 34 = .ok (.iaload, 1) := by decide +kernel
theorem dX2_readDoughNumbers_35 : decode cX2_readDoughNumbers 35 = .ok (.istore_n 3, 1) := by decide +kernel
theorem dX2_readDoughNumbers_36 : decode cX2_readDoughNumbers 36 = .ok (.aload_n 0, 1) := by decide +kernel
theorem dX2_readDoughNumbers_37 : decode cX2_readDoughNumbers 37 = .ok (.iload_n 3, 1) := by decide +kernel
theorem dX2_readDoughNumbers_38 : decode cX2_readDoughNumbers 38 = .ok (.getstatic 78, 3) := by decide +kernel
theorem dX2_readDoughNumbers_41 : decode cX2_readDoughNumbers 41 = .ok (.iload_n 2, 1) := by decide +kernel
theorem dX2_readDoughNumbers_42 : decode cX2_readDoughNumbers 42 = .ok (.iaload, 1) := by decide +kernel
theorem dX2_readDoughNumbers_43 : decode cX2_readDoughNumbers 43 = .ok (.invokevirtual 59, 3) := by decide +kernel
theorem dX2_readDoughNumbers_46 : decode cX2_readDoughNumbers 46 = .ok (.ifCond .ne 5, 3) := by decide +kernel
theorem dX2_readDoughNumbers_49 : decode cX2_readDoughNumbers 49 = .ok (.iconst 0, 1) := by decide +kernel
theorem dX2_readDoughNumbers_50 : decode cX2_readDoughNumbers 50 = .ok (.ireturn, 1) := by decide +kernel
theorem dX2_readDoughNumbers_51 : decode cX2_readDoughNumbers 51 = .ok (.aload_n 1, 1) := by decide +kernel
theorem dX2_readDoughNumbers_52 : decode cX2_readDoughNumbers 52 = .ok (.iload_n 2, 1) := by decide +kernel
theorem dX2_readDoughNumbers_53 : decode cX2_readDoughNumbers 53 = .ok (.aload_n 0, 1) := by decide +kernel
theorem dX2_readDoughNumbers_54 : decode cX2_readDoughNumbers 54 = .ok (.getfield 40, 3) := by decide +kernel
theorem dX2_readDoughNumbers_57 : decode cX2_readDoughNumbers 57 = .ok (.invokevirtual 81, 3) := by decide +kernel
theorem dX2_readDoughNumbers_60 : decode cX2_readDoughNumbers 60 = .ok (.aload_n 0, 1) := by decide +kernel
theorem dX2_readDoughNumbers_61 : decode cX2_readDoughNumbers 61 = .ok (.invokevirtual 27, 3) := by decide +kernel
theorem dX2_readDoughNumbers_64 : decode cX2_readDoughNumbers 64 = .ok (.iinc 2 1, 3) := by decide +kernel
theorem dX2_readDoughNumbers_67 : decode cX2_readDoughNumbers 67 = .ok (.goto (-61), 3) := by decide +kernel
theorem dX2_readDoughNumbers_70 : decode cX2_readDoughNumbers 70 = .ok (.iconst 1, 1) := by decide +kernel
theorem dX2_readDoughNumbers_71 : decode cX2_readDoughNumbers 71 = .ok (.ireturn, 1) := by decide +kernel
theorem dX2_isNumberWithin_0 : decode cX2_isNumberWithin 0 = .ok (.aload_n 0, 1) := by decide +kernel
theorem dX2_isNumberWithin_1 : decode cX2_isNumberWithin 1 = .ok (.getfield 30, 3) := by decide +kernel
theorem dX2_isNumberWithin_4 : decode cX2_isNumberWithin 4 = .ok (.iconst 2, 1) := by decide +kernel
theorem dX2_isNumberWithin_5 : decode cX2_isNumberWithin 5 = .ok (.if_icmp .ne 23, 3) := by decide +kernel
theorem dX2_isNumberWithin_8 : decode cX2_isNumberWithin 8 = .ok (.aload_n 0, 1) := by decide +kernel
theorem dX2_isNumberWithin_9 : decode cX2_isNumberWithin 9 = .ok (.getfield 40, 3) := by decide +kernel
theorem dX2_isNumberWithin_12 : decode cX2_isNumberWithin 12 = .ok (.iload_n 1, 1) := by decide +kernel
theorem dX2_isNumberWithin_13 : decode cX2_isNumberWithin 13 = .ok (.if_icmp .lt 15, 3) := by decide +kernel
theorem dX2_isNumberWithin_16 : decode cX2_isNumberWithin 16 = .ok (.aload_n 0, 1) := by decide +kernel
theorem dX2_isNumberWithin_17 : decode cX2_isNumberWithin 17 = .ok (.getfield 40, 3) := by decide +kernel
theorem dX2_isNumberWithin_20 : decode cX2_isNumberWithin 20 = .ok (.iload_n 2, 1) := by decide +kernel
theorem dX2_isNumberWithin_21 : decode cX2_isNumberWithin 21 = .ok (.if_icmp .gt 7, 3) := by decide +kernel
theorem dX2_isNumberWithin_24 : decode cX2_isNumberWithin 24 = .ok (.iconst 1, 1) := by decide +kernel
theorem dX2_isNumberWithin_25 : decode cX2_isNumberWithin 25 = .ok (.goto 4, 3) := by decide +kernel
theorem dX2_isNumberWithin_28 : decode cX2_isNumberWithin 28 = .ok (.iconst 0, 1) := by decide +kernel
theorem dX2_isNumberWithin_29 : decode cX2_isNumberWithin 29 = .ok (.ireturn, 1) := by decide +kernel
theorem dX2_nextToken_0 : decode cX2_nextToken 0 = .ok (.aload_n 0, 1) := by decide +kernel
theorem dX2_nextToken_1 : decode cX2_nextToken 1 = .ok (.getfield 19, 3) := by decide +kernel
theorem dX2_nextToken_4 : decode cX2_nextToken 4 = .ok (.aload_n 0, 1) := by decide +kernel
theorem dX2_nextToken_5 : decode cX2_nextToken 5 = .ok (.getfield 15, 3) := by decide +kernel
theorem dX2_nextToken_8 : decode cX2_nextToken 8 = .ok (.if_icmp .ge 30, 3) := by decide +kernel
theorem dX2_nextToken_11 : decode cX2_nextToken 11 = .ok (.aload_n 0, 1) := by decide +kernel
theorem dX2_nextToken_12 : decode cX2_nextToken 12 = .ok (.getfield 11, 3) := by decide +kernel
theorem dX2_nextToken_15 : decode cX2_nextToken 15 = .ok (.aload_n 0, 1) := by decide +kernel
theorem dX2_nextToken_16 : decode cX2_nextToken 16 = .ok (.getfield 19, 3) := by decide +kernel
theorem dX2_nextToken_19 : decode cX2_nextToken 19 = .ok (.iaload, 1) := by decide +kernel
theorem dX2_nextToken_20 : decode cX2_nextToken 20 = .ok (.bipush 32, 2) := by decide +kernel
theorem dX2_nextToken_22 : decode cX2_nextToken 22 = .ok (.if_icmp .ne 16, 3) := by decide +kernel
theorem dX2_nextToken_25 : decode cX2_nextToken 25 = .ok (.aload_n 0, 1) := by decide +kernel
theorem dX2_nextToken_26 : decode cX2_nextToken 26 = .ok (.dup, 1) := by decide +kernel
theorem dX2_nextToken_27 : decode cX2_nextToken 27 = .ok (.getfield 19, 3) := by decide +kernel
theorem dX2_nextToken_30 : decode cX2_nextToken 30 = .ok (.iconst 1, 1) := by decide +kernel
theorem dX2_nextToken_31 : decode cX2_nextToken 31 = .ok (.iadd, 1) := by decide +kernel
theorem dX2_nextToken_32 : decode cX2_nextToken 32 = .ok (.putfield 19, 3) := by decide +kernel
theorem dX2_nextToken_35 : decode cX2_nextToken 35 = .ok (.goto (-35), 3) := by decide +kernel
theorem dX2_nextToken_38 : decode cX2_nextToken 38 = .ok (.aload_n 0, 1) := by decide +kernel
theorem dX2_nextToken_39 : decode cX2_nextToken 39 = .ok (.aload_n 0, 1) := by decide +kernel
theorem dX2_nextToken_40 : decode cX2_nextToken 40 = .ok (.getfield 19, 3) := by decide +kernel
theorem dX2_nextToken_43 : decode cX2_nextToken 43 = .ok (.putfield 37, 3) := by decide +kernel
theorem dX2_nextToken_46 : decode cX2_nextToken 46 = .ok (.aload_n 0, 1) := by decide +kernel
theorem dX2_nextToken_47 : decode cX2_nextToken 47 = .ok (.iconst 0, 1) := by decide +kernel
theorem dX2_nextToken_48 : decode cX2_nextToken 48 = .ok (.putfield 40, 3) := by decide +kernel
theorem dX2_nextToken_51 : decode cX2_nextToken 51 = .ok (.aload_n 0, 1) := by decide +kernel
theorem dX2_nextToken_52 : decode cX2_nextToken 52 = .ok (.getfield 19, 3) := by decide +kernel
theorem dX2_nextToken_55 : decode cX2_nextToken 55 = .ok (.aload_n 0, 1) := by decide +kernel
theorem dX2_nextToken_56 : decode cX2_nextToken 56 = .ok (.getfield 15, 3) := by decide +kernel
theorem dX2_nextToken_59 : decode cX2_nextToken 59 = .ok (.if_icmp .lt 11, 3) := by decide +kernel
theorem dX2_nextToken_62 : decode cX2_nextToken 62 = .ok (.aload_n 0, 1) := by decide +kernel
theorem dX2_nextToken_63 : decode cX2_nextToken 63 = .ok (.iconst 0, 1) := by decide +kernel
theorem dX2_nextToken_64 : decode cX2_nextToken 64 = .ok (.putfield 30, 3) := by decide +kernel
theorem dX2_nextToken_67 : decode cX2_nextToken 67 = .ok (.goto 80, 3) := by decide +kernel
theorem dX2_nextToken_70 : decode cX2_nextToken 70 = .ok (.aload_n 0, 1) := by decide +kernel
theorem dX2_nextToken_71 : decode cX2_nextToken 71 = .ok (.getfield 11, 3) := by decide +kernel
theorem dX2_nextToken_74 : decode cX2_nextToken 74 = .ok (.aload_n 0, 1) := by decide +kernel
theorem dX2_nextToken_75 : decode cX2_nextToken 75 = .ok (.getfield 19, 3) := by decide +kernel
theorem dX2_nextToken_78 : decode cX2_nextToken 78 = .ok (.iaload, 1) := by decide +kernel
theorem dX2_nextToken_79 : decode cX2_nextToken 79 = .ok (.invokestatic 84, 3) := by decide +kernel
theorem dX2_nextToken_82 : decode cX2_nextToken 82 = .ok (.ifCond .eq 10, 3) := by decide +kernel
theorem dX2_nextToken_85 : decode cX2_nextToken 85 = .ok (.aload_n 0, 1) := by decide +kernel
theorem dX2_nextToken_86 : decode cX2_nextToken 86 = .ok (.invokevirtual 88, 3) := by decide +kernel
theorem dX2_nextToken_89 : decode cX2_nextToken 89 = .ok (.goto 58, 3) := by decide +kernel
theorem dX2_nextToken_92 : decode cX2_nextToken 92 = .ok (.aload_n 0, 1) := by decide +kernel
theorem dX2_nextToken_93 : decode cX2_nextToken 93 = .ok (.getfield 11, 3) := by decide +kernel
theorem dX2_nextToken_96 : decode cX2_nextToken 96 = .ok (.aload_n 0, 1) := by decide +kernel
theorem dX2_nextToken_97 : decode cX2_nextToken 97 = .ok (.getfield 19, 3) := by decide +kernel
theorem dX2_nextToken_100 : decode cX2_nextToken 100 = .ok (.iaload, 1) := by decide +kernel
theorem dX2_nextToken_101 : decode cX2_nextToken 101 = .ok (.invokestatic 91, 3) := by decide +kernel
theorem dX2_nextToken_104 : decode cX2_nextToken 104 = .ok (.ifCond .eq 10, 3) := by decide +kernel
theorem dX2_nextToken_107 : decode cX2_nextToken 107 = .ok (.aload_n 0, 1) := by decide +kernel
theorem dX2_nextToken_108 : decode cX2_nextToken 108 = .ok (.invokevirtual 94, 3) := by decide +kernel
theorem dX2_nextToken_111 : decode cX2_nextToken 111 = .ok (.goto 36, 3) := by decide +kernel
theorem dX2_nextToken_114 : decode cX2_nextToken 114 = .ok (.aload_n 0, 1) := by decide +kernel
theorem dX2_nextToken_115 : decode cX2_nextToken 115 = .ok (.aload_n 0, 1) := by decide +kernel
theorem dX2_nextToken_116 : decode cX2_nextToken 116 = .ok (.getfield 11, 3) := by decide +kernel
theorem dX2_nextToken_119 : decode cX2_nextToken 119 = .ok (.aload_n 0, 1) := by decide +kernel
theorem dX2_nextToken_120 : decode cX2_nextToken 120 = .ok (.getfield 19, 3) := by decide +kernel
theorem dX2_nextToken_123 : decode cX2_nextToken 123 = .ok (.iaload, 1) := by decide +kernel
theorem dX2_nextToken_124 : decode cX2_nextToken 124 = .ok (.bipush 59, 2) := by decide +kernel
theorem dX2_nextToken_126 : decode cX2_nextToken 126 = .ok (.if_icmp .ne 7, 3) := by decide +kernel
theorem dX2_nextToken_129 : decode cX2_nextToken 129 = .ok (.iconst 3, 1) := by decide +kernel
theorem dX2_nextToken_130 : decode cX2_nextToken 130 = .ok (.goto 4, 3) := by decide +kernel
theorem dX2_nextToken_133 : decode cX2_nextToken 133 = .ok (.iconst 4, 1) := by decide +kernel
theorem dX2_nextToken_134 : decode cX2_nextToken 134 = .ok (.putfield 30, 3) := by decide +kernel
theorem dX2_nextToken_137 : decode cX2_nextToken 137 = .ok (.aload_n 0, 1) := by decide +kernel
theorem dX2_nextToken_138 : decode cX2_nextToken 138 = .ok (.dup, 1) := by decide +kernel
theorem dX2_nextToken_139 : decode cX2_nextToken 139 = .ok (.getfield 19, 3) := by decide +kernel
theorem dX2_nextToken_142 : decode cX2_nextToken 142 = .ok (.iconst 1, 1) := by decide +kernel
theorem dX2_nextToken_143 : decode cX2_nextToken 143 = .ok (.iadd, 1) := by decide +kernel
theorem dX2_nextToken_144 : decode cX2_nextToken 144 = .ok (.putfield 19, 3) := by decide +kernel
theorem dX2_nextToken_147 : decode cX2_nextToken 147 = .ok (.return_, 1) := by decide +kernel
theorem dX2_takeLetters_0 : decode cX2_takeLetters 0 = .ok (.aload_n 0, 1) := by decide +kernel
theorem dX2_takeLetters_1 : decode cX2_takeLetters 1 = .ok (.iconst 1, 1) := by decide +kernel
theorem dX2_takeLetters_2 : decode cX2_takeLetters 2 = .ok (.putfield 30, 3) := by decide +kernel
theorem dX2_takeLetters_5 : decode cX2_takeLetters 5 = .ok (.aload_n 0, 1) := by decide +kernel
theorem dX2_takeLetters_6 : decode cX2_takeLetters 6 = .ok (.getfield 19, 3) := by decide +kernel
theorem dX2_takeLetters_9 : decode cX2_takeLetters 9 = .ok (.aload_n 0, 1) := by decide +kernel
theorem dX2_takeLetters_10 : decode cX2_takeLetters 10 = .ok (.getfield 15, 3) := by decide +kernel
theorem dX2_takeLetters_13 : decode cX2_takeLetters 13 = .ok (.if_icmp .ge 59, 3) := by decide +kernel
theorem dX2_takeLetters_16 : decode cX2_takeLetters 16 = .ok (.aload_n 0, 1) := by decide +kernel
theorem dX2_takeLetters_17 : decode cX2_takeLetters 17 = .ok (.getfield 11, 3) := by decide +kernel
theorem dX2_takeLetters_20 : decode cX2_takeLetters 20 = .ok (.aload_n 0, 1) := by decide +kernel
theorem dX2_takeLetters_21 : decode cX2_takeLetters 21 = .ok (.getfield 19, 3) := by decide +kernel
theorem dX2_takeLetters_24 : decode cX2_takeLetters 24 = .ok (.iaload, 1) := by decide +kernel
theorem dX2_takeLetters_25 : decode cX2_takeLetters 25 = .ok (.invokestatic 84, 3) := by decide +kernel
theorem dX2_takeLetters_28 : decode cX2_takeLetters 28 = .ok (.ifCond .eq 44, 3) := by decide +kernel
theorem dX2_takeLetters_31 : decode cX2_takeLetters 31 = .ok (.aload_n 0, 1) := by decide +kernel
theorem dX2_takeLetters_32 : decode cX2_takeLetters 32 = .ok (.aload_n 0, 1) := by decide +kernel
theorem dX2_takeLetters_33 : decode cX2_takeLetters 33 = .ok (.getfield 19, 3) := by decide +kernel
theorem dX2_takeLetters_36 : decode cX2_takeLetters 36 = .ok (.aload_n 0, 1) := by decide +kernel
theorem dX2_takeLetters_37 : decode cX2_takeLetters 37 = .ok (.getfield 37, 3) := by decide +kernel
theorem dX2_takeLetters_40 : decode cX2_takeLetters 40 = .ok (.if_icmp .ne 15, 3) := by decide +kernel
theorem dX2_takeLetters_43 : decode cX2_takeLetters 43 = .ok (.aload_n 0, 1) := by decide +kernel
theorem dX2_takeLetters_44 : decode cX2_takeLetters 44 = .ok (.getfield 11, 3) := by decide +kernel
theorem dX2_takeLetters_47 : decode cX2_takeLetters 47 = .ok (.aload_n 0, 1) := by decide +kernel
theorem dX2_takeLetters_48 : decode cX2_takeLetters 48 = .ok (.getfield 19, 3) := by decide +kernel
theorem dX2_takeLetters_51 : decode cX2_takeLetters 51 = .ok (.iaload, 1) := by decide +kernel
theorem dX2_takeLetters_52 : decode cX2_takeLetters 52 = .ok (.goto 4, 3) := by decide +kernel
theorem dX2_takeLetters_55 : decode cX2_takeLetters 55 = .ok (.iconst 0, 1) := by decide +kernel
theorem dX2_takeLetters_56 : decode cX2_takeLetters 56 = .ok (.putfield 40, 3) := by decide +kernel
theorem dX2_takeLetters_59 : decode cX2_takeLetters 59 = .ok (.aload_n 0, 1) := by decide +kernel
theorem dX2_takeLetters_60 : decode cX2_takeLetters 60 = .ok (.dup, 1) := by decide +kernel
theorem dX2_takeLetters_61 : decode cX2_takeLetters 61 = .ok (.getfield 19, 3) := by decide +kernel
theorem dX2_takeLetters_64 : decode cX2_takeLetters 64 = .ok (.iconst 1, 1) := by decide +kernel
theorem dX2_takeLetters_65 : decode cX2_takeLetters 65 = .ok (.iadd, 1) := by decide +kernel
theorem dX2_takeLetters_66 : decode cX2_takeLetters 66 = .ok (.putfield 19, 3) := by decide +kernel
theorem dX2_takeLetters_69 : decode cX2_takeLetters 69 = .ok (.goto (-64), 3) := by decide +kernel
theorem dX2_takeLetters_72 : decode cX2_takeLetters 72 = .ok (.return_, 1) := by decide +kernel
theorem dX2_takeNumber_0 : decode cX2_takeNumber 0 = .ok (.aload_n 0, 1) := by decide +kernel
theorem dX2_takeNumber_1 : decode cX2_takeNumber 1 = .ok (.getfield 19, 3) := by decide +kernel
theorem dX2_takeNumber_4 : decode cX2_takeNumber 4 = .ok (.aload_n 0, 1) := by decide +kernel
theorem dX2_takeNumber_5 : decode cX2_takeNumber 5 = .ok (.getfield 15, 3) := by decide +kernel
theorem dX2_takeNumber_8 : decode cX2_takeNumber 8 = .ok (.if_icmp .ge 60, 3) := by decide +kernel
theorem dX2_takeNumber_11 : decode cX2_takeNumber 11 = .ok (.aload_n 0, 1) := by decide +kernel
theorem dX2_takeNumber_12 : decode cX2_takeNumber 12 = .ok (.getfield 11, 3) := by decide +kernel
theorem dX2_takeNumber_15 : decode cX2_takeNumber 15 = .ok (.aload_n 0, 1) := by decide +kernel
theorem dX2_takeNumber_16 : decode cX2_takeNumber 16 = .ok (.getfield 19, 3) := by decide +kernel
theorem dX2_takeNumber_19 : decode cX2_takeNumber 19 = .ok (.iaload, 1) := by decide +kernel
theorem dX2_takeNumber_20 : decode cX2_takeNumber 20 = .ok (.invokestatic 91, 3) := by decide +kernel
theorem dX2_takeNumber_23 : decode cX2_takeNumber 23 = .ok (.ifCond .eq 45, 3) := by decide +kernel
theorem dX2_takeNumber_26 : decode cX2_takeNumber 26 = .ok (.aload_n 0, 1) := by decide +kernel
theorem dX2_takeNumber_27 : decode cX2_takeNumber 27 = .ok (.aload_n 0, 1) := by decide +kernel
theorem dX2_takeNumber_28 : decode cX2_takeNumber 28 = .ok (.getfield 40, 3) := by decide +kernel
theorem dX2_takeNumber_31 : decode cX2_takeNumber 31 = .ok (.bipush 10, 2) := by decide +kernel
theorem dX2_takeNumber_33 : decode cX2_takeNumber 33 = .ok (.imul, 1) := by decide +kernel
theorem dX2_takeNumber_34 : decode cX2_takeNumber 34 = .ok (.aload_n 0, 1) := by decide +kernel
theorem dX2_takeNumber_35 : decode cX2_takeNumber 35 = .ok (.getfield 11, 3) := by decide +kernel
theorem dX2_takeNumber_38 : decode cX2_takeNumber 38 = .ok (.aload_n 0, 1) := by decide +kernel
theorem dX2_takeNumber_39 : decode cX2_takeNumber 39 = .ok (.getfield 19, 3) := by decide +kernel
theorem dX2_takeNumber_42 : decode cX2_takeNumber 42 = .ok (.iaload, 1) := by decide +kernel
theorem dX2_takeNumber_43 : decode cX2_takeNumber 43 = .ok (.iadd, 1) := by decide +kernel
theorem dX2_takeNumber_44 : decode cX2_takeNumber 44 = .ok (.bipush 48, 2) := by decide +kernel
theorem dX2_takeNumber_46 : decode cX2_takeNumber 46 = .ok (.isub, 1) := by decide +kernel
theorem dX2_takeNumber_47 : decode cX2_takeNumber 47 = .ok (.bipush 100, 2) := by decide +kernel
theorem dX2_takeNumber_49 : decode cX2_takeNumber 49 = .ok (.invokestatic 97, 3) := by decide +kernel
theorem dX2_takeNumber_52 : decode cX2_takeNumber 52 = .ok (.putfield 40, 3) := by decide +kernel
theorem dX2_takeNumber_55 : decode cX2_takeNumber 55 = .ok (.aload_n 0, 1) := by decide +kernel
theorem dX2_takeNumber_56 : decode cX2_takeNumber 56 = .ok (.dup, 1) := by decide +kernel
theorem dX2_takeNumber_57 : decode cX2_takeNumber 57 = .ok (.getfield 19, 3) := by decide +kernel
theorem dX2_takeNumber_60 : decode cX2_takeNumber 60 = .ok (.iconst 1, 1) := by decide +kernel
theorem dX2_takeNumber_61 : decode cX2_takeNumber 61 = .ok (.iadd, 1) := by decide +kernel
theorem dX2_takeNumber_62 : decode cX2_takeNumber 62 = .ok (.putfield 19, 3) := by decide +kernel
theorem dX2_takeNumber_65 : decode cX2_takeNumber 65 = .ok (.goto (-65), 3) := by decide +kernel
theorem dX2_takeNumber_68 : decode cX2_takeNumber 68 = .ok (.aload_n 0, 1) := by decide +kernel
theorem dX2_takeNumber_69 : decode cX2_takeNumber 69 = .ok (.getfield 19, 3) := by decide +kernel
theorem dX2_takeNumber_72 : decode cX2_takeNumber 72 = .ok (.aload_n 0, 1) := by decide +kernel
theorem dX2_takeNumber_73 : decode cX2_takeNumber 73 = .ok (.getfield 37, 3) := by decide +kernel
theorem dX2_takeNumber_76 : decode cX2_takeNumber 76 = .ok (.isub, 1) := by decide +kernel
theorem dX2_takeNumber_77 : decode cX2_takeNumber 77 = .ok (.iconst 1, 1) := by decide +kernel
theorem dX2_takeNumber_78 : decode cX2_takeNumber 78 = .ok (.if_icmp .le 21, 3) := by decide +kernel
theorem dX2_takeNumber_81 : decode cX2_takeNumber 81 = .ok (.aload_n 0, 1) := by decide +kernel
theorem dX2_takeNumber_82 : decode cX2_takeNumber 82 = .ok (.getfield 11, 3) := by decide +kernel
theorem dX2_takeNumber_85 : decode cX2_takeNumber 85 = .ok (.aload_n 0, 1) := by decide +kernel
theorem dX2_takeNumber_86 : decode cX2_takeNumber 86 = .ok (.getfield 37, 3) := by decide +kernel
theorem dX2_takeNumber_89 : decode cX2_takeNumber 89 = .ok (.iaload, 1) := by decide +kernel
theorem dX2_takeNumber_90 : decode cX2_takeNumber 90 = .ok (.bipush 48, 2) := by decide +kernel
theorem dX2_takeNumber_92 : decode cX2_takeNumber 92 = .ok (.if_icmp .ne 7, 3) := by decide +kernel
theorem dX2_takeNumber_95 : decode cX2_takeNumber 95 = .ok (.iconst 1, 1) := by decide +kernel
theorem dX2_takeNumber_96 : decode cX2_takeNumber 96 = .ok (.goto 4, 3) := by decide +kernel
theorem dX2_takeNumber_99 : decode cX2_takeNumber 99 = .ok (.iconst 0, 1) := by decide +kernel
theorem dX2_takeNumber_100 : decode cX2_takeNumber 100 = .ok (.istore_n 1, 1) := by decide +kernel
theorem dX2_takeNumber_101 : decode cX2_takeNumber 101 = .ok (.aload_n 0, 1) := by decide +kernel
theorem dX2_takeNumber_102 : decode cX2_takeNumber 102 = .ok (.iload_n 1, 1) := by decide +kernel
theorem dX2_takeNumber_103 : decode cX2_takeNumber 103 = .ok (.ifCond .ne 12, 3) := by decide +kernel
theorem dX2_takeNumber_106 : decode cX2_takeNumber 106 = .ok (.aload_n 0, 1) := by decide +kernel
theorem dX2_takeNumber_107 : decode cX2_takeNumber 107 = .ok (.getfield 40, 3) := by decide +kernel
theorem dX2_takeNumber_110 : decode cX2_takeNumber 110 = .ok (.bipush 99, 2) := by decide +kernel
theorem dX2_takeNumber_112 : decode cX2_takeNumber 112 = .ok (.if_icmp .le 7, 3) := by decide +kernel
theorem dX2_takeNumber_115 : decode cX2_takeNumber 115 = .ok (.iconst 4, 1) := by decide +kernel
theorem dX2_takeNumber_116 : decode cX2_takeNumber 116 = .ok (.goto 4, 3) := by decide +kernel
theorem dX2_takeNumber_119 : decode cX2_takeNumber 119 = .ok (.iconst 2, 1) := by decide +kernel
theorem dX2_takeNumber_120 : decode cX2_takeNumber 120 = .ok (.putfield 30, 3) := by decide +kernel
theorem dX2_takeNumber_123 : decode cX2_takeNumber 123 = .ok (.return_, 1) := by decide +kernel
theorem dX2_isLetter_0 : decode cX2_isLetter 0 = .ok (.iload_n 0, 1) := by decide +kernel
theorem dX2_isLetter_1 : decode cX2_isLetter 1 = .ok (.bipush 97, 2) := by decide +kernel
theorem dX2_isLetter_3 : decode cX2_isLetter 3 = .ok (.if_icmp .lt 13, 3) := by decide +kernel
theorem dX2_isLetter_6 : decode cX2_isLetter 6 = .ok (.iload_n 0, 1) := by decide +kernel
theorem dX2_isLetter_7 : decode cX2_isLetter 7 = .ok (.bipush 122, 2) := by decide +kernel
theorem dX2_isLetter_9 : decode cX2_isLetter 9 = .ok (.if_icmp .gt 7, 3) := by decide +kernel
theorem dX2_isLetter_12 : decode cX2_isLetter 12 = .ok (.iconst 1, 1) := by decide +kernel
theorem dX2_isLetter_13 : decode cX2_isLetter 13 = .ok (.goto 4, 3) := by decide +kernel
theorem dX2_isLetter_16 : decode cX2_isLetter 16 = .ok (.iconst 0, 1) := by decide +kernel
theorem dX2_isLetter_17 : decode cX2_isLetter 17 = .ok (.ireturn, 1) := by decide +kernel
theorem dX2_isDigit_0 : decode cX2_isDigit 0 = .ok (.iload_n 0, 1) := by decide +kernel
theorem dX2_isDigit_1 : decode cX2_isDigit 1 = .ok (.bipush 48, 2) := by decide +kernel
theorem dX2_isDigit_3 : decode cX2_isDigit 3 = .ok (.if_icmp .lt 13, 3) := by decide +kernel
theorem dX2_isDigit_6 : decode cX2_isDigit 6 = .ok (.iload_n 0, 1) := by decide +kernel
theorem dX2_isDigit_7 : decode cX2_isDigit 7 = .ok (.bipush 57, 2) := by decide +kernel
theorem dX2_isDigit_9 : decode cX2_isDigit 9 = .ok (.if_icmp .gt 7, 3) := by decide +kernel
theorem dX2_isDigit_12 : decode cX2_isDigit 12 = .ok (.iconst 1, 1) := by decide +kernel
theorem dX2_isDigit_13 : decode cX2_isDigit 13 = .ok (.goto 4, 3) := by decide +kernel
theorem dX2_isDigit_16 : decode cX2_isDigit 16 = .ok (.iconst 0, 1) := by decide +kernel
theorem dX2_isDigit_17 : decode cX2_isDigit 17 = .ok (.ireturn, 1) := by decide +kernel
theorem dX3_init_0 : decode cX3_init 0 = .ok (.aload_n 0, 1) := by decide +kernel
theorem dX3_init_1 : decode cX3_init 1 = .ok (.invokespecial 3, 3) := by decide +kernel
theorem dX3_init_4 : decode cX3_init 4 = .ok (.aload_n 0, 1) := by decide +kernel
theorem dX3_init_5 : decode cX3_init 5 = .ok (.bipush 10, 2) := by decide +kernel
theorem dX3_init_7 : decode cX3_init 7 = .ok (.newarray .int, 2) := by decide +kernel
theorem dX3_init_9 : decode cX3_init 9 = .ok (.putfield 9, 3) := by decide +kernel
theorem dX3_init_12 : decode cX3_init 12 = .ok (.aload_n 0, 1) := by decide +kernel
theorem dX3_init_13 : decode cX3_init 13 = .ok (.bipush 30, 2) := by decide +kernel
theorem dX3_init_15 : decode cX3_init 15 = .ok (.newarray .int, 2) := by decide +kernel
theorem dX3_init_17 : decode cX3_init 17 = .ok (.putfield 15, 3) := by decide +kernel
theorem dX3_init_20 : decode cX3_init 20 = .ok (.return_, 1) := by decide +kernel
theorem dX3_forgetAll_0 : decode cX3_forgetAll 0 = .ok (.aload_n 0, 1) := by decide +kernel
theorem dX3_forgetAll_1 : decode cX3_forgetAll 1 = .ok (.iconst 0, 1) := by decide +kernel
theorem dX3_forgetAll_2 : decode cX3_forgetAll 2 = .ok (.putfield 18, 3) := by decide +kernel
theorem dX3_forgetAll_5 : decode cX3_forgetAll 5 = .ok (.aload_n 0, 1) := by decide +kernel
theorem dX3_forgetAll_6 : decode cX3_forgetAll 6 = .ok (.iconst 0, 1) := by decide +kernel
theorem dX3_forgetAll_7 : decode cX3_forgetAll 7 = .ok (.putfield 22, 3) := by decide +kernel
theorem dX3_forgetAll_10 : decode cX3_forgetAll 10 = .ok (.return_, 1) := by decide +kernel
theorem dX3_ovens_0 : decode cX3_ovens 0 = .ok (.aload_n 0, 1) := by decide +kernel
theorem dX3_ovens_1 : decode cX3_ovens 1 = .ok (.getfield 18, 3) := by decide +kernel
theorem dX3_ovens_4 : decode cX3_ovens 4 = .ok (.ireturn, 1) := by decide +kernel
theorem dX3_doughs_0 : decode cX3_doughs 0 = .ok (.aload_n 0, 1) := by decide +kernel
theorem dX3_doughs_1 : decode cX3_doughs 1 = .ok (.getfield 22, 3) := by decide +kernel
theorem dX3_doughs_4 : decode cX3_doughs 4 = .ok (.ireturn, 1) := by decide +kernel
theorem dX3_hasOven_0 : decode cX3_hasOven 0 = .ok (.iload_n 1, 1) := by decide +kernel
theorem dX3_hasOven_1 : decode cX3_hasOven 1 = .ok (.ifCond .lt 15, 3) := by decide +kernel
theorem dX3_hasOven_4 : decode cX3_hasOven 4 = .ok (.iload_n 1, 1) := by decide +kernel
theorem dX3_hasOven_5 : decode cX3_hasOven 5 = .ok (.aload_n 0, 1) := by decide +kernel
theorem dX3_hasOven_6 : decode cX3_hasOven 6 = .ok (.getfield 18, 3) := by decide +kernel
theorem dX3_hasOven_9 : decode cX3_hasOven 9 = .ok (.if_icmp .ge 7, 3) := by decide +kernel
theorem dX3_hasOven_12 : decode cX3_hasOven 12 = .ok (.iconst 1, 1) := by decide +kernel
theorem dX3_hasOven_13 : decode cX3_hasOven 13 = .ok (.goto 4, 3) := by decide +kernel
theorem dX3_hasOven_16 : decode cX3_hasOven 16 = .ok (.iconst 0, 1) := by decide +kernel
theorem dX3_hasOven_17 : decode cX3_hasOven 17 = .ok (.ireturn, 1) := by decide +kernel
theorem dX3_hasDough_0 : decode cX3_hasDough 0 = .ok (.iload_n 1, 1) := by decide +kernel
theorem dX3_hasDough_1 : decode cX3_hasDough 1 = .ok (.ifCond .lt 15, 3) := by decide +kernel
theorem dX3_hasDough_4 : decode cX3_hasDough 4 = .ok (.iload_n 1, 1) := by decide +kernel
theorem dX3_hasDough_5 : decode cX3_hasDough 5 = .ok (.aload_n 0, 1) := by decide +kernel
theorem dX3_hasDough_6 : decode cX3_hasDough 6 = .ok (.getfield 22, 3) := by decide +kernel
theorem dX3_hasDough_9 : decode cX3_hasDough 9 = .ok (.if_icmp .ge 7, 3) := by decide +kernel
theorem dX3_hasDough_12 : decode cX3_hasDough 12 = .ok (.iconst 1, 1) := by decide +kernel
theorem dX3_hasDough_13 : decode cX3_hasDough 13 = .ok (.goto 4, 3) := by decide +kernel
theorem dX3_hasDough_16 : decode cX3_hasDough 16 = .ok (.iconst 0, 1) := by decide +kernel
theorem dX3_hasDough_17 : decode cX3_hasDough 17 = .ok (.ireturn, 1) := by decide +kernel
theorem dX3_ofOven_0 : decode cX3_ofOven 0 = .ok (.iload_n 1, 1) := by decide +kernel
theorem dX3_ofOven_1 : decode cX3_ofOven 1 = .ok (.iconst 2, 1) := by decide +kernel
theorem dX3_ofOven_2 : decode cX3_ofOven 2 = .ok (.imul, 1) := by decide +kernel
theorem dX3_ofOven_3 : decode cX3_ofOven 3 = .ok (.iload_n 2, 1) := by decide +kernel
theorem dX3_ofOven_4 : decode cX3_ofOven 4 = .ok (.iadd, 1) := by decide +kernel
theorem dX3_ofOven_5 : decode cX3_ofOven 5 = .ok (.istore_n 3, 1) := by decide +kernel
theorem dX3_ofOven_6 : decode cX3_ofOven 6 = .ok (.aload_n 0, 1) := by decide +kernel
theorem dX3_ofOven_7 : decode cX3_ofOven 7 = .ok (.iload_n 1, 1) := by decide +kernel
theorem dX3_ofOven_8 : decode cX3_ofOven 8 = .ok (.invokevirtual 25, 3) := by decide +kernel
theorem dX3_ofOven_11 : decode cX3_ofOven 11 = .ok (.ifCond .eq 25, 3) := by decide +kernel
theorem dX3_ofOven_14 : decode cX3_ofOven 14 = .ok (.iload_n 3, 1) := by decide +kernel
theorem dX3_ofOven_15 : decode cX3_ofOven 15 = .ok (.ifCond .lt 21, 3) := by decide +kernel
theorem dX3_ofOven_18 : decode cX3_ofOven 18 = .ok (.iload_n 3, 1) := by decide +kernel
theorem dX3_ofOven_19 : decode cX3_ofOven 19 = .ok (.aload_n 0, 1) := by decide +kernel
theorem dX3_ofOven_20 : decode cX3_ofOven 20 = .ok (.getfield 9, 3) := by decide +kernel
theorem dX3_ofOven_23 : decode cX3_ofOven 23 = .ok (.arraylength, 1) := by decide +kernel
theorem dX3_ofOven_24 : decode cX3_ofOven 24 = .ok (.if_icmp .ge 12, 3) := by decide +kernel
theorem dX3_ofOven_27 : decode cX3_ofOven 27 = .ok (.aload_n 0, 1) := by decide +kernel
theorem dX3_ofOven_28 : decode cX3_ofOven 28 = .ok (.getfield 9, 3) := by decide +kernel
theorem dX3_ofOven_31 : decode cX3_ofOven 31 = .ok (.iload_n 3, 1) := by decide +kernel
theorem dX3_ofOven_32 : decode cX3_ofOven 32 = .ok (.iaload, 1) := by decide +kernel
theorem dX3_ofOven_33 : decode cX3_ofOven 33 = .ok (.goto 4, 3) := by decide +kernel
theorem dX3_ofOven_36 : decode cX3_ofOven 36 = .ok (.iconst 0, 1) := by decide +kernel
theorem dX3_ofOven_37 : decode cX3_ofOven 37 = .ok (.ireturn, 1) := by decide +kernel
theorem dX3_ofDough_0 : decode cX3_ofDough 0 = .ok (.iload_n 1, 1) := by decide +kernel
theorem dX3_ofDough_1 : decode cX3_ofDough 1 = .ok (.iconst 5, 1) := by decide +kernel
theorem dX3_ofDough_2 : decode cX3_ofDough 2 = .ok (.imul, 1) := by decide +kernel
theorem dX3_ofDough_3 : decode cX3_ofDough 3 = .ok (.iload_n 2, 1) := by decide +kernel
theorem dX3_ofDough_4 : decode cX3_ofDough 4 = .ok (.iadd, 1) := by decide +kernel
theorem dX3_ofDough_5 : decode cX3_ofDough 5 = .ok (.istore_n 3, 1) := by decide +kernel
theorem dX3_ofDough_6 : decode cX3_ofDough 6 = .ok (.aload_n 0, 1) := by decide +kernel
theorem dX3_ofDough_7 : decode cX3_ofDough 7 = .ok (.iload_n 1, 1) := by decide +kernel
theorem dX3_ofDough_8 : decode cX3_ofDough 8 = .ok (.invokevirtual 29, 3) := by decide +kernel
theorem dX3_ofDough_11 : decode cX3_ofDough 11 = .ok (.ifCond .eq 25, 3) := by decide +kernel
theorem dX3_ofDough_14 : decode cX3_ofDough 14 = .ok (.iload_n 3, 1) := by decide +kernel
theorem dX3_ofDough_15 : decode cX3_ofDough 15 = .ok (.ifCond .lt 21, 3) := by decide +kernel
theorem dX3_ofDough_18 : decode cX3_ofDough 18 = .ok (.iload_n 3, 1) := by decide +kernel
theorem dX3_ofDough_19 : decode cX3_ofDough 19 = .ok (.aload_n 0, 1) := by decide +kernel
theorem dX3_ofDough_20 : decode cX3_ofDough 20 = .ok (.getfield 15, 3) := by decide +kernel
theorem dX3_ofDough_23 : decode cX3_ofDough 23 = .ok (.arraylength, 1) := by decide +kernel
theorem dX3_ofDough_24 : decode cX3_ofDough 24 = .ok (.if_icmp .ge 12, 3) := by decide +kernel
theorem dX3_ofDough_27 : decode cX3_ofDough 27 = .ok (.aload_n 0, 1) := by decide +kernel
theorem dX3_ofDough_28 : decode cX3_ofDough 28 = .ok (.getfield 15, 3) := by decide +kernel
theorem dX3_ofDough_31 : decode cX3_ofDough 31 = .ok (.iload_n 3, 1) := by decide +kernel
theorem dX3_ofDough_32 : decode cX3_ofDough 32 = .ok (.iaload, 1) := by decide +kernel
theorem dX3_ofDough_33 : decode cX3_ofDough 33 = .ok (.goto 4, 3) := by decide +kernel
theorem dX3_ofDough_36 : decode cX3_ofDough 36 = .ok (.iconst 0, 1) := by decide +kernel
theorem dX3_ofDough_37 : decode cX3_ofDough 37 = .ok (.ireturn, 1) := by decide +kernel
theorem dX3_addOven_0 : decode cX3_addOven 0 = .ok (.aload_n 0, 1) := by decide +kernel
theorem dX3_addOven_1 : decode cX3_addOven 1 = .ok (.getfield 18, 3) := by decide +kernel
theorem dX3_addOven_4 : decode cX3_addOven 4 = .ok (.iconst 5, 1) := by decide +kernel
theorem dX3_addOven_5 : decode cX3_addOven 5 = .ok (.if_icmp .lt 5, 3) := by decide +kernel
theorem dX3_addOven_8 : decode cX3_addOven 8 = .ok (.iconst 0, 1) := by decide +kernel
theorem dX3_addOven_9 : decode cX3_addOven 9 = .ok (.ireturn, 1) := by decide +kernel
theorem dX3_addOven_10 : decode cX3_addOven 10 = .ok (.aload_n 0, 1) := by decide +kernel
theorem dX3_addOven_11 : decode cX3_addOven 11 = .ok (.dup, 1) := by decide +kernel
theorem dX3_addOven_12 : decode cX3_addOven 12 = .ok (.getfield 18, 3) := by decide +kernel
theorem dX3_addOven_15 : decode cX3_addOven 15 = .ok (.iconst 1, 1) := by decide +kernel
theorem dX3_addOven_16 : decode cX3_addOven 16 = .ok (.iadd, 1) := by decide +kernel
theorem dX3_addOven_17 : decode cX3_addOven 17 = .ok (.putfield 18, 3) := by decide +kernel
theorem dX3_addOven_20 : decode cX3_addOven 20 = .ok (.iconst 1, 1) := by decide +kernel
theorem dX3_addOven_21 : decode cX3_addOven 21 = .ok (.ireturn, 1) := by decide +kernel
theorem dX3_addDough_0 : decode cX3_addDough 0 = .ok (.aload_n 0, 1) := by decide +kernel
theorem dX3_addDough_1 : decode cX3_addDough 1 = .ok (.getfield 22, 3) := by decide +kernel
theorem dX3_addDough_4 : decode cX3_addDough 4 = .ok (.bipush 6, 2) := by decide +kernel
theorem dX3_addDough_6 : decode cX3_addDough 6 = .ok (.if_icmp .lt 5, 3) := by decide +kernel
theorem dX3_addDough_9 : decode cX3_addDough 9 = .ok (.iconst 0, 1) := by decide +kernel
theorem dX3_addDough_10 : decode cX3_addDough 10 = .ok (.ireturn, 1) := by decide +kernel
theorem dX3_addDough_11 : decode cX3_addDough 11 = .ok (.aload_n 0, 1) := by decide +kernel
theorem dX3_addDough_12 : decode cX3_addDough 12 = .ok (.dup, 1) := by decide +kernel
theorem dX3_addDough_13 : decode cX3_addDough 13 = .ok (.getfield 22, 3) := by decide +kernel
theorem dX3_addDough_16 : decode cX3_addDough 16 = .ok (.iconst 1, 1) := by decide +kernel
theorem dX3_addDough_17 : decode cX3_addDough 17 = .ok (.iadd, 1) := by decide +kernel
theorem dX3_addDough_18 : decode cX3_addDough 18 = .ok (.putfield 22, 3) := by decide +kernel
theorem dX3_addDough_21 : decode cX3_addDough 21 = .ok (.iconst 1, 1) := by decide +kernel
theorem dX3_addDough_22 : decode cX3_addDough 22 = .ok (.ireturn, 1) := by decide +kernel
theorem dX3_setOfLastOven_0 : decode cX3_setOfLastOven 0 = .ok (.aload_n 0, 1) := by decide +kernel
theorem dX3_setOfLastOven_1 : decode cX3_setOfLastOven 1 = .ok (.getfield 18, 3) := by decide +kernel
theorem dX3_setOfLastOven_4 : decode cX3_setOfLastOven 4 = .ok (.iconst 1, 1) := by decide +kernel
theorem dX3_setOfLastOven_5 : decode cX3_setOfLastOven 5 = .ok (.isub, 1) := by decide +kernel
theorem dX3_setOfLastOven_6 : decode cX3_setOfLastOven 6 = .ok (.iconst 2, 1) := by decide +kernel
theorem dX3_setOfLastOven_7 : decode cX3_setOfLastOven 7 = .ok (.imul, 1) := by decide +kernel
theorem dX3_setOfLastOven_8 : decode cX3_setOfLastOven 8 = .ok (.iload_n 1, 1) := by decide +kernel
theorem dX3_setOfLastOven_9 : decode cX3_setOfLastOven 9 = .ok (.iadd, 1) := by decide +kernel
theorem dX3_setOfLastOven_10 : decode cX3_setOfLastOven 10 = .ok (.istore_n 3, 1) := by decide +kernel
theorem dX3_setOfLastOven_11 : decode cX3_setOfLastOven 11 = .ok (.iload_n 3, 1) := by decide +kernel
theorem dX3_setOfLastOven_12 : decode cX3_setOfLastOven 12 = .ok (.ifCond .lt 19, 3) := by decide +kernel
theorem dX3_setOfLastOven_15 : decode cX3_setOfLastOven 15 = .ok (.iload_n 3, 1) := by decide +kernel
theorem dX3_setOfLastOven_16 : decode cX3_setOfLastOven 16 = .ok (.aload_n 0, 1) := by decide +kernel
theorem dX3_setOfLastOven_17 : decode cX3_setOfLastOven 17 = .ok (.getfield 9, 3) := by decide +kernel
theorem dX3_setOfLastOven_20 : decode cX3_setOfLastOven 20 = .ok (.arraylength, 1) := by decide +kernel
theorem dX3_setOfLastOven_21 : decode cX3_setOfLastOven 21 = .ok (.if_icmp .ge 10, 3) := by decide +kernel
theorem dX3_setOfLastOven_24 : decode cX3_setOfLastOven 24 = .ok (.aload_n 0, 1) := by decide +kernel
theorem dX3_setOfLastOven_25 : decode cX3_setOfLastOven 25 = .ok (.getfield 9, 3) := by decide +kernel
theorem dX3_setOfLastOven_28 : decode cX3_setOfLastOven 28 = .ok (.iload_n 3, 1) := by decide +kernel
theorem dX3_setOfLastOven_29 : decode cX3_setOfLastOven 29 = .ok (.iload_n 2, 1) := by decide +kernel
theorem dX3_setOfLastOven_30 : decode cX3_setOfLastOven 30 = .ok (.iastore, 1) := by decide +kernel
theorem dX3_setOfLastOven_31 : decode cX3_setOfLastOven 31 = .ok (.return_, 1) := by decide +kernel
theorem dX3_setOfLastDough_0 : decode cX3_setOfLastDough 0 = .ok (.aload_n 0, 1) := by decide +kernel
theorem dX3_setOfLastDough_1 : decode cX3_setOfLastDough 1 = .ok (.getfield 22, 3) := by decide +kernel
theorem dX3_setOfLastDough_4 : decode cX3_setOfLastDough 4 = .ok (.iconst 1, 1) := by decide +kernel
theorem dX3_setOfLastDough_5 : decode cX3_setOfLastDough 5 = .ok (.isub, 1) := by decide +kernel
theorem dX3_setOfLastDough_6 : decode cX3_setOfLastDough 6 = .ok (.iconst 5, 1) := by decide +kernel
theorem dX3_setOfLastDough_7 : decode cX3_setOfLastDough 7 = .ok (.imul, 1) := by decide +kernel
theorem dX3_setOfLastDough_8 : decode cX3_setOfLastDough 8 = .ok (.iload_n 1, 1) := by decide +kernel
theorem dX3_setOfLastDough_9 : decode cX3_setOfLastDough 9 = .ok (.iadd, 1) := by decide +kernel
theorem dX3_setOfLastDough_10 : decode cX3_setOfLastDough 10 = .ok (.istore_n 3, 1) := by decide +kernel
theorem dX3_setOfLastDough_11 : decode cX3_setOfLastDough 11 = .ok (.iload_n 3, 1) := by decide +kernel
theorem dX3_setOfLastDough_12 : decode cX3_setOfLastDough 12 = .ok (.ifCond .lt 19, 3) := by decide +kernel
theorem dX3_setOfLastDough_15 : decode cX3_setOfLastDough 15 = .ok (.iload_n 3, 1) := by decide +kernel
theorem dX3_setOfLastDough_16 : decode cX3_setOfLastDough 16 = .ok (.aload_n 0, 1) := by decide +kernel
theorem dX3_setOfLastDough_17 : decode cX3_setOfLastDough 17 = .ok (.getfield 15, 3) := by decide +kernel
theorem dX3_setOfLastDough_20 : decode cX3_setOfLastDough 20 = .ok (.arraylength, 1) := by decide +kernel
theorem dX3_setOfLastDough_21 : decode cX3_setOfLastDough 21 = .ok (.if_icmp .ge 10, 3) := by decide +kernel
theorem dX3_setOfLastDough_24 : decode cX3_setOfLastDough 24 = .ok (.aload_n 0, 1) := by decide +kernel
theorem dX3_setOfLastDough_25 : decode cX3_setOfLastDough 25 = .ok (.getfield 15, 3) := by decide +kernel
theorem dX3_setOfLastDough_28 : decode cX3_setOfLastDough 28 = .ok (.iload_n 3, 1) := by decide +kernel
theorem dX3_setOfLastDough_29 : decode cX3_setOfLastDough 29 = .ok (.iload_n 2, 1) := by decide +kernel
theorem dX3_setOfLastDough_30 : decode cX3_setOfLastDough 30 = .ok (.iastore, 1) := by decide +kernel
theorem dX3_setOfLastDough_31 : decode cX3_setOfLastDough 31 = .ok (.return_, 1) := by decide +kernel
theorem dX4_init_0 : decode cX4_init 0 = .ok (.aload_n 0, 1) := by decide +kernel
theorem dX4_init_1 : decode cX4_init 1 = .ok (.invokespecial 3, 3) := by decide +kernel
theorem dX4_init_4 : decode cX4_init 4 = .ok (.aload_n 0, 1) := by decide +kernel
theorem dX4_init_5 : decode cX4_init 5 = .ok (.new 9, 3) := by decide +kernel
theorem dX4_init_8 : decode cX4_init 8 = .ok (.dup, 1) := by decide +kernel
theorem dX4_init_9 : decode cX4_init 9 = .ok (.invokespecial 11, 3) := by decide +kernel
theorem dX4_init_12 : decode cX4_init 12 = .ok (.putfield 12, 3) := by decide +kernel
theorem dX4_init_15 : decode cX4_init 15 = .ok (.aload_n 0, 1) := by decide +kernel
theorem dX4_init_16 : decode cX4_init 16 = .ok (.new 16, 3) := by decide +kernel
theorem dX4_init_19 : decode cX4_init 19 = .ok (.dup, 1) := by decide +kernel
theorem dX4_init_20 : decode cX4_init 20 = .ok (.invokespecial 18, 3) := by decide +kernel
theorem dX4_init_23 : decode cX4_init 23 = .ok (.putfield 19, 3) := by decide +kernel
theorem dX4_init_26 : decode cX4_init 26 = .ok (.aload_n 0, 1) := by decide +kernel
theorem dX4_init_27 : decode cX4_init 27 = .ok (.new 16, 3) := by decide +kernel
theorem dX4_init_30 : decode cX4_init 30 = .ok (.dup, 1) := by decide +kernel
theorem dX4_init_31 : decode cX4_init 31 = .ok (.invokespecial 18, 3) := by decide +kernel
theorem dX4_init_34 : decode cX4_init 34 = .ok (.putfield 23, 3) := by decide +kernel
theorem dX4_init_37 : decode cX4_init 37 = .ok (.aload_n 0, 1) := by decide +kernel
theorem dX4_init_38 : decode cX4_init 38 = .ok (.new 26, 3) := by decide +kernel
theorem dX4_init_41 : decode cX4_init 41 = .ok (.dup, 1) := by decide +kernel
theorem dX4_init_42 : decode cX4_init 42 = .ok (.invokespecial 28, 3) := by decide +kernel
theorem dX4_init_45 : decode cX4_init 45 = .ok (.putfield 29, 3) := by decide +kernel
theorem dX4_init_48 : decode cX4_init 48 = .ok (.aload_n 0, 1) := by decide +kernel
theorem dX4_init_49 : decode cX4_init 49 = .ok (.new 26, 3) := by decide +kernel
theorem dX4_init_52 : decode cX4_init 52 = .ok (.dup, 1) := by decide +kernel
theorem dX4_init_53 : decode cX4_init 53 = .ok (.invokespecial 28, 3) := by decide +kernel
theorem dX4_init_56 : decode cX4_init 56 = .ok (.putfield 33, 3) := by decide +kernel
theorem dX4_init_59 : decode cX4_init 59 = .ok (.aload_n 0, 1) := by decide +kernel
theorem dX4_init_60 : decode cX4_init 60 = .ok (.new 26, 3) := by decide +kernel
theorem dX4_init_63 : decode cX4_init 63 = .ok (.dup, 1) := by decide +kernel
theorem dX4_init_64 : decode cX4_init 64 = .ok (.invokespecial 28, 3) := by decide +kernel
theorem dX4_init_67 : decode cX4_init 67 = .ok (.putfield 36, 3) := by decide +kernel
theorem dX4_init_70 : decode cX4_init 70 = .ok (.aload_n 0, 1) := by decide +kernel
theorem dX4_init_71 : decode cX4_init 71 = .ok (.new 26, 3) := by decide +kernel
theorem dX4_init_74 : decode cX4_init 74 = .ok (.dup, 1) := by decide +kernel
theorem dX4_init_75 : decode cX4_init 75 = .ok (.invokespecial 28, 3) := by decide +kernel
theorem dX4_init_78 : decode cX4_init 78 = .ok (.putfield 39, 3) := by decide +kernel
theorem dX4_init_81 : decode cX4_init 81 = .ok (.aload_n 0, 1) := by decide +kernel
theorem dX4_init_82 : decode cX4_init 82 = .ok (.bipush 6, 2) := by decide +kernel
theorem dX4_init_84 : decode cX4_init 84 = .ok (.newarray .int, 2) := by decide +kernel
theorem dX4_init_86 : decode cX4_init 86 = .ok (.putfield 42, 3) := by decide +kernel
theorem dX4_init_89 : decode cX4_init 89 = .ok (.aload_n 0, 1) := by decide +kernel
theorem dX4_init_90 : decode cX4_init 90 = .ok (.bipush 6, 2) := by decide +kernel
theorem dX4_init_92 : decode cX4_init 92 = .ok (.newarray .int, 2) := by decide +kernel
theorem dX4_init_94 : decode cX4_init 94 = .ok (.putfield 46, 3) := by decide +kernel
theorem dX4_init_97 : decode cX4_init 97 = .ok (.aload_n 0, 1) := by decide +kernel
theorem dX4_init_98 : decode cX4_init 98 = .ok (.new 49, 3) := by decide +kernel
theorem dX4_init_101 : decode cX4_init 101 = .ok (.dup, 1) := by decide +kernel
theorem dX4_init_102 : decode cX4_init 102 = .ok (.invokespecial 51, 3) := by decide +kernel
theorem dX4_init_105 : decode cX4_init 105 = .ok (.putfield 52, 3) := by decide +kernel
theorem dX4_init_108 : decode cX4_init 108 = .ok (.return_, 1) := by decide +kernel
theorem dX4_type_0 : decode cX4_type 0 = .ok (.iload_n 1, 1) := by decide +kernel
theorem dX4_type_1 : decode cX4_type 1 = .ok (.ifCond .lt 10, 3) := by decide +kernel
theorem dX4_type_4 : decode cX4_type 4 = .ok (.iload_n 1, 1) := by decide +kernel
theorem dX4_type_5 : decode cX4_type 5 = .ok (.sipush 255, 3) := by decide +kernel
theorem dX4_type_8 : decode cX4_type 8 = .ok (.if_icmp .le 5, 3) := by decide +kernel
theorem dX4_type_11 : decode cX4_type 11 = .ok (.iconst (-1), 1) := by decide +kernel
theorem dX4_type_12 : decode cX4_type 12 = .ok (.ireturn, 1) := by decide +kernel
theorem dX4_type_13 : decode cX4_type 13 = .ok (.aload_n 0, 1) := by decide +kernel
theorem dX4_type_14 : decode cX4_type 14 = .ok (.getfield 12, 3) := by decide +kernel
theorem dX4_type_17 : decode cX4_type 17 = .ok (.iload_n 1, 1) := by decide +kernel
theorem dX4_type_18 : decode cX4_type 18 = .ok (.invokevirtual 56, 3) := by decide +kernel
theorem dX4_type_21 : decode cX4_type 21 = .ok (.ifCond .eq 13, 3) := by decide +kernel
theorem dX4_type_24 : decode cX4_type 24 = .ok (.aload_n 0, 1) := by decide +kernel
theorem dX4_type_25 : decode cX4_type 25 = .ok (.getfield 12, 3) := by decide +kernel
theorem dX4_type_28 : decode cX4_type 28 = .ok (.invokevirtual 60, 3) := by decide +kernel
theorem dX4_type_31 : decode cX4_type 31 = .ok (.goto 5, 3) := by decide +kernel
theorem dX4_type_34 : decode cX4_type 34 = .ok (.bipush (-3), 2) := by decide +kernel
theorem dX4_type_36 : decode cX4_type 36 = .ok (.ireturn, 1) := by decide +kernel
theorem dX4_clear_0 : decode cX4_clear 0 = .ok (.aload_n 0, 1) := by decide +kernel
theorem dX4_clear_1 : decode cX4_clear 1 = .ok (.getfield 12, 3) := by decide +kernel
theorem dX4_clear_4 : decode cX4_clear 4 = .ok (.invokevirtual 60, 3) := by decide +kernel
theorem dX4_clear_7 : decode cX4_clear 7 = .ok (.istore_n 1, 1) := by decide +kernel
theorem dX4_clear_8 : decode cX4_clear 8 = .ok (.aload_n 0, 1) := by decide +kernel
theorem dX4_clear_9 : decode cX4_clear 9 = .ok (.getfield 12, 3) := by decide +kernel
theorem dX4_clear_12 : decode cX4_clear 12 = .ok (.invokevirtual 64, 3) := by decide +kernel
theorem dX4_clear_15 : decode cX4_clear 15 = .ok (.iload_n 1, 1) := by decide +kernel
theorem dX4_clear_16 : decode cX4_clear 16 = .ok (.ireturn, 1) := by decide +kernel
theorem dX4_quarter_0 : decode cX4_quarter 0 = .ok (.aload_n 0, 1) := by decide +kernel
theorem dX4_quarter_1 : decode cX4_quarter 1 = .ok (.getfield 12, 3) := by decide +kernel
theorem dX4_quarter_4 : decode cX4_quarter 4 = .ok (.aload_n 0, 1) := by decide +kernel
theorem dX4_quarter_5 : decode cX4_quarter 5 = .ok (.getfield 23, 3) := by decide +kernel
theorem dX4_quarter_8 : decode cX4_quarter 8 = .ok (.invokevirtual 67, 3) := by decide +kernel
theorem dX4_quarter_11 : decode cX4_quarter 11 = .ok (.istore_n 1, 1) := by decide +kernel
theorem dX4_quarter_12 : decode cX4_quarter 12 = .ok (.iload_n 1, 1) := by decide +kernel
theorem dX4_quarter_13 : decode cX4_quarter 13 = .ok (.ifCond .ge 5, 3) := by decide +kernel
theorem dX4_quarter_16 : decode cX4_quarter 16 = .ok (.iload_n 1, 1) := by decide +kernel
theorem dX4_quarter_17 : decode cX4_quarter 17 = .ok (.ireturn, 1) := by decide +kernel
theorem dX4_quarter_18 : decode cX4_quarter 18 = .ok (.aload_n 0, 1) := by decide +kernel
theorem dX4_quarter_19 : decode cX4_quarter 19 = .ok (.getfield 19, 3) := by decide +kernel
theorem dX4_quarter_22 : decode cX4_quarter 22 = .ok (.astore_n 2, 1) := by decide +kernel
theorem dX4_quarter_23 : decode cX4_quarter 23 = .ok (.aload_n 0, 1) := by decide +kernel
theorem dX4_quarter_24 : decode cX4_quarter 24 = .ok (.aload_n 0, 1) := by decide +kernel
theorem dX4_quarter_25 : decode cX4_quarter 25 = .ok (.getfield 23, 3) := by decide +kernel
theorem dX4_quarter_28 : decode cX4_quarter 28 = .ok (.putfield 19, 3) := by decide +kernel
theorem dX4_quarter_31 : decode cX4_quarter 31 = .ok (.aload_n 0, 1) := by decide +kernel
theorem dX4_quarter_32 : decode cX4_quarter 32 = .ok (.aload_n 2, 1) := by decide +kernel
theorem dX4_quarter_33 : decode cX4_quarter 33 = .ok (.putfield 23, 3) := by decide +kernel
theorem dX4_quarter_36 : decode cX4_quarter 36 = .ok (.aload_n 0, 1) := by decide +kernel
theorem dX4_quarter_37 : decode cX4_quarter 37 = .ok (.getfield 12, 3) := by decide +kernel
theorem dX4_quarter_40 : decode cX4_quarter 40 = .ok (.invokevirtual 64, 3) := by decide +kernel
theorem dX4_quarter_43 : decode cX4_quarter 43 = .ok (.aload_n 0, 1) := by decide +kernel
theorem dX4_quarter_44 : decode cX4_quarter 44 = .ok (.getfield 29, 3) := by decide +kernel
theorem dX4_quarter_47 : decode cX4_quarter 47 = .ok (.invokevirtual 71, 3) := by decide +kernel
theorem dX4_quarter_50 : decode cX4_quarter 50 = .ok (.aload_n 0, 1) := by decide +kernel
theorem dX4_quarter_51 : decode cX4_quarter 51 = .ok (.iconst 0, 1) := by decide +kernel
theorem dX4_quarter_52 : decode cX4_quarter 52 = .ok (.putfield 74, 3) := by decide +kernel
theorem dX4_quarter_55 : decode cX4_quarter 55 = .ok (.aload_n 0, 1) := by decide +kernel
theorem dX4_quarter_56 : decode cX4_quarter 56 = .ok (.iconst 0, 1) := by decide +kernel
theorem dX4_quarter_57 : decode cX4_quarter 57 = .ok (.putfield 78, 3) := by decide +kernel
theorem dX4_quarter_60 : decode cX4_quarter 60 = .ok (.iload_n 1, 1) := by decide +kernel
theorem dX4_quarter_61 : decode cX4_quarter 61 = .ok (.ireturn, 1) := by decide +kernel
theorem dX4_oven_0 : decode cX4_oven 0 = .ok (.aload_n 0, 1) := by decide +kernel
theorem dX4_oven_1 : decode cX4_oven 1 = .ok (.getfield 19, 3) := by decide +kernel
theorem dX4_oven_4 : decode cX4_oven 4 = .ok (.iload_n 1, 1) := by decide +kernel
theorem dX4_oven_5 : decode cX4_oven 5 = .ok (.invokevirtual 81, 3) := by decide +kernel
theorem dX4_oven_8 : decode cX4_oven 8 = .ok (.ifCond .ne 6, 3) := by decide +kernel
theorem dX4_oven_11 : decode cX4_oven 11 = .ok (.ldc 84, 2) := by decide +kernel
theorem dX4_oven_13 : decode cX4_oven 13 = .ok (.ireturn, 1) := by decide +kernel
theorem dX4_oven_14 : decode cX4_oven 14 = .ok (.iload_n 2, 1) := by decide +kernel
theorem dX4_oven_15 : decode cX4_oven 15 = .ok (.tableswitch 99 0 4 #[33, 43, 56, 69, 82], 33) := by decide +kernel
theorem dX4_oven_48 : decode cX4_oven 48 = .ok (.aload_n 0, 1) := by decide +kernel
theorem dX4_oven_49 : decode cX4_oven 49 = .ok (.getfield 19, 3) := by decide +kernel
theorem dX4_oven_52 : decode cX4_oven 52 = .ok (.iload_n 1, 1) := by decide +kernel
theorem dX4_oven_53 : decode cX4_oven 53 = .ok (.iconst 0, 1) := by decide +kernel
theorem dX4_oven_54 : decode cX4_oven 54 = .ok (.invokevirtual 85, 3) := by decide +kernel
theorem dX4_oven_57 : decode cX4_oven 57 = .ok (.ireturn, 1) := by decide +kernel
theorem dX4_oven_58 : decode cX4_oven 58 = .ok (.aload_n 0, 1) := by decide +kernel
theorem dX4_oven_59 : decode cX4_oven 59 = .ok (.getfield 19, 3) := by decide +kernel
theorem dX4_oven_62 : decode cX4_oven 62 = .ok (.iload_n 1, 1) := by decide +kernel
theorem dX4_oven_63 : decode cX4_oven 63 = .ok (.iconst 1, 1) := by decide +kernel
theorem dX4_oven_64 : decode cX4_oven 64 = .ok (.invokevirtual 85, 3) := by decide +kernel
theorem dX4_oven_67 : decode cX4_oven 67 = .ok (.bipush 9, 2) := by decide +kernel
theorem dX4_oven_69 : decode cX4_oven 69 = .ok (.isub, 1) := by decide +kernel
theorem dX4_oven_70 : decode cX4_oven 70 = .ok (.ireturn, 1) := by decide +kernel
theorem dX4_oven_71 : decode cX4_oven 71 = .ok (.aload_n 0, 1) := by decide +kernel
theorem dX4_oven_72 : decode cX4_oven 72 = .ok (.getfield 29, 3) := by decide +kernel
theorem dX4_oven_75 : decode cX4_oven 75 = .ok (.aload_n 0, 1) := by decide +kernel
theorem dX4_oven_76 : decode cX4_oven 76 = .ok (.getfield 19, 3) := by decide +kernel
theorem dX4_oven_79 : decode cX4_oven 79 = .ok (.iload_n 1, 1) := by decide +kernel
theorem dX4_oven_80 : decode cX4_oven 80 = .ok (.invokevirtual 89, 3) := by decide +kernel
theorem dX4_oven_83 : decode cX4_oven 83 = .ok (.ireturn, 1) := by decide +kernel
theorem dX4_oven_84 : decode cX4_oven 84 = .ok (.aload_n 0, 1) := by decide +kernel
theorem dX4_oven_85 : decode cX4_oven 85 = .ok (.getfield 29, 3) := by decide +kernel
theorem dX4_oven_88 : decode cX4_oven 88 = .ok (.aload_n 0, 1) := by decide +kernel
theorem dX4_oven_89 : decode cX4_oven 89 = .ok (.getfield 19, 3) := by decide +kernel
theorem dX4_oven_92 : decode cX4_oven 92 = .ok (.iload_n 1, 1) := by decide +kernel
theorem dX4_oven_93 : decode cX4_oven 93 = .ok (.invokevirtual 93, 3) := by decide +kernel
theorem dX4_oven_96 : decode cX4_oven 96 = .ok (.ireturn, 1) := by decide +kernel
theorem dX4_oven_97 : decode cX4_oven 97 = .ok (.aload_n 0, 1) := by decide +kernel
theorem dX4_oven_98 : decode cX4_oven 98 = .ok (.getfield 29, 3) := by decide +kernel
theorem dX4_oven_101 : decode cX4_oven 101 = .ok (.iload_n 1, 1) := by decide +kernel
theorem dX4_oven_102 : decode cX4_oven 102 = .ok (.invokevirtual 96, 3) := by decide +kernel
theorem dX4_oven_105 : decode cX4_oven 105 = .ok (.ifCond .eq 7, 3) := by decide +kernel
theorem dX4_oven_108 : decode cX4_oven 108 = .ok (.iconst 1, 1) := by decide +kernel
theorem dX4_oven_109 : decode cX4_oven 109 = .ok (.goto 4, 3) := by decide +kernel
theorem dX4_oven_112 : decode cX4_oven 112 = .ok (.iconst 0, 1) := by decide +kernel
theorem dX4_oven_113 : decode cX4_oven 113 = .ok (.ireturn, 1) := by decide +kernel
theorem dX4_oven_114 : decode cX4_oven 114 = .ok (.ldc 84, 2) := by decide +kernel
theorem dX4_oven_116 : decode cX4_oven 116 = .ok (.ireturn, 1) := by decide +kernel
theorem dX4_dough_0 : decode cX4_dough 0 = .ok (.aload_n 0, 1) := by decide +kernel
theorem dX4_dough_1 : decode cX4_dough 1 = .ok (.getfield 19, 3) := by decide +kernel
theorem dX4_dough_4 : decode cX4_dough 4 = .ok (.iload_n 1, 1) := by decide +kernel
theorem dX4_dough_5 : decode cX4_dough 5 = .ok (.invokevirtual 99, 3) := by decide +kernel
theorem dX4_dough_8 : decode cX4_dough 8 = .ok (.ifCond .ne 5, 3) := by decide +kernel
theorem dX4_dough_11 : decode cX4_dough 11 = .ok (.iconst (-1), 1) := by decide +kernel
theorem dX4_dough_12 : decode cX4_dough 12 = .ok (.ireturn, 1) := by decide +kernel
theorem dX4_dough_13 : decode cX4_dough 13 = .ok (.iload_n 2, 1) := by decide +kernel
theorem dX4_dough_14 : decode cX4_dough 14 = .ok (.tableswitch 134 0 7 #[46, 56, 66, 76, 86, 96, 105, 114], 46) := by decide +kernel
theorem dX4_dough_60 : decode cX4_dough 60 = .ok (.aload_n 0, 1) := by decide +kernel
theorem dX4_dough_61 : decode cX4_dough 61 = .ok (.getfield 19, 3) := by decide +kernel
theorem dX4_dough_64 : decode cX4_dough 64 = .ok (.iload_n 1, 1) := by decide +kernel
theorem dX4_dough_65 : decode cX4_dough 65 = .ok (.iconst 0, 1) := by decide +kernel
theorem dX4_dough_66 : decode cX4_dough 66 = .ok (.invokevirtual 102, 3) := by decide +kernel
theorem dX4_dough_69 : decode cX4_dough 69 = .ok (.ireturn, 1) := by decide +kernel
theorem dX4_dough_70 : decode cX4_dough 70 = .ok (.aload_n 0, 1) := by decide +kernel
theorem dX4_dough_71 : decode cX4_dough 71 = .ok (.getfield 19, 3) := by decide +kernel
theorem dX4_dough_74 : decode cX4_dough 74 = .ok (.iload_n 1, 1) := by decide +kernel
theorem dX4_dough_75 : decode cX4_dough 75 = .ok (.iconst 1, 1) := by decide +kernel
theorem dX4_dough_76 : decode cX4_dough 76 = .ok (.invokevirtual 102, 3) := by decide +kernel
theorem dX4_dough_79 : decode cX4_dough 79 = .ok (.ireturn, 1) := by decide +kernel
theorem dX4_dough_80 : decode cX4_dough 80 = .ok (.aload_n 0, 1) := by decide +kernel
theorem dX4_dough_81 : decode cX4_dough 81 = .ok (.getfield 19, 3) := by decide +kernel
theorem dX4_dough_84 : decode cX4_dough 84 = .ok (.iload_n 1, 1) := by decide +kernel
theorem dX4_dough_85 : decode cX4_dough 85 = .ok (.iconst 2, 1) := by decide +kernel
theorem dX4_dough_86 : decode cX4_dough 86 = .ok (.invokevirtual 102, 3) := by decide +kernel
theorem dX4_dough_89 : decode cX4_dough 89 = .ok (.ireturn, 1) := by decide +kernel
theorem dX4_dough_90 : decode cX4_dough 90 = .ok (.aload_n 0, 1) := by decide +kernel
theorem dX4_dough_91 : decode cX4_dough 91 = .ok (.getfield 19, 3) := by decide +kernel
theorem dX4_dough_94 : decode cX4_dough 94 = .ok (.iload_n 1, 1) := by decide +kernel
theorem dX4_dough_95 : decode cX4_dough 95 = .ok (.iconst 3, 1) := by decide +kernel
theorem dX4_dough_96 : decode cX4_dough 96 = .ok (.invokevirtual 102, 3) := by decide +kernel
theorem dX4_dough_99 : decode cX4_dough 99 = .ok (.ireturn, 1) := by decide +kernel
theorem dX4_dough_100 : decode cX4_dough 100 = .ok (.aload_n 0, 1) := by decide +kernel
theorem dX4_dough_101 : decode cX4_dough 101 = .ok (.getfield 19, 3) := by decide +kernel
theorem dX4_dough_104 : decode cX4_dough 104 = .ok (.iload_n 1, 1) := by decide +kernel
theorem dX4_dough_105 : decode cX4_dough 105 = .ok (.iconst 4, 1) := by decide +kernel
theorem dX4_dough_106 : decode cX4_dough 106 = .ok (.invokevirtual 102, 3) := by decide +kernel
theorem dX4_dough_109 : decode cX4_dough 109 = .ok (.ireturn, 1) := by decide +kernel
theorem dX4_dough_110 : decode cX4_dough 110 = .ok (.aload_n 0, 1) := by decide +kernel
theorem dX4_dough_111 : decode cX4_dough 111 = .ok (.getfield 29, 3) := by decide +kernel
theorem dX4_dough_114 : decode cX4_dough 114 = .ok (.iload_n 1, 1) := by decide +kernel
theorem dX4_dough_115 : decode cX4_dough 115 = .ok (.invokevirtual 105, 3) := by decide +kernel
theorem dX4_dough_118 : decode cX4_dough 118 = .ok (.ireturn, 1) := by decide +kernel
theorem dX4_dough_119 : decode cX4_dough 119 = .ok (.aload_n 0, 1) := by decide +kernel
theorem dX4_dough_120 : decode cX4_dough 120 = .ok (.getfield 29, 3) := by decide +kernel
theorem dX4_dough_123 : decode cX4_dough 123 = .ok (.iload_n 1, 1) := by decide +kernel
theorem dX4_dough_124 : decode cX4_dough 124 = .ok (.invokevirtual 109, 3) := by decide +kernel
theorem dX4_dough_127 : decode cX4_dough 127 = .ok (.ireturn, 1) := by decide +kernel
theorem dX4_dough_128 : decode cX4_dough 128 = .ok (.aload_n 0, 1) := by decide +kernel
theorem dX4_dough_129 : decode cX4_dough 129 = .ok (.iload_n 1, 1) := by decide +kernel
theorem dX4_dough_130 : decode cX4_dough 130 = .ok (.invokevirtual 112, 3) := by decide +kernel
theorem dX4_dough_133 : decode cX4_dough 133 = .ok (.ifCond .eq 12, 3) := by decide +kernel
theorem dX4_dough_136 : decode cX4_dough 136 = .ok (.aload_n 0, 1) := by decide +kernel
theorem dX4_dough_137 : decode cX4_dough 137 = .ok (.iload_n 1, 1) := by decide +kernel
theorem dX4_dough_138 : decode cX4_dough 138 = .ok (.iconst (-1), 1) := by decide +kernel
theorem dX4_dough_139 : decode cX4_dough 139 = .ok (.invokevirtual 115, 3) := by decide +kernel
theorem dX4_dough_142 : decode cX4_dough 142 = .ok (.goto 5, 3) := by decide +kernel
theorem dX4_dough_145 : decode cX4_dough 145 = .ok (.bipush (-9), 2) := by decide +kernel
theorem dX4_dough_147 : decode cX4_dough 147 = .ok (.ireturn, 1) := by decide +kernel
theorem dX4_dough_148 : decode cX4_dough 148 = .ok (.iconst (-1), 1) := by decide +kernel
theorem dX4_dough_149 : decode cX4_dough 149 = .ok (.ireturn, 1) := by decide +kernel
theorem dX4_smell_0 : decode cX4_smell 0 = .ok (.aload_n 0, 1) := by decide +kernel
theorem dX4_smell_1 : decode cX4_smell 1 = .ok (.getfield 19, 3) := by decide +kernel
theorem dX4_smell_4 : decode cX4_smell 4 = .ok (.iload_n 1, 1) := by decide +kernel
theorem dX4_smell_5 : decode cX4_smell 5 = .ok (.invokevirtual 81, 3) := by decide +kernel
theorem dX4_smell_8 : decode cX4_smell 8 = .ok (.ifCond .eq 14, 3) := by decide +kernel
theorem dX4_smell_11 : decode cX4_smell 11 = .ok (.aload_n 0, 1) := by decide +kernel
theorem dX4_smell_12 : decode cX4_smell 12 = .ok (.getfield 19, 3) := by decide +kernel
theorem dX4_smell_15 : decode cX4_smell 15 = .ok (.iload_n 2, 1) := by decide +kernel
theorem dX4_smell_16 : decode cX4_smell 16 = .ok (.invokevirtual 99, 3) := by decide +kernel
theorem dX4_smell_19 : decode cX4_smell 19 = .ok (.ifCond .ne 6, 3) := by decide +kernel
theorem dX4_smell_22 : decode cX4_smell 22 = .ok (.ldc 84, 2) := by decide +kernel
theorem dX4_smell_24 : decode cX4_smell 24 = .ok (.ireturn, 1) := by decide +kernel
theorem dX4_smell_25 : decode cX4_smell 25 = .ok (.aload_n 0, 1) := by decide +kernel
theorem dX4_smell_26 : decode cX4_smell 26 = .ok (.iload_n 1, 1) := by decide +kernel
theorem dX4_smell_27 : decode cX4_smell 27 = .ok (.iload_n 2, 1) := by decide +kernel
theorem dX4_smell_28 : decode cX4_smell 28 = .ok (.iconst (-1), 1) := by decide +kernel
theorem dX4_smell_29 : decode cX4_smell 29 = .ok (.invokevirtual 118, 3) := by decide +kernel
theorem dX4_smell_32 : decode cX4_smell 32 = .ok (.ireturn, 1) := by decide +kernel
theorem dX4_follows_0 : decode cX4_follows 0 = .ok (.aload_n 0, 1) := by decide +kernel
theorem dX4_follows_1 : decode cX4_follows 1 = .ok (.getfield 19, 3) := by decide +kernel
theorem dX4_follows_4 : decode cX4_follows 4 = .ok (.iload_n 1, 1) := by decide +kernel
theorem dX4_follows_5 : decode cX4_follows 5 = .ok (.invokevirtual 99, 3) := by decide +kernel
theorem dX4_follows_8 : decode cX4_follows 8 = .ok (.ifCond .ne 5, 3) := by decide +kernel
theorem dX4_follows_11 : decode cX4_follows 11 = .ok (.iconst (-1), 1) := by decide +kernel
theorem dX4_follows_12 : decode cX4_follows 12 = .ok (.ireturn, 1) := by decide +kernel
theorem dX4_follows_13 : decode cX4_follows 13 = .ok (.aload_n 0, 1) := by decide +kernel
theorem dX4_follows_14 : decode cX4_follows 14 = .ok (.iload_n 1, 1) := by decide +kernel
theorem dX4_follows_15 : decode cX4_follows 15 = .ok (.iconst (-1), 1) := by decide +kernel
theorem dX4_follows_16 : decode cX4_follows 16 = .ok (.invokevirtual 115, 3) := by decide +kernel
theorem dX4_follows_19 : decode cX4_follows 19 = .ok (.istore_n 2, 1) := by decide +kernel
theorem dX4_follows_20 : decode cX4_follows 20 = .ok (.aload_n 0, 1) := by decide +kernel
theorem dX4_follows_21 : decode cX4_follows 21 = .ok (.iload_n 1, 1) := by decide +kernel
theorem dX4_follows_22 : decode cX4_follows 22 = .ok (.invokevirtual 122, 3) := by decide +kernel
theorem dX4_follows_25 : decode cX4_follows 25 = .ok (.ifCond .eq 9, 3) := by decide +kernel
theorem dX4_follows_28 : decode cX4_follows 28 = .ok (.iload_n 2, 1) := by decide +kernel
theorem dX4_follows_29 : decode cX4_follows 29 = .ok (.bipush (-9), 2) := by decide +kernel
theorem dX4_follows_31 : decode cX4_follows 31 = .ok (.if_icmp .ne 6, 3) := by decide +kernel
theorem dX4_follows_34 : decode cX4_follows 34 = .ok (.bipush (-2), 2) := by decide +kernel
theorem dX4_follows_36 : decode cX4_follows 36 = .ok (.ireturn, 1) := by decide +kernel
theorem dX4_follows_37 : decode cX4_follows 37 = .ok (.aload_n 0, 1) := by decide +kernel
theorem dX4_follows_38 : decode cX4_follows 38 = .ok (.getfield 29, 3) := by decide +kernel
theorem dX4_follows_41 : decode cX4_follows 41 = .ok (.invokevirtual 125, 3) := by decide +kernel
theorem dX4_follows_44 : decode cX4_follows 44 = .ok (.aload_n 0, 1) := by decide +kernel
theorem dX4_follows_45 : decode cX4_follows 45 = .ok (.getfield 29, 3) := by decide +kernel
theorem dX4_follows_48 : decode cX4_follows 48 = .ok (.iload_n 1, 1) := by decide +kernel
theorem dX4_follows_49 : decode cX4_follows 49 = .ok (.iload_n 2, 1) := by decide +kernel
theorem dX4_follows_50 : decode cX4_follows 50 = .ok (.invokevirtual 128, 3) := by decide +kernel
theorem dX4_follows_53 : decode cX4_follows 53 = .ok (.iload_n 2, 1) := by decide +kernel
theorem dX4_follows_54 : decode cX4_follows 54 = .ok (.ireturn, 1) := by decide +kernel
theorem dX4_puts_0 : decode cX4_puts 0 = .ok (.aload_n 0, 1) := by decide +kernel
theorem dX4_puts_1 : decode cX4_puts 1 = .ok (.getfield 19, 3) := by decide +kernel
theorem dX4_puts_4 : decode cX4_puts 4 = .ok (.iload_n 1, 1) := by decide +kernel
theorem dX4_puts_5 : decode cX4_puts 5 = .ok (.invokevirtual 99, 3) := by decide +kernel
theorem dX4_puts_8 : decode cX4_puts 8 = .ok (.ifCond .eq 14, 3) := by decide +kernel
theorem dX4_puts_11 : decode cX4_puts 11 = .ok (.aload_n 0, 1) := by decide +kernel
theorem dX4_puts_12 : decode cX4_puts 12 = .ok (.getfield 19, 3) := by decide +kernel
theorem dX4_puts_15 : decode cX4_puts 15 = .ok (.iload_n 2, 1) := by decide +kernel
theorem dX4_puts_16 : decode cX4_puts 16 = .ok (.invokevirtual 81, 3) := by decide +kernel
theorem dX4_puts_19 : decode cX4_puts 19 = .ok (.ifCond .ne 5, 3) := by decide +kernel
theorem dX4_puts_22 : decode cX4_puts 22 = .ok (.iconst (-1), 1) := by decide +kernel
theorem dX4_puts_23 : decode cX4_puts 23 = .ok (.ireturn, 1) := by decide +kernel
theorem dX4_puts_24 : decode cX4_puts 24 = .ok (.aload_n 0, 1) := by decide +kernel
theorem dX4_puts_25 : decode cX4_puts 25 = .ok (.iload_n 1, 1) := by decide +kernel
theorem dX4_puts_26 : decode cX4_puts 26 = .ok (.invokevirtual 122, 3) := by decide +kernel
theorem dX4_puts_29 : decode cX4_puts 29 = .ok (.ifCond .eq 14, 3) := by decide +kernel
theorem dX4_puts_32 : decode cX4_puts 32 = .ok (.aload_n 0, 1) := by decide +kernel
theorem dX4_puts_33 : decode cX4_puts 33 = .ok (.getfield 29, 3) := by decide +kernel
theorem dX4_puts_36 : decode cX4_puts 36 = .ok (.iload_n 2, 1) := by decide +kernel
theorem dX4_puts_37 : decode cX4_puts 37 = .ok (.invokevirtual 96, 3) := by decide +kernel
theorem dX4_puts_40 : decode cX4_puts 40 = .ok (.ifCond .eq 6, 3) := by decide +kernel
theorem dX4_puts_43 : decode cX4_puts 43 = .ok (.bipush (-2), 2) := by decide +kernel
theorem dX4_puts_45 : decode cX4_puts 45 = .ok (.ireturn, 1) := by decide +kernel
theorem dX4_puts_46 : decode cX4_puts 46 = .ok (.aload_n 0, 1) := by decide +kernel
theorem dX4_puts_47 : decode cX4_puts 47 = .ok (.getfield 29, 3) := by decide +kernel
theorem dX4_puts_50 : decode cX4_puts 50 = .ok (.invokevirtual 125, 3) := by decide +kernel
theorem dX4_puts_53 : decode cX4_puts 53 = .ok (.aload_n 0, 1) := by decide +kernel
theorem dX4_puts_54 : decode cX4_puts 54 = .ok (.getfield 29, 3) := by decide +kernel
theorem dX4_puts_57 : decode cX4_puts 57 = .ok (.iload_n 1, 1) := by decide +kernel
theorem dX4_puts_58 : decode cX4_puts 58 = .ok (.iload_n 2, 1) := by decide +kernel
theorem dX4_puts_59 : decode cX4_puts 59 = .ok (.invokevirtual 128, 3) := by decide +kernel
theorem dX4_puts_62 : decode cX4_puts 62 = .ok (.aload_n 0, 1) := by decide +kernel
theorem dX4_puts_63 : decode cX4_puts 63 = .ok (.getfield 29, 3) := by decide +kernel
theorem dX4_puts_66 : decode cX4_puts 66 = .ok (.aload_n 0, 1) := by decide +kernel
theorem dX4_puts_67 : decode cX4_puts 67 = .ok (.getfield 19, 3) := by decide +kernel
theorem dX4_puts_70 : decode cX4_puts 70 = .ok (.iload_n 2, 1) := by decide +kernel
theorem dX4_puts_71 : decode cX4_puts 71 = .ok (.invokevirtual 89, 3) := by decide +kernel
theorem dX4_puts_74 : decode cX4_puts 74 = .ok (.invokestatic 132, 3) := by decide +kernel
theorem dX4_puts_77 : decode cX4_puts 77 = .ok (.ireturn, 1) := by decide +kernel
theorem dX4_minutes_0 : decode cX4_minutes 0 = .ok (.iload_n 1, 1) := by decide +kernel
theorem dX4_minutes_1 : decode cX4_minutes 1 = .ok (.iconst 1, 1) := by decide +kernel
theorem dX4_minutes_2 : decode cX4_minutes 2 = .ok (.if_icmp .lt 9, 3) := by decide +kernel
theorem dX4_minutes_5 : decode cX4_minutes 5 = .ok (.iload_n 1, 1) := by decide +kernel
theorem dX4_minutes_6 : decode cX4_minutes 6 = .ok (.bipush 60, 2) := by decide +kernel
theorem dX4_minutes_8 : decode cX4_minutes 8 = .ok (.if_icmp .le 5, 3) := by decide +kernel
theorem dX4_minutes_11 : decode cX4_minutes 11 = .ok (.iconst (-1), 1) := by decide +kernel
theorem dX4_minutes_12 : decode cX4_minutes 12 = .ok (.ireturn, 1) := by decide +kernel
theorem dX4_minutes_13 : decode cX4_minutes 13 = .ok (.aload_n 0, 1) := by decide +kernel
theorem dX4_minutes_14 : decode cX4_minutes 14 = .ok (.getfield 29, 3) := by decide +kernel
theorem dX4_minutes_17 : decode cX4_minutes 17 = .ok (.invokevirtual 137, 3) := by decide +kernel
theorem dX4_minutes_20 : decode cX4_minutes 20 = .ok (.iload_n 1, 1) := by decide +kernel
theorem dX4_minutes_21 : decode cX4_minutes 21 = .ok (.iadd, 1) := by decide +kernel
theorem dX4_minutes_22 : decode cX4_minutes 22 = .ok (.sipush 999, 3) := by decide +kernel
theorem dX4_minutes_25 : decode cX4_minutes 25 = .ok (.if_icmp .le 6, 3) := by decide +kernel
theorem dX4_minutes_28 : decode cX4_minutes 28 = .ok (.bipush (-2), 2) := by decide +kernel
theorem dX4_minutes_30 : decode cX4_minutes 30 = .ok (.ireturn, 1) := by decide +kernel
theorem dX4_minutes_31 : decode cX4_minutes 31 = .ok (.aload_n 0, 1) := by decide +kernel
theorem dX4_minutes_32 : decode cX4_minutes 32 = .ok (.getfield 29, 3) := by decide +kernel
theorem dX4_minutes_35 : decode cX4_minutes 35 = .ok (.aload_n 0, 1) := by decide +kernel
theorem dX4_minutes_36 : decode cX4_minutes 36 = .ok (.getfield 19, 3) := by decide +kernel
theorem dX4_minutes_39 : decode cX4_minutes 39 = .ok (.bipush (-5), 2) := by decide +kernel
theorem dX4_minutes_41 : decode cX4_minutes 41 = .ok (.invokevirtual 89, 3) := by decide +kernel
theorem dX4_minutes_44 : decode cX4_minutes 44 = .ok (.invokestatic 132, 3) := by decide +kernel
theorem dX4_minutes_47 : decode cX4_minutes 47 = .ok (.istore_n 2, 1) := by decide +kernel
theorem dX4_minutes_48 : decode cX4_minutes 48 = .ok (.aload_n 0, 1) := by decide +kernel
theorem dX4_minutes_49 : decode cX4_minutes 49 = .ok (.getfield 29, 3) := by decide +kernel
theorem dX4_minutes_52 : decode cX4_minutes 52 = .ok (.invokevirtual 125, 3) := by decide +kernel
theorem dX4_minutes_55 : decode cX4_minutes 55 = .ok (.iconst 0, 1) := by decide +kernel
theorem dX4_minutes_56 : decode cX4_minutes 56 = .ok (.istore_n 3, 1) := by decide +kernel
theorem dX4_minutes_57 : decode cX4_minutes 57 = .ok (.iload_n 3, 1) := by decide +kernel
theorem dX4_minutes_58 : decode cX4_minutes 58 = .ok (.iload_n 1, 1) := by decide +kernel
theorem dX4_minutes_59 : decode cX4_minutes 59 = .ok (.if_icmp .ge 20, 3) := by decide +kernel
theorem dX4_minutes_62 : decode cX4_minutes 62 = .ok (.aload_n 0, 1) := by decide +kernel
theorem dX4_minutes_63 : decode cX4_minutes 63 = .ok (.getfield 29, 3) := by decide +kernel
theorem dX4_minutes_66 : decode cX4_minutes 66 = .ok (.aload_n 0, 1) := by decide +kernel
theorem dX4_minutes_67 : decode cX4_minutes 67 = .ok (.getfield 19, 3) := by decide +kernel
theorem dX4_minutes_70 : decode cX4_minutes 70 = .ok (.invokevirtual 140, 3) := by decide +kernel
theorem dX4_minutes_73 : decode cX4_minutes 73 = .ok (.iinc 3 1, 3) := by decide +kernel
theorem dX4_minutes_76 : decode cX4_minutes 76 = .ok (.goto (-19), 3) := by decide +kernel
theorem dX4_minutes_79 : decode cX4_minutes 79 = .ok (.aload_n 0, 1) := by decide +kernel
theorem dX4_minutes_80 : decode cX4_minutes 80 = .ok (.getfield 29, 3) := by decide +kernel
theorem dX4_minutes_83 : decode cX4_minutes 83 = .ok (.aload_n 0, 1) := by decide +kernel
theorem dX4_minutes_84 : decode cX4_minutes 84 = .ok (.getfield 19, 3) := by decide +kernel
theorem dX4_minutes_87 : decode cX4_minutes 87 = .ok (.bipush (-5), 2) := by decide +kernel
theorem dX4_minutes_89 : decode cX4_minutes 89 = .ok (.invokevirtual 89, 3) := by decide +kernel
theorem dX4_minutes_92 : decode cX4_minutes 92 = .ok (.invokestatic 132, 3) := by decide +kernel
theorem dX4_minutes_95 : decode cX4_minutes 95 = .ok (.iload_n 2, 1) := by decide +kernel
theorem dX4_minutes_96 : decode cX4_minutes 96 = .ok (.isub, 1) := by decide +kernel
theorem dX4_minutes_97 : decode cX4_minutes 97 = .ok (.ireturn, 1) := by decide +kernel
theorem dX4_shuts_0 : decode cX4_shuts 0 = .ok (.aload_n 0, 1) := by decide +kernel
theorem dX4_shuts_1 : decode cX4_shuts 1 = .ok (.getfield 19, 3) := by decide +kernel
theorem dX4_shuts_4 : decode cX4_shuts 4 = .ok (.iload_n 1, 1) := by decide +kernel
theorem dX4_shuts_5 : decode cX4_shuts 5 = .ok (.invokevirtual 81, 3) := by decide +kernel
theorem dX4_shuts_8 : decode cX4_shuts 8 = .ok (.ifCond .eq 12, 3) := by decide +kernel
theorem dX4_shuts_11 : decode cX4_shuts 11 = .ok (.iload_n 2, 1) := by decide +kernel
theorem dX4_shuts_12 : decode cX4_shuts 12 = .ok (.ifCond .eq 10, 3) := by decide +kernel
theorem dX4_shuts_15 : decode cX4_shuts 15 = .ok (.iload_n 2, 1) := by decide +kernel
theorem dX4_shuts_16 : decode cX4_shuts 16 = .ok (.iconst 1, 1) := by decide +kernel
theorem dX4_shuts_17 : decode cX4_shuts 17 = .ok (.if_icmp .eq 5, 3) := by decide +kernel
theorem dX4_shuts_20 : decode cX4_shuts 20 = .ok (.iconst (-1), 1) := by decide +kernel
theorem dX4_shuts_21 : decode cX4_shuts 21 = .ok (.ireturn, 1) := by decide +kernel
theorem dX4_shuts_22 : decode cX4_shuts 22 = .ok (.aload_n 0, 1) := by decide +kernel
theorem dX4_shuts_23 : decode cX4_shuts 23 = .ok (.getfield 29, 3) := by decide +kernel
theorem dX4_shuts_26 : decode cX4_shuts 26 = .ok (.iload_n 1, 1) := by decide +kernel
theorem dX4_shuts_27 : decode cX4_shuts 27 = .ok (.invokevirtual 96, 3) := by decide +kernel
theorem dX4_shuts_30 : decode cX4_shuts 30 = .ok (.iload_n 2, 1) := by decide +kernel
theorem dX4_shuts_31 : decode cX4_shuts 31 = .ok (.iconst 1, 1) := by decide +kernel
theorem dX4_shuts_32 : decode cX4_shuts 32 = .ok (.if_icmp .ne 7, 3) := by decide +kernel
theorem dX4_shuts_35 : decode cX4_shuts 35 = .ok (.iconst 1, 1) := by decide +kernel
theorem dX4_shuts_36 : decode cX4_shuts 36 = .ok (.goto 4, 3) := by decide +kernel
theorem dX4_shuts_39 : decode cX4_shuts 39 = .ok (.iconst 0, 1) := by decide +kernel
theorem dX4_shuts_40 : decode cX4_shuts 40 = .ok (.if_icmp .ne 6, 3) := by decide +kernel
theorem dX4_shuts_43 : decode cX4_shuts 43 = .ok (.bipush (-2), 2) := by decide +kernel
theorem dX4_shuts_45 : decode cX4_shuts 45 = .ok (.ireturn, 1) := by decide +kernel
theorem dX4_shuts_46 : decode cX4_shuts 46 = .ok (.aload_n 0, 1) := by decide +kernel
theorem dX4_shuts_47 : decode cX4_shuts 47 = .ok (.getfield 29, 3) := by decide +kernel
theorem dX4_shuts_50 : decode cX4_shuts 50 = .ok (.invokevirtual 125, 3) := by decide +kernel
theorem dX4_shuts_53 : decode cX4_shuts 53 = .ok (.aload_n 0, 1) := by decide +kernel
theorem dX4_shuts_54 : decode cX4_shuts 54 = .ok (.getfield 29, 3) := by decide +kernel
theorem dX4_shuts_57 : decode cX4_shuts 57 = .ok (.iload_n 1, 1) := by decide +kernel
theorem dX4_shuts_58 : decode cX4_shuts 58 = .ok (.invokevirtual 144, 3) := by decide +kernel
theorem dX4_shuts_61 : decode cX4_shuts 61 = .ok (.aload_n 0, 1) := by decide +kernel
theorem dX4_shuts_62 : decode cX4_shuts 62 = .ok (.getfield 29, 3) := by decide +kernel
theorem dX4_shuts_65 : decode cX4_shuts 65 = .ok (.invokevirtual 148, 3) := by decide +kernel
theorem dX4_shuts_68 : decode cX4_shuts 68 = .ok (.invokestatic 132, 3) := by decide +kernel
theorem dX4_shuts_71 : decode cX4_shuts 71 = .ok (.ireturn, 1) := by decide +kernel
theorem dX4_undo_0 : decode cX4_undo 0 = .ok (.aload_n 0, 1) := by decide +kernel
theorem dX4_undo_1 : decode cX4_undo 1 = .ok (.getfield 29, 3) := by decide +kernel
theorem dX4_undo_4 : decode cX4_undo 4 = .ok (.invokevirtual 151, 3) := by decide +kernel
theorem dX4_undo_7 : decode cX4_undo 7 = .ok (.ifCond .eq 13, 3) := by decide +kernel
theorem dX4_undo_10 : decode cX4_undo 10 = .ok (.aload_n 0, 1) := by decide +kernel
theorem dX4_undo_11 : decode cX4_undo 11 = .ok (.getfield 29, 3) := by decide +kernel
theorem dX4_undo_14 : decode cX4_undo 14 = .ok (.invokevirtual 155, 3) := by decide +kernel
theorem dX4_undo_17 : decode cX4_undo 17 = .ok (.goto 5, 3) := by decide +kernel
theorem dX4_undo_20 : decode cX4_undo 20 = .ok (.bipush (-2), 2) := by decide +kernel
theorem dX4_undo_22 : decode cX4_undo 22 = .ok (.ireturn, 1) := by decide +kernel
theorem dX4_now_0 : decode cX4_now 0 = .ok (.iload_n 1, 1) := by decide +kernel
theorem dX4_now_1 : decode cX4_now 1 = .ok (.tableswitch 84 0 4 #[35, 43, 57, 71, 76], 35) := by decide +kernel
theorem dX4_now_36 : decode cX4_now 36 = .ok (.aload_n 0, 1) := by decide +kernel
theorem dX4_now_37 : decode cX4_now 37 = .ok (.getfield 29, 3) := by decide +kernel
theorem dX4_now_40 : decode cX4_now 40 = .ok (.invokevirtual 137, 3) := by decide +kernel
theorem dX4_now_43 : decode cX4_now 43 = .ok (.ireturn, 1) := by decide +kernel
theorem dX4_now_44 : decode cX4_now 44 = .ok (.aload_n 0, 1) := by decide +kernel
theorem dX4_now_45 : decode cX4_now 45 = .ok (.getfield 29, 3) := by decide +kernel
theorem dX4_now_48 : decode cX4_now 48 = .ok (.aload_n 0, 1) := by decide +kernel
theorem dX4_now_49 : decode cX4_now 49 = .ok (.getfield 19, 3) := by decide +kernel
theorem dX4_now_52 : decode cX4_now 52 = .ok (.bipush (-9), 2) := by decide +kernel
theorem dX4_now_54 : decode cX4_now 54 = .ok (.invokevirtual 89, 3) := by decide +kernel
theorem dX4_now_57 : decode cX4_now 57 = .ok (.ireturn, 1) := by decide +kernel
theorem dX4_now_58 : decode cX4_now 58 = .ok (.aload_n 0, 1) := by decide +kernel
theorem dX4_now_59 : decode cX4_now 59 = .ok (.getfield 29, 3) := by decide +kernel
theorem dX4_now_62 : decode cX4_now 62 = .ok (.aload_n 0, 1) := by decide +kernel
theorem dX4_now_63 : decode cX4_now 63 = .ok (.getfield 19, 3) := by decide +kernel
theorem dX4_now_66 : decode cX4_now 66 = .ok (.bipush (-5), 2) := by decide +kernel
theorem dX4_now_68 : decode cX4_now 68 = .ok (.invokevirtual 89, 3) := by decide +kernel
theorem dX4_now_71 : decode cX4_now 71 = .ok (.ireturn, 1) := by decide +kernel
theorem dX4_now_72 : decode cX4_now 72 = .ok (.aload_n 0, 1) := by decide +kernel
theorem dX4_now_73 : decode cX4_now 73 = .ok (.invokevirtual 158, 3) := by decide +kernel
theorem dX4_now_76 : decode cX4_now 76 = .ok (.ireturn, 1) := by decide +kernel
theorem dX4_now_77 : decode cX4_now 77 = .ok (.aload_n 0, 1) := by decide +kernel
theorem dX4_now_78 : decode cX4_now 78 = .ok (.getfield 29, 3) := by decide +kernel
theorem dX4_now_81 : decode cX4_now 81 = .ok (.invokevirtual 148, 3) := by decide +kernel
theorem dX4_now_84 : decode cX4_now 84 = .ok (.ireturn, 1) := by decide +kernel
theorem dX4_now_85 : decode cX4_now 85 = .ok (.iconst (-1), 1) := by decide +kernel
theorem dX4_now_86 : decode cX4_now 86 = .ok (.ireturn, 1) := by decide +kernel
theorem dX4_when_0 : decode cX4_when 0 = .ok (.aload_n 0, 1) := by decide +kernel
theorem dX4_when_1 : decode cX4_when 1 = .ok (.getfield 19, 3) := by decide +kernel
theorem dX4_when_4 : decode cX4_when 4 = .ok (.iload_n 1, 1) := by decide +kernel
theorem dX4_when_5 : decode cX4_when 5 = .ok (.invokevirtual 99, 3) := by decide +kernel
theorem dX4_when_8 : decode cX4_when 8 = .ok (.ifCond .ne 5, 3) := by decide +kernel
theorem dX4_when_11 : decode cX4_when 11 = .ok (.iconst (-1), 1) := by decide +kernel
theorem dX4_when_12 : decode cX4_when 12 = .ok (.ireturn, 1) := by decide +kernel
theorem dX4_when_13 : decode cX4_when 13 = .ok (.aload_n 0, 1) := by decide +kernel
theorem dX4_when_14 : decode cX4_when 14 = .ok (.getfield 19, 3) := by decide +kernel
theorem dX4_when_17 : decode cX4_when 17 = .ok (.aload_n 0, 1) := by decide +kernel
theorem dX4_when_18 : decode cX4_when 18 = .ok (.getfield 29, 3) := by decide +kernel
theorem dX4_when_21 : decode cX4_when 21 = .ok (.iload_n 1, 1) := by decide +kernel
theorem dX4_when_22 : decode cX4_when 22 = .ok (.invokevirtual 105, 3) := by decide +kernel
theorem dX4_when_25 : decode cX4_when 25 = .ok (.invokevirtual 81, 3) := by decide +kernel
theorem dX4_when_28 : decode cX4_when 28 = .ok (.ifCond .ne 6, 3) := by decide +kernel
theorem dX4_when_31 : decode cX4_when 31 = .ok (.bipush (-2), 2) := by decide +kernel
theorem dX4_when_33 : decode cX4_when 33 = .ok (.ireturn, 1) := by decide +kernel
theorem dX4_when_34 : decode cX4_when 34 = .ok (.aload_n 0, 1) := by decide +kernel
theorem dX4_when_35 : decode cX4_when 35 = .ok (.getfield 33, 3) := by decide +kernel
theorem dX4_when_38 : decode cX4_when 38 = .ok (.aload_n 0, 1) := by decide +kernel
theorem dX4_when_39 : decode cX4_when 39 = .ok (.getfield 29, 3) := by decide +kernel
theorem dX4_when_42 : decode cX4_when 42 = .ok (.invokevirtual 161, 3) := by decide +kernel
theorem dX4_when_45 : decode cX4_when 45 = .ok (.iconst 0, 1) := by decide +kernel
theorem dX4_when_46 : decode cX4_when 46 = .ok (.istore_n 2, 1) := by decide +kernel
theorem dX4_when_47 : decode cX4_when 47 = .ok (.iload_n 2, 1) := by decide +kernel
theorem dX4_when_48 : decode cX4_when 48 = .ok (.sipush 200, 3) := by decide +kernel
theorem dX4_when_51 : decode cX4_when 51 = .ok (.if_icmp .ge 41, 3) := by decide +kernel
theorem dX4_when_54 : decode cX4_when 54 = .ok (.aload_n 0, 1) := by decide +kernel
theorem dX4_when_55 : decode cX4_when 55 = .ok (.getfield 33, 3) := by decide +kernel
theorem dX4_when_58 : decode cX4_when 58 = .ok (.aload_n 0, 1) := by decide +kernel
theorem dX4_when_59 : decode cX4_when 59 = .ok (.getfield 19, 3) := by decide +kernel
theorem dX4_when_62 : decode cX4_when 62 = .ok (.invokevirtual 140, 3) := by decide +kernel
theorem dX4_when_65 : decode cX4_when 65 = .ok (.aload_n 0, 1) := by decide +kernel
theorem dX4_when_66 : decode cX4_when 66 = .ok (.getfield 33, 3) := by decide +kernel
theorem dX4_when_69 : decode cX4_when 69 = .ok (.iload_n 1, 1) := by decide +kernel
theorem dX4_when_70 : decode cX4_when 70 = .ok (.invokevirtual 105, 3) := by decide +kernel
theorem dX4_when_73 : decode cX4_when 73 = .ok (.bipush (-5), 2) := by decide +kernel
theorem dX4_when_75 : decode cX4_when 75 = .ok (.if_icmp .ne 11, 3) := by decide +kernel
theorem dX4_when_78 : decode cX4_when 78 = .ok (.aload_n 0, 1) := by decide +kernel
theorem dX4_when_79 : decode cX4_when 79 = .ok (.getfield 33, 3) := by decide +kernel
theorem dX4_when_82 : decode cX4_when 82 = .ok (.invokevirtual 137, 3) := by decide +kernel
theorem dX4_when_85 : decode cX4_when 85 = .ok (.ireturn, 1) := by decide +kernel
theorem dX4_when_86 : decode cX4_when 86 = .ok (.iinc 2 1, 3) := by decide +kernel
theorem dX4_when_89 : decode cX4_when 89 = .ok (.goto (-42), 3) := by decide +kernel
theorem dX4_when_92 : decode cX4_when 92 = .ok (.bipush (-9), 2) := by decide +kernel
theorem dX4_when_94 : decode cX4_when 94 = .ok (.ireturn, 1) := by decide +kernel
theorem dX4_moved_0 : decode cX4_moved 0 = .ok (.aload_n 0, 1) := by decide +kernel
theorem dX4_moved_1 : decode cX4_moved 1 = .ok (.getfield 19, 3) := by decide +kernel
theorem dX4_moved_4 : decode cX4_moved 4 = .ok (.iload_n 1, 1) := by decide +kernel
theorem dX4_moved_5 : decode cX4_moved 5 = .ok (.invokevirtual 81, 3) := by decide +kernel
theorem dX4_moved_8 : decode cX4_moved 8 = .ok (.ifCond .ne 5, 3) := by decide +kernel
theorem dX4_moved_11 : decode cX4_moved 11 = .ok (.iconst (-1), 1) := by decide +kernel
theorem dX4_moved_12 : decode cX4_moved 12 = .ok (.ireturn, 1) := by decide +kernel
theorem dX4_moved_13 : decode cX4_moved 13 = .ok (.aload_n 0, 1) := by decide +kernel
theorem dX4_moved_14 : decode cX4_moved 14 = .ok (.getfield 29, 3) := by decide +kernel
theorem dX4_moved_17 : decode cX4_moved 17 = .ok (.iload_n 1, 1) := by decide +kernel
theorem dX4_moved_18 : decode cX4_moved 18 = .ok (.invokevirtual 96, 3) := by decide +kernel
theorem dX4_moved_21 : decode cX4_moved 21 = .ok (.ifCond .eq 6, 3) := by decide +kernel
theorem dX4_moved_24 : decode cX4_moved 24 = .ok (.bipush (-2), 2) := by decide +kernel
theorem dX4_moved_26 : decode cX4_moved 26 = .ok (.ireturn, 1) := by decide +kernel
theorem dX4_moved_27 : decode cX4_moved 27 = .ok (.iconst 0, 1) := by decide +kernel
theorem dX4_moved_28 : decode cX4_moved 28 = .ok (.istore_n 2, 1) := by decide +kernel
theorem dX4_moved_29 : decode cX4_moved 29 = .ok (.iconst 0, 1) := by decide +kernel
theorem dX4_moved_30 : decode cX4_moved 30 = .ok (.istore_n 3, 1) := by decide +kernel
theorem dX4_moved_31 : decode cX4_moved 31 = .ok (.iload_n 3, 1) := by decide +kernel
theorem dX4_moved_32 : decode cX4_moved 32 = .ok (.aload_n 0, 1) := by decide +kernel
theorem dX4_moved_33 : decode cX4_moved 33 = .ok (.getfield 19, 3) := by decide +kernel
theorem dX4_moved_36 : decode cX4_moved 36 = .ok (.invokevirtual 165, 3) := by decide +kernel
theorem dX4_moved_39 : decode cX4_moved 39 = .ok (.if_icmp .ge 33, 3) := by decide +kernel
theorem dX4_moved_42 : decode cX4_moved 42 = .ok (.aload_n 0, 1) := by decide +kernel
theorem dX4_moved_43 : decode cX4_moved 43 = .ok (.iload_n 3, 1) := by decide +kernel
theorem dX4_moved_44 : decode cX4_moved 44 = .ok (.invokevirtual 112, 3) := by decide +kernel
theorem dX4_moved_47 : decode cX4_moved 47 = .ok (.ifCond .eq 19, 3) := by decide +kernel
theorem dX4_moved_50 : decode cX4_moved 50 = .ok (.aload_n 0, 1) := by decide +kernel
theorem dX4_moved_51 : decode cX4_moved 51 = .ok (.iload_n 3, 1) := by decide +kernel
theorem dX4_moved_52 : decode cX4_moved 52 = .ok (.iconst (-1), 1) := by decide +kernel
theorem dX4_moved_53 : decode cX4_moved 53 = .ok (.invokevirtual 115, 3) := by decide +kernel
theorem dX4_moved_56 : decode cX4_moved 56 = .ok (.iload_n 1, 1) := by decide +kernel
theorem dX4_moved_57 : decode cX4_moved 57 = .ok (.if_icmp .ne 9, 3) := by decide +kernel
theorem dX4_moved_60 : decode cX4_moved 60 = .ok (.iload_n 2, 1) := by decide +kernel
theorem dX4_moved_61 : decode cX4_moved 61 = .ok (.iconst 1, 1) := by decide +kernel
theorem dX4_moved_62 : decode cX4_moved 62 = .ok (.iload_n 3, 1) := by decide +kernel
theorem dX4_moved_63 : decode cX4_moved 63 = .ok (.ishl, 1) := by decide +kernel
theorem dX4_moved_64 : decode cX4_moved 64 = .ok (.ior, 1) := by decide +kernel
theorem dX4_moved_65 : decode cX4_moved 65 = .ok (.istore_n 2, 1) := by decide +kernel
theorem dX4_moved_66 : decode cX4_moved 66 = .ok (.iinc 3 1, 3) := by decide +kernel
theorem dX4_moved_69 : decode cX4_moved 69 = .ok (.goto (-38), 3) := by decide +kernel
theorem dX4_moved_72 : decode cX4_moved 72 = .ok (.iload_n 2, 1) := by decide +kernel
theorem dX4_moved_73 : decode cX4_moved 73 = .ok (.ireturn, 1) := by decide +kernel
theorem dX4_order_0 : decode cX4_order 0 = .ok (.aload_n 0, 1) := by decide +kernel
theorem dX4_order_1 : decode cX4_order 1 = .ok (.getfield 19, 3) := by decide +kernel
theorem dX4_order_4 : decode cX4_order 4 = .ok (.iload_n 1, 1) := by decide +kernel
theorem dX4_order_5 : decode cX4_order 5 = .ok (.invokevirtual 81, 3) := by decide +kernel
theorem dX4_order_8 : decode cX4_order 8 = .ok (.ifCond .eq 26, 3) := by decide +kernel
theorem dX4_order_11 : decode cX4_order 11 = .ok (.iload_n 2, 1) := by decide +kernel
theorem dX4_order_12 : decode cX4_order 12 = .ok (.ifCond .lt 22, 3) := by decide +kernel
theorem dX4_order_15 : decode cX4_order 15 = .ok (.iload_n 2, 1) := by decide +kernel
theorem dX4_order_16 : decode cX4_order 16 = .ok (.sipush 999, 3) := by decide +kernel
theorem dX4_order_19 : decode cX4_order 19 = .ok (.if_icmp .gt 15, 3) := by decide +kernel
theorem dX4_order_22 : decode cX4_order 22 = .ok (.iload_n 3, 1) := by decide +kernel
theorem dX4_order_23 : decode cX4_order 23 = .ok (.bipush (-2), 2) := by decide +kernel
theorem dX4_order_25 : decode cX4_order 25 = .ok (.if_icmp .lt 9, 3) := by decide +kernel
theorem dX4_order_28 : decode cX4_order 28 = .ok (.iload_n 3, 1) := by decide +kernel
theorem dX4_order_29 : decode cX4_order 29 = .ok (.bipush 6, 2) := by decide +kernel
theorem dX4_order_31 : decode cX4_order 31 = .ok (.if_icmp .lt 5, 3) := by decide +kernel
theorem dX4_order_34 : decode cX4_order 34 = .ok (.iconst (-1), 1) := by decide +kernel
theorem dX4_order_35 : decode cX4_order 35 = .ok (.ireturn, 1) := by decide +kernel
theorem dX4_order_36 : decode cX4_order 36 = .ok (.aload_n 0, 1) := by decide +kernel
theorem dX4_order_37 : decode cX4_order 37 = .ok (.getfield 52, 3) := by decide +kernel
theorem dX4_order_40 : decode cX4_order 40 = .ok (.aload_n 0, 1) := by decide +kernel
theorem dX4_order_41 : decode cX4_order 41 = .ok (.getfield 19, 3) := by decide +kernel
theorem dX4_order_44 : decode cX4_order 44 = .ok (.aload_n 0, 1) := by decide +kernel
theorem dX4_order_45 : decode cX4_order 45 = .ok (.getfield 29, 3) := by decide +kernel
theorem dX4_order_48 : decode cX4_order 48 = .ok (.iload_n 1, 1) := by decide +kernel
theorem dX4_order_49 : decode cX4_order 49 = .ok (.iload_n 2, 1) := by decide +kernel
theorem dX4_order_50 : decode cX4_order 50 = .ok (.invokevirtual 168, 3) := by decide +kernel
theorem dX4_order_53 : decode cX4_order 53 = .ok (.iload_n 3, 1) := by decide +kernel
theorem dX4_order_54 : decode cX4_order 54 = .ok (.iconst (-1), 1) := by decide +kernel
theorem dX4_order_55 : decode cX4_order 55 = .ok (.if_icmp .ne 11, 3) := by decide +kernel
theorem dX4_order_58 : decode cX4_order 58 = .ok (.aload_n 0, 1) := by decide +kernel
theorem dX4_order_59 : decode cX4_order 59 = .ok (.getfield 52, 3) := by decide +kernel
theorem dX4_order_62 : decode cX4_order 62 = .ok (.invokevirtual 172, 3) := by decide +kernel
theorem dX4_order_65 : decode cX4_order 65 = .ok (.ireturn, 1) := by decide +kernel
theorem dX4_order_66 : decode cX4_order 66 = .ok (.iload_n 3, 1) := by decide +kernel
theorem dX4_order_67 : decode cX4_order 67 = .ok (.bipush (-2), 2) := by decide +kernel
theorem dX4_order_69 : decode cX4_order 69 = .ok (.if_icmp .ne 13, 3) := by decide +kernel
theorem dX4_order_72 : decode cX4_order 72 = .ok (.aload_n 0, 1) := by decide +kernel
theorem dX4_order_73 : decode cX4_order 73 = .ok (.getfield 52, 3) := by decide +kernel
theorem dX4_order_76 : decode cX4_order 76 = .ok (.invokevirtual 175, 3) := by decide +kernel
theorem dX4_order_79 : decode cX4_order 79 = .ok (.goto 11, 3) := by decide +kernel
theorem dX4_order_82 : decode cX4_order 82 = .ok (.aload_n 0, 1) := by decide +kernel
theorem dX4_order_83 : decode cX4_order 83 = .ok (.getfield 52, 3) := by decide +kernel
theorem dX4_order_86 : decode cX4_order 86 = .ok (.iload_n 3, 1) := by decide +kernel
theorem dX4_order_87 : decode cX4_order 87 = .ok (.invokevirtual 178, 3) := by decide +kernel
theorem dX4_order_90 : decode cX4_order 90 = .ok (.ireturn, 1) := by decide +kernel
theorem dX4_fire_0 : decode cX4_fire 0 = .ok (.aload_n 0, 1) := by decide +kernel
theorem dX4_fire_1 : decode cX4_fire 1 = .ok (.getfield 19, 3) := by decide +kernel
theorem dX4_fire_4 : decode cX4_fire 4 = .ok (.iload_n 1, 1) := by decide +kernel
theorem dX4_fire_5 : decode cX4_fire 5 = .ok (.invokevirtual 99, 3) := by decide +kernel
theorem dX4_fire_8 : decode cX4_fire 8 = .ok (.ifCond .eq 14, 3) := by decide +kernel
theorem dX4_fire_11 : decode cX4_fire 11 = .ok (.iload_n 2, 1) := by decide +kernel
theorem dX4_fire_12 : decode cX4_fire 12 = .ok (.iconst 1, 1) := by decide +kernel
theorem dX4_fire_13 : decode cX4_fire 13 = .ok (.if_icmp .lt 9, 3) := by decide +kernel
theorem dX4_fire_16 : decode cX4_fire 16 = .ok (.iload_n 2, 1) := by decide +kernel
theorem dX4_fire_17 : decode cX4_fire 17 = .ok (.bipush 99, 2) := by decide +kernel
theorem dX4_fire_19 : decode cX4_fire 19 = .ok (.if_icmp .le 5, 3) := by decide +kernel
theorem dX4_fire_22 : decode cX4_fire 22 = .ok (.iconst (-1), 1) := by decide +kernel
theorem dX4_fire_23 : decode cX4_fire 23 = .ok (.ireturn, 1) := by decide +kernel
theorem dX4_fire_24 : decode cX4_fire 24 = .ok (.aload_n 0, 1) := by decide +kernel
theorem dX4_fire_25 : decode cX4_fire 25 = .ok (.getfield 19, 3) := by decide +kernel
theorem dX4_fire_28 : decode cX4_fire 28 = .ok (.iload_n 1, 1) := by decide +kernel
theorem dX4_fire_29 : decode cX4_fire 29 = .ok (.iconst 2, 1) := by decide +kernel
theorem dX4_fire_30 : decode cX4_fire 30 = .ok (.invokevirtual 102, 3) := by decide +kernel
theorem dX4_fire_33 : decode cX4_fire 33 = .ok (.iload_n 2, 1) := by decide +kernel
theorem dX4_fire_34 : decode cX4_fire 34 = .ok (.invokestatic 181, 3) := by decide +kernel
theorem dX4_fire_37 : decode cX4_fire 37 = .ok (.istore_n 3, 1) := by decide +kernel
theorem dX4_fire_38 : decode cX4_fire 38 = .ok (.iload_n 3, 1) := by decide +kernel
theorem dX4_fire_39 : decode cX4_fire 39 = .ok (.bipush 10, 2) := by decide +kernel
theorem dX4_fire_41 : decode cX4_fire 41 = .ok (.imul, 1) := by decide +kernel
theorem dX4_fire_42 : decode cX4_fire 42 = .ok (.bipush 9, 2) := by decide +kernel
theorem dX4_fire_44 : decode cX4_fire 44 = .ok (.invokestatic 181, 3) := by decide +kernel
theorem dX4_fire_47 : decode cX4_fire 47 = .ok (.ireturn, 1) := by decide +kernel
theorem dX4_odds_0 : decode cX4_odds 0 = .ok (.aload_n 0, 1) := by decide +kernel
theorem dX4_odds_1 : decode cX4_odds 1 = .ok (.getfield 19, 3) := by decide +kernel
theorem dX4_odds_4 : decode cX4_odds 4 = .ok (.iload_n 1, 1) := by decide +kernel
theorem dX4_odds_5 : decode cX4_odds 5 = .ok (.invokevirtual 99, 3) := by decide +kernel
theorem dX4_odds_8 : decode cX4_odds 8 = .ok (.ifCond .eq 14, 3) := by decide +kernel
theorem dX4_odds_11 : decode cX4_odds 11 = .ok (.aload_n 0, 1) := by decide +kernel
theorem dX4_odds_12 : decode cX4_odds 12 = .ok (.getfield 19, 3) := by decide +kernel
theorem dX4_odds_15 : decode cX4_odds 15 = .ok (.iload_n 2, 1) := by decide +kernel
theorem dX4_odds_16 : decode cX4_odds 16 = .ok (.invokevirtual 81, 3) := by decide +kernel
theorem dX4_odds_19 : decode cX4_odds 19 = .ok (.ifCond .ne 5, 3) := by decide +kernel
theorem dX4_odds_22 : decode cX4_odds 22 = .ok (.iconst (-1), 1) := by decide +kernel
theorem dX4_odds_23 : decode cX4_odds 23 = .ok (.ireturn, 1) := by decide +kernel
theorem dX4_odds_24 : decode cX4_odds 24 = .ok (.iload_n 3, 1) := by decide +kernel
theorem dX4_odds_25 : decode cX4_odds 25 = .ok (.ifCond .lt 20, 3) := by decide +kernel
theorem dX4_odds_28 : decode cX4_odds 28 = .ok (.iload_n 3, 1) := by decide +kernel
theorem dX4_odds_29 : decode cX4_odds 29 = .ok (.bipush 10, 2) := by decide +kernel
theorem dX4_odds_31 : decode cX4_odds 31 = .ok (.if_icmp .gt 14, 3) := by decide +kernel
theorem dX4_odds_34 : decode cX4_odds 34 = .ok (.iload 4, 2) := by decide +kernel
theorem dX4_odds_36 : decode cX4_odds 36 = .ok (.ifCond .eq 11, 3) := by decide +kernel
theorem dX4_odds_39 : decode cX4_odds 39 = .ok (.iload 4, 2) := by decide +kernel
theorem dX4_odds_41 : decode cX4_odds 41 = .ok (.iconst 1, 1) := by decide +kernel
theorem dX4_odds_42 : decode cX4_odds 42 = .ok (.if_icmp .eq 5, 3) := by decide +kernel
theorem dX4_odds_45 : decode cX4_odds 45 = .ok (.iconst (-1), 1) := by decide +kernel
theorem dX4_odds_46 : decode cX4_odds 46 = .ok (.ireturn, 1) := by decide +kernel
theorem dX4_odds_47 : decode cX4_odds 47 = .ok (.aload_n 0, 1) := by decide +kernel
theorem dX4_odds_48 : decode cX4_odds 48 = .ok (.iload_n 1, 1) := by decide +kernel
theorem dX4_odds_49 : decode cX4_odds 49 = .ok (.invokevirtual 112, 3) := by decide +kernel
theorem dX4_odds_52 : decode cX4_odds 52 = .ok (.ifCond .ne 6, 3) := by decide +kernel
theorem dX4_odds_55 : decode cX4_odds 55 = .ok (.bipush (-2), 2) := by decide +kernel
theorem dX4_odds_57 : decode cX4_odds 57 = .ok (.ireturn, 1) := by decide +kernel
theorem dX4_odds_58 : decode cX4_odds 58 = .ok (.aload_n 0, 1) := by decide +kernel
theorem dX4_odds_59 : decode cX4_odds 59 = .ok (.getfield 29, 3) := by decide +kernel
theorem dX4_odds_62 : decode cX4_odds 62 = .ok (.iload_n 2, 1) := by decide +kernel
theorem dX4_odds_63 : decode cX4_odds 63 = .ok (.invokevirtual 96, 3) := by decide +kernel
theorem dX4_odds_66 : decode cX4_odds 66 = .ok (.ifCond .eq 7, 3) := by decide +kernel
theorem dX4_odds_69 : decode cX4_odds 69 = .ok (.iconst 0, 1) := by decide +kernel
theorem dX4_odds_70 : decode cX4_odds 70 = .ok (.goto 7, 3) := by decide +kernel
