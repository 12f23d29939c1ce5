theorem dX0_init_0 : decode cX0_init 0 = .ok (.aload_n 0, 1) := by decide +kernel
theorem dX0_init_1 : decode cX0_init 1 = .ok (.invokespecial 1, 3) := by decide +kernel
theorem dX0_init_4 : decode cX0_init 4 = .ok (.aload_n 0, 1) := by decide +kernel
theorem dX0_init_5 : decode cX0_init 5 = .ok (.bipush 40, 2) := by decide +kernel
theorem dX0_init_7 : decode cX0_init 7 = .ok (.newarray .int, 2) := by decide +kernel
theorem dX0_init_9 : decode cX0_init 9 = .ok (.putfield 9, 3) := by decide +kernel
theorem dX0_init_12 : decode cX0_init 12 = .ok (.aload_n 0, 1) := by decide +kernel
theorem dX0_init_13 : decode cX0_init 13 = .ok (.bipush 40, 2) := by decide +kernel
theorem dX0_init_15 : decode cX0_init 15 = .ok (.newarray .int, 2) := by decide +kernel
theorem dX0_init_17 : decode cX0_init 17 = .ok (.putfield 13, 3) := by decide +kernel
theorem dX0_init_20 : decode cX0_init 20 = .ok (.aload_n 0, 1) := by decide +kernel
theorem dX0_init_21 : decode cX0_init 21 = .ok (.bipush 40, 2) := by decide +kernel
theorem dX0_init_23 : decode cX0_init 23 = .ok (.newarray .int, 2) := by decide +kernel
theorem dX0_init_25 : decode cX0_init 25 = .ok (.putfield 16, 3) := by decide +kernel
theorem dX0_init_28 : decode cX0_init 28 = .ok (.aload_n 0, 1) := by decide +kernel
theorem dX0_init_29 : decode cX0_init 29 = .ok (.bipush 40, 2) := by decide +kernel
theorem dX0_init_31 : decode cX0_init 31 = .ok (.newarray .int, 2) := by decide +kernel
theorem dX0_init_33 : decode cX0_init 33 = .ok (.putfield 19, 3) := by decide +kernel
theorem dX0_init_36 : decode cX0_init 36 = .ok (.return_, 1) := by decide +kernel
theorem dX0_add_0 : decode cX0_add 0 = .ok (.aload_n 0, 1) := by decide +kernel
theorem dX0_add_1 : decode cX0_add 1 = .ok (.getfield 22, 3) := by decide +kernel
theorem dX0_add_4 : decode cX0_add 4 = .ok (.bipush 40, 2) := by decide +kernel
theorem dX0_add_6 : decode cX0_add 6 = .ok (.if_icmp .lt 7, 3) := by decide +kernel
theorem dX0_add_9 : decode cX0_add 9 = .ok (.aload_n 0, 1) := by decide +kernel
theorem dX0_add_10 : decode cX0_add 10 = .ok (.invokevirtual 26, 3) := by decide +kernel
theorem dX0_add_13 : decode cX0_add 13 = .ok (.aload_n 0, 1) := by decide +kernel
theorem dX0_add_14 : decode cX0_add 14 = .ok (.getfield 9, 3) := by decide +kernel
theorem dX0_add_17 : decode cX0_add 17 = .ok (.aload_n 0, 1) := by decide +kernel
theorem dX0_add_18 : decode cX0_add 18 = .ok (.getfield 22, 3) := by decide +kernel
theorem dX0_add_21 : decode cX0_add 21 = .ok (.iload_n 1, 1) := by decide +kernel
theorem dX0_add_22 : decode cX0_add 22 = .ok (.iastore, 1) := by decide +kernel
theorem dX0_add_23 : decode cX0_add 23 = .ok (.aload_n 0, 1) := by decide +kernel
theorem dX0_add_24 : decode cX0_add 24 = .ok (.getfield 13, 3) := by decide +kernel
theorem dX0_add_27 : decode cX0_add 27 = .ok (.aload_n 0, 1) := by decide +kernel
theorem dX0_add_28 : decode cX0_add 28 = .ok (.getfield 22, 3) := by decide +kernel
theorem dX0_add_31 : decode cX0_add 31 = .ok (.iload_n 2, 1) := by decide +kernel
theorem dX0_add_32 : decode cX0_add 32 = .ok (.iastore, 1) := by decide +kernel
theorem dX0_add_33 : decode cX0_add 33 = .ok (.aload_n 0, 1) := by decide +kernel
theorem dX0_add_34 : decode cX0_add 34 = .ok (.getfield 16, 3) := by decide +kernel
theorem dX0_add_37 : decode cX0_add 37 = .ok (.aload_n 0, 1) := by decide +kernel
theorem dX0_add_38 : decode cX0_add 38 = .ok (.getfield 22, 3) := by decide +kernel
theorem dX0_add_41 : decode cX0_add 41 = .ok (.iload_n 3, 1) := by decide +kernel
theorem dX0_add_42 : decode cX0_add 42 = .ok (.iastore, 1) := by decide +kernel
theorem dX0_add_43 : decode cX0_add 43 = .ok (.aload_n 0, 1) := by decide +kernel
theorem dX0_add_44 : decode cX0_add 44 = .ok (.getfield 19, 3) := by decide +kernel
theorem dX0_add_47 : decode cX0_add 47 = .ok (.aload_n 0, 1) := by decide +kernel
theorem dX0_add_48 : decode cX0_add 48 = .ok (.getfield 22, 3) := by decide +kernel
theorem dX0_add_51 : decode cX0_add 51 = .ok (.iload 4, 2) := by decide +kernel
theorem dX0_add_53 : decode cX0_add 53 = .ok (.iastore, 1) := by decide +kernel
theorem dX0_add_54 : decode cX0_add 54 = .ok (.aload_n 0, 1) := by decide +kernel
theorem dX0_add_55 : decode cX0_add 55 = .ok (.dup, 1) := by decide +kernel
theorem dX0_add_56 : decode cX0_add 56 = .ok (.getfield 22, 3) := by decide +kernel
theorem dX0_add_59 : decode cX0_add 59 = .ok (.iconst 1, 1) := by decide +kernel
theorem dX0_add_60 : decode cX0_add 60 = .ok (.iadd, 1) := by decide +kernel
theorem dX0_add_61 : decode cX0_add 61 = .ok (.putfield 22, 3) := by decide +kernel
theorem dX0_add_64 : decode cX0_add 64 = .ok (.aload_n 0, 1) := by decide +kernel
theorem dX0_add_65 : decode cX0_add 65 = .ok (.aload_n 0, 1) := by decide +kernel
theorem dX0_add_66 : decode cX0_add 66 = .ok (.getfield 22, 3) := by decide +kernel
theorem dX0_add_69 : decode cX0_add 69 = .ok (.putfield 29, 3) := by decide +kernel
theorem dX0_add_72 : decode cX0_add 72 = .ok (.return_, 1) := by decide +kernel
theorem dX0_dropOldest_0 : decode cX0_dropOldest 0 = .ok (.aload_n 0, 1) := by decide +kernel
theorem dX0_dropOldest_1 : decode cX0_dropOldest 1 = .ok (.bipush 39, 2) := by decide +kernel
theorem dX0_dropOldest_3 : decode cX0_dropOldest 3 = .ok (.putfield 22, 3) := by decide +kernel
theorem dX0_dropOldest_6 : decode cX0_dropOldest 6 = .ok (.aload_n 0, 1) := by decide +kernel
theorem dX0_dropOldest_7 : decode cX0_dropOldest 7 = .ok (.getfield 9, 3) := by decide +kernel
theorem dX0_dropOldest_10 : decode cX0_dropOldest 10 = .ok (.iconst 1, 1) := by decide +kernel
theorem dX0_dropOldest_11 : decode cX0_dropOldest 11 = .ok (.aload_n 0, 1) := by decide +kernel
theorem dX0_dropOldest_12 : decode cX0_dropOldest 12 = .ok (.getfield 9, 3) := by decide +kernel
theorem dX0_dropOldest_15 : decode cX0_dropOldest 15 = .ok (.iconst 0, 1) := by decide +kernel
theorem dX0_dropOldest_16 : decode cX0_dropOldest 16 = .ok (.aload_n 0, 1) := by decide +kernel
theorem dX0_dropOldest_17 : decode cX0_dropOldest 17 = .ok (.getfield 22, 3) := by decide +kernel
theorem dX0_dropOldest_20 : decode cX0_dropOldest 20 = .ok (.invokestatic 32, 3) := by decide +kernel
theorem dX0_dropOldest_23 : decode cX0_dropOldest 23 = .ok (.aload_n 0, 1) := by decide +kernel
theorem dX0_dropOldest_24 : decode cX0_dropOldest 24 = .ok (.getfield 13, 3) := by decide +kernel
theorem dX0_dropOldest_27 : decode cX0_dropOldest 27 = .ok (.iconst 1, 1) := by decide +kernel
theorem dX0_dropOldest_28 : decode cX0_dropOldest 28 = .ok (.aload_n 0, 1) := by decide +kernel
theorem dX0_dropOldest_29 : decode cX0_dropOldest 29 = .ok (.getfield 13, 3) := by decide +kernel
theorem dX0_dropOldest_32 : decode cX0_dropOldest 32 = .ok (.iconst 0, 1) := by decide +kernel
theorem dX0_dropOldest_33 : decode cX0_dropOldest 33 = .ok (.aload_n 0, 1) := by decide +kernel
theorem dX0_dropOldest_34 : decode cX0_dropOldest 34 = .ok (.getfield 22, 3) := by decide +kernel
theorem dX0_dropOldest_37 : decode cX0_dropOldest 37 = .ok (.invokestatic 32, 3) := by decide +kernel
theorem dX0_dropOldest_40 : decode cX0_dropOldest 40 = .ok (.aload_n 0, 1) := by decide +kernel
theorem dX0_dropOldest_41 : decode cX0_dropOldest 41 = .ok (.getfield 16, 3) := by decide +kernel
theorem dX0_dropOldest_44 : decode cX0_dropOldest 44 = .ok (.iconst 1, 1) := by decide +kernel
theorem dX0_dropOldest_45 : decode cX0_dropOldest 45 = .ok (.aload_n 0, 1) := by decide +kernel
theorem dX0_dropOldest_46 : decode cX0_dropOldest 46 = .ok (.getfield 16, 3) := by decide +kernel
theorem dX0_dropOldest_49 : decode cX0_dropOldest 49 = .ok (.iconst 0, 1) := by decide +kernel
theorem dX0_dropOldest_50 : decode cX0_dropOldest 50 = .ok (.aload_n 0, 1) := by decide +kernel
theorem dX0_dropOldest_51 : decode cX0_dropOldest 51 = .ok (.getfield 22, 3) := by decide +kernel
theorem dX0_dropOldest_54 : decode cX0_dropOldest 54 = .ok (.invokestatic 32, 3) := by decide +kernel
theorem dX0_dropOldest_57 : decode cX0_dropOldest 57 = .ok (.aload_n 0, 1) := by decide +kernel
theorem dX0_dropOldest_58 : decode cX0_dropOldest 58 = .ok (.getfield 19, 3) := by decide +kernel
theorem dX0_dropOldest_61 : decode cX0_dropOldest 61 = .ok (.iconst 1, 1) := by decide +kernel
theorem dX0_dropOldest_62 : decode cX0_dropOldest 62 = .ok (.aload_n 0, 1) := by decide +kernel
theorem dX0_dropOldest_63 : decode cX0_dropOldest 63 = .ok (.getfield 19, 3) := by decide +kernel
theorem dX0_dropOldest_66 : decode cX0_dropOldest 66 = .ok (.iconst 0, 1) := by decide +kernel
theorem dX0_dropOldest_67 : decode cX0_dropOldest 67 = .ok (.aload_n 0, 1) := by decide +kernel
theorem dX0_dropOldest_68 : decode cX0_dropOldest 68 = .ok (.getfield 22, 3) := by decide +kernel
theorem dX0_dropOldest_71 : decode cX0_dropOldest 71 = .ok (.invokestatic 32, 3) := by decide +kernel
theorem dX0_dropOldest_74 : decode cX0_dropOldest 74 = .ok (.return_, 1) := by decide +kernel
theorem dX0_stepBack_0 : decode cX0_stepBack 0 = .ok (.aload_n 0, 1) := by decide +kernel
theorem dX0_stepBack_1 : decode cX0_stepBack 1 = .ok (.getfield 22, 3) := by decide +kernel
theorem dX0_stepBack_4 : decode cX0_stepBack 4 = .ok (.iconst 1, 1) := by decide +kernel
theorem dX0_stepBack_5 : decode cX0_stepBack 5 = .ok (.if_icmp .ge 5, 3) := by decide +kernel
theorem dX0_stepBack_8 : decode cX0_stepBack 8 = .ok (.iconst 0, 1) := by decide +kernel
theorem dX0_stepBack_9 : decode cX0_stepBack 9 = .ok (.ireturn, 1) := by decide +kernel
theorem dX0_stepBack_10 : decode cX0_stepBack 10 = .ok (.aload_n 0, 1) := by decide +kernel
theorem dX0_stepBack_11 : decode cX0_stepBack 11 = .ok (.dup, 1) := by decide +kernel
theorem dX0_stepBack_12 : decode cX0_stepBack 12 = .ok (.getfield 22, 3) := by decide +kernel
theorem dX0_stepBack_15 : decode cX0_stepBack 15 = .ok (.iconst 1, 1) := by decide +kernel
theorem dX0_stepBack_16 : decode cX0_stepBack 16 = .ok (.isub, 1) := by decide +kernel
theorem dX0_stepBack_17 : decode cX0_stepBack 17 = .ok (.putfield 22, 3) := by decide +kernel
theorem dX0_stepBack_20 : decode cX0_stepBack 20 = .ok (.iconst 1, 1) := by decide +kernel
theorem dX0_stepBack_21 : decode cX0_stepBack 21 = .ok (.ireturn, 1) := by decide +kernel
theorem dX0_hasUndone_0 : decode cX0_hasUndone 0 = .ok (.aload_n 0, 1) := by decide +kernel
theorem dX0_hasUndone_1 : decode cX0_hasUndone 1 = .ok (.getfield 22, 3) := by decide +kernel
theorem dX0_hasUndone_4 : decode cX0_hasUndone 4 = .ok (.aload_n 0, 1) := by decide +kernel
theorem dX0_hasUndone_5 : decode cX0_hasUndone 5 = .ok (.getfield 29, 3) := by decide +kernel
theorem dX0_hasUndone_8 : decode cX0_hasUndone 8 = .ok (.if_icmp .ge 7, 3) := by decide +kernel
theorem dX0_hasUndone_11 : decode cX0_hasUndone 11 = .ok (.iconst 1, 1) := by decide +kernel
theorem dX0_hasUndone_12 : decode cX0_hasUndone 12 = .ok (.goto 4, 3) := by decide +kernel
theorem dX0_hasUndone_15 : decode cX0_hasUndone 15 = .ok (.iconst 0, 1) := by decide +kernel
theorem dX0_hasUndone_16 : decode cX0_hasUndone 16 = .ok (.ireturn, 1) := by decide +kernel
theorem dX0_stepOn_0 : decode cX0_stepOn 0 = .ok (.aload_n 0, 1) := by decide +kernel
theorem dX0_stepOn_1 : decode cX0_stepOn 1 = .ok (.dup, 1) := by decide +kernel
theorem dX0_stepOn_2 : decode cX0_stepOn 2 = .ok (.getfield 22, 3) := by decide +kernel
theorem dX0_stepOn_5 : decode cX0_stepOn 5 = .ok (.iconst 1, 1) := by decide +kernel
theorem dX0_stepOn_6 : decode cX0_stepOn 6 = .ok (.iadd, 1) := by decide +kernel
theorem dX0_stepOn_7 : decode cX0_stepOn 7 = .ok (.putfield 22, 3) := by decide +kernel
theorem dX0_stepOn_10 : decode cX0_stepOn 10 = .ok (.return_, 1) := by decide +kernel
theorem dX1_init_0 : decode cX1_init 0 = .ok (.aload_n 0, 1) := by decide +kernel
theorem dX1_init_1 : decode cX1_init 1 = .ok (.invokespecial 3, 3) := by decide +kernel
theorem dX1_init_4 : decode cX1_init 4 = .ok (.aload_n 0, 1) := by decide +kernel
theorem dX1_init_5 : decode cX1_init 5 = .ok (.bipush 50, 2) := by decide +kernel
theorem dX1_init_7 : decode cX1_init 7 = .ok (.newarray .int, 2) := by decide +kernel
theorem dX1_init_9 : decode cX1_init 9 = .ok (.putfield 11, 3) := by decide +kernel
theorem dX1_init_12 : decode cX1_init 12 = .ok (.aload_n 0, 1) := by decide +kernel
theorem dX1_init_13 : decode cX1_init 13 = .ok (.bipush 24, 2) := by decide +kernel
theorem dX1_init_15 : decode cX1_init 15 = .ok (.newarray .int, 2) := by decide +kernel
theorem dX1_init_17 : decode cX1_init 17 = .ok (.putfield 15, 3) := by decide +kernel
theorem dX1_init_20 : decode cX1_init 20 = .ok (.return_, 1) := by decide +kernel
theorem dX1_has_0 : decode cX1_has 0 = .ok (.iload_n 1, 1) := by decide +kernel
theorem dX1_has_1 : decode cX1_has 1 = .ok (.ifCond .lt 15, 3) := by decide +kernel
theorem dX1_has_4 : decode cX1_has 4 = .ok (.iload_n 1, 1) := by decide +kernel
theorem dX1_has_5 : decode cX1_has 5 = .ok (.aload_n 0, 1) := by decide +kernel
theorem dX1_has_6 : decode cX1_has 6 = .ok (.getfield 18, 3) := by decide +kernel
theorem dX1_has_9 : decode cX1_has 9 = .ok (.if_icmp .ge 7, 3) := by decide +kernel
theorem dX1_has_12 : decode cX1_has 12 = .ok (.iconst 1, 1) := by decide +kernel
theorem dX1_has_13 : decode cX1_has 13 = .ok (.goto 4, 3) := by decide +kernel
theorem dX1_has_16 : decode cX1_has 16 = .ok (.iconst 0, 1) := by decide +kernel
theorem dX1_has_17 : decode cX1_has 17 = .ok (.ireturn, 1) := by decide +kernel
theorem dX1_add_0 : decode cX1_add 0 = .ok (.aload_n 0, 1) := by decide +kernel
theorem dX1_add_1 : decode cX1_add 1 = .ok (.getfield 18, 3) := by decide +kernel
theorem dX1_add_4 : decode cX1_add 4 = .ok (.bipush 50, 2) := by decide +kernel
theorem dX1_add_6 : decode cX1_add 6 = .ok (.if_icmp .lt 6, 3) := by decide +kernel
theorem dX1_add_9 : decode cX1_add 9 = .ok (.bipush (-3), 2) := by decide +kernel
theorem dX1_add_11 : decode cX1_add 11 = .ok (.ireturn, 1) := by decide +kernel
theorem dX1_add_12 : decode cX1_add 12 = .ok (.aload_n 0, 1) := by decide +kernel
theorem dX1_add_13 : decode cX1_add 13 = .ok (.getfield 11, 3) := by decide +kernel
theorem dX1_add_16 : decode cX1_add 16 = .ok (.aload_n 0, 1) := by decide +kernel
theorem dX1_add_17 : decode cX1_add 17 = .ok (.getfield 18, 3) := by decide +kernel
theorem dX1_add_20 : decode cX1_add 20 = .ok (.iload_n 1, 1) := by decide +kernel
theorem dX1_add_21 : decode cX1_add 21 = .ok (.iastore, 1) := by decide +kernel
theorem dX1_add_22 : decode cX1_add 22 = .ok (.aload_n 0, 1) := by decide +kernel
theorem dX1_add_23 : decode cX1_add 23 = .ok (.dup, 1) := by decide +kernel
theorem dX1_add_24 : decode cX1_add 24 = .ok (.getfield 18, 3) := by decide +kernel
theorem dX1_add_27 : decode cX1_add 27 = .ok (.dup_x1, 1) := by decide +kernel
theorem dX1_add_28 : decode cX1_add 28 = .ok (.iconst 1, 1) := by decide +kernel
theorem dX1_add_29 : decode cX1_add 29 = .ok (.iadd, 1) := by decide +kernel
theorem dX1_add_30 : decode cX1_add 30 = .ok (.putfield 18, 3) := by decide +kernel
theorem dX1_add_33 : decode cX1_add 33 = .ok (.ireturn, 1) := by decide +kernel
theorem dX1_traced_0 : decode cX1_traced 0 = .ok (.aload_n 0, 1) := by decide +kernel
theorem dX1_traced_1 : decode cX1_traced 1 = .ok (.getfield 22, 3) := by decide +kernel
theorem dX1_traced_4 : decode cX1_traced 4 = .ok (.bipush 24, 2) := by decide +kernel
theorem dX1_traced_6 : decode cX1_traced 6 = .ok (.invokestatic 25, 3) := by decide +kernel
theorem dX1_traced_9 : decode cX1_traced 9 = .ok (.ireturn, 1) := by decide +kernel
theorem dX1_isUnder_0 : decode cX1_isUnder 0 = .ok (.iload_n 0, 1) := by decide +kernel
theorem dX1_isUnder_1 : decode cX1_isUnder 1 = .ok (.istore_n 2, 1) := by decide +kernel
theorem dX1_isUnder_2 : decode cX1_isUnder 2 = .ok (.iconst 0, 1) := by decide +kernel
theorem dX1_isUnder_3 : decode cX1_isUnder 3 = .ok (.istore_n 3, 1) := by decide +kernel
theorem dX1_isUnder_4 : decode cX1_isUnder 4 = .ok (.iload_n 3, 1) := by decide +kernel
theorem dX1_isUnder_5 : decode cX1_isUnder 5 = .ok (.bipush 8, 2) := by decide +kernel
theorem dX1_isUnder_7 : decode cX1_isUnder 7 = .ok (.if_icmp .ge 32, 3) := by decide +kernel
theorem dX1_isUnder_10 : decode cX1_isUnder 10 = .ok (.iload_n 2, 1) := by decide +kernel
theorem dX1_isUnder_11 : decode cX1_isUnder 11 = .ok (.ifCond .lt 28, 3) := by decide +kernel
theorem dX1_isUnder_14 : decode cX1_isUnder 14 = .ok (.iload_n 2, 1) := by decide +kernel
theorem dX1_isUnder_15 : decode cX1_isUnder 15 = .ok (.bipush 8, 2) := by decide +kernel
theorem dX1_isUnder_17 : decode cX1_isUnder 17 = .ok (.if_icmp .ge 22, 3) := by decide +kernel
theorem dX1_isUnder_20 : decode cX1_isUnder 20 = .ok (.iload_n 2, 1) := by decide +kernel
theorem dX1_isUnder_21 : decode cX1_isUnder 21 = .ok (.iload_n 1, 1) := by decide +kernel
theorem dX1_isUnder_22 : decode cX1_isUnder 22 = .ok (.if_icmp .ne 5, 3) := by decide +kernel
theorem dX1_isUnder_25 : decode cX1_isUnder 25 = .ok (.iconst 1, 1) := by decide +kernel
theorem dX1_isUnder_26 : decode cX1_isUnder 26 = .ok (.ireturn, 1) := by decide +kernel
theorem dX1_isUnder_27 : decode cX1_isUnder 27 = .ok (.getstatic 31, 3) := by decide +kernel
theorem dX1_isUnder_30 : decode cX1_isUnder 30 = .ok (.iload_n 2, 1) := by decide +kernel
theorem dX1_isUnder_31 : decode cX1_isUnder 31 = .ok (.iaload, 1) := by decide +kernel
theorem dX1_isUnder_32 : decode cX1_isUnder 32 = .ok (.istore_n 2, 1) := by decide +kernel
theorem dX1_isUnder_33 : decode cX1_isUnder 33 = .ok (.iinc 3 1, 3) := by decide +kernel
theorem dX1_isUnder_36 : decode cX1_isUnder 36 = .ok (.goto (-32), 3) := by decide +kernel
theorem dX1_isUnder_39 : decode cX1_isUnder 39 = .ok (.iconst 0, 1) := by decide +kernel
theorem dX1_isUnder_40 : decode cX1_isUnder 40 = .ok (.ireturn, 1) := by decide +kernel
theorem dX1_perform_0 : decode cX1_perform 0 = .ok (.aload_n 0, 1) := by decide +kernel
theorem dX1_perform_1 : decode cX1_perform 1 = .ok (.iconst 0, 1) := by decide +kernel
theorem dX1_perform_2 : decode cX1_perform 2 = .ok (.putfield 22, 3) := by decide +kernel
theorem dX1_perform_5 : decode cX1_perform 5 = .ok (.aload_n 0, 1) := by decide +kernel
theorem dX1_perform_6 : decode cX1_perform 6 = .ok (.iload_n 1, 1) := by decide +kernel
theorem dX1_perform_7 : decode cX1_perform 7 = .ok (.invokevirtual 34, 3) := by decide +kernel
theorem dX1_perform_10 : decode cX1_perform 10 = .ok (.ifCond .eq 12, 3) := by decide +kernel
theorem dX1_perform_13 : decode cX1_perform 13 = .ok (.iload_n 2, 1) := by decide +kernel
theorem dX1_perform_14 : decode cX1_perform 14 = .ok (.ifCond .lt 8, 3) := by decide +kernel
theorem dX1_perform_17 : decode cX1_perform 17 = .ok (.iload_n 2, 1) := by decide +kernel
theorem dX1_perform_18 : decode cX1_perform 18 = .ok (.iconst 4, 1) := by decide +kernel
theorem dX1_perform_19 : decode cX1_perform 19 = .ok (.if_icmp .lt 5, 3) := by decide +kernel
theorem dX1_perform_22 : decode cX1_perform 22 = .ok (.iconst 0, 1) := by decide +kernel
theorem dX1_perform_23 : decode cX1_perform 23 = .ok (.ireturn, 1) := by decide +kernel
theorem dX1_perform_24 : decode cX1_perform 24 = .ok (.aload_n 0, 1) := by decide +kernel
theorem dX1_perform_25 : decode cX1_perform 25 = .ok (.iload_n 1, 1) := by decide +kernel
theorem dX1_perform_26 : decode cX1_perform 26 = .ok (.putfield 38, 3) := by decide +kernel
theorem dX1_perform_29 : decode cX1_perform 29 = .ok (.aload_n 0, 1) := by decide +kernel
theorem dX1_perform_30 : decode cX1_perform 30 = .ok (.iload_n 2, 1) := by decide +kernel
theorem dX1_perform_31 : decode cX1_perform 31 = .ok (.iload_n 3, 1) := by decide +kernel
theorem dX1_perform_32 : decode cX1_perform 32 = .ok (.iconst 0, 1) := by decide +kernel
theorem dX1_perform_33 : decode cX1_perform 33 = .ok (.invokevirtual 41, 3) := by decide +kernel
theorem dX1_perform_36 : decode cX1_perform 36 = .ok (.ireturn, 1) := by decide +kernel
theorem dX1_own_0 : decode cX1_own 0 = .ok (.aload_n 0, 1) := by decide +kernel
theorem dX1_own_1 : decode cX1_own 1 = .ok (.aload_n 0, 1) := by decide +kernel
theorem dX1_own_2 : decode cX1_own 2 = .ok (.getfield 11, 3) := by decide +kernel
theorem dX1_own_5 : decode cX1_own 5 = .ok (.aload_n 0, 1) := by decide +kernel
theorem dX1_own_6 : decode cX1_own 6 = .ok (.getfield 38, 3) := by decide +kernel
theorem dX1_own_9 : decode cX1_own 9 = .ok (.iaload, 1) := by decide +kernel
theorem dX1_own_10 : decode cX1_own 10 = .ok (.iload_n 1, 1) := by decide +kernel
theorem dX1_own_11 : decode cX1_own 11 = .ok (.iload_n 2, 1) := by decide +kernel
theorem dX1_own_12 : decode cX1_own 12 = .ok (.iload_n 3, 1) := by decide +kernel
theorem dX1_own_13 : decode cX1_own 13 = .ok (.invokevirtual 45, 3) := by decide +kernel
theorem dX1_own_16 : decode cX1_own 16 = .ok (.ireturn, 1) := by decide +kernel
theorem dX1_runFrom_0 : decode cX1_runFrom 0 = .ok (.iload_n 1, 1) := by decide +kernel
theorem dX1_runFrom_1 : decode cX1_runFrom 1 = .ok (.istore 5, 2) := by decide +kernel
theorem dX1_runFrom_3 : decode cX1_runFrom 3 = .ok (.iconst 0, 1) := by decide +kernel
theorem dX1_runFrom_4 : decode cX1_runFrom 4 = .ok (.istore 6, 2) := by decide +kernel
theorem dX1_runFrom_6 : decode cX1_runFrom 6 = .ok (.iload 6, 2) := by decide +kernel
theorem dX1_runFrom_8 : decode cX1_runFrom 8 = .ok (.bipush 8, 2) := by decide +kernel
theorem dX1_runFrom_10 : decode cX1_runFrom 10 = .ok (.if_icmp .ge 77, 3) := by decide +kernel
theorem dX1_runFrom_13 : decode cX1_runFrom 13 = .ok (.iload 5, 2) := by decide +kernel
theorem dX1_runFrom_15 : decode cX1_runFrom 15 = .ok (.ifCond .lt 72, 3) := by decide +kernel
theorem dX1_runFrom_18 : decode cX1_runFrom 18 = .ok (.iload 5, 2) := by decide +kernel
theorem dX1_runFrom_20 : decode cX1_runFrom 20 = .ok (.bipush 8, 2) := by decide +kernel
theorem dX1_runFrom_22 : decode cX1_runFrom 22 = .ok (.if_icmp .ge 65, 3) := by decide +kernel
theorem dX1_runFrom_25 : decode cX1_runFrom 25 = .ok (.iload 4, 2) := by decide +kernel
theorem dX1_runFrom_27 : decode cX1_runFrom 27 = .ok (.bipush 40, 2) := by decide +kernel
theorem dX1_runFrom_29 : decode cX1_runFrom 29 = .ok (.if_icmp .ge 58, 3) := by decide +kernel
theorem dX1_runFrom_32 : decode cX1_runFrom 32 = .ok (.getstatic 49, 3) := by decide +kernel
theorem dX1_runFrom_35 : decode cX1_runFrom 35 = .ok (.iload 5, 2) := by decide +kernel
theorem dX1_runFrom_37 : decode cX1_runFrom 37 = .ok (.iconst 4, 1) := by decide +kernel
theorem dX1_runFrom_38 : decode cX1_runFrom 38 = .ok (.imul, 1) := by decide +kernel
theorem dX1_runFrom_39 : decode cX1_runFrom 39 = .ok (.iload_n 2, 1) := by decide +kernel
theorem dX1_runFrom_40 : decode cX1_runFrom 40 = .ok (.iadd, 1) := by decide +kernel
theorem dX1_runFrom_41 : decode cX1_runFrom 41 = .ok (.iaload, 1) := by decide +kernel
theorem dX1_runFrom_42 : decode cX1_runFrom 42 = .ok (.istore 7, 2) := by decide +kernel
theorem dX1_runFrom_44 : decode cX1_runFrom 44 = .ok (.iload 7, 2) := by decide +kernel
theorem dX1_runFrom_46 : decode cX1_runFrom 46 = .ok (.ifCond .eq 27, 3) := by decide +kernel
theorem dX1_runFrom_49 : decode cX1_runFrom 49 = .ok (.aload_n 0, 1) := by decide +kernel
theorem dX1_runFrom_50 : decode cX1_runFrom 50 = .ok (.iload 7, 2) := by decide +kernel
theorem dX1_runFrom_52 : decode cX1_runFrom 52 = .ok (.invokevirtual 52, 3) := by decide +kernel
theorem dX1_runFrom_55 : decode cX1_runFrom 55 = .ok (.aload_n 0, 1) := by decide +kernel
theorem dX1_runFrom_56 : decode cX1_runFrom 56 = .ok (.iload 7, 2) := by decide +kernel
theorem dX1_runFrom_58 : decode cX1_runFrom 58 = .ok (.getstatic 31, 3) := by decide +kernel
theorem dX1_runFrom_61 : decode cX1_runFrom 61 = .ok (.iload 5, 2) := by decide +kernel
theorem dX1_runFrom_63 : decode cX1_runFrom 63 = .ok (.iaload, 1) := by decide +kernel
theorem dX1_runFrom_64 : decode cX1_runFrom 64 = .ok (.iload_n 3, 1) := by decide +kernel
theorem dX1_runFrom_65 : decode cX1_runFrom 65 = .ok (.iload 4, 2) := by decide +kernel
theorem dX1_runFrom_67 : decode cX1_runFrom 67 = .ok (.iconst 1, 1) := by decide +kernel
theorem dX1_runFrom_68 : decode cX1_runFrom 68 = .ok (.iadd, 1) := by decide +kernel
theorem dX1_runFrom_69 : decode cX1_runFrom 69 = .ok (.invokevirtual 56, 3) := by decide +kernel
theorem dX1_runFrom_72 : decode cX1_runFrom 72 = .ok (.ireturn, 1) := by decide +kernel
theorem dX1_runFrom_73 : decode cX1_runFrom 73 = .ok (.getstatic 31, 3) := by decide +kernel
theorem dX1_runFrom_76 : decode cX1_runFrom 76 = .ok (.iload 5, 2) := by decide +kernel
theorem dX1_runFrom_78 : decode cX1_runFrom 78 = .ok (.iaload, 1) := by decide +kernel
theorem dX1_runFrom_79 : decode cX1_runFrom 79 = .ok (.istore 5, 2) := by decide +kernel
theorem dX1_runFrom_81 : decode cX1_runFrom 81 = .ok (.iinc 6 1, 3) := by decide +kernel
theorem dX1_runFrom_84 : decode cX1_runFrom 84 = .ok (.goto (-78), 3) := by decide +kernel
theorem dX1_runFrom_87 : decode cX1_runFrom 87 = .ok (.iconst 0, 1) := by decide +kernel
theorem dX1_runFrom_88 : decode cX1_runFrom 88 = .ok (.ireturn, 1) := by decide +kernel
theorem dX1_noteBegun_0 : decode cX1_noteBegun 0 = .ok (.aload_n 0, 1) := by decide +kernel
theorem dX1_noteBegun_1 : decode cX1_noteBegun 1 = .ok (.getfield 22, 3) := by decide +kernel
theorem dX1_noteBegun_4 : decode cX1_noteBegun 4 = .ok (.bipush 24, 2) := by decide +kernel
theorem dX1_noteBegun_6 : decode cX1_noteBegun 6 = .ok (.if_icmp .ge 13, 3) := by decide +kernel
theorem dX1_noteBegun_9 : decode cX1_noteBegun 9 = .ok (.aload_n 0, 1) := by decide +kernel
theorem dX1_noteBegun_10 : decode cX1_noteBegun 10 = .ok (.getfield 15, 3) := by decide +kernel
theorem dX1_noteBegun_13 : decode cX1_noteBegun 13 = .ok (.aload_n 0, 1) := by decide +kernel
theorem dX1_noteBegun_14 : decode cX1_noteBegun 14 = .ok (.getfield 22, 3) := by decide +kernel
theorem dX1_noteBegun_17 : decode cX1_noteBegun 17 = .ok (.iload_n 1, 1) := by decide +kernel
theorem dX1_noteBegun_18 : decode cX1_noteBegun 18 = .ok (.iastore, 1) := by decide +kernel
theorem dX1_noteBegun_19 : decode cX1_noteBegun 19 = .ok (.aload_n 0, 1) := by decide +kernel
theorem dX1_noteBegun_20 : decode cX1_noteBegun 20 = .ok (.dup, 1) := by decide +kernel
theorem dX1_noteBegun_21 : decode cX1_noteBegun 21 = .ok (.getfield 22, 3) := by decide +kernel
theorem dX1_noteBegun_24 : decode cX1_noteBegun 24 = .ok (.iconst 1, 1) := by decide +kernel
theorem dX1_noteBegun_25 : decode cX1_noteBegun 25 = .ok (.iadd, 1) := by decide +kernel
theorem dX1_noteBegun_26 : decode cX1_noteBegun 26 = .ok (.putfield 22, 3) := by decide +kernel
theorem dX1_noteBegun_29 : decode cX1_noteBegun 29 = .ok (.return_, 1) := by decide +kernel
theorem dX1_runBody_0 : decode cX1_runBody 0 = .ok (.iload_n 1, 1) := by decide +kernel
theorem dX1_runBody_1 : decode cX1_runBody 1 = .ok (.lookupswitch 299 #[(1, 123), (2, 130), (10, 148), (11, 159), (20, 166), (30, 178), (40, 189), (41, 201), (50, 213), (60, 225), (61, 244), (70, 256), (80, 268), (81, 287)], 123) := by decide +kernel
theorem dX1_runBody_124 : decode cX1_runBody 124 = .ok (.iload_n 3, 1) := by decide +kernel
theorem dX1_runBody_125 : decode cX1_runBody 125 = .ok (.aload_n 0, 1) := by decide +kernel
theorem dX1_runBody_126 : decode cX1_runBody 126 = .ok (.getfield 38, 3) := by decide +kernel
theorem dX1_runBody_129 : decode cX1_runBody 129 = .ok (.iadd, 1) := by decide +kernel
theorem dX1_runBody_130 : decode cX1_runBody 130 = .ok (.ireturn, 1) := by decide +kernel
theorem dX1_runBody_131 : decode cX1_runBody 131 = .ok (.aload_n 0, 1) := by decide +kernel
theorem dX1_runBody_132 : decode cX1_runBody 132 = .ok (.iconst 1, 1) := by decide +kernel
theorem dX1_runBody_133 : decode cX1_runBody 133 = .ok (.iload_n 3, 1) := by decide +kernel
theorem dX1_runBody_134 : decode cX1_runBody 134 = .ok (.iload 4, 2) := by decide +kernel
theorem dX1_runBody_136 : decode cX1_runBody 136 = .ok (.invokevirtual 41, 3) := by decide +kernel
theorem dX1_runBody_139 : decode cX1_runBody 139 = .ok (.aload_n 0, 1) := by decide +kernel
theorem dX1_runBody_140 : decode cX1_runBody 140 = .ok (.iconst 2, 1) := by decide +kernel
theorem dX1_runBody_141 : decode cX1_runBody 141 = .ok (.iconst 1, 1) := by decide +kernel
theorem dX1_runBody_142 : decode cX1_runBody 142 = .ok (.iload 4, 2) := by decide +kernel
theorem dX1_runBody_144 : decode cX1_runBody 144 = .ok (.invokevirtual 41, 3) := by decide +kernel
theorem dX1_runBody_147 : decode cX1_runBody 147 = .ok (.isub, 1) := by decide +kernel
theorem dX1_runBody_148 : decode cX1_runBody 148 = .ok (.ireturn, 1) := by decide +kernel
theorem dX1_runBody_149 : decode cX1_runBody 149 = .ok (.aload_n 0, 1) := by decide +kernel
theorem dX1_runBody_150 : decode cX1_runBody 150 = .ok (.iconst 0, 1) := by decide +kernel
theorem dX1_runBody_151 : decode cX1_runBody 151 = .ok (.iload_n 3, 1) := by decide +kernel
theorem dX1_runBody_152 : decode cX1_runBody 152 = .ok (.iload 4, 2) := by decide +kernel
theorem dX1_runBody_154 : decode cX1_runBody 154 = .ok (.invokevirtual 41, 3) := by decide +kernel
theorem dX1_runBody_157 : decode cX1_runBody 157 = .ok (.iconst 2, 1) := by decide +kernel
theorem dX1_runBody_158 : decode cX1_runBody 158 = .ok (.imul, 1) := by decide +kernel
theorem dX1_runBody_159 : decode cX1_runBody 159 = .ok (.ireturn, 1) := by decide +kernel
theorem dX1_runBody_160 : decode cX1_runBody 160 = .ok (.iload_n 3, 1) := by decide +kernel
theorem dX1_runBody_161 : decode cX1_runBody 161 = .ok (.aload_n 0, 1) := by decide +kernel
theorem dX1_runBody_162 : decode cX1_runBody 162 = .ok (.getfield 38, 3) := by decide +kernel
theorem dX1_runBody_165 : decode cX1_runBody 165 = .ok (.ixor, 1) := by decide +kernel
theorem dX1_runBody_166 : decode cX1_runBody 166 = .ok (.ireturn, 1) := by decide +kernel
theorem dX1_runBody_167 : decode cX1_runBody 167 = .ok (.aload_n 0, 1) := by decide +kernel
theorem dX1_runBody_168 : decode cX1_runBody 168 = .ok (.iload_n 2, 1) := by decide +kernel
theorem dX1_runBody_169 : decode cX1_runBody 169 = .ok (.iconst 0, 1) := by decide +kernel
theorem dX1_runBody_170 : decode cX1_runBody 170 = .ok (.iload_n 3, 1) := by decide +kernel
theorem dX1_runBody_171 : decode cX1_runBody 171 = .ok (.iload 4, 2) := by decide +kernel
theorem dX1_runBody_173 : decode cX1_runBody 173 = .ok (.invokevirtual 45, 3) := by decide +kernel
theorem dX1_runBody_176 : decode cX1_runBody 176 = .ok (.iconst 3, 1) := by decide +kernel
theorem dX1_runBody_177 : decode cX1_runBody 177 = .ok (.iadd, 1) := by decide +kernel
theorem dX1_runBody_178 : decode cX1_runBody 178 = .ok (.ireturn, 1) := by decide +kernel
theorem dX1_runBody_179 : decode cX1_runBody 179 = .ok (.aload_n 0, 1) := by decide +kernel
theorem dX1_runBody_180 : decode cX1_runBody 180 = .ok (.iload_n 2, 1) := by decide +kernel
theorem dX1_runBody_181 : decode cX1_runBody 181 = .ok (.iconst 1, 1) := by decide +kernel
theorem dX1_runBody_182 : decode cX1_runBody 182 = .ok (.iload_n 3, 1) := by decide +kernel
theorem dX1_runBody_183 : decode cX1_runBody 183 = .ok (.iload 4, 2) := by decide +kernel
theorem dX1_runBody_185 : decode cX1_runBody 185 = .ok (.invokevirtual 45, 3) := by decide +kernel
theorem dX1_runBody_188 : decode cX1_runBody 188 = .ok (.ineg, 1) := by decide +kernel
theorem dX1_runBody_189 : decode cX1_runBody 189 = .ok (.ireturn, 1) := by decide +kernel
theorem dX1_runBody_190 : decode cX1_runBody 190 = .ok (.aload_n 0, 1) := by decide +kernel
theorem dX1_runBody_191 : decode cX1_runBody 191 = .ok (.iload_n 2, 1) := by decide +kernel
theorem dX1_runBody_192 : decode cX1_runBody 192 = .ok (.iconst 2, 1) := by decide +kernel
theorem dX1_runBody_193 : decode cX1_runBody 193 = .ok (.iload_n 3, 1) := by decide +kernel
theorem dX1_runBody_194 : decode cX1_runBody 194 = .ok (.iload 4, 2) := by decide +kernel
theorem dX1_runBody_196 : decode cX1_runBody 196 = .ok (.invokevirtual 45, 3) := by decide +kernel
theorem dX1_runBody_199 : decode cX1_runBody 199 = .ok (.iconst 3, 1) := by decide +kernel
theorem dX1_runBody_200 : decode cX1_runBody 200 = .ok (.imul, 1) := by decide +kernel
theorem dX1_runBody_201 : decode cX1_runBody 201 = .ok (.ireturn, 1) := by decide +kernel
theorem dX1_runBody_202 : decode cX1_runBody 202 = .ok (.aload_n 0, 1) := by decide +kernel
theorem dX1_runBody_203 : decode cX1_runBody 203 = .ok (.iload_n 2, 1) := by decide +kernel
theorem dX1_runBody_204 : decode cX1_runBody 204 = .ok (.iconst 1, 1) := by decide +kernel
theorem dX1_runBody_205 : decode cX1_runBody 205 = .ok (.iload_n 3, 1) := by decide +kernel
theorem dX1_runBody_206 : decode cX1_runBody 206 = .ok (.iconst 1, 1) := by decide +kernel
theorem dX1_runBody_207 : decode cX1_runBody 207 = .ok (.iadd, 1) := by decide +kernel
theorem dX1_runBody_208 : decode cX1_runBody 208 = .ok (.iload 4, 2) := by decide +kernel
theorem dX1_runBody_210 : decode cX1_runBody 210 = .ok (.invokevirtual 45, 3) := by decide +kernel
theorem dX1_runBody_213 : decode cX1_runBody 213 = .ok (.ireturn, 1) := by decide +kernel
theorem dX1_runBody_214 : decode cX1_runBody 214 = .ok (.aload_n 0, 1) := by decide +kernel
theorem dX1_runBody_215 : decode cX1_runBody 215 = .ok (.iload_n 2, 1) := by decide +kernel
theorem dX1_runBody_216 : decode cX1_runBody 216 = .ok (.iconst 3, 1) := by decide +kernel
theorem dX1_runBody_217 : decode cX1_runBody 217 = .ok (.iload_n 3, 1) := by decide +kernel
theorem dX1_runBody_218 : decode cX1_runBody 218 = .ok (.iload 4, 2) := by decide +kernel
theorem dX1_runBody_220 : decode cX1_runBody 220 = .ok (.invokevirtual 45, 3) := by decide +kernel
theorem dX1_runBody_223 : decode cX1_runBody 223 = .ok (.iconst 5, 1) := by decide +kernel
theorem dX1_runBody_224 : decode cX1_runBody 224 = .ok (.ixor, 1) := by decide +kernel
theorem dX1_runBody_225 : decode cX1_runBody 225 = .ok (.ireturn, 1) := by decide +kernel
theorem dX1_runBody_226 : decode cX1_runBody 226 = .ok (.aload_n 0, 1) := by decide +kernel
theorem dX1_runBody_227 : decode cX1_runBody 227 = .ok (.iload_n 2, 1) := by decide +kernel
theorem dX1_runBody_228 : decode cX1_runBody 228 = .ok (.iconst 2, 1) := by decide +kernel
theorem dX1_runBody_229 : decode cX1_runBody 229 = .ok (.iload_n 3, 1) := by decide +kernel
theorem dX1_runBody_230 : decode cX1_runBody 230 = .ok (.iload 4, 2) := by decide +kernel
theorem dX1_runBody_232 : decode cX1_runBody 232 = .ok (.invokevirtual 45, 3) := by decide +kernel
theorem dX1_runBody_235 : decode cX1_runBody 235 = .ok (.aload_n 0, 1) := by decide +kernel
theorem dX1_runBody_236 : decode cX1_runBody 236 = .ok (.iconst 0, 1) := by decide +kernel
theorem dX1_runBody_237 : decode cX1_runBody 237 = .ok (.iconst 2, 1) := by decide +kernel
theorem dX1_runBody_238 : decode cX1_runBody 238 = .ok (.iload 4, 2) := by decide +kernel
theorem dX1_runBody_240 : decode cX1_runBody 240 = .ok (.invokevirtual 41, 3) := by decide +kernel
theorem dX1_runBody_243 : decode cX1_runBody 243 = .ok (.isub, 1) := by decide +kernel
theorem dX1_runBody_244 : decode cX1_runBody 244 = .ok (.ireturn, 1) := by decide +kernel
theorem dX1_runBody_245 : decode cX1_runBody 245 = .ok (.aload_n 0, 1) := by decide +kernel
theorem dX1_runBody_246 : decode cX1_runBody 246 = .ok (.iload_n 2, 1) := by decide +kernel
theorem dX1_runBody_247 : decode cX1_runBody 247 = .ok (.iconst 3, 1) := by decide +kernel
theorem dX1_runBody_248 : decode cX1_runBody 248 = .ok (.iload_n 3, 1) := by decide +kernel
theorem dX1_runBody_249 : decode cX1_runBody 249 = .ok (.iload 4, 2) := by decide +kernel
theorem dX1_runBody_251 : decode cX1_runBody 251 = .ok (.invokevirtual 45, 3) := by decide +kernel
theorem dX1_runBody_254 : decode cX1_runBody 254 = .ok (.iconst 1, 1) := by decide +kernel
theorem dX1_runBody_255 : decode cX1_runBody 255 = .ok (.iadd, 1) := by decide +kernel
theorem dX1_runBody_256 : decode cX1_runBody 256 = .ok (.ireturn, 1) := by decide +kernel
theorem dX1_runBody_257 : decode cX1_runBody 257 = .ok (.aload_n 0, 1) := by decide +kernel
theorem dX1_runBody_258 : decode cX1_runBody 258 = .ok (.iload_n 2, 1) := by decide +kernel
theorem dX1_runBody_259 : decode cX1_runBody 259 = .ok (.iconst 0, 1) := by decide +kernel
theorem dX1_runBody_260 : decode cX1_runBody 260 = .ok (.iload_n 3, 1) := by decide +kernel
theorem dX1_runBody_261 : decode cX1_runBody 261 = .ok (.iload 4, 2) := by decide +kernel
theorem dX1_runBody_263 : decode cX1_runBody 263 = .ok (.invokevirtual 45, 3) := by decide +kernel
theorem dX1_runBody_266 : decode cX1_runBody 266 = .ok (.iconst 2, 1) := by decide +kernel
theorem dX1_runBody_267 : decode cX1_runBody 267 = .ok (.imul, 1) := by decide +kernel
theorem dX1_runBody_268 : decode cX1_runBody 268 = .ok (.ireturn, 1) := by decide +kernel
theorem dX1_runBody_269 : decode cX1_runBody 269 = .ok (.aload_n 0, 1) := by decide +kernel
theorem dX1_runBody_270 : decode cX1_runBody 270 = .ok (.iload_n 2, 1) := by decide +kernel
theorem dX1_runBody_271 : decode cX1_runBody 271 = .ok (.iconst 1, 1) := by decide +kernel
theorem dX1_runBody_272 : decode cX1_runBody 272 = .ok (.iload_n 3, 1) := by decide +kernel
theorem dX1_runBody_273 : decode cX1_runBody 273 = .ok (.iload 4, 2) := by decide +kernel
theorem dX1_runBody_275 : decode cX1_runBody 275 = .ok (.invokevirtual 45, 3) := by decide +kernel
theorem dX1_runBody_278 : decode cX1_runBody 278 = .ok (.aload_n 0, 1) := by decide +kernel
theorem dX1_runBody_279 : decode cX1_runBody 279 = .ok (.iconst 2, 1) := by decide +kernel
theorem dX1_runBody_280 : decode cX1_runBody 280 = .ok (.iconst 2, 1) := by decide +kernel
theorem dX1_runBody_281 : decode cX1_runBody 281 = .ok (.iload 4, 2) := by decide +kernel
theorem dX1_runBody_283 : decode cX1_runBody 283 = .ok (.invokevirtual 41, 3) := by decide +kernel
theorem dX1_runBody_286 : decode cX1_runBody 286 = .ok (.iadd, 1) := by decide +kernel
theorem dX1_runBody_287 : decode cX1_runBody 287 = .ok (.ireturn, 1) := by decide +kernel
theorem dX1_runBody_288 : decode cX1_runBody 288 = .ok (.aload_n 0, 1) := by decide +kernel
theorem dX1_runBody_289 : decode cX1_runBody 289 = .ok (.iload_n 2, 1) := by decide +kernel
theorem dX1_runBody_290 : decode cX1_runBody 290 = .ok (.iconst 0, 1) := by decide +kernel
theorem dX1_runBody_291 : decode cX1_runBody 291 = .ok (.iload_n 3, 1) := by decide +kernel
theorem dX1_runBody_292 : decode cX1_runBody 292 = .ok (.iload 4, 2) := by decide +kernel
theorem dX1_runBody_294 : decode cX1_runBody 294 = .ok (.invokevirtual 45, 3) := by decide +kernel
theorem dX1_runBody_297 : decode cX1_runBody 297 = .ok (.iconst 1, 1) := by decide +kernel
theorem dX1_runBody_298 : decode cX1_runBody 298 = .ok (.isub, 1) := by decide +kernel
theorem dX1_runBody_299 : decode cX1_runBody 299 = .ok (.ireturn, 1) := by decide +kernel
theorem dX1_runBody_300 : decode cX1_runBody 300 = .ok (.iconst 0, 1) := by decide +kernel
theorem dX1_runBody_301 : decode cX1_runBody 301 = .ok (.ireturn, 1) := by decide +kernel
theorem dX2_init_0 : decode cX2_init 0 = .ok (.aload_n 0, 1) := by decide +kernel
theorem dX2_init_1 : decode cX2_init 1 = .ok (.invokespecial 3, 3) := by decide +kernel
theorem dX2_init_4 : decode cX2_init 4 = .ok (.aload_n 0, 1) := by decide +kernel
theorem dX2_init_5 : decode cX2_init 5 = .ok (.bipush 120, 2) := by decide +kernel
theorem dX2_init_7 : decode cX2_init 7 = .ok (.newarray .int, 2) := by decide +kernel
theorem dX2_init_9 : decode cX2_init 9 = .ok (.putfield 11, 3) := by decide +kernel
theorem dX2_init_12 : decode cX2_init 12 = .ok (.aload_n 0, 1) := by decide +kernel
theorem dX2_init_13 : decode cX2_init 13 = .ok (.bipush 120, 2) := by decide +kernel
theorem dX2_init_15 : decode cX2_init 15 = .ok (.newarray .int, 2) := by decide +kernel
theorem dX2_init_17 : decode cX2_init 17 = .ok (.putfield 15, 3) := by decide +kernel
theorem dX2_init_20 : decode cX2_init 20 = .ok (.aload_n 0, 1) := by decide +kernel
theorem dX2_init_21 : decode cX2_init 21 = .ok (.bipush 120, 2) := by decide +kernel
theorem dX2_init_23 : decode cX2_init 23 = .ok (.newarray .int, 2) := by decide +kernel
theorem dX2_init_25 : decode cX2_init 25 = .ok (.putfield 18, 3) := by decide +kernel
theorem dX2_init_28 : decode cX2_init 28 = .ok (.aload_n 0, 1) := by decide +kernel
theorem dX2_init_29 : decode cX2_init 29 = .ok (.bipush 6, 2) := by decide +kernel
theorem dX2_init_31 : decode cX2_init 31 = .ok (.newarray .int, 2) := by decide +kernel
theorem dX2_init_33 : decode cX2_init 33 = .ok (.putfield 21, 3) := by decide +kernel
theorem dX2_init_36 : decode cX2_init 36 = .ok (.aload_n 0, 1) := by decide +kernel
theorem dX2_init_37 : decode cX2_init 37 = .ok (.bipush 120, 2) := by decide +kernel
theorem dX2_init_39 : decode cX2_init 39 = .ok (.newarray .int, 2) := by decide +kernel
theorem dX2_init_41 : decode cX2_init 41 = .ok (.putfield 24, 3) := by decide +kernel
theorem dX2_init_44 : decode cX2_init 44 = .ok (.return_, 1) := by decide +kernel
theorem dX2_takeByte_0 : decode cX2_takeByte 0 = .ok (.aload_n 0, 1) := by decide +kernel
theorem dX2_takeByte_1 : decode cX2_takeByte 1 = .ok (.getfield 27, 3) := by decide +kernel
theorem dX2_takeByte_4 : decode cX2_takeByte 4 = .ok (.bipush 120, 2) := by decide +kernel
theorem dX2_takeByte_6 : decode cX2_takeByte 6 = .ok (.if_icmp .lt 6, 3) := by decide +kernel
theorem dX2_takeByte_9 : decode cX2_takeByte 9 = .ok (.bipush (-3), 2) := by decide +kernel
theorem dX2_takeByte_11 : decode cX2_takeByte 11 = .ok (.ireturn, 1) := by decide +kernel
theorem dX2_takeByte_12 : decode cX2_takeByte 12 = .ok (.aload_n 0, 1) := by decide +kernel
theorem dX2_takeByte_13 : decode cX2_takeByte 13 = .ok (.getfield 11, 3) := by decide +kernel
theorem dX2_takeByte_16 : decode cX2_takeByte 16 = .ok (.aload_n 0, 1) := by decide +kernel
theorem dX2_takeByte_17 : decode cX2_takeByte 17 = .ok (.getfield 27, 3) := by decide +kernel
theorem dX2_takeByte_20 : decode cX2_takeByte 20 = .ok (.iload_n 1, 1) := by decide +kernel
theorem dX2_takeByte_21 : decode cX2_takeByte 21 = .ok (.iastore, 1) := by decide +kernel
theorem dX2_takeByte_22 : decode cX2_takeByte 22 = .ok (.aload_n 0, 1) := by decide +kernel
theorem dX2_takeByte_23 : decode cX2_takeByte 23 = .ok (.dup, 1) := by decide +kernel
theorem dX2_takeByte_24 : decode cX2_takeByte 24 = .ok (.getfield 27, 3) := by decide +kernel
theorem dX2_takeByte_27 : decode cX2_takeByte 27 = .ok (.iconst 1, 1) := by decide +kernel
theorem dX2_takeByte_28 : decode cX2_takeByte 28 = .ok (.iadd, 1) := by decide +kernel
theorem dX2_takeByte_29 : decode cX2_takeByte 29 = .ok (.putfield 27, 3) := by decide +kernel
theorem dX2_takeByte_32 : decode cX2_takeByte 32 = .ok (.aload_n 0, 1) := by decide +kernel
theorem dX2_takeByte_33 : decode cX2_takeByte 33 = .ok (.getfield 27, 3) := by decide +kernel
theorem dX2_takeByte_36 : decode cX2_takeByte 36 = .ok (.ireturn, 1) := by decide +kernel
theorem dX2_takeTape_0 : decode cX2_takeTape 0 = .ok (.aload_n 0, 1) := by decide +kernel
theorem dX2_takeTape_1 : decode cX2_takeTape 1 = .ok (.iconst 0, 1) := by decide +kernel
theorem dX2_takeTape_2 : decode cX2_takeTape 2 = .ok (.putfield 31, 3) := by decide +kernel
theorem dX2_takeTape_5 : decode cX2_takeTape 5 = .ok (.aload_n 0, 1) := by decide +kernel
theorem dX2_takeTape_6 : decode cX2_takeTape 6 = .ok (.iconst 0, 1) := by decide +kernel
theorem dX2_takeTape_7 : decode cX2_takeTape 7 = .ok (.putfield 34, 3) := by decide +kernel
theorem dX2_takeTape_10 : decode cX2_takeTape 10 = .ok (.aload_n 0, 1) := by decide +kernel
theorem dX2_takeTape_11 : decode cX2_takeTape 11 = .ok (.iconst (-1), 1) := by decide +kernel
theorem dX2_takeTape_12 : decode cX2_takeTape 12 = .ok (.putfield 37, 3) := by decide +kernel
theorem dX2_takeTape_15 : decode cX2_takeTape 15 = .ok (.aload_n 0, 1) := by decide +kernel
theorem dX2_takeTape_16 : decode cX2_takeTape 16 = .ok (.invokevirtual 40, 3) := by decide +kernel
theorem dX2_takeTape_19 : decode cX2_takeTape 19 = .ok (.aload_n 0, 1) := by decide +kernel
theorem dX2_takeTape_20 : decode cX2_takeTape 20 = .ok (.iconst 0, 1) := by decide +kernel
theorem dX2_takeTape_21 : decode cX2_takeTape 21 = .ok (.putfield 27, 3) := by decide +kernel
theorem dX2_takeTape_24 : decode cX2_takeTape 24 = .ok (.aload_n 0, 1) := by decide +kernel
theorem dX2_takeTape_25 : decode cX2_takeTape 25 = .ok (.getfield 37, 3) := by decide +kernel
theorem dX2_takeTape_28 : decode cX2_takeTape 28 = .ok (.iconst (-1), 1) := by decide +kernel
theorem dX2_takeTape_29 : decode cX2_takeTape 29 = .ok (.if_icmp .ne 28, 3) := by decide +kernel
theorem dX2_takeTape_32 : decode cX2_takeTape 32 = .ok (.aload_n 0, 1) := by decide +kernel
theorem dX2_takeTape_33 : decode cX2_takeTape 33 = .ok (.getfield 15, 3) := by decide +kernel
theorem dX2_takeTape_36 : decode cX2_takeTape 36 = .ok (.iconst 0, 1) := by decide +kernel
theorem dX2_takeTape_37 : decode cX2_takeTape 37 = .ok (.aload_n 0, 1) := by decide +kernel
theorem dX2_takeTape_38 : decode cX2_takeTape 38 = .ok (.getfield 18, 3) := by decide +kernel
theorem dX2_takeTape_41 : decode cX2_takeTape 41 = .ok (.iconst 0, 1) := by decide +kernel
theorem dX2_takeTape_42 : decode cX2_takeTape 42 = .ok (.aload_n 0, 1) := by decide +kernel
theorem dX2_takeTape_43 : decode cX2_takeTape 43 = .ok (.getfield 31, 3) := by decide +kernel
theorem dX2_takeTape_46 : decode cX2_takeTape 46 = .ok (.invokestatic 43, 3) := by decide +kernel
theorem dX2_takeTape_49 : decode cX2_takeTape 49 = .ok (.aload_n 0, 1) := by decide +kernel
theorem dX2_takeTape_50 : decode cX2_takeTape 50 = .ok (.aload_n 0, 1) := by decide +kernel
theorem dX2_takeTape_51 : decode cX2_takeTape 51 = .ok (.getfield 31, 3) := by decide +kernel
theorem dX2_takeTape_54 : decode cX2_takeTape 54 = .ok (.putfield 49, 3) := by decide +kernel
theorem dX2_takeTape_57 : decode cX2_takeTape 57 = .ok (.aload_n 0, 1) := by decide +kernel
theorem dX2_takeTape_58 : decode cX2_takeTape 58 = .ok (.getfield 37, 3) := by decide +kernel
theorem dX2_takeTape_61 : decode cX2_takeTape 61 = .ok (.ireturn, 1) := by decide +kernel
theorem dX2_readLines_0 : decode cX2_readLines 0 = .ok (.aload_n 0, 1) := by decide +kernel
theorem dX2_readLines_1 : decode cX2_readLines 1 = .ok (.invokevirtual 52, 3) := by decide +kernel
theorem dX2_readLines_4 : decode cX2_readLines 4 = .ok (.iconst 0, 1) := by decide +kernel
theorem dX2_readLines_5 : decode cX2_readLines 5 = .ok (.istore_n 1, 1) := by decide +kernel
theorem dX2_readLines_6 : decode cX2_readLines 6 = .ok (.iload_n 1, 1) := by decide +kernel
theorem dX2_readLines_7 : decode cX2_readLines 7 = .ok (.bipush 120, 2) := by decide +kernel
theorem dX2_readLines_9 : decode cX2_readLines 9 = .ok (.if_icmp .ge 34, 3) := by decide +kernel
theorem dX2_readLines_12 : decode cX2_readLines 12 = .ok (.aload_n 0, 1) := by decide +kernel
theorem dX2_readLines_13 : decode cX2_readLines 13 = .ok (.getfield 37, 3) := by decide +kernel
theorem dX2_readLines_16 : decode cX2_readLines 16 = .ok (.iconst (-1), 1) := by decide +kernel
theorem dX2_readLines_17 : decode cX2_readLines 17 = .ok (.if_icmp .ne 26, 3) := by decide +kernel
theorem dX2_readLines_20 : decode cX2_readLines 20 = .ok (.aload_n 0, 1) := by decide +kernel
theorem dX2_readLines_21 : decode cX2_readLines 21 = .ok (.invokevirtual 55, 3) := by decide +kernel
theorem dX2_readLines_24 : decode cX2_readLines 24 = .ok (.bipush 59, 2) := by decide +kernel
theorem dX2_readLines_26 : decode cX2_readLines 26 = .ok (.if_icmp .ne 17, 3) := by decide +kernel
theorem dX2_readLines_29 : decode cX2_readLines 29 = .ok (.aload_n 0, 1) := by decide +kernel
theorem dX2_readLines_30 : decode cX2_readLines 30 = .ok (.invokevirtual 59, 3) := by decide +kernel
theorem dX2_readLines_33 : decode cX2_readLines 33 = .ok (.aload_n 0, 1) := by decide +kernel
theorem dX2_readLines_34 : decode cX2_readLines 34 = .ok (.invokevirtual 52, 3) := by decide +kernel
theorem dX2_readLines_37 : decode cX2_readLines 37 = .ok (.iinc 1 1, 3) := by decide +kernel
theorem dX2_readLines_40 : decode cX2_readLines 40 = .ok (.goto (-34), 3) := by decide +kernel
theorem dX2_readLines_43 : decode cX2_readLines 43 = .ok (.aload_n 0, 1) := by decide +kernel
theorem dX2_readLines_44 : decode cX2_readLines 44 = .ok (.invokevirtual 55, 3) := by decide +kernel
theorem dX2_readLines_47 : decode cX2_readLines 47 = .ok (.iconst (-1), 1) := by decide +kernel
theorem dX2_readLines_48 : decode cX2_readLines 48 = .ok (.if_icmp .eq 7, 3) := by decide +kernel
theorem dX2_readLines_51 : decode cX2_readLines 51 = .ok (.aload_n 0, 1) := by decide +kernel
theorem dX2_readLines_52 : decode cX2_readLines 52 = .ok (.invokevirtual 62, 3) := by decide +kernel
theorem dX2_readLines_55 : decode cX2_readLines 55 = .ok (.return_, 1) := by decide +kernel
theorem dX2_readLine_0 : decode cX2_readLine 0 = .ok (.aload_n 0, 1) := by decide +kernel
theorem dX2_readLine_1 : decode cX2_readLine 1 = .ok (.iconst 0, 1) := by decide +kernel
theorem dX2_readLine_2 : decode cX2_readLine 2 = .ok (.iconst 0, 1) := by decide +kernel
theorem dX2_readLine_3 : decode cX2_readLine 3 = .ok (.invokevirtual 65, 3) := by decide +kernel
theorem dX2_readLine_6 : decode cX2_readLine 6 = .ok (.aload_n 0, 1) := by decide +kernel
theorem dX2_readLine_7 : decode cX2_readLine 7 = .ok (.getfield 37, 3) := by decide +kernel
theorem dX2_readLine_10 : decode cX2_readLine 10 = .ok (.iconst (-1), 1) := by decide +kernel
theorem dX2_readLine_11 : decode cX2_readLine 11 = .ok (.if_icmp .ne 22, 3) := by decide +kernel
theorem dX2_readLine_14 : decode cX2_readLine 14 = .ok (.aload_n 0, 1) := by decide +kernel
theorem dX2_readLine_15 : decode cX2_readLine 15 = .ok (.invokevirtual 55, 3) := by decide +kernel
theorem dX2_readLine_18 : decode cX2_readLine 18 = .ok (.bipush 63, 2) := by decide +kernel
theorem dX2_readLine_20 : decode cX2_readLine 20 = .ok (.if_icmp .ne 13, 3) := by decide +kernel
theorem dX2_readLine_23 : decode cX2_readLine 23 = .ok (.aload_n 0, 1) := by decide +kernel
theorem dX2_readLine_24 : decode cX2_readLine 24 = .ok (.invokevirtual 59, 3) := by decide +kernel
theorem dX2_readLine_27 : decode cX2_readLine 27 = .ok (.aload_n 0, 1) := by decide +kernel
theorem dX2_readLine_28 : decode cX2_readLine 28 = .ok (.iconst 0, 1) := by decide +kernel
theorem dX2_readLine_29 : decode cX2_readLine 29 = .ok (.iconst 0, 1) := by decide +kernel
theorem dX2_readLine_30 : decode cX2_readLine 30 = .ok (.invokevirtual 65, 3) := by decide +kernel
theorem dX2_readLine_33 : decode cX2_readLine 33 = .ok (.return_, 1) := by decide +kernel
theorem dX2_readRank_0 : decode cX2_readRank 0 = .ok (.iload_n 1, 1) := by decide +kernel
theorem dX2_readRank_1 : decode cX2_readRank 1 = .ok (.iconst 5, 1) := by decide +kernel
theorem dX2_readRank_2 : decode cX2_readRank 2 = .ok (.if_icmp .lt 9, 3) := by decide +kernel
theorem dX2_readRank_5 : decode cX2_readRank 5 = .ok (.aload_n 0, 1) := by decide +kernel
theorem dX2_readRank_6 : decode cX2_readRank 6 = .ok (.iload_n 2, 1) := by decide +kernel
theorem dX2_readRank_7 : decode cX2_readRank 7 = .ok (.invokevirtual 69, 3) := by decide +kernel
theorem dX2_readRank_10 : decode cX2_readRank 10 = .ok (.return_, 1) := by decide +kernel
theorem dX2_readRank_11 : decode cX2_readRank 11 = .ok (.aload_n 0, 1) := by decide +kernel
theorem dX2_readRank_12 : decode cX2_readRank 12 = .ok (.iload_n 1, 1) := by decide +kernel
theorem dX2_readRank_13 : decode cX2_readRank 13 = .ok (.iconst 1, 1) := by decide +kernel
theorem dX2_readRank_14 : decode cX2_readRank 14 = .ok (.iadd, 1) := by decide +kernel
theorem dX2_readRank_15 : decode cX2_readRank 15 = .ok (.iload_n 2, 1) := by decide +kernel
theorem dX2_readRank_16 : decode cX2_readRank 16 = .ok (.invokevirtual 65, 3) := by decide +kernel
theorem dX2_readRank_19 : decode cX2_readRank 19 = .ok (.iconst 0, 1) := by decide +kernel
theorem dX2_readRank_20 : decode cX2_readRank 20 = .ok (.istore_n 3, 1) := by decide +kernel
theorem dX2_readRank_21 : decode cX2_readRank 21 = .ok (.iload_n 3, 1) := by decide +kernel
theorem dX2_readRank_22 : decode cX2_readRank 22 = .ok (.bipush 120, 2) := by decide +kernel
theorem dX2_readRank_24 : decode cX2_readRank 24 = .ok (.if_icmp .ge 65, 3) := by decide +kernel
theorem dX2_readRank_27 : decode cX2_readRank 27 = .ok (.aload_n 0, 1) := by decide +kernel
theorem dX2_readRank_28 : decode cX2_readRank 28 = .ok (.getfield 37, 3) := by decide +kernel
theorem dX2_readRank_31 : decode cX2_readRank 31 = .ok (.iconst (-1), 1) := by decide +kernel
theorem dX2_readRank_32 : decode cX2_readRank 32 = .ok (.if_icmp .ne 57, 3) := by decide +kernel
theorem dX2_readRank_35 : decode cX2_readRank 35 = .ok (.aload_n 0, 1) := by decide +kernel
theorem dX2_readRank_36 : decode cX2_readRank 36 = .ok (.invokevirtual 55, 3) := by decide +kernel
theorem dX2_readRank_39 : decode cX2_readRank 39 = .ok (.invokestatic 73, 3) := by decide +kernel
theorem dX2_readRank_42 : decode cX2_readRank 42 = .ok (.iload_n 1, 1) := by decide +kernel
theorem dX2_readRank_43 : decode cX2_readRank 43 = .ok (.if_icmp .ne 46, 3) := by decide +kernel
theorem dX2_readRank_46 : decode cX2_readRank 46 = .ok (.aload_n 0, 1) := by decide +kernel
theorem dX2_readRank_47 : decode cX2_readRank 47 = .ok (.invokevirtual 55, 3) := by decide +kernel
theorem dX2_readRank_50 : decode cX2_readRank 50 = .ok (.istore 4, 2) := by decide +kernel
theorem dX2_readRank_52 : decode cX2_readRank 52 = .ok (.aload_n 0, 1) := by decide +kernel
theorem dX2_readRank_53 : decode cX2_readRank 53 = .ok (.dup, 1) := by decide +kernel
theorem dX2_readRank_54 : decode cX2_readRank 54 = .ok (.getfield 34, 3) := by decide +kernel
theorem dX2_readRank_57 : decode cX2_readRank 57 = .ok (.iconst 1, 1) := by decide +kernel
theorem dX2_readRank_58 : decode cX2_readRank 58 = .ok (.iadd, 1) := by decide +kernel
theorem dX2_readRank_59 : decode cX2_readRank 59 = .ok (.putfield 34, 3) := by decide +kernel
theorem dX2_readRank_62 : decode cX2_readRank 62 = .ok (.aload_n 0, 1) := by decide +kernel
theorem dX2_readRank_63 : decode cX2_readRank 63 = .ok (.iload_n 1, 1) := by decide +kernel
theorem dX2_readRank_64 : decode cX2_readRank 64 = .ok (.iconst 1, 1) := by decide +kernel
theorem dX2_readRank_65 : decode cX2_readRank 65 = .ok (.iadd, 1) := by decide +kernel
theorem dX2_readRank_66 : decode cX2_readRank 66 = .ok (.iload_n 2, 1) := by decide +kernel
theorem dX2_readRank_67 : decode cX2_readRank 67 = .ok (.invokevirtual 65, 3) := by decide +kernel
theorem dX2_readRank_70 : decode cX2_readRank 70 = .ok (.aload_n 0, 1) := by decide +kernel
theorem dX2_readRank_71 : decode cX2_readRank 71 = .ok (.iload 4, 2) := by decide +kernel
theorem dX2_readRank_73 : decode cX2_readRank 73 = .ok (.ineg, 1) := by decide +kernel
theorem dX2_readRank_74 : decode cX2_readRank 74 = .ok (.invokevirtual 77, 3) := by decide +kernel
theorem dX2_readRank_77 : decode cX2_readRank 77 = .ok (.iload_n 1, 1) := by decide +kernel
theorem dX2_readRank_78 : decode cX2_readRank 78 = .ok (.iconst 2, 1) := by decide +kernel
theorem dX2_readRank_79 : decode cX2_readRank 79 = .ok (.if_icmp .ne 4, 3) := by decide +kernel
theorem dX2_readRank_82 : decode cX2_readRank 82 = .ok (.return_, 1) := by decide +kernel
theorem dX2_readRank_83 : decode cX2_readRank 83 = .ok (.iinc 3 1, 3) := by decide +kernel
theorem dX2_readRank_86 : decode cX2_readRank 86 = .ok (.goto (-65), 3) := by decide +kernel
theorem dX2_readRank_89 : decode cX2_readRank 89 = .ok (.return_, 1) := by decide +kernel
theorem dX2_readOperand_0 : decode cX2_readOperand 0 = .ok (.aload_n 0, 1) := by decide +kernel
theorem dX2_readOperand_1 : decode cX2_readOperand 1 = .ok (.invokevirtual 55, 3) := by decide +kernel
theorem dX2_readOperand_4 : decode cX2_readOperand 4 = .ok (.istore_n 2, 1) := by decide +kernel
theorem dX2_readOperand_5 : decode cX2_readOperand 5 = .ok (.iload_n 2, 1) := by decide +kernel
theorem dX2_readOperand_6 : decode cX2_readOperand 6 = .ok (.invokestatic 80, 3) := by decide +kernel
theorem dX2_readOperand_9 : decode cX2_readOperand 9 = .ok (.ifCond .eq 10, 3) := by decide +kernel
theorem dX2_readOperand_12 : decode cX2_readOperand 12 = .ok (.aload_n 0, 1) := by decide +kernel
theorem dX2_readOperand_13 : decode cX2_readOperand 13 = .ok (.invokevirtual 84, 3) := by decide +kernel
theorem dX2_readOperand_16 : decode cX2_readOperand 16 = .ok (.goto 129, 3) := by decide +kernel
theorem dX2_readOperand_19 : decode cX2_readOperand 19 = .ok (.iload_n 2, 1) := by decide +kernel
theorem dX2_readOperand_20 : decode cX2_readOperand 20 = .ok (.invokestatic 87, 3) := by decide +kernel
theorem dX2_readOperand_23 : decode cX2_readOperand 23 = .ok (.ifCond .lt 26, 3) := by decide +kernel
theorem dX2_readOperand_26 : decode cX2_readOperand 26 = .ok (.aload_n 0, 1) := by decide +kernel
theorem dX2_readOperand_27 : decode cX2_readOperand 27 = .ok (.iconst (-1), 1) := by decide +kernel
theorem dX2_readOperand_28 : decode cX2_readOperand 28 = .ok (.iload_n 2, 1) := by decide +kernel
theorem dX2_readOperand_29 : decode cX2_readOperand 29 = .ok (.invokestatic 87, 3) := by decide +kernel
theorem dX2_readOperand_32 : decode cX2_readOperand 32 = .ok (.isub, 1) := by decide +kernel
theorem dX2_readOperand_33 : decode cX2_readOperand 33 = .ok (.invokevirtual 77, 3) := by decide +kernel
theorem dX2_readOperand_36 : decode cX2_readOperand 36 = .ok (.aload_n 0, 1) := by decide +kernel
theorem dX2_readOperand_37 : decode cX2_readOperand 37 = .ok (.dup, 1) := by decide +kernel
theorem dX2_readOperand_38 : decode cX2_readOperand 38 = .ok (.getfield 34, 3) := by decide +kernel
theorem dX2_readOperand_41 : decode cX2_readOperand 41 = .ok (.iconst 1, 1) := by decide +kernel
theorem dX2_readOperand_42 : decode cX2_readOperand 42 = .ok (.iadd, 1) := by decide +kernel
theorem dX2_readOperand_43 : decode cX2_readOperand 43 = .ok (.putfield 34, 3) := by decide +kernel
theorem dX2_readOperand_46 : decode cX2_readOperand 46 = .ok (.goto 99, 3) := by decide +kernel
theorem dX2_readOperand_49 : decode cX2_readOperand 49 = .ok (.iload_n 1, 1) := by decide +kernel
theorem dX2_readOperand_50 : decode cX2_readOperand 50 = .ok (.bipush 6, 2) := by decide +kernel
theorem dX2_readOperand_52 : decode cX2_readOperand 52 = .ok (.if_icmp .ge 52, 3) := by decide +kernel
theorem dX2_readOperand_55 : decode cX2_readOperand 55 = .ok (.iload_n 2, 1) := by decide +kernel
theorem dX2_readOperand_56 : decode cX2_readOperand 56 = .ok (.bipush 33, 2) := by decide +kernel
theorem dX2_readOperand_58 : decode cX2_readOperand 58 = .ok (.if_icmp .eq 9, 3) := by decide +kernel
theorem dX2_readOperand_61 : decode cX2_readOperand 61 = .ok (.iload_n 2, 1) := by decide +kernel
theorem dX2_readOperand_62 : decode cX2_readOperand 62 = .ok (.bipush 45, 2) := by decide +kernel
theorem dX2_readOperand_64 : decode cX2_readOperand 64 = .ok (.if_icmp .ne 40, 3) := by decide +kernel
theorem dX2_readOperand_67 : decode cX2_readOperand 67 = .ok (.aload_n 0, 1) := by decide +kernel
theorem dX2_readOperand_68 : decode cX2_readOperand 68 = .ok (.dup, 1) := by decide +kernel
theorem dX2_readOperand_69 : decode cX2_readOperand 69 = .ok (.getfield 34, 3) := by decide +kernel
theorem dX2_readOperand_72 : decode cX2_readOperand 72 = .ok (.iconst 1, 1) := by decide +kernel
theorem dX2_readOperand_73 : decode cX2_readOperand 73 = .ok (.iadd, 1) := by decide +kernel
theorem dX2_readOperand_74 : decode cX2_readOperand 74 = .ok (.putfield 34, 3) := by decide +kernel
theorem dX2_readOperand_77 : decode cX2_readOperand 77 = .ok (.aload_n 0, 1) := by decide +kernel
theorem dX2_readOperand_78 : decode cX2_readOperand 78 = .ok (.iload_n 1, 1) := by decide +kernel
theorem dX2_readOperand_79 : decode cX2_readOperand 79 = .ok (.iconst 1, 1) := by decide +kernel
theorem dX2_readOperand_80 : decode cX2_readOperand 80 = .ok (.iadd, 1) := by decide +kernel
theorem dX2_readOperand_81 : decode cX2_readOperand 81 = .ok (.invokevirtual 69, 3) := by decide +kernel
theorem dX2_readOperand_84 : decode cX2_readOperand 84 = .ok (.aload_n 0, 1) := by decide +kernel
theorem dX2_readOperand_85 : decode cX2_readOperand 85 = .ok (.iload_n 2, 1) := by decide +kernel
theorem dX2_readOperand_86 : decode cX2_readOperand 86 = .ok (.bipush 45, 2) := by decide +kernel
theorem dX2_readOperand_88 : decode cX2_readOperand 88 = .ok (.if_icmp .ne 8, 3) := by decide +kernel
theorem dX2_readOperand_91 : decode cX2_readOperand 91 = .ok (.bipush (-126), 2) := by decide +kernel
theorem dX2_readOperand_93 : decode cX2_readOperand 93 = .ok (.goto 5, 3) := by decide +kernel
theorem dX2_readOperand_96 : decode cX2_readOperand 96 = .ok (.iload_n 2, 1) := by decide +kernel
theorem dX2_readOperand_97 : decode cX2_readOperand 97 = .ok (.ineg, 1) := by decide +kernel
theorem dX2_readOperand_98 : decode cX2_readOperand 98 = .ok (.invokevirtual 77, 3) := by decide +kernel
theorem dX2_readOperand_101 : decode cX2_readOperand 101 = .ok (.goto 44, 3) := by decide +kernel
theorem dX2_readOperand_104 : decode cX2_readOperand 104 = .ok (.iload_n 1, 1) := by decide +kernel
theorem dX2_readOperand_105 : decode cX2_readOperand 105 = .ok (.bipush 6, 2) := by decide +kernel
theorem dX2_readOperand_107 : decode cX2_readOperand 107 = .ok (.if_icmp .ge 34, 3) := by decide +kernel
theorem dX2_readOperand_110 : decode cX2_readOperand 110 = .ok (.iload_n 2, 1) := by decide +kernel
theorem dX2_readOperand_111 : decode cX2_readOperand 111 = .ok (.bipush 40, 2) := by decide +kernel
theorem dX2_readOperand_113 : decode cX2_readOperand 113 = .ok (.if_icmp .ne 28, 3) := by decide +kernel
theorem dX2_readOperand_116 : decode cX2_readOperand 116 = .ok (.aload_n 0, 1) := by decide +kernel
theorem dX2_readOperand_117 : decode cX2_readOperand 117 = .ok (.dup, 1) := by decide +kernel
theorem dX2_readOperand_118 : decode cX2_readOperand 118 = .ok (.getfield 34, 3) := by decide +kernel
theorem dX2_readOperand_121 : decode cX2_readOperand 121 = .ok (.iconst 1, 1) := by decide +kernel
theorem dX2_readOperand_122 : decode cX2_readOperand 122 = .ok (.iadd, 1) := by decide +kernel
theorem dX2_readOperand_123 : decode cX2_readOperand 123 = .ok (.putfield 34, 3) := by decide +kernel
theorem dX2_readOperand_126 : decode cX2_readOperand 126 = .ok (.aload_n 0, 1) := by decide +kernel
theorem dX2_readOperand_127 : decode cX2_readOperand 127 = .ok (.iconst 0, 1) := by decide +kernel
theorem dX2_readOperand_128 : decode cX2_readOperand 128 = .ok (.iload_n 1, 1) := by decide +kernel
theorem dX2_readOperand_129 : decode cX2_readOperand 129 = .ok (.iconst 1, 1) := by decide +kernel
theorem dX2_readOperand_130 : decode cX2_readOperand 130 = .ok (.iadd, 1) := by decide +kernel
theorem dX2_readOperand_131 : decode cX2_readOperand 131 = .ok (.invokevirtual 65, 3) := by decide +kernel
theorem dX2_readOperand_134 : decode cX2_readOperand 134 = .ok (.aload_n 0, 1) := by decide +kernel
theorem dX2_readOperand_135 : decode cX2_readOperand 135 = .ok (.invokevirtual 90, 3) := by decide +kernel
theorem dX2_readOperand_138 : decode cX2_readOperand 138 = .ok (.goto 7, 3) := by decide +kernel
theorem dX2_readOperand_141 : decode cX2_readOperand 141 = .ok (.aload_n 0, 1) := by decide +kernel
theorem dX2_readOperand_142 : decode cX2_readOperand 142 = .ok (.invokevirtual 62, 3) := by decide +kernel
theorem dX2_readOperand_145 : decode cX2_readOperand 145 = .ok (.return_, 1) := by decide +kernel
theorem dX2_readClosing_0 : decode cX2_readClosing 0 = .ok (.aload_n 0, 1) := by decide +kernel
theorem dX2_readClosing_1 : decode cX2_readClosing 1 = .ok (.invokevirtual 55, 3) := by decide +kernel
theorem dX2_readClosing_4 : decode cX2_readClosing 4 = .ok (.bipush 41, 2) := by decide +kernel
theorem dX2_readClosing_6 : decode cX2_readClosing 6 = .ok (.if_icmp .ne 16, 3) := by decide +kernel
theorem dX2_readClosing_9 : decode cX2_readClosing 9 = .ok (.aload_n 0, 1) := by decide +kernel
theorem dX2_readClosing_10 : decode cX2_readClosing 10 = .ok (.dup, 1) := by decide +kernel
theorem dX2_readClosing_11 : decode cX2_readClosing 11 = .ok (.getfield 34, 3) := by decide +kernel
theorem dX2_readClosing_14 : decode cX2_readClosing 14 = .ok (.iconst 1, 1) := by decide +kernel
theorem dX2_readClosing_15 : decode cX2_readClosing 15 = .ok (.iadd, 1) := by decide +kernel
theorem dX2_readClosing_16 : decode cX2_readClosing 16 = .ok (.putfield 34, 3) := by decide +kernel
theorem dX2_readClosing_19 : decode cX2_readClosing 19 = .ok (.goto 7, 3) := by decide +kernel
theorem dX2_readClosing_22 : decode cX2_readClosing 22 = .ok (.aload_n 0, 1) := by decide +kernel
theorem dX2_readClosing_23 : decode cX2_readClosing 23 = .ok (.invokevirtual 62, 3) := by decide +kernel
theorem dX2_readClosing_26 : decode cX2_readClosing 26 = .ok (.return_, 1) := by decide +kernel
theorem dX2_readNumber_0 : decode cX2_readNumber 0 = .ok (.iconst 0, 1) := by decide +kernel
theorem dX2_readNumber_1 : decode cX2_readNumber 1 = .ok (.istore_n 1, 1) := by decide +kernel
theorem dX2_readNumber_2 : decode cX2_readNumber 2 = .ok (.iconst 0, 1) := by decide +kernel
theorem dX2_readNumber_3 : decode cX2_readNumber 3 = .ok (.istore_n 2, 1) := by decide +kernel
theorem dX2_readNumber_4 : decode cX2_readNumber 4 = .ok (.iload_n 2, 1) := by decide +kernel
theorem dX2_readNumber_5 : decode cX2_readNumber 5 = .ok (.iconst 4, 1) := by decide +kernel
theorem dX2_readNumber_6 : decode cX2_readNumber 6 = .ok (.if_icmp .ge 42, 3) := by decide +kernel
theorem dX2_readNumber_9 : decode cX2_readNumber 9 = .ok (.aload_n 0, 1) := by decide +kernel
theorem dX2_readNumber_10 : decode cX2_readNumber 10 = .ok (.invokevirtual 55, 3) := by decide +kernel
theorem dX2_readNumber_13 : decode cX2_readNumber 13 = .ok (.invokestatic 80, 3) := by decide +kernel
theorem dX2_readNumber_16 : decode cX2_readNumber 16 = .ok (.ifCond .eq 32, 3) := by decide +kernel
theorem dX2_readNumber_19 : decode cX2_readNumber 19 = .ok (.iload_n 1, 1) := by decide +kernel
theorem dX2_readNumber_20 : decode cX2_readNumber 20 = .ok (.bipush 10, 2) := by decide +kernel
theorem dX2_readNumber_22 : decode cX2_readNumber 22 = .ok (.imul, 1) := by decide +kernel
theorem dX2_readNumber_23 : decode cX2_readNumber 23 = .ok (.aload_n 0, 1) := by decide +kernel
theorem dX2_readNumber_24 : decode cX2_readNumber 24 = .ok (.invokevirtual 55, 3) := by decide +kernel
theorem dX2_readNumber_27 : decode cX2_readNumber 27 = .ok (.iadd, 1) := by decide +kernel
theorem dX2_readNumber_28 : decode cX2_readNumber 28 = .ok (.bipush 48, 2) := by decide +kernel
theorem dX2_readNumber_30 : decode cX2_readNumber 30 = .ok (.isub, 1) := by decide +kernel
theorem dX2_readNumber_31 : decode cX2_readNumber 31 = .ok (.istore_n 1, 1) := by decide +kernel
theorem dX2_readNumber_32 : decode cX2_readNumber 32 = .ok (.aload_n 0, 1) := by decide +kernel
theorem dX2_readNumber_33 : decode cX2_readNumber 33 = .ok (.dup, 1) := by decide +kernel
theorem dX2_readNumber_34 : decode cX2_readNumber 34 = .ok (.getfield 34, 3) := by decide +kernel
theorem dX2_readNumber_37 : decode cX2_readNumber 37 = .ok (.iconst 1, 1) := by decide +kernel
theorem dX2_readNumber_38 : decode cX2_readNumber 38 = .ok (.iadd, 1) := by decide +kernel
theorem dX2_readNumber_39 : decode cX2_readNumber 39 = .ok (.putfield 34, 3) := by decide +kernel
theorem dX2_readNumber_42 : decode cX2_readNumber 42 = .ok (.iinc 2 1, 3) := by decide +kernel
theorem dX2_readNumber_45 : decode cX2_readNumber 45 = .ok (.goto (-41), 3) := by decide +kernel
theorem dX2_readNumber_48 : decode cX2_readNumber 48 = .ok (.aload_n 0, 1) := by decide +kernel
theorem dX2_readNumber_49 : decode cX2_readNumber 49 = .ok (.iload_n 1, 1) := by decide +kernel
theorem dX2_readNumber_50 : decode cX2_readNumber 50 = .ok (.invokevirtual 77, 3) := by decide +kernel
theorem dX2_readNumber_53 : decode cX2_readNumber 53 = .ok (.return_, 1) := by decide +kernel
theorem dX2_refuse_0 : decode cX2_refuse 0 = .ok (.aload_n 0, 1) := by decide +kernel
theorem dX2_refuse_1 : decode cX2_refuse 1 = .ok (.getfield 37, 3) := by decide +kernel
theorem dX2_refuse_4 : decode cX2_refuse 4 = .ok (.iconst (-1), 1) := by decide +kernel
theorem dX2_refuse_5 : decode cX2_refuse 5 = .ok (.if_icmp .ne 11, 3) := by decide +kernel
theorem dX2_refuse_8 : decode cX2_refuse 8 = .ok (.aload_n 0, 1) := by decide +kernel
theorem dX2_refuse_9 : decode cX2_refuse 9 = .ok (.aload_n 0, 1) := by decide +kernel
theorem dX2_refuse_10 : decode cX2_refuse 10 = .ok (.getfield 34, 3) := by decide +kernel
theorem dX2_refuse_13 : decode cX2_refuse 13 = .ok (.putfield 37, 3) := by decide +kernel
theorem dX2_refuse_16 : decode cX2_refuse 16 = .ok (.return_, 1) := by decide +kernel
theorem dX2_nextByte_0 : decode cX2_nextByte 0 = .ok (.aload_n 0, 1) := by decide +kernel
theorem dX2_nextByte_1 : decode cX2_nextByte 1 = .ok (.getfield 34, 3) := by decide +kernel
theorem dX2_nextByte_4 : decode cX2_nextByte 4 = .ok (.ifCond .lt 26, 3) := by decide +kernel
theorem dX2_nextByte_7 : decode cX2_nextByte 7 = .ok (.aload_n 0, 1) := by decide +kernel
theorem dX2_nextByte_8 : decode cX2_nextByte 8 = .ok (.getfield 34, 3) := by decide +kernel
theorem dX2_nextByte_11 : decode cX2_nextByte 11 = .ok (.aload_n 0, 1) := by decide +kernel
theorem dX2_nextByte_12 : decode cX2_nextByte 12 = .ok (.getfield 27, 3) := by decide +kernel
theorem dX2_nextByte_15 : decode cX2_nextByte 15 = .ok (.if_icmp .ge 15, 3) := by decide +kernel
theorem dX2_nextByte_18 : decode cX2_nextByte 18 = .ok (.aload_n 0, 1) := by decide +kernel
theorem dX2_nextByte_19 : decode cX2_nextByte 19 = .ok (.getfield 11, 3) := by decide +kernel
theorem dX2_nextByte_22 : decode cX2_nextByte 22 = .ok (.aload_n 0, 1) := by decide +kernel
theorem dX2_nextByte_23 : decode cX2_nextByte 23 = .ok (.getfield 34, 3) := by decide +kernel
theorem dX2_nextByte_26 : decode cX2_nextByte 26 = .ok (.iaload, 1) := by decide +kernel
theorem dX2_nextByte_27 : decode cX2_nextByte 27 = .ok (.goto 4, 3) := by decide +kernel
theorem dX2_nextByte_30 : decode cX2_nextByte 30 = .ok (.iconst (-1), 1) := by decide +kernel
theorem dX2_nextByte_31 : decode cX2_nextByte 31 = .ok (.ireturn, 1) := by decide +kernel
theorem dX2_draftSign_0 : decode cX2_draftSign 0 = .ok (.aload_n 0, 1) := by decide +kernel
theorem dX2_draftSign_1 : decode cX2_draftSign 1 = .ok (.aload_n 0, 1) := by decide +kernel
theorem dX2_draftSign_2 : decode cX2_draftSign 2 = .ok (.invokevirtual 55, 3) := by decide +kernel
theorem dX2_draftSign_5 : decode cX2_draftSign 5 = .ok (.ineg, 1) := by decide +kernel
theorem dX2_draftSign_6 : decode cX2_draftSign 6 = .ok (.invokevirtual 77, 3) := by decide +kernel
theorem dX2_draftSign_9 : decode cX2_draftSign 9 = .ok (.aload_n 0, 1) := by decide +kernel
theorem dX2_draftSign_10 : decode cX2_draftSign 10 = .ok (.dup, 1) := by decide +kernel
theorem dX2_draftSign_11 : decode cX2_draftSign 11 = .ok (.getfield 34, 3) := by decide +kernel
theorem dX2_draftSign_14 : decode cX2_draftSign 14 = .ok (.iconst 1, 1) := by decide +kernel
theorem dX2_draftSign_15 : decode cX2_draftSign 15 = .ok (.iadd, 1) := by decide +kernel
theorem dX2_draftSign_16 : decode cX2_draftSign 16 = .ok (.putfield 34, 3) := by decide +kernel
theorem dX2_draftSign_19 : decode cX2_draftSign 19 = .ok (.return_, 1) := by decide +kernel
theorem dX2_draftCode_0 : decode cX2_draftCode 0 = .ok (.aload_n 0, 1) := by decide +kernel
theorem dX2_draftCode_1 : decode cX2_draftCode 1 = .ok (.getfield 31, 3) := by decide +kernel
theorem dX2_draftCode_4 : decode cX2_draftCode 4 = .ok (.bipush 120, 2) := by decide +kernel
theorem dX2_draftCode_6 : decode cX2_draftCode 6 = .ok (.if_icmp .ge 23, 3) := by decide +kernel
theorem dX2_draftCode_9 : decode cX2_draftCode 9 = .ok (.aload_n 0, 1) := by decide +kernel
theorem dX2_draftCode_10 : decode cX2_draftCode 10 = .ok (.getfield 15, 3) := by decide +kernel
theorem dX2_draftCode_13 : decode cX2_draftCode 13 = .ok (.aload_n 0, 1) := by decide +kernel
theorem dX2_draftCode_14 : decode cX2_draftCode 14 = .ok (.getfield 31, 3) := by decide +kernel
theorem dX2_draftCode_17 : decode cX2_draftCode 17 = .ok (.iload_n 1, 1) := by decide +kernel
theorem dX2_draftCode_18 : decode cX2_draftCode 18 = .ok (.iastore, 1) := by decide +kernel
theorem dX2_draftCode_19 : decode cX2_draftCode 19 = .ok (.aload_n 0, 1) := by decide +kernel
theorem dX2_draftCode_20 : decode cX2_draftCode 20 = .ok (.dup, 1) := by decide +kernel
theorem dX2_draftCode_21 : decode cX2_draftCode 21 = .ok (.getfield 31, 3) := by decide +kernel
theorem dX2_draftCode_24 : decode cX2_draftCode 24 = .ok (.iconst 1, 1) := by decide +kernel
theorem dX2_draftCode_25 : decode cX2_draftCode 25 = .ok (.iadd, 1) := by decide +kernel
theorem dX2_draftCode_26 : decode cX2_draftCode 26 = .ok (.putfield 31, 3) := by decide +kernel
theorem dX2_draftCode_29 : decode cX2_draftCode 29 = .ok (.return_, 1) := by decide +kernel
theorem dX2_isDigit_0 : decode cX2_isDigit 0 = .ok (.iload_n 0, 1) := by decide +kernel
theorem dX2_isDigit_1 : decode cX2_isDigit 1 = .ok (.bipush 48, 2) := by decide +kernel
theorem dX2_isDigit_3 : decode cX2_isDigit 3 = .ok (.if_icmp .lt 13, 3) := by decide +kernel
theorem dX2_isDigit_6 : decode cX2_isDigit 6 = .ok (.iload_n 0, 1) := by decide +kernel
theorem dX2_isDigit_7 : decode cX2_isDigit 7 = .ok (.bipush 57, 2) := by decide +kernel
theorem dX2_isDigit_9 : decode cX2_isDigit 9 = .ok (.if_icmp .gt 7, 3) := by decide +kernel
theorem dX2_isDigit_12 : decode cX2_isDigit 12 = .ok (.iconst 1, 1) := by decide +kernel
theorem dX2_isDigit_13 : decode cX2_isDigit 13 = .ok (.goto 4, 3) := by decide +kernel
theorem dX2_isDigit_16 : decode cX2_isDigit 16 = .ok (.iconst 0, 1) := by decide +kernel
theorem dX2_isDigit_17 : decode cX2_isDigit 17 = .ok (.ireturn, 1) := by decide +kernel
theorem dX2_letterOf_0 : decode cX2_letterOf 0 = .ok (.iload_n 0, 1) := by decide +kernel
theorem dX2_letterOf_1 : decode cX2_letterOf 1 = .ok (.ifCond .ge 7, 3) := by decide +kernel
theorem dX2_letterOf_4 : decode cX2_letterOf 4 = .ok (.iconst (-1), 1) := by decide +kernel
theorem dX2_letterOf_5 : decode cX2_letterOf 5 = .ok (.goto 10, 3) := by decide +kernel
theorem dX2_letterOf_8 : decode cX2_letterOf 8 = .ok (.ldc 93, 2) := by decide +kernel
theorem dX2_letterOf_10 : decode cX2_letterOf 10 = .ok (.iload_n 0, 1) := by decide +kernel
theorem dX2_letterOf_11 : decode cX2_letterOf 11 = .ok (.i2c, 1) := by decide +kernel
theorem dX2_letterOf_12 : decode cX2_letterOf 12 = .ok (.invokevirtual 95, 3) := by decide +kernel
theorem dX2_letterOf_15 : decode cX2_letterOf 15 = .ok (.ireturn, 1) := by decide +kernel
theorem dX2_rankOf_0 : decode cX2_rankOf 0 = .ok (.iload_n 0, 1) := by decide +kernel
theorem dX2_rankOf_1 : decode cX2_rankOf 1 = .ok (.lookupswitch 101 #[(37, 99), (38, 93), (42, 99), (43, 97), (45, 97), (47, 99), (60, 95), (61, 95), (62, 95), (124, 91)], 91) := by decide +kernel
theorem dX2_rankOf_92 : decode cX2_rankOf 92 = .ok (.iconst 0, 1) := by decide +kernel
theorem dX2_rankOf_93 : decode cX2_rankOf 93 = .ok (.ireturn, 1) := by decide +kernel
theorem dX2_rankOf_94 : decode cX2_rankOf 94 = .ok (.iconst 1, 1) := by decide +kernel
theorem dX2_rankOf_95 : decode cX2_rankOf 95 = .ok (.ireturn, 1) := by decide +kernel
theorem dX2_rankOf_96 : decode cX2_rankOf 96 = .ok (.iconst 2, 1) := by decide +kernel
theorem dX2_rankOf_97 : decode cX2_rankOf 97 = .ok (.ireturn, 1) := by decide +kernel
theorem dX2_rankOf_98 : decode cX2_rankOf 98 = .ok (.iconst 3, 1) := by decide +kernel
theorem dX2_rankOf_99 : decode cX2_rankOf 99 = .ok (.ireturn, 1) := by decide +kernel
theorem dX2_rankOf_100 : decode cX2_rankOf 100 = .ok (.iconst 4, 1) := by decide +kernel
theorem dX2_rankOf_101 : decode cX2_rankOf 101 = .ok (.ireturn, 1) := by decide +kernel
theorem dX2_rankOf_102 : decode cX2_rankOf 102 = .ok (.iconst (-1), 1) := by decide +kernel
theorem dX2_rankOf_103 : decode cX2_rankOf 103 = .ok (.ireturn, 1) := by decide +kernel
theorem dX2_tell_0 : decode cX2_tell 0 = .ok (.aload_n 0, 1) := by decide +kernel
theorem dX2_tell_1 : decode cX2_tell 1 = .ok (.getfield 21, 3) := by decide +kernel
theorem dX2_tell_4 : decode cX2_tell 4 = .ok (.iconst 0, 1) := by decide +kernel
theorem dX2_tell_5 : decode cX2_tell 5 = .ok (.iload_n 1, 1) := by decide +kernel
theorem dX2_tell_6 : decode cX2_tell 6 = .ok (.iastore, 1) := by decide +kernel
theorem dX2_tell_7 : decode cX2_tell 7 = .ok (.aload_n 0, 1) := by decide +kernel
theorem dX2_tell_8 : decode cX2_tell 8 = .ok (.getfield 21, 3) := by decide +kernel
theorem dX2_tell_11 : decode cX2_tell 11 = .ok (.iconst 1, 1) := by decide +kernel
theorem dX2_tell_12 : decode cX2_tell 12 = .ok (.iload_n 2, 1) := by decide +kernel
theorem dX2_tell_13 : decode cX2_tell 13 = .ok (.iastore, 1) := by decide +kernel
theorem dX2_tell_14 : decode cX2_tell 14 = .ok (.aload_n 0, 1) := by decide +kernel
theorem dX2_tell_15 : decode cX2_tell 15 = .ok (.getfield 21, 3) := by decide +kernel
theorem dX2_tell_18 : decode cX2_tell 18 = .ok (.iconst 2, 1) := by decide +kernel
theorem dX2_tell_19 : decode cX2_tell 19 = .ok (.iload_n 3, 1) := by decide +kernel
theorem dX2_tell_20 : decode cX2_tell 20 = .ok (.iastore, 1) := by decide +kernel
theorem dX2_tell_21 : decode cX2_tell 21 = .ok (.aload_n 0, 1) := by decide +kernel
theorem dX2_tell_22 : decode cX2_tell 22 = .ok (.getfield 21, 3) := by decide +kernel
theorem dX2_tell_25 : decode cX2_tell 25 = .ok (.iconst 3, 1) := by decide +kernel
theorem dX2_tell_26 : decode cX2_tell 26 = .ok (.iload 4, 2) := by decide +kernel
theorem dX2_tell_28 : decode cX2_tell 28 = .ok (.iastore, 1) := by decide +kernel
theorem dX2_tell_29 : decode cX2_tell 29 = .ok (.aload_n 0, 1) := by decide +kernel
theorem dX2_tell_30 : decode cX2_tell 30 = .ok (.getfield 21, 3) := by decide +kernel
theorem dX2_tell_33 : decode cX2_tell 33 = .ok (.iconst 4, 1) := by decide +kernel
theorem dX2_tell_34 : decode cX2_tell 34 = .ok (.iload 5, 2) := by decide +kernel
theorem dX2_tell_36 : decode cX2_tell 36 = .ok (.iastore, 1) := by decide +kernel
theorem dX2_tell_37 : decode cX2_tell 37 = .ok (.aload_n 0, 1) := by decide +kernel
theorem dX2_tell_38 : decode cX2_tell 38 = .ok (.getfield 21, 3) := by decide +kernel
theorem dX2_tell_41 : decode cX2_tell 41 = .ok (.iconst 5, 1) := by decide +kernel
theorem dX2_tell_42 : decode cX2_tell 42 = .ok (.iload 6, 2) := by decide +kernel
theorem dX2_tell_44 : decode cX2_tell 44 = .ok (.iastore, 1) := by decide +kernel
theorem dX2_tell_45 : decode cX2_tell 45 = .ok (.return_, 1) := by decide +kernel
theorem dX2_reckon_0 : decode cX2_reckon 0 = .ok (.aload_n 0, 1) := by decide +kernel
theorem dX2_reckon_1 : decode cX2_reckon 1 = .ok (.getfield 49, 3) := by decide +kernel
theorem dX2_reckon_4 : decode cX2_reckon 4 = .ok (.ifCond .ne 30, 3) := by decide +kernel
theorem dX2_reckon_7 : decode cX2_reckon 7 = .ok (.aload_n 0, 1) := by decide +kernel
theorem dX2_reckon_8 : decode cX2_reckon 8 = .ok (.getfield 21, 3) := by decide +kernel
theorem dX2_reckon_11 : decode cX2_reckon 11 = .ok (.iconst 0, 1) := by decide +kernel
theorem dX2_reckon_12 : decode cX2_reckon 12 = .ok (.iaload, 1) := by decide +kernel
theorem dX2_reckon_13 : decode cX2_reckon 13 = .ok (.bipush 80, 2) := by decide +kernel
theorem dX2_reckon_15 : decode cX2_reckon 15 = .ok (.if_icmp .lt 13, 3) := by decide +kernel
theorem dX2_reckon_18 : decode cX2_reckon 18 = .ok (.aload_n 0, 1) := by decide +kernel
theorem dX2_reckon_19 : decode cX2_reckon 19 = .ok (.getfield 21, 3) := by decide +kernel
theorem dX2_reckon_22 : decode cX2_reckon 22 = .ok (.iconst 4, 1) := by decide +kernel
theorem dX2_reckon_23 : decode cX2_reckon 23 = .ok (.iaload, 1) := by decide +kernel
theorem dX2_reckon_24 : decode cX2_reckon 24 = .ok (.iconst 1, 1) := by decide +kernel
theorem dX2_reckon_25 : decode cX2_reckon 25 = .ok (.if_icmp .ne 7, 3) := by decide +kernel
theorem dX2_reckon_28 : decode cX2_reckon 28 = .ok (.iconst 1, 1) := by decide +kernel
theorem dX2_reckon_29 : decode cX2_reckon 29 = .ok (.goto 4, 3) := by decide +kernel
theorem dX2_reckon_32 : decode cX2_reckon 32 = .ok (.iconst 0, 1) := by decide +kernel
theorem dX2_reckon_33 : decode cX2_reckon 33 = .ok (.ireturn, 1) := by decide +kernel
theorem dX2_reckon_34 : decode cX2_reckon 34 = .ok (.aload_n 0, 1) := by decide +kernel
theorem dX2_reckon_35 : decode cX2_reckon 35 = .ok (.iconst 0, 1) := by decide +kernel
theorem dX2_reckon_36 : decode cX2_reckon 36 = .ok (.putfield 100, 3) := by decide +kernel
theorem dX2_reckon_39 : decode cX2_reckon 39 = .ok (.iconst 0, 1) := by decide +kernel
theorem dX2_reckon_40 : decode cX2_reckon 40 = .ok (.istore_n 1, 1) := by decide +kernel
theorem dX2_reckon_41 : decode cX2_reckon 41 = .ok (.iconst 0, 1) := by decide +kernel
theorem dX2_reckon_42 : decode cX2_reckon 42 = .ok (.istore_n 2, 1) := by decide +kernel
theorem dX2_reckon_43 : decode cX2_reckon 43 = .ok (.iload_n 2, 1) := by decide +kernel
theorem dX2_reckon_44 : decode cX2_reckon 44 = .ok (.aload_n 0, 1) := by decide +kernel
theorem dX2_reckon_45 : decode cX2_reckon 45 = .ok (.getfield 49, 3) := by decide +kernel
theorem dX2_reckon_48 : decode cX2_reckon 48 = .ok (.if_icmp .ge 100, 3) := by decide +kernel
theorem dX2_reckon_51 : decode cX2_reckon 51 = .ok (.aload_n 0, 1) := by decide +kernel
theorem dX2_reckon_52 : decode cX2_reckon 52 = .ok (.getfield 18, 3) := by decide +kernel
theorem dX2_reckon_55 : decode cX2_reckon 55 = .ok (.iload_n 2, 1) := by decide +kernel
theorem dX2_reckon_56 : decode cX2_reckon 56 = .ok (.iaload, 1) := by decide +kernel
theorem dX2_reckon_57 : decode cX2_reckon 57 = .ok (.istore_n 3, 1) := by decide +kernel
theorem dX2_reckon_58 : decode cX2_reckon 58 = .ok (.iload_n 3, 1) := by decide +kernel
theorem dX2_reckon_59 : decode cX2_reckon 59 = .ok (.bipush (-59), 2) := by decide +kernel
theorem dX2_reckon_61 : decode cX2_reckon 61 = .ok (.if_icmp .ne 17, 3) := by decide +kernel
theorem dX2_reckon_64 : decode cX2_reckon 64 = .ok (.iload_n 1, 1) := by decide +kernel
theorem dX2_reckon_65 : decode cX2_reckon 65 = .ok (.ifCond .ne 8, 3) := by decide +kernel
theorem dX2_reckon_68 : decode cX2_reckon 68 = .ok (.aload_n 0, 1) := by decide +kernel
theorem dX2_reckon_69 : decode cX2_reckon 69 = .ok (.invokevirtual 103, 3) := by decide +kernel
theorem dX2_reckon_72 : decode cX2_reckon 72 = .ok (.ireturn, 1) := by decide +kernel
theorem dX2_reckon_73 : decode cX2_reckon 73 = .ok (.iconst 0, 1) := by decide +kernel
theorem dX2_reckon_74 : decode cX2_reckon 74 = .ok (.istore_n 1, 1) := by decide +kernel
theorem dX2_reckon_75 : decode cX2_reckon 75 = .ok (.goto 67, 3) := by decide +kernel
theorem dX2_reckon_78 : decode cX2_reckon 78 = .ok (.iload_n 1, 1) := by decide +kernel
theorem dX2_reckon_79 : decode cX2_reckon 79 = .ok (.ifCond .eq 6, 3) := by decide +kernel
theorem dX2_reckon_82 : decode cX2_reckon 82 = .ok (.goto 60, 3) := by decide +kernel
theorem dX2_reckon_85 : decode cX2_reckon 85 = .ok (.iload_n 3, 1) := by decide +kernel
theorem dX2_reckon_86 : decode cX2_reckon 86 = .ok (.bipush (-63), 2) := by decide +kernel
theorem dX2_reckon_88 : decode cX2_reckon 88 = .ok (.if_icmp .ne 19, 3) := by decide +kernel
theorem dX2_reckon_91 : decode cX2_reckon 91 = .ok (.aload_n 0, 1) := by decide +kernel
theorem dX2_reckon_92 : decode cX2_reckon 92 = .ok (.invokevirtual 103, 3) := by decide +kernel
theorem dX2_reckon_95 : decode cX2_reckon 95 = .ok (.ifCond .ne 7, 3) := by decide +kernel
theorem dX2_reckon_98 : decode cX2_reckon 98 = .ok (.iconst 1, 1) := by decide +kernel
theorem dX2_reckon_99 : decode cX2_reckon 99 = .ok (.goto 4, 3) := by decide +kernel
theorem dX2_reckon_102 : decode cX2_reckon 102 = .ok (.iconst 0, 1) := by decide +kernel
theorem dX2_reckon_103 : decode cX2_reckon 103 = .ok (.istore_n 1, 1) := by decide +kernel
theorem dX2_reckon_104 : decode cX2_reckon 104 = .ok (.goto 38, 3) := by decide +kernel
theorem dX2_reckon_107 : decode cX2_reckon 107 = .ok (.iload_n 3, 1) := by decide +kernel
theorem dX2_reckon_108 : decode cX2_reckon 108 = .ok (.bipush (-6), 2) := by decide +kernel
theorem dX2_reckon_110 : decode cX2_reckon 110 = .ok (.if_icmp .lt 26, 3) := by decide +kernel
theorem dX2_reckon_113 : decode cX2_reckon 113 = .ok (.aload_n 0, 1) := by decide +kernel
theorem dX2_reckon_114 : decode cX2_reckon 114 = .ok (.iload_n 3, 1) := by decide +kernel
theorem dX2_reckon_115 : decode cX2_reckon 115 = .ok (.ifCond .lt 7, 3) := by decide +kernel
theorem dX2_reckon_118 : decode cX2_reckon 118 = .ok (.iload_n 3, 1) := by decide +kernel
theorem dX2_reckon_119 : decode cX2_reckon 119 = .ok (.goto 11, 3) := by decide +kernel
theorem dX2_reckon_122 : decode cX2_reckon 122 = .ok (.aload_n 0, 1) := by decide +kernel
theorem dX2_reckon_123 : decode cX2_reckon 123 = .ok (.getfield 21, 3) := by decide +kernel
theorem dX2_reckon_126 : decode cX2_reckon 126 = .ok (.iconst (-1), 1) := by decide +kernel
theorem dX2_reckon_127 : decode cX2_reckon 127 = .ok (.iload_n 3, 1) := by decide +kernel
theorem dX2_reckon_128 : decode cX2_reckon 128 = .ok (.isub, 1) := by decide +kernel
theorem dX2_reckon_129 : decode cX2_reckon 129 = .ok (.iaload, 1) := by decide +kernel
theorem dX2_reckon_130 : decode cX2_reckon 130 = .ok (.invokevirtual 106, 3) := by decide +kernel
theorem dX2_reckon_133 : decode cX2_reckon 133 = .ok (.goto 9, 3) := by decide +kernel
theorem dX2_reckon_136 : decode cX2_reckon 136 = .ok (.aload_n 0, 1) := by decide +kernel
theorem dX2_reckon_137 : decode cX2_reckon 137 = .ok (.iload_n 3, 1) := by decide +kernel
theorem dX2_reckon_138 : decode cX2_reckon 138 = .ok (.ineg, 1) := by decide +kernel
theorem dX2_reckon_139 : decode cX2_reckon 139 = .ok (.invokevirtual 109, 3) := by decide +kernel
theorem dX2_reckon_142 : decode cX2_reckon 142 = .ok (.iinc 2 1, 3) := by decide +kernel
theorem dX2_reckon_145 : decode cX2_reckon 145 = .ok (.goto (-102), 3) := by decide +kernel
theorem dX2_reckon_148 : decode cX2_reckon 148 = .ok (.aload_n 0, 1) := by decide +kernel
theorem dX2_reckon_149 : decode cX2_reckon 149 = .ok (.invokevirtual 103, 3) := by decide +kernel
theorem dX2_reckon_152 : decode cX2_reckon 152 = .ok (.ireturn, 1) := by decide +kernel
theorem dX2_reckonSign_0 : decode cX2_reckonSign 0 = .ok (.aload_n 0, 1) := by decide +kernel
theorem dX2_reckonSign_1 : decode cX2_reckonSign 1 = .ok (.invokevirtual 103, 3) := by decide +kernel
theorem dX2_reckonSign_4 : decode cX2_reckonSign 4 = .ok (.istore_n 2, 1) := by decide +kernel
theorem dX2_reckonSign_5 : decode cX2_reckonSign 5 = .ok (.iload_n 1, 1) := by decide +kernel
theorem dX2_reckonSign_6 : decode cX2_reckonSign 6 = .ok (.bipush 33, 2) := by decide +kernel
theorem dX2_reckonSign_8 : decode cX2_reckonSign 8 = .ok (.if_icmp .ne 19, 3) := by decide +kernel
theorem dX2_reckonSign_11 : decode cX2_reckonSign 11 = .ok (.aload_n 0, 1) := by decide +kernel
theorem dX2_reckonSign_12 : decode cX2_reckonSign 12 = .ok (.iload_n 2, 1) := by decide +kernel
theorem dX2_reckonSign_13 : decode cX2_reckonSign 13 = .ok (.ifCond .ne 7, 3) := by decide +kernel
theorem dX2_reckonSign_16 : decode cX2_reckonSign 16 = .ok (.iconst 1, 1) := by decide +kernel
theorem dX2_reckonSign_17 : decode cX2_reckonSign 17 = .ok (.goto 4, 3) := by decide +kernel
theorem dX2_reckonSign_20 : decode cX2_reckonSign 20 = .ok (.iconst 0, 1) := by decide +kernel
theorem dX2_reckonSign_21 : decode cX2_reckonSign 21 = .ok (.invokevirtual 106, 3) := by decide +kernel
theorem dX2_reckonSign_24 : decode cX2_reckonSign 24 = .ok (.goto 31, 3) := by decide +kernel
theorem dX2_reckonSign_27 : decode cX2_reckonSign 27 = .ok (.iload_n 1, 1) := by decide +kernel
theorem dX2_reckonSign_28 : decode cX2_reckonSign 28 = .ok (.bipush 126, 2) := by decide +kernel
theorem dX2_reckonSign_30 : decode cX2_reckonSign 30 = .ok (.if_icmp .ne 12, 3) := by decide +kernel
theorem dX2_reckonSign_33 : decode cX2_reckonSign 33 = .ok (.aload_n 0, 1) := by decide +kernel
theorem dX2_reckonSign_34 : decode cX2_reckonSign 34 = .ok (.iload_n 2, 1) := by decide +kernel
theorem dX2_reckonSign_35 : decode cX2_reckonSign 35 = .ok (.ineg, 1) := by decide +kernel
theorem dX2_reckonSign_36 : decode cX2_reckonSign 36 = .ok (.invokevirtual 106, 3) := by decide +kernel
theorem dX2_reckonSign_39 : decode cX2_reckonSign 39 = .ok (.goto 16, 3) := by decide +kernel
theorem dX2_reckonSign_42 : decode cX2_reckonSign 42 = .ok (.aload_n 0, 1) := by decide +kernel
theorem dX2_reckonSign_43 : decode cX2_reckonSign 43 = .ok (.iload_n 1, 1) := by decide +kernel
theorem dX2_reckonSign_44 : decode cX2_reckonSign 44 = .ok (.aload_n 0, 1) := by decide +kernel
theorem dX2_reckonSign_45 : decode cX2_reckonSign 45 = .ok (.invokevirtual 103, 3) := by decide +kernel
theorem dX2_reckonSign_48 : decode cX2_reckonSign 48 = .ok (.iload_n 2, 1) := by decide +kernel
theorem dX2_reckonSign_49 : decode cX2_reckonSign 49 = .ok (.invokestatic 112, 3) := by decide +kernel
theorem dX2_reckonSign_52 : decode cX2_reckonSign 52 = .ok (.invokevirtual 106, 3) := by decide +kernel
theorem dX2_reckonSign_55 : decode cX2_reckonSign 55 = .ok (.return_, 1) := by decide +kernel
theorem dX2_joined_0 : decode cX2_joined 0 = .ok (.iload_n 0, 1) := by decide +kernel
theorem dX2_joined_1 : decode cX2_joined 1 = .ok (.lookupswitch 188 #[(37, 115), (38, 141), (42, 99), (43, 91), (45, 95), (47, 103), (60, 155), (61, 166), (62, 177), (124, 127)], 91) := by decide +kernel
theorem dX2_joined_92 : decode cX2_joined 92 = .ok (.iload_n 1, 1) := by decide +kernel
theorem dX2_joined_93 : decode cX2_joined 93 = .ok (.iload_n 2, 1) := by decide +kernel
theorem dX2_joined_94 : decode cX2_joined 94 = .ok (.iadd, 1) := by decide +kernel
theorem dX2_joined_95 : decode cX2_joined 95 = .ok (.ireturn, 1) := by decide +kernel
theorem dX2_joined_96 : decode cX2_joined 96 = .ok (.iload_n 1, 1) := by decide +kernel
theorem dX2_joined_97 : decode cX2_joined 97 = .ok (.iload_n 2, 1) := by decide +kernel
theorem dX2_joined_98 : decode cX2_joined 98 = .ok (.isub, 1) := by decide +kernel
theorem dX2_joined_99 : decode cX2_joined 99 = .ok (.ireturn, 1) := by decide +kernel
theorem dX2_joined_100 : decode cX2_joined 100 = .ok (.iload_n 1, 1) := by decide +kernel
theorem dX2_joined_101 : decode cX2_joined 101 = .ok (.iload_n 2, 1) := by decide +kernel
theorem dX2_joined_102 : decode cX2_joined 102 = .ok (.imul, 1) := by decide +kernel
theorem dX2_joined_103 : decode cX2_joined 103 = .ok (.ireturn, 1) := by decide +kernel
theorem dX2_joined_104 : decode cX2_joined 104 = .ok (.iload_n 2, 1) := by decide +kernel
theorem dX2_joined_105 : decode cX2_joined 105 = .ok (.ifCond .ne 7, 3) := by decide +kernel
theorem dX2_joined_108 : decode cX2_joined 108 = .ok (.iconst 0, 1) := by decide +kernel
theorem dX2_joined_109 : decode cX2_joined 109 = .ok (.goto 6, 3) := by decide +kernel
theorem dX2_joined_112 : decode cX2_joined 112 = .ok (.iload_n 1, 1) := by decide +kernel
theorem dX2_joined_113 : decode cX2_joined 113 = .ok (.iload_n 2, 1) := by decide +kernel
theorem dX2_joined_114 : decode cX2_joined 114 = .ok (.idiv, 1) := by decide +kernel
theorem dX2_joined_115 : decode cX2_joined 115 = .ok (.ireturn, 1) := by decide +kernel
theorem dX2_joined_116 : decode cX2_joined 116 = .ok (.iload_n 2, 1) := by decide +kernel
theorem dX2_joined_117 : decode cX2_joined 117 = .ok (.ifCond .ne 7, 3) := by decide +kernel
theorem dX2_joined_120 : decode cX2_joined 120 = .ok (.iconst 0, 1) := by decide +kernel
theorem dX2_joined_121 : decode cX2_joined 121 = .ok (.goto 6, 3) := by decide +kernel
theorem dX2_joined_124 : decode cX2_joined 124 = .ok (.iload_n 1, 1) := by decide +kernel
theorem dX2_joined_125 : decode cX2_joined 125 = .ok (.iload_n 2, 1) := by decide +kernel
theorem dX2_joined_126 : decode cX2_joined 126 = .ok (.irem, 1) := by decide +kernel
theorem dX2_joined_127 : decode cX2_joined 127 = .ok (.ireturn, 1) := by decide +kernel
theorem dX2_joined_128 : decode cX2_joined 128 = .ok (.iload_n 1, 1) := by decide +kernel
theorem dX2_joined_129 : decode cX2_joined 129 = .ok (.ifCond .ne 7, 3) := by decide +kernel
theorem dX2_joined_132 : decode cX2_joined 132 = .ok (.iload_n 2, 1) := by decide +kernel
theorem dX2_joined_133 : decode cX2_joined 133 = .ok (.ifCond .eq 7, 3) := by decide +kernel
theorem dX2_joined_136 : decode cX2_joined 136 = .ok (.iconst 1, 1) := by decide +kernel
theorem dX2_joined_137 : decode cX2_joined 137 = .ok (.goto 4, 3) := by decide +kernel
theorem dX2_joined_140 : decode cX2_joined 140 = .ok (.iconst 0, 1) := by decide +kernel
theorem dX2_joined_141 : decode cX2_joined 141 = .ok (.ireturn, 1) := by decide +kernel
theorem dX2_joined_142 : decode cX2_joined 142 = .ok (.iload_n 1, 1) := by decide +kernel
theorem dX2_joined_143 : decode cX2_joined 143 = .ok (.ifCond .eq 11, 3) := by decide +kernel
theorem dX2_joined_146 : decode cX2_joined 146 = .ok (.iload_n 2, 1) := by decide +kernel
theorem dX2_joined_147 : decode cX2_joined 147 = .ok (.ifCond .eq 7, 3) := by decide +kernel
theorem dX2_joined_150 : decode cX2_joined 150 = .ok (.iconst 1, 1) := by decide +kernel
theorem dX2_joined_151 : decode cX2_joined 151 = .ok (.goto 4, 3) := by decide +kernel
theorem dX2_joined_154 : decode cX2_joined 154 = .ok (.iconst 0, 1) := by decide +kernel
theorem dX2_joined_155 : decode cX2_joined 155 = .ok (.ireturn, 1) := by decide +kernel
theorem dX2_joined_156 : decode cX2_joined 156 = .ok (.iload_n 1, 1) := by decide +kernel
theorem dX2_joined_157 : decode cX2_joined 157 = .ok (.iload_n 2, 1) := by decide +kernel
theorem dX2_joined_158 : decode cX2_joined 158 = .ok (.if_icmp .ge 7, 3) := by decide +kernel
theorem dX2_joined_161 : decode cX2_joined 161 = .ok (.iconst 1, 1) := by decide +kernel
theorem dX2_joined_162 : decode cX2_joined 162 = .ok (.goto 4, 3) := by decide +kernel
theorem dX2_joined_165 : decode cX2_joined 165 = .ok (.iconst 0, 1) := by decide +kernel
theorem dX2_joined_166 : decode cX2_joined 166 = .ok (.ireturn, 1) := by decide +kernel
theorem dX2_joined_167 : decode cX2_joined 167 = .ok (.iload_n 1, 1) := by decide +kernel
theorem dX2_joined_168 : decode cX2_joined 168 = .ok (.iload_n 2, 1) := by decide +kernel
theorem dX2_joined_169 : decode cX2_joined 169 = .ok (.if_icmp .ne 7, 3) := by decide +kernel
theorem dX2_joined_172 : decode cX2_joined 172 = .ok (.iconst 1, 1) := by decide +kernel
theorem dX2_joined_173 : decode cX2_joined 173 = .ok (.goto 4, 3) := by decide +kernel
theorem dX2_joined_176 : decode cX2_joined 176 = .ok (.iconst 0, 1) := by decide +kernel
theorem dX2_joined_177 : decode cX2_joined 177 = .ok (.ireturn, 1) := by decide +kernel
theorem dX2_joined_178 : decode cX2_joined 178 = .ok (.iload_n 1, 1) := by decide +kernel
theorem dX2_joined_179 : decode cX2_joined 179 = .ok (.iload_n 2, 1) := by decide +kernel
theorem dX2_joined_180 : decode cX2_joined 180 = .ok (.if_icmp .le 7, 3) := by decide +kernel
theorem dX2_joined_183 : decode cX2_joined 183 = .ok (.iconst 1, 1) := by decide +kernel
theorem dX2_joined_184 : decode cX2_joined 184 = .ok (.goto 4, 3) := by decide +kernel
theorem dX2_joined_187 : decode cX2_joined 187 = .ok (.iconst 0, 1) := by decide +kernel
theorem dX2_joined_188 : decode cX2_joined 188 = .ok (.ireturn, 1) := by decide +kernel
theorem dX2_joined_189 : decode cX2_joined 189 = .ok (.iconst 0, 1) := by decide +kernel
theorem dX2_joined_190 : decode cX2_joined 190 = .ok (.ireturn, 1) := by decide +kernel
theorem dX2_push_0 : decode cX2_push 0 = .ok (.aload_n 0, 1) := by decide +kernel
theorem dX2_push_1 : decode cX2_push 1 = .ok (.getfield 100, 3) := by decide +kernel
theorem dX2_push_4 : decode cX2_push 4 = .ok (.bipush 120, 2) := by decide +kernel
theorem dX2_push_6 : decode cX2_push 6 = .ok (.if_icmp .ge 23, 3) := by decide +kernel
theorem dX2_push_9 : decode cX2_push 9 = .ok (.aload_n 0, 1) := by decide +kernel
theorem dX2_push_10 : decode cX2_push 10 = .ok (.getfield 24, 3) := by decide +kernel
theorem dX2_push_13 : decode cX2_push 13 = .ok (.aload_n 0, 1) := by decide +kernel
theorem dX2_push_14 : decode cX2_push 14 = .ok (.getfield 100, 3) := by decide +kernel
theorem dX2_push_17 : decode cX2_push 17 = .ok (.iload_n 1, 1) := by decide +kernel
theorem dX2_push_18 : decode cX2_push 18 = .ok (.iastore, 1) := by decide +kernel
theorem dX2_push_19 : decode cX2_push 19 = .ok (.aload_n 0, 1) := by decide +kernel
theorem dX2_push_20 : decode cX2_push 20 = .ok (.dup, 1) := by decide +kernel
theorem dX2_push_21 : decode cX2_push 21 = .ok (.getfield 100, 3) := by decide +kernel
theorem dX2_push_24 : decode cX2_push 24 = .ok (.iconst 1, 1) := by decide +kernel
theorem dX2_push_25 : decode cX2_push 25 = .ok (.iadd, 1) := by decide +kernel
theorem dX2_push_26 : decode cX2_push 26 = .ok (.putfield 100, 3) := by decide +kernel
theorem dX2_push_29 : decode cX2_push 29 = .ok (.return_, 1) := by decide +kernel
theorem dX2_pop_0 : decode cX2_pop 0 = .ok (.aload_n 0, 1) := by decide +kernel
theorem dX2_pop_1 : decode cX2_pop 1 = .ok (.getfield 100, 3) := by decide +kernel
theorem dX2_pop_4 : decode cX2_pop 4 = .ok (.iconst 1, 1) := by decide +kernel
theorem dX2_pop_5 : decode cX2_pop 5 = .ok (.if_icmp .ge 5, 3) := by decide +kernel
theorem dX2_pop_8 : decode cX2_pop 8 = .ok (.iconst 0, 1) := by decide +kernel
theorem dX2_pop_9 : decode cX2_pop 9 = .ok (.ireturn, 1) := by decide +kernel
theorem dX2_pop_10 : decode cX2_pop 10 = .ok (.aload_n 0, 1) := by decide +kernel
theorem dX2_pop_11 : decode cX2_pop 11 = .ok (.dup, 1) := by decide +kernel
theorem dX2_pop_12 : decode cX2_pop 12 = .ok (.getfield 100, 3) := by decide +kernel
theorem dX2_pop_15 : decode cX2_pop 15 = .ok (.iconst 1, 1) := by decide +kernel
theorem dX2_pop_16 : decode cX2_pop 16 = .ok (.isub, 1) := by decide +kernel
theorem dX2_pop_17 : decode cX2_pop 17 = .ok (.putfield 100, 3) := by decide +kernel
theorem dX2_pop_20 : decode cX2_pop 20 = .ok (.aload_n 0, 1) := by decide +kernel
theorem dX2_pop_21 : decode cX2_pop 21 = .ok (.getfield 24, 3) := by decide +kernel
theorem dX2_pop_24 : decode cX2_pop 24 = .ok (.aload_n 0, 1) := by decide +kernel
theorem dX2_pop_25 : decode cX2_pop 25 = .ok (.getfield 100, 3) := by decide +kernel
theorem dX2_pop_28 : decode cX2_pop 28 = .ok (.iaload, 1) := by decide +kernel
theorem dX2_pop_29 : decode cX2_pop 29 = .ok (.ireturn, 1) := by decide +kernel
theorem dX3_init_0 : decode cX3_init 0 = .ok (.aload_n 0, 1) := by decide +kernel
theorem dX3_init_1 : decode cX3_init 1 = .ok (.invokespecial 3, 3) := by decide +kernel
theorem dX3_init_4 : decode cX3_init 4 = .ok (.aload_n 0, 1) := by decide +kernel
theorem dX3_init_5 : decode cX3_init 5 = .ok (.bipush 12, 2) := by decide +kernel
theorem dX3_init_7 : decode cX3_init 7 = .ok (.newarray .int, 2) := by decide +kernel
theorem dX3_init_9 : decode cX3_init 9 = .ok (.putfield 9, 3) := by decide +kernel
theorem dX3_init_12 : decode cX3_init 12 = .ok (.aload_n 0, 1) := by decide +kernel
theorem dX3_init_13 : decode cX3_init 13 = .ok (.aload_n 1, 1) := by decide +kernel
theorem dX3_init_14 : decode cX3_init 14 = .ok (.putfield 15, 3) := by decide +kernel
theorem dX3_init_17 : decode cX3_init 17 = .ok (.aload_n 0, 1) := by decide +kernel
theorem dX3_init_18 : decode cX3_init 18 = .ok (.aload_n 2, 1) := by decide +kernel
theorem dX3_init_19 : decode cX3_init 19 = .ok (.putfield 19, 3) := by decide +kernel
theorem dX3_init_22 : decode cX3_init 22 = .ok (.return_, 1) := by decide +kernel
theorem dX3_begin_0 : decode cX3_begin 0 = .ok (.aload_n 0, 1) := by decide +kernel
theorem dX3_begin_1 : decode cX3_begin 1 = .ok (.getfield 19, 3) := by decide +kernel
theorem dX3_begin_4 : decode cX3_begin 4 = .ok (.aload_n 0, 1) := by decide +kernel
theorem dX3_begin_5 : decode cX3_begin 5 = .ok (.getfield 15, 3) := by decide +kernel
theorem dX3_begin_8 : decode cX3_begin 8 = .ok (.invokevirtual 22, 3) := by decide +kernel
theorem dX3_begin_11 : decode cX3_begin 11 = .ok (.aload_n 0, 1) := by decide +kernel
theorem dX3_begin_12 : decode cX3_begin 12 = .ok (.invokevirtual 28, 3) := by decide +kernel
theorem dX3_begin_15 : decode cX3_begin 15 = .ok (.return_, 1) := by decide +kernel
theorem dX3_forgetNames_0 : decode cX3_forgetNames 0 = .ok (.aload_n 0, 1) := by decide +kernel
theorem dX3_forgetNames_1 : decode cX3_forgetNames 1 = .ok (.getfield 19, 3) := by decide +kernel
theorem dX3_forgetNames_4 : decode cX3_forgetNames 4 = .ok (.getfield 31, 3) := by decide +kernel
theorem dX3_forgetNames_7 : decode cX3_forgetNames 7 = .ok (.iconst (-1), 1) := by decide +kernel
theorem dX3_forgetNames_8 : decode cX3_forgetNames 8 = .ok (.invokestatic 34, 3) := by decide +kernel
theorem dX3_forgetNames_11 : decode cX3_forgetNames 11 = .ok (.aload_n 0, 1) := by decide +kernel
theorem dX3_forgetNames_12 : decode cX3_forgetNames 12 = .ok (.getfield 9, 3) := by decide +kernel
theorem dX3_forgetNames_15 : decode cX3_forgetNames 15 = .ok (.iconst (-1), 1) := by decide +kernel
theorem dX3_forgetNames_16 : decode cX3_forgetNames 16 = .ok (.invokestatic 34, 3) := by decide +kernel
theorem dX3_forgetNames_19 : decode cX3_forgetNames 19 = .ok (.aload_n 0, 1) := by decide +kernel
theorem dX3_forgetNames_20 : decode cX3_forgetNames 20 = .ok (.iconst 0, 1) := by decide +kernel
theorem dX3_forgetNames_21 : decode cX3_forgetNames 21 = .ok (.putfield 40, 3) := by decide +kernel
theorem dX3_forgetNames_24 : decode cX3_forgetNames 24 = .ok (.return_, 1) := by decide +kernel
theorem dX3_noteHeldAheadOf_0 : decode cX3_noteHeldAheadOf 0 = .ok (.aload_n 0, 1) := by decide +kernel
theorem dX3_noteHeldAheadOf_1 : decode cX3_noteHeldAheadOf 1 = .ok (.getfield 40, 3) := by decide +kernel
theorem dX3_noteHeldAheadOf_4 : decode cX3_noteHeldAheadOf 4 = .ok (.istore_n 2, 1) := by decide +kernel
theorem dX3_noteHeldAheadOf_5 : decode cX3_noteHeldAheadOf 5 = .ok (.iload_n 2, 1) := by decide +kernel
theorem dX3_noteHeldAheadOf_6 : decode cX3_noteHeldAheadOf 6 = .ok (.iload_n 1, 1) := by decide +kernel
theorem dX3_noteHeldAheadOf_7 : decode cX3_noteHeldAheadOf 7 = .ok (.if_icmp .ge 62, 3) := by decide +kernel
theorem dX3_noteHeldAheadOf_10 : decode cX3_noteHeldAheadOf 10 = .ok (.aload_n 0, 1) := by decide +kernel
theorem dX3_noteHeldAheadOf_11 : decode cX3_noteHeldAheadOf 11 = .ok (.getfield 19, 3) := by decide +kernel
theorem dX3_noteHeldAheadOf_14 : decode cX3_noteHeldAheadOf 14 = .ok (.iload_n 2, 1) := by decide +kernel
theorem dX3_noteHeldAheadOf_15 : decode cX3_noteHeldAheadOf 15 = .ok (.invokevirtual 44, 3) := by decide +kernel
theorem dX3_noteHeldAheadOf_18 : decode cX3_noteHeldAheadOf 18 = .ok (.istore_n 3, 1) := by decide +kernel
theorem dX3_noteHeldAheadOf_19 : decode cX3_noteHeldAheadOf 19 = .ok (.iconst 0, 1) := by decide +kernel
theorem dX3_noteHeldAheadOf_20 : decode cX3_noteHeldAheadOf 20 = .ok (.istore 4, 2) := by decide +kernel
theorem dX3_noteHeldAheadOf_22 : decode cX3_noteHeldAheadOf 22 = .ok (.iload 4, 2) := by decide +kernel
theorem dX3_noteHeldAheadOf_24 : decode cX3_noteHeldAheadOf 24 = .ok (.bipush 12, 2) := by decide +kernel
theorem dX3_noteHeldAheadOf_26 : decode cX3_noteHeldAheadOf 26 = .ok (.if_icmp .ge 37, 3) := by decide +kernel
theorem dX3_noteHeldAheadOf_29 : decode cX3_noteHeldAheadOf 29 = .ok (.aload_n 0, 1) := by decide +kernel
theorem dX3_noteHeldAheadOf_30 : decode cX3_noteHeldAheadOf 30 = .ok (.getfield 9, 3) := by decide +kernel
theorem dX3_noteHeldAheadOf_33 : decode cX3_noteHeldAheadOf 33 = .ok (.iload 4, 2) := by decide +kernel
theorem dX3_noteHeldAheadOf_35 : decode cX3_noteHeldAheadOf 35 = .ok (.iload_n 3, 1) := by decide +kernel
theorem dX3_noteHeldAheadOf_36 : decode cX3_noteHeldAheadOf 36 = .ok (.iload 4, 2) := by decide +kernel
theorem dX3_noteHeldAheadOf_38 : decode cX3_noteHeldAheadOf 38 = .ok (.ishr, 1) := by decide +kernel
theorem dX3_noteHeldAheadOf_39 : decode cX3_noteHeldAheadOf 39 = .ok (.iconst 1, 1) := by decide +kernel
theorem dX3_noteHeldAheadOf_40 : decode cX3_noteHeldAheadOf 40 = .ok (.iand, 1) := by decide +kernel
theorem dX3_noteHeldAheadOf_41 : decode cX3_noteHeldAheadOf 41 = .ok (.iconst 1, 1) := by decide +kernel
theorem dX3_noteHeldAheadOf_42 : decode cX3_noteHeldAheadOf 42 = .ok (.if_icmp .ne 7, 3) := by decide +kernel
theorem dX3_noteHeldAheadOf_45 : decode cX3_noteHeldAheadOf 45 = .ok (.iload_n 2, 1) := by decide +kernel
theorem dX3_noteHeldAheadOf_46 : decode cX3_noteHeldAheadOf 46 = .ok (.goto 10, 3) := by decide +kernel
theorem dX3_noteHeldAheadOf_49 : decode cX3_noteHeldAheadOf 49 = .ok (.aload_n 0, 1) := by decide +kernel
theorem dX3_noteHeldAheadOf_50 : decode cX3_noteHeldAheadOf 50 = .ok (.getfield 9, 3) := by decide +kernel
theorem dX3_noteHeldAheadOf_53 : decode cX3_noteHeldAheadOf 53 = .ok (.iload 4, 2) := by decide +kernel
theorem dX3_noteHeldAheadOf_55 : decode cX3_noteHeldAheadOf 55 = .ok (.iaload, 1) := by decide +kernel
theorem dX3_noteHeldAheadOf_56 : decode cX3_noteHeldAheadOf 56 = .ok (.iastore, 1) := by decide +kernel
theorem dX3_noteHeldAheadOf_57 : decode cX3_noteHeldAheadOf 57 = .ok (.iinc 4 1, 3) := by decide +kernel
theorem dX3_noteHeldAheadOf_60 : decode cX3_noteHeldAheadOf 60 = .ok (.goto (-38), 3) := by decide +kernel
theorem dX3_noteHeldAheadOf_63 : decode cX3_noteHeldAheadOf 63 = .ok (.iinc 2 1, 3) := by decide +kernel
theorem dX3_noteHeldAheadOf_66 : decode cX3_noteHeldAheadOf 66 = .ok (.goto (-61), 3) := by decide +kernel
theorem dX3_noteHeldAheadOf_69 : decode cX3_noteHeldAheadOf 69 = .ok (.aload_n 0, 1) := by decide +kernel
theorem dX3_noteHeldAheadOf_70 : decode cX3_noteHeldAheadOf 70 = .ok (.aload_n 0, 1) := by decide +kernel
theorem dX3_noteHeldAheadOf_71 : decode cX3_noteHeldAheadOf 71 = .ok (.getfield 40, 3) := by decide +kernel
theorem dX3_noteHeldAheadOf_74 : decode cX3_noteHeldAheadOf 74 = .ok (.iload_n 1, 1) := by decide +kernel
theorem dX3_noteHeldAheadOf_75 : decode cX3_noteHeldAheadOf 75 = .ok (.invokestatic 48, 3) := by decide +kernel
theorem dX3_noteHeldAheadOf_78 : decode cX3_noteHeldAheadOf 78 = .ok (.putfield 40, 3) := by decide +kernel
theorem dX3_noteHeldAheadOf_81 : decode cX3_noteHeldAheadOf 81 = .ok (.return_, 1) := by decide +kernel
theorem dX3_isBetter_0 : decode cX3_isBetter 0 = .ok (.iload_n 2, 1) := by decide +kernel
theorem dX3_isBetter_1 : decode cX3_isBetter 1 = .ok (.bipush (-2), 2) := by decide +kernel
theorem dX3_isBetter_3 : decode cX3_isBetter 3 = .ok (.if_icmp .ne 5, 3) := by decide +kernel
theorem dX3_isBetter_6 : decode cX3_isBetter 6 = .ok (.iconst 1, 1) := by decide +kernel
theorem dX3_isBetter_7 : decode cX3_isBetter 7 = .ok (.ireturn, 1) := by decide +kernel
theorem dX3_isBetter_8 : decode cX3_isBetter 8 = .ok (.iload_n 3, 1) := by decide +kernel
theorem dX3_isBetter_9 : decode cX3_isBetter 9 = .ok (.iconst 1, 1) := by decide +kernel
theorem dX3_isBetter_10 : decode cX3_isBetter 10 = .ok (.if_icmp .ne 24, 3) := by decide +kernel
theorem dX3_isBetter_13 : decode cX3_isBetter 13 = .ok (.aload_n 0, 1) := by decide +kernel
theorem dX3_isBetter_14 : decode cX3_isBetter 14 = .ok (.getfield 9, 3) := by decide +kernel
theorem dX3_isBetter_17 : decode cX3_isBetter 17 = .ok (.iload_n 1, 1) := by decide +kernel
theorem dX3_isBetter_18 : decode cX3_isBetter 18 = .ok (.iaload, 1) := by decide +kernel
theorem dX3_isBetter_19 : decode cX3_isBetter 19 = .ok (.aload_n 0, 1) := by decide +kernel
theorem dX3_isBetter_20 : decode cX3_isBetter 20 = .ok (.getfield 9, 3) := by decide +kernel
theorem dX3_isBetter_23 : decode cX3_isBetter 23 = .ok (.iload_n 2, 1) := by decide +kernel
theorem dX3_isBetter_24 : decode cX3_isBetter 24 = .ok (.iaload, 1) := by decide +kernel
theorem dX3_isBetter_25 : decode cX3_isBetter 25 = .ok (.if_icmp .le 7, 3) := by decide +kernel
theorem dX3_isBetter_28 : decode cX3_isBetter 28 = .ok (.iconst 1, 1) := by decide +kernel
theorem dX3_isBetter_29 : decode cX3_isBetter 29 = .ok (.goto 4, 3) := by decide +kernel
theorem dX3_isBetter_32 : decode cX3_isBetter 32 = .ok (.iconst 0, 1) := by decide +kernel
theorem dX3_isBetter_33 : decode cX3_isBetter 33 = .ok (.ireturn, 1) := by decide +kernel
theorem dX3_isBetter_34 : decode cX3_isBetter 34 = .ok (.iload_n 3, 1) := by decide +kernel
theorem dX3_isBetter_35 : decode cX3_isBetter 35 = .ok (.iconst 2, 1) := by decide +kernel
theorem dX3_isBetter_36 : decode cX3_isBetter 36 = .ok (.if_icmp .ne 28, 3) := by decide +kernel
theorem dX3_isBetter_39 : decode cX3_isBetter 39 = .ok (.aload_n 0, 1) := by decide +kernel
theorem dX3_isBetter_40 : decode cX3_isBetter 40 = .ok (.getfield 19, 3) := by decide +kernel
theorem dX3_isBetter_43 : decode cX3_isBetter 43 = .ok (.getfield 54, 3) := by decide +kernel
theorem dX3_isBetter_46 : decode cX3_isBetter 46 = .ok (.iload_n 1, 1) := by decide +kernel
theorem dX3_isBetter_47 : decode cX3_isBetter 47 = .ok (.iaload, 1) := by decide +kernel
theorem dX3_isBetter_48 : decode cX3_isBetter 48 = .ok (.aload_n 0, 1) := by decide +kernel
theorem dX3_isBetter_49 : decode cX3_isBetter 49 = .ok (.getfield 19, 3) := by decide +kernel
theorem dX3_isBetter_52 : decode cX3_isBetter 52 = .ok (.getfield 54, 3) := by decide +kernel
theorem dX3_isBetter_55 : decode cX3_isBetter 55 = .ok (.iload_n 2, 1) := by decide +kernel
theorem dX3_isBetter_56 : decode cX3_isBetter 56 = .ok (.iaload, 1) := by decide +kernel
theorem dX3_isBetter_57 : decode cX3_isBetter 57 = .ok (.if_icmp .le 7, 3) := by decide +kernel
theorem dX3_isBetter_60 : decode cX3_isBetter 60 = .ok (.iconst 1, 1) := by decide +kernel
theorem dX3_isBetter_61 : decode cX3_isBetter 61 = .ok (.goto 4, 3) := by decide +kernel
theorem dX3_isBetter_64 : decode cX3_isBetter 64 = .ok (.iconst 0, 1) := by decide +kernel
theorem dX3_isBetter_65 : decode cX3_isBetter 65 = .ok (.ireturn, 1) := by decide +kernel
theorem dX3_choose_0 : decode cX3_choose 0 = .ok (.aload_n 0, 1) := by decide +kernel
theorem dX3_choose_1 : decode cX3_choose 1 = .ok (.getfield 19, 3) := by decide +kernel
theorem dX3_choose_4 : decode cX3_choose 4 = .ok (.aload_n 0, 1) := by decide +kernel
theorem dX3_choose_5 : decode cX3_choose 5 = .ok (.getfield 19, 3) := by decide +kernel
theorem dX3_choose_8 : decode cX3_choose 8 = .ok (.getfield 57, 3) := by decide +kernel
theorem dX3_choose_11 : decode cX3_choose 11 = .ok (.iload_n 1, 1) := by decide +kernel
theorem dX3_choose_12 : decode cX3_choose 12 = .ok (.iaload, 1) := by decide +kernel
theorem dX3_choose_13 : decode cX3_choose 13 = .ok (.invokevirtual 44, 3) := by decide +kernel
theorem dX3_choose_16 : decode cX3_choose 16 = .ok (.istore_n 3, 1) := by decide +kernel
theorem dX3_choose_17 : decode cX3_choose 17 = .ok (.bipush (-2), 2) := by decide +kernel
theorem dX3_choose_19 : decode cX3_choose 19 = .ok (.istore 4, 2) := by decide +kernel
theorem dX3_choose_21 : decode cX3_choose 21 = .ok (.iconst 0, 1) := by decide +kernel
theorem dX3_choose_22 : decode cX3_choose 22 = .ok (.istore 5, 2) := by decide +kernel
theorem dX3_choose_24 : decode cX3_choose 24 = .ok (.iload 5, 2) := by decide +kernel
theorem dX3_choose_26 : decode cX3_choose 26 = .ok (.bipush 12, 2) := by decide +kernel
theorem dX3_choose_28 : decode cX3_choose 28 = .ok (.if_icmp .ge 34, 3) := by decide +kernel
theorem dX3_choose_31 : decode cX3_choose 31 = .ok (.iload_n 3, 1) := by decide +kernel
theorem dX3_choose_32 : decode cX3_choose 32 = .ok (.iload 5, 2) := by decide +kernel
theorem dX3_choose_34 : decode cX3_choose 34 = .ok (.ishr, 1) := by decide +kernel
theorem dX3_choose_35 : decode cX3_choose 35 = .ok (.iconst 1, 1) := by decide +kernel
theorem dX3_choose_36 : decode cX3_choose 36 = .ok (.iand, 1) := by decide +kernel
theorem dX3_choose_37 : decode cX3_choose 37 = .ok (.ifCond .ne 19, 3) := by decide +kernel
theorem dX3_choose_40 : decode cX3_choose 40 = .ok (.aload_n 0, 1) := by decide +kernel
theorem dX3_choose_41 : decode cX3_choose 41 = .ok (.iload 5, 2) := by decide +kernel
theorem dX3_choose_43 : decode cX3_choose 43 = .ok (.iload 4, 2) := by decide +kernel
theorem dX3_choose_45 : decode cX3_choose 45 = .ok (.iload_n 2, 1) := by decide +kernel
theorem dX3_choose_46 : decode cX3_choose 46 = .ok (.invokevirtual 60, 3) := by decide +kernel
theorem dX3_choose_49 : decode cX3_choose 49 = .ok (.ifCond .eq 7, 3) := by decide +kernel
theorem dX3_choose_52 : decode cX3_choose 52 = .ok (.iload 5, 2) := by decide +kernel
theorem dX3_choose_54 : decode cX3_choose 54 = .ok (.istore 4, 2) := by decide +kernel
theorem dX3_choose_56 : decode cX3_choose 56 = .ok (.iinc 5 1, 3) := by decide +kernel
theorem dX3_choose_59 : decode cX3_choose 59 = .ok (.goto (-35), 3) := by decide +kernel
theorem dX3_choose_62 : decode cX3_choose 62 = .ok (.iload 4, 2) := by decide +kernel
theorem dX3_choose_64 : decode cX3_choose 64 = .ok (.ireturn, 1) := by decide +kernel
theorem dX3_chosenFor_0 : decode cX3_chosenFor 0 = .ok (.aload_n 0, 1) := by decide +kernel
theorem dX3_chosenFor_1 : decode cX3_chosenFor 1 = .ok (.invokevirtual 64, 3) := by decide +kernel
theorem dX3_chosenFor_4 : decode cX3_chosenFor 4 = .ok (.iconst 0, 1) := by decide +kernel
theorem dX3_chosenFor_5 : decode cX3_chosenFor 5 = .ok (.istore_n 3, 1) := by decide +kernel
theorem dX3_chosenFor_6 : decode cX3_chosenFor 6 = .ok (.iload_n 3, 1) := by decide +kernel
theorem dX3_chosenFor_7 : decode cX3_chosenFor 7 = .ok (.aload_n 0, 1) := by decide +kernel
theorem dX3_chosenFor_8 : decode cX3_chosenFor 8 = .ok (.getfield 15, 3) := by decide +kernel
theorem dX3_chosenFor_11 : decode cX3_chosenFor 11 = .ok (.getfield 67, 3) := by decide +kernel
theorem dX3_chosenFor_14 : decode cX3_chosenFor 14 = .ok (.if_icmp .ge 56, 3) := by decide +kernel
theorem dX3_chosenFor_17 : decode cX3_chosenFor 17 = .ok (.aload_n 0, 1) := by decide +kernel
theorem dX3_chosenFor_18 : decode cX3_chosenFor 18 = .ok (.getfield 15, 3) := by decide +kernel
theorem dX3_chosenFor_21 : decode cX3_chosenFor 21 = .ok (.getfield 70, 3) := by decide +kernel
theorem dX3_chosenFor_24 : decode cX3_chosenFor 24 = .ok (.iload_n 3, 1) := by decide +kernel
theorem dX3_chosenFor_25 : decode cX3_chosenFor 25 = .ok (.iaload, 1) := by decide +kernel
theorem dX3_chosenFor_26 : decode cX3_chosenFor 26 = .ok (.iload_n 1, 1) := by decide +kernel
theorem dX3_chosenFor_27 : decode cX3_chosenFor 27 = .ok (.if_icmp .eq 43, 3) := by decide +kernel
theorem dX3_chosenFor_30 : decode cX3_chosenFor 30 = .ok (.aload_n 0, 1) := by decide +kernel
theorem dX3_chosenFor_31 : decode cX3_chosenFor 31 = .ok (.getfield 19, 3) := by decide +kernel
theorem dX3_chosenFor_34 : decode cX3_chosenFor 34 = .ok (.getfield 31, 3) := by decide +kernel
theorem dX3_chosenFor_37 : decode cX3_chosenFor 37 = .ok (.aload_n 0, 1) := by decide +kernel
theorem dX3_chosenFor_38 : decode cX3_chosenFor 38 = .ok (.getfield 15, 3) := by decide +kernel
theorem dX3_chosenFor_41 : decode cX3_chosenFor 41 = .ok (.getfield 70, 3) := by decide +kernel
theorem dX3_chosenFor_44 : decode cX3_chosenFor 44 = .ok (.iload_n 3, 1) := by decide +kernel
theorem dX3_chosenFor_45 : decode cX3_chosenFor 45 = .ok (.iaload, 1) := by decide +kernel
theorem dX3_chosenFor_46 : decode cX3_chosenFor 46 = .ok (.aload_n 0, 1) := by decide +kernel
theorem dX3_chosenFor_47 : decode cX3_chosenFor 47 = .ok (.getfield 15, 3) := by decide +kernel
theorem dX3_chosenFor_50 : decode cX3_chosenFor 50 = .ok (.getfield 31, 3) := by decide +kernel
theorem dX3_chosenFor_53 : decode cX3_chosenFor 53 = .ok (.aload_n 0, 1) := by decide +kernel
theorem dX3_chosenFor_54 : decode cX3_chosenFor 54 = .ok (.getfield 15, 3) := by decide +kernel
theorem dX3_chosenFor_57 : decode cX3_chosenFor 57 = .ok (.getfield 70, 3) := by decide +kernel
theorem dX3_chosenFor_60 : decode cX3_chosenFor 60 = .ok (.iload_n 3, 1) := by decide +kernel
theorem dX3_chosenFor_61 : decode cX3_chosenFor 61 = .ok (.iaload, 1) := by decide +kernel
theorem dX3_chosenFor_62 : decode cX3_chosenFor 62 = .ok (.iaload, 1) := by decide +kernel
theorem dX3_chosenFor_63 : decode cX3_chosenFor 63 = .ok (.iastore, 1) := by decide +kernel
theorem dX3_chosenFor_64 : decode cX3_chosenFor 64 = .ok (.iinc 3 1, 3) := by decide +kernel
theorem dX3_chosenFor_67 : decode cX3_chosenFor 67 = .ok (.goto (-61), 3) := by decide +kernel
theorem dX3_chosenFor_70 : decode cX3_chosenFor 70 = .ok (.iload_n 2, 1) := by decide +kernel
theorem dX3_chosenFor_71 : decode cX3_chosenFor 71 = .ok (.iconst 1, 1) := by decide +kernel
theorem dX3_chosenFor_72 : decode cX3_chosenFor 72 = .ok (.if_icmp .ne 16, 3) := by decide +kernel
theorem dX3_chosenFor_75 : decode cX3_chosenFor 75 = .ok (.aload_n 0, 1) := by decide +kernel
theorem dX3_chosenFor_76 : decode cX3_chosenFor 76 = .ok (.aload_n 0, 1) := by decide +kernel
theorem dX3_chosenFor_77 : decode cX3_chosenFor 77 = .ok (.getfield 15, 3) := by decide +kernel
theorem dX3_chosenFor_80 : decode cX3_chosenFor 80 = .ok (.getfield 57, 3) := by decide +kernel
theorem dX3_chosenFor_83 : decode cX3_chosenFor 83 = .ok (.iload_n 1, 1) := by decide +kernel
theorem dX3_chosenFor_84 : decode cX3_chosenFor 84 = .ok (.iaload, 1) := by decide +kernel
theorem dX3_chosenFor_85 : decode cX3_chosenFor 85 = .ok (.invokevirtual 73, 3) := by decide +kernel
theorem dX3_chosenFor_88 : decode cX3_chosenFor 88 = .ok (.aload_n 0, 1) := by decide +kernel
theorem dX3_chosenFor_89 : decode cX3_chosenFor 89 = .ok (.iload_n 1, 1) := by decide +kernel
theorem dX3_chosenFor_90 : decode cX3_chosenFor 90 = .ok (.iload_n 2, 1) := by decide +kernel
theorem dX3_chosenFor_91 : decode cX3_chosenFor 91 = .ok (.invokevirtual 77, 3) := by decide +kernel
theorem dX3_chosenFor_94 : decode cX3_chosenFor 94 = .ok (.ireturn, 1) := by decide +kernel
theorem dX3_firstHeldAtBirth_0 : decode cX3_firstHeldAtBirth 0 = .ok (.aload_n 0, 1) := by decide +kernel
theorem dX3_firstHeldAtBirth_1 : decode cX3_firstHeldAtBirth 1 = .ok (.invokevirtual 64, 3) := by decide +kernel
theorem dX3_firstHeldAtBirth_4 : decode cX3_firstHeldAtBirth 4 = .ok (.iconst 0, 1) := by decide +kernel
theorem dX3_firstHeldAtBirth_5 : decode cX3_firstHeldAtBirth 5 = .ok (.istore_n 1, 1) := by decide +kernel
theorem dX3_firstHeldAtBirth_6 : decode cX3_firstHeldAtBirth 6 = .ok (.iload_n 1, 1) := by decide +kernel
theorem dX3_firstHeldAtBirth_7 : decode cX3_firstHeldAtBirth 7 = .ok (.aload_n 0, 1) := by decide +kernel
theorem dX3_firstHeldAtBirth_8 : decode cX3_firstHeldAtBirth 8 = .ok (.getfield 15, 3) := by decide +kernel
theorem dX3_firstHeldAtBirth_11 : decode cX3_firstHeldAtBirth 11 = .ok (.getfield 67, 3) := by decide +kernel
theorem dX3_firstHeldAtBirth_14 : decode cX3_firstHeldAtBirth 14 = .ok (.if_icmp .ge 69, 3) := by decide +kernel
theorem dX3_firstHeldAtBirth_17 : decode cX3_firstHeldAtBirth 17 = .ok (.aload_n 0, 1) := by decide +kernel
theorem dX3_firstHeldAtBirth_18 : decode cX3_firstHeldAtBirth 18 = .ok (.getfield 15, 3) := by decide +kernel
theorem dX3_firstHeldAtBirth_21 : decode cX3_firstHeldAtBirth 21 = .ok (.getfield 70, 3) := by decide +kernel
theorem dX3_firstHeldAtBirth_24 : decode cX3_firstHeldAtBirth 24 = .ok (.iload_n 1, 1) := by decide +kernel
theorem dX3_firstHeldAtBirth_25 : decode cX3_firstHeldAtBirth 25 = .ok (.iaload, 1) := by decide +kernel
theorem dX3_firstHeldAtBirth_26 : decode cX3_firstHeldAtBirth 26 = .ok (.istore_n 2, 1) := by decide +kernel
theorem dX3_firstHeldAtBirth_27 : decode cX3_firstHeldAtBirth 27 = .ok (.aload_n 0, 1) := by decide +kernel
theorem dX3_firstHeldAtBirth_28 : decode cX3_firstHeldAtBirth 28 = .ok (.getfield 15, 3) := by decide +kernel
theorem dX3_firstHeldAtBirth_31 : decode cX3_firstHeldAtBirth 31 = .ok (.getfield 31, 3) := by decide +kernel
theorem dX3_firstHeldAtBirth_34 : decode cX3_firstHeldAtBirth 34 = .ok (.iload_n 2, 1) := by decide +kernel
theorem dX3_firstHeldAtBirth_35 : decode cX3_firstHeldAtBirth 35 = .ok (.iaload, 1) := by decide +kernel
theorem dX3_firstHeldAtBirth_36 : decode cX3_firstHeldAtBirth 36 = .ok (.istore_n 3, 1) := by decide +kernel
theorem dX3_firstHeldAtBirth_37 : decode cX3_firstHeldAtBirth 37 = .ok (.iload_n 3, 1) := by decide +kernel
theorem dX3_firstHeldAtBirth_38 : decode cX3_firstHeldAtBirth 38 = .ok (.ifCond .lt 29, 3) := by decide +kernel
theorem dX3_firstHeldAtBirth_41 : decode cX3_firstHeldAtBirth 41 = .ok (.aload_n 0, 1) := by decide +kernel
theorem dX3_firstHeldAtBirth_42 : decode cX3_firstHeldAtBirth 42 = .ok (.getfield 19, 3) := by decide +kernel
theorem dX3_firstHeldAtBirth_45 : decode cX3_firstHeldAtBirth 45 = .ok (.aload_n 0, 1) := by decide +kernel
theorem dX3_firstHeldAtBirth_46 : decode cX3_firstHeldAtBirth 46 = .ok (.getfield 15, 3) := by decide +kernel
theorem dX3_firstHeldAtBirth_49 : decode cX3_firstHeldAtBirth 49 = .ok (.getfield 57, 3) := by decide +kernel
theorem dX3_firstHeldAtBirth_52 : decode cX3_firstHeldAtBirth 52 = .ok (.iload_n 2, 1) := by decide +kernel
theorem dX3_firstHeldAtBirth_53 : decode cX3_firstHeldAtBirth 53 = .ok (.iaload, 1) := by decide +kernel
theorem dX3_firstHeldAtBirth_54 : decode cX3_firstHeldAtBirth 54 = .ok (.invokevirtual 44, 3) := by decide +kernel
theorem dX3_firstHeldAtBirth_57 : decode cX3_firstHeldAtBirth 57 = .ok (.iload_n 3, 1) := by decide +kernel
theorem dX3_firstHeldAtBirth_58 : decode cX3_firstHeldAtBirth 58 = .ok (.ishr, 1) := by decide +kernel
theorem dX3_firstHeldAtBirth_59 : decode cX3_firstHeldAtBirth 59 = .ok (.iconst 1, 1) := by decide +kernel
theorem dX3_firstHeldAtBirth_60 : decode cX3_firstHeldAtBirth 60 = .ok (.iand, 1) := by decide +kernel
theorem dX3_firstHeldAtBirth_61 : decode cX3_firstHeldAtBirth 61 = .ok (.iconst 1, 1) := by decide +kernel
theorem dX3_firstHeldAtBirth_62 : decode cX3_firstHeldAtBirth 62 = .ok (.if_icmp .ne 5, 3) := by decide +kernel
theorem dX3_firstHeldAtBirth_65 : decode cX3_firstHeldAtBirth 65 = .ok (.iload_n 2, 1) := by decide +kernel
theorem dX3_firstHeldAtBirth_66 : decode cX3_firstHeldAtBirth 66 = .ok (.ireturn, 1) := by decide +kernel
theorem dX3_firstHeldAtBirth_67 : decode cX3_firstHeldAtBirth 67 = .ok (.aload_n 0, 1) := by decide +kernel
theorem dX3_firstHeldAtBirth_68 : decode cX3_firstHeldAtBirth 68 = .ok (.getfield 19, 3) := by decide +kernel
theorem dX3_firstHeldAtBirth_71 : decode cX3_firstHeldAtBirth 71 = .ok (.getfield 31, 3) := by decide +kernel
theorem dX3_firstHeldAtBirth_74 : decode cX3_firstHeldAtBirth 74 = .ok (.iload_n 2, 1) := by decide +kernel
theorem dX3_firstHeldAtBirth_75 : decode cX3_firstHeldAtBirth 75 = .ok (.iload_n 3, 1) := by decide +kernel
theorem dX3_firstHeldAtBirth_76 : decode cX3_firstHeldAtBirth 76 = .ok (.iastore, 1) := by decide +kernel
theorem dX3_firstHeldAtBirth_77 : decode cX3_firstHeldAtBirth 77 = .ok (.iinc 1 1, 3) := by decide +kernel
theorem dX3_firstHeldAtBirth_80 : decode cX3_firstHeldAtBirth 80 = .ok (.goto (-74), 3) := by decide +kernel
theorem dX3_firstHeldAtBirth_83 : decode cX3_firstHeldAtBirth 83 = .ok (.bipush (-2), 2) := by decide +kernel
theorem dX3_firstHeldAtBirth_85 : decode cX3_firstHeldAtBirth 85 = .ok (.ireturn, 1) := by decide +kernel
theorem dX3_nameAll_0 : decode cX3_nameAll 0 = .ok (.aload_n 0, 1) := by decide +kernel
theorem dX3_nameAll_1 : decode cX3_nameAll 1 = .ok (.invokevirtual 28, 3) := by decide +kernel
theorem dX3_nameAll_4 : decode cX3_nameAll 4 = .ok (.iconst 0, 1) := by decide +kernel
theorem dX3_nameAll_5 : decode cX3_nameAll 5 = .ok (.istore_n 2, 1) := by decide +kernel
theorem dX3_nameAll_6 : decode cX3_nameAll 6 = .ok (.iload_n 2, 1) := by decide +kernel
theorem dX3_nameAll_7 : decode cX3_nameAll 7 = .ok (.aload_n 0, 1) := by decide +kernel
theorem dX3_nameAll_8 : decode cX3_nameAll 8 = .ok (.getfield 19, 3) := by decide +kernel
theorem dX3_nameAll_11 : decode cX3_nameAll 11 = .ok (.getfield 67, 3) := by decide +kernel
theorem dX3_nameAll_14 : decode cX3_nameAll 14 = .ok (.if_icmp .ge 67, 3) := by decide +kernel
theorem dX3_nameAll_17 : decode cX3_nameAll 17 = .ok (.aload_n 0, 1) := by decide +kernel
theorem dX3_nameAll_18 : decode cX3_nameAll 18 = .ok (.getfield 19, 3) := by decide +kernel
theorem dX3_nameAll_21 : decode cX3_nameAll 21 = .ok (.getfield 70, 3) := by decide +kernel
theorem dX3_nameAll_24 : decode cX3_nameAll 24 = .ok (.iload_n 2, 1) := by decide +kernel
theorem dX3_nameAll_25 : decode cX3_nameAll 25 = .ok (.iaload, 1) := by decide +kernel
theorem dX3_nameAll_26 : decode cX3_nameAll 26 = .ok (.istore_n 3, 1) := by decide +kernel
theorem dX3_nameAll_27 : decode cX3_nameAll 27 = .ok (.iload_n 1, 1) := by decide +kernel
theorem dX3_nameAll_28 : decode cX3_nameAll 28 = .ok (.iconst 1, 1) := by decide +kernel
theorem dX3_nameAll_29 : decode cX3_nameAll 29 = .ok (.if_icmp .ne 16, 3) := by decide +kernel
theorem dX3_nameAll_32 : decode cX3_nameAll 32 = .ok (.aload_n 0, 1) := by decide +kernel
theorem dX3_nameAll_33 : decode cX3_nameAll 33 = .ok (.aload_n 0, 1) := by decide +kernel
theorem dX3_nameAll_34 : decode cX3_nameAll 34 = .ok (.getfield 19, 3) := by decide +kernel
theorem dX3_nameAll_37 : decode cX3_nameAll 37 = .ok (.getfield 57, 3) := by decide +kernel
theorem dX3_nameAll_40 : decode cX3_nameAll 40 = .ok (.iload_n 3, 1) := by decide +kernel
theorem dX3_nameAll_41 : decode cX3_nameAll 41 = .ok (.iaload, 1) := by decide +kernel
theorem dX3_nameAll_42 : decode cX3_nameAll 42 = .ok (.invokevirtual 73, 3) := by decide +kernel
theorem dX3_nameAll_45 : decode cX3_nameAll 45 = .ok (.aload_n 0, 1) := by decide +kernel
theorem dX3_nameAll_46 : decode cX3_nameAll 46 = .ok (.iload_n 3, 1) := by decide +kernel
theorem dX3_nameAll_47 : decode cX3_nameAll 47 = .ok (.iload_n 1, 1) := by decide +kernel
theorem dX3_nameAll_48 : decode cX3_nameAll 48 = .ok (.invokevirtual 77, 3) := by decide +kernel
theorem dX3_nameAll_51 : decode cX3_nameAll 51 = .ok (.istore 4, 2) := by decide +kernel
theorem dX3_nameAll_53 : decode cX3_nameAll 53 = .ok (.aload_n 0, 1) := by decide +kernel
theorem dX3_nameAll_54 : decode cX3_nameAll 54 = .ok (.getfield 19, 3) := by decide +kernel
theorem dX3_nameAll_57 : decode cX3_nameAll 57 = .ok (.getfield 31, 3) := by decide +kernel
theorem dX3_nameAll_60 : decode cX3_nameAll 60 = .ok (.iload_n 3, 1) := by decide +kernel
theorem dX3_nameAll_61 : decode cX3_nameAll 61 = .ok (.iload 4, 2) := by decide +kernel
theorem dX3_nameAll_63 : decode cX3_nameAll 63 = .ok (.bipush (-2), 2) := by decide +kernel
theorem dX3_nameAll_65 : decode cX3_nameAll 65 = .ok (.if_icmp .ne 7, 3) := by decide +kernel
theorem dX3_nameAll_68 : decode cX3_nameAll 68 = .ok (.iconst (-1), 1) := by decide +kernel
theorem dX3_nameAll_69 : decode cX3_nameAll 69 = .ok (.goto 5, 3) := by decide +kernel
theorem dX3_nameAll_72 : decode cX3_nameAll 72 = .ok (.iload 4, 2) := by decide +kernel
theorem dX3_nameAll_74 : decode cX3_nameAll 74 = .ok (.iastore, 1) := by decide +kernel
theorem dX3_nameAll_75 : decode cX3_nameAll 75 = .ok (.iinc 2 1, 3) := by decide +kernel
theorem dX3_nameAll_78 : decode cX3_nameAll 78 = .ok (.goto (-72), 3) := by decide +kernel
theorem dX3_nameAll_81 : decode cX3_nameAll 81 = .ok (.return_, 1) := by decide +kernel
theorem dX3_namesThatCame_0 : decode cX3_namesThatCame 0 = .ok (.iconst 0, 1) := by decide +kernel
theorem dX3_namesThatCame_1 : decode cX3_namesThatCame 1 = .ok (.istore_n 1, 1) := by decide +kernel
theorem dX3_namesThatCame_2 : decode cX3_namesThatCame 2 = .ok (.iconst 0, 1) := by decide +kernel
theorem dX3_namesThatCame_3 : decode cX3_namesThatCame 3 = .ok (.istore_n 2, 1) := by decide +kernel
theorem dX3_namesThatCame_4 : decode cX3_namesThatCame 4 = .ok (.iload_n 2, 1) := by decide +kernel
theorem dX3_namesThatCame_5 : decode cX3_namesThatCame 5 = .ok (.aload_n 0, 1) := by decide +kernel
theorem dX3_namesThatCame_6 : decode cX3_namesThatCame 6 = .ok (.getfield 19, 3) := by decide +kernel
theorem dX3_namesThatCame_9 : decode cX3_namesThatCame 9 = .ok (.getfield 67, 3) := by decide +kernel
theorem dX3_namesThatCame_12 : decode cX3_namesThatCame 12 = .ok (.if_icmp .ge 35, 3) := by decide +kernel
theorem dX3_namesThatCame_15 : decode cX3_namesThatCame 15 = .ok (.aload_n 0, 1) := by decide +kernel
theorem dX3_namesThatCame_16 : decode cX3_namesThatCame 16 = .ok (.getfield 19, 3) := by decide +kernel
theorem dX3_namesThatCame_19 : decode cX3_namesThatCame 19 = .ok (.getfield 31, 3) := by decide +kernel
theorem dX3_namesThatCame_22 : decode cX3_namesThatCame 22 = .ok (.iload_n 2, 1) := by decide +kernel
theorem dX3_namesThatCame_23 : decode cX3_namesThatCame 23 = .ok (.iaload, 1) := by decide +kernel
theorem dX3_namesThatCame_24 : decode cX3_namesThatCame 24 = .ok (.ifCond .lt 17, 3) := by decide +kernel
theorem dX3_namesThatCame_27 : decode cX3_namesThatCame 27 = .ok (.iload_n 1, 1) := by decide +kernel
theorem dX3_namesThatCame_28 : decode cX3_namesThatCame 28 = .ok (.iconst 1, 1) := by decide +kernel
theorem dX3_namesThatCame_29 : decode cX3_namesThatCame 29 = .ok (.aload_n 0, 1) := by decide +kernel
theorem dX3_namesThatCame_30 : decode cX3_namesThatCame 30 = .ok (.getfield 19, 3) := by decide +kernel
theorem dX3_namesThatCame_33 : decode cX3_namesThatCame 33 = .ok (.getfield 31, 3) := by decide +kernel
theorem dX3_namesThatCame_36 : decode cX3_namesThatCame 36 = .ok (.iload_n 2, 1) := by decide +kernel
theorem dX3_namesThatCame_37 : decode cX3_namesThatCame 37 = .ok (.iaload, 1) := by decide +kernel
theorem dX3_namesThatCame_38 : decode cX3_namesThatCame 38 = .ok (.ishl, 1) := by decide +kernel
theorem dX3_namesThatCame_39 : decode cX3_namesThatCame 39 = .ok (.ior, 1) := by decide +kernel
theorem dX3_namesThatCame_40 : decode cX3_namesThatCame 40 = .ok (.istore_n 1, 1) := by decide +kernel
theorem dX3_namesThatCame_41 : decode cX3_namesThatCame 41 = .ok (.iinc 2 1, 3) := by decide +kernel
theorem dX3_namesThatCame_44 : decode cX3_namesThatCame 44 = .ok (.goto (-40), 3) := by decide +kernel
theorem dX3_namesThatCame_47 : decode cX3_namesThatCame 47 = .ok (.iload_n 1, 1) := by decide +kernel
theorem dX3_namesThatCame_48 : decode cX3_namesThatCame 48 = .ok (.invokestatic 80, 3) := by decide +kernel
theorem dX3_namesThatCame_51 : decode cX3_namesThatCame 51 = .ok (.ireturn, 1) := by decide +kernel
theorem dX3_sumOfWorths_0 : decode cX3_sumOfWorths 0 = .ok (.iconst 0, 1) := by decide +kernel
theorem dX3_sumOfWorths_1 : decode cX3_sumOfWorths 1 = .ok (.istore_n 1, 1) := by decide +kernel
theorem dX3_sumOfWorths_2 : decode cX3_sumOfWorths 2 = .ok (.iconst 0, 1) := by decide +kernel
theorem dX3_sumOfWorths_3 : decode cX3_sumOfWorths 3 = .ok (.istore_n 2, 1) := by decide +kernel
theorem dX3_sumOfWorths_4 : decode cX3_sumOfWorths 4 = .ok (.iload_n 2, 1) := by decide +kernel
theorem dX3_sumOfWorths_5 : decode cX3_sumOfWorths 5 = .ok (.aload_n 0, 1) := by decide +kernel
theorem dX3_sumOfWorths_6 : decode cX3_sumOfWorths 6 = .ok (.getfield 19, 3) := by decide +kernel
theorem dX3_sumOfWorths_9 : decode cX3_sumOfWorths 9 = .ok (.getfield 67, 3) := by decide +kernel
theorem dX3_sumOfWorths_12 : decode cX3_sumOfWorths 12 = .ok (.if_icmp .ge 41, 3) := by decide +kernel
theorem dX3_sumOfWorths_15 : decode cX3_sumOfWorths 15 = .ok (.aload_n 0, 1) := by decide +kernel
theorem dX3_sumOfWorths_16 : decode cX3_sumOfWorths 16 = .ok (.getfield 19, 3) := by decide +kernel
theorem dX3_sumOfWorths_19 : decode cX3_sumOfWorths 19 = .ok (.getfield 31, 3) := by decide +kernel
theorem dX3_sumOfWorths_22 : decode cX3_sumOfWorths 22 = .ok (.iload_n 2, 1) := by decide +kernel
theorem dX3_sumOfWorths_23 : decode cX3_sumOfWorths 23 = .ok (.iaload, 1) := by decide +kernel
theorem dX3_sumOfWorths_24 : decode cX3_sumOfWorths 24 = .ok (.ifCond .lt 23, 3) := by decide +kernel
theorem dX3_sumOfWorths_27 : decode cX3_sumOfWorths 27 = .ok (.iload_n 1, 1) := by decide +kernel
theorem dX3_sumOfWorths_28 : decode cX3_sumOfWorths 28 = .ok (.aload_n 0, 1) := by decide +kernel
theorem dX3_sumOfWorths_29 : decode cX3_sumOfWorths 29 = .ok (.getfield 19, 3) := by decide +kernel
theorem dX3_sumOfWorths_32 : decode cX3_sumOfWorths 32 = .ok (.getfield 54, 3) := by decide +kernel
theorem dX3_sumOfWorths_35 : decode cX3_sumOfWorths 35 = .ok (.aload_n 0, 1) := by decide +kernel
theorem dX3_sumOfWorths_36 : decode cX3_sumOfWorths 36 = .ok (.getfield 19, 3) := by decide +kernel
theorem dX3_sumOfWorths_39 : decode cX3_sumOfWorths 39 = .ok (.getfield 31, 3) := by decide +kernel
theorem dX3_sumOfWorths_42 : decode cX3_sumOfWorths 42 = .ok (.iload_n 2, 1) := by decide +kernel
theorem dX3_sumOfWorths_43 : decode cX3_sumOfWorths 43 = .ok (.iaload, 1) := by decide +kernel
theorem dX3_sumOfWorths_44 : decode cX3_sumOfWorths 44 = .ok (.iaload, 1) := by decide +kernel
theorem dX3_sumOfWorths_45 : decode cX3_sumOfWorths 45 = .ok (.iadd, 1) := by decide +kernel
theorem dX3_sumOfWorths_46 : decode cX3_sumOfWorths 46 = .ok (.istore_n 1, 1) := by decide +kernel
theorem dX3_sumOfWorths_47 : decode cX3_sumOfWorths 47 = .ok (.iinc 2 1, 3) := by decide +kernel
theorem dX3_sumOfWorths_50 : decode cX3_sumOfWorths 50 = .ok (.goto (-46), 3) := by decide +kernel
theorem dX3_sumOfWorths_53 : decode cX3_sumOfWorths 53 = .ok (.iload_n 1, 1) := by decide +kernel
theorem dX3_sumOfWorths_54 : decode cX3_sumOfWorths 54 = .ok (.ireturn, 1) := by decide +kernel
theorem dX3_peopleWithout_0 : decode cX3_peopleWithout 0 = .ok (.aload_n 0, 1) := by decide +kernel
theorem dX3_peopleWithout_1 : decode cX3_peopleWithout 1 = .ok (.getfield 19, 3) := by decide +kernel
theorem dX3_peopleWithout_4 : decode cX3_peopleWithout 4 = .ok (.getfield 67, 3) := by decide +kernel
theorem dX3_peopleWithout_7 : decode cX3_peopleWithout 7 = .ok (.aload_n 0, 1) := by decide +kernel
theorem dX3_peopleWithout_8 : decode cX3_peopleWithout 8 = .ok (.getfield 19, 3) := by decide +kernel
theorem dX3_peopleWithout_11 : decode cX3_peopleWithout 11 = .ok (.invokevirtual 85, 3) := by decide +kernel
theorem dX3_peopleWithout_14 : decode cX3_peopleWithout 14 = .ok (.isub, 1) := by decide +kernel
theorem dX3_peopleWithout_15 : decode cX3_peopleWithout 15 = .ok (.ireturn, 1) := by decide +kernel
theorem dX3_drawDeaths_0 : decode cX3_drawDeaths 0 = .ok (.iload_n 1, 1) := by decide +kernel
theorem dX3_drawDeaths_1 : decode cX3_drawDeaths 1 = .ok (.istore_n 2, 1) := by decide +kernel
theorem dX3_drawDeaths_2 : decode cX3_drawDeaths 2 = .ok (.iconst 0, 1) := by decide +kernel
theorem dX3_drawDeaths_3 : decode cX3_drawDeaths 3 = .ok (.istore_n 3, 1) := by decide +kernel
theorem dX3_drawDeaths_4 : decode cX3_drawDeaths 4 = .ok (.iload_n 3, 1) := by decide +kernel
theorem dX3_drawDeaths_5 : decode cX3_drawDeaths 5 = .ok (.aload_n 0, 1) := by decide +kernel
theorem dX3_drawDeaths_6 : decode cX3_drawDeaths 6 = .ok (.getfield 19, 3) := by decide +kernel
theorem dX3_drawDeaths_9 : decode cX3_drawDeaths 9 = .ok (.getfield 67, 3) := by decide +kernel
theorem dX3_drawDeaths_12 : decode cX3_drawDeaths 12 = .ok (.if_icmp .ge 65, 3) := by decide +kernel
theorem dX3_drawDeaths_15 : decode cX3_drawDeaths 15 = .ok (.iload_n 2, 1) := by decide +kernel
theorem dX3_drawDeaths_16 : decode cX3_drawDeaths 16 = .ok (.ldc 89, 2) := by decide +kernel
theorem dX3_drawDeaths_18 : decode cX3_drawDeaths 18 = .ok (.imul, 1) := by decide +kernel
theorem dX3_drawDeaths_19 : decode cX3_drawDeaths 19 = .ok (.sipush 12345, 3) := by decide +kernel
theorem dX3_drawDeaths_22 : decode cX3_drawDeaths 22 = .ok (.iadd, 1) := by decide +kernel
theorem dX3_drawDeaths_23 : decode cX3_drawDeaths 23 = .ok (.istore_n 2, 1) := by decide +kernel
theorem dX3_drawDeaths_24 : decode cX3_drawDeaths 24 = .ok (.bipush 100, 2) := by decide +kernel
theorem dX3_drawDeaths_26 : decode cX3_drawDeaths 26 = .ok (.aload_n 0, 1) := by decide +kernel
theorem dX3_drawDeaths_27 : decode cX3_drawDeaths 27 = .ok (.getfield 19, 3) := by decide +kernel
theorem dX3_drawDeaths_30 : decode cX3_drawDeaths 30 = .ok (.getfield 57, 3) := by decide +kernel
theorem dX3_drawDeaths_33 : decode cX3_drawDeaths 33 = .ok (.iload_n 3, 1) := by decide +kernel
theorem dX3_drawDeaths_34 : decode cX3_drawDeaths 34 = .ok (.iaload, 1) := by decide +kernel
theorem dX3_drawDeaths_35 : decode cX3_drawDeaths 35 = .ok (.isub, 1) := by decide +kernel
theorem dX3_drawDeaths_36 : decode cX3_drawDeaths 36 = .ok (.istore 4, 2) := by decide +kernel
theorem dX3_drawDeaths_38 : decode cX3_drawDeaths 38 = .ok (.iload 4, 2) := by decide +kernel
theorem dX3_drawDeaths_40 : decode cX3_drawDeaths 40 = .ok (.ifCond .le 31, 3) := by decide +kernel
theorem dX3_drawDeaths_43 : decode cX3_drawDeaths 43 = .ok (.aload_n 0, 1) := by decide +kernel
theorem dX3_drawDeaths_44 : decode cX3_drawDeaths 44 = .ok (.getfield 19, 3) := by decide +kernel
theorem dX3_drawDeaths_47 : decode cX3_drawDeaths 47 = .ok (.getfield 90, 3) := by decide +kernel
theorem dX3_drawDeaths_50 : decode cX3_drawDeaths 50 = .ok (.iload_n 3, 1) := by decide +kernel
theorem dX3_drawDeaths_51 : decode cX3_drawDeaths 51 = .ok (.aload_n 0, 1) := by decide +kernel
theorem dX3_drawDeaths_52 : decode cX3_drawDeaths 52 = .ok (.getfield 19, 3) := by decide +kernel
theorem dX3_drawDeaths_55 : decode cX3_drawDeaths 55 = .ok (.getfield 57, 3) := by decide +kernel
theorem dX3_drawDeaths_58 : decode cX3_drawDeaths 58 = .ok (.iload_n 3, 1) := by decide +kernel
theorem dX3_drawDeaths_59 : decode cX3_drawDeaths 59 = .ok (.iaload, 1) := by decide +kernel
theorem dX3_drawDeaths_60 : decode cX3_drawDeaths 60 = .ok (.iconst 1, 1) := by decide +kernel
theorem dX3_drawDeaths_61 : decode cX3_drawDeaths 61 = .ok (.iadd, 1) := by decide +kernel
theorem dX3_drawDeaths_62 : decode cX3_drawDeaths 62 = .ok (.iload_n 2, 1) := by decide +kernel
theorem dX3_drawDeaths_63 : decode cX3_drawDeaths 63 = .ok (.bipush 8, 2) := by decide +kernel
theorem dX3_drawDeaths_65 : decode cX3_drawDeaths 65 = .ok (.iushr, 1) := by decide +kernel
theorem dX3_drawDeaths_66 : decode cX3_drawDeaths 66 = .ok (.iload 4, 2) := by decide +kernel
theorem dX3_drawDeaths_68 : decode cX3_drawDeaths 68 = .ok (.irem, 1) := by decide +kernel
theorem dX3_drawDeaths_69 : decode cX3_drawDeaths 69 = .ok (.iadd, 1) := by decide +kernel
theorem dX3_drawDeaths_70 : decode cX3_drawDeaths 70 = .ok (.iastore, 1) := by decide +kernel
theorem dX3_drawDeaths_71 : decode cX3_drawDeaths 71 = .ok (.iinc 3 1, 3) := by decide +kernel
theorem dX3_drawDeaths_74 : decode cX3_drawDeaths 74 = .ok (.goto (-70), 3) := by decide +kernel
theorem dX3_drawDeaths_77 : decode cX3_drawDeaths 77 = .ok (.iload_n 2, 1) := by decide +kernel
theorem dX3_drawDeaths_78 : decode cX3_drawDeaths 78 = .ok (.ireturn, 1) := by decide +kernel
theorem dX4_init_0 : decode cX4_init 0 = .ok (.aload_n 0, 1) := by decide +kernel
theorem dX4_init_1 : decode cX4_init 1 = .ok (.invokespecial 3, 3) := by decide +kernel
theorem dX4_init_4 : decode cX4_init 4 = .ok (.aload_n 0, 1) := by decide +kernel
theorem dX4_init_5 : decode cX4_init 5 = .ok (.bipush 12, 2) := by decide +kernel
theorem dX4_init_7 : decode cX4_init 7 = .ok (.newarray .int, 2) := by decide +kernel
theorem dX4_init_9 : decode cX4_init 9 = .ok (.putfield 9, 3) := by decide +kernel
theorem dX4_init_12 : decode cX4_init 12 = .ok (.aload_n 0, 1) := by decide +kernel
theorem dX4_init_13 : decode cX4_init 13 = .ok (.bipush 12, 2) := by decide +kernel
theorem dX4_init_15 : decode cX4_init 15 = .ok (.newarray .int, 2) := by decide +kernel
theorem dX4_init_17 : decode cX4_init 17 = .ok (.putfield 15, 3) := by decide +kernel
theorem dX4_init_20 : decode cX4_init 20 = .ok (.aload_n 0, 1) := by decide +kernel
theorem dX4_init_21 : decode cX4_init 21 = .ok (.bipush 12, 2) := by decide +kernel
theorem dX4_init_23 : decode cX4_init 23 = .ok (.newarray .int, 2) := by decide +kernel
theorem dX4_init_25 : decode cX4_init 25 = .ok (.putfield 18, 3) := by decide +kernel
theorem dX4_init_28 : decode cX4_init 28 = .ok (.aload_n 0, 1) := by decide +kernel
theorem dX4_init_29 : decode cX4_init 29 = .ok (.bipush 12, 2) := by decide +kernel
theorem dX4_init_31 : decode cX4_init 31 = .ok (.newarray .int, 2) := by decide +kernel
theorem dX4_init_33 : decode cX4_init 33 = .ok (.putfield 21, 3) := by decide +kernel
theorem dX4_init_36 : decode cX4_init 36 = .ok (.aload_n 0, 1) := by decide +kernel
theorem dX4_init_37 : decode cX4_init 37 = .ok (.bipush 16, 2) := by decide +kernel
theorem dX4_init_39 : decode cX4_init 39 = .ok (.newarray .int, 2) := by decide +kernel
theorem dX4_init_41 : decode cX4_init 41 = .ok (.putfield 24, 3) := by decide +kernel
theorem dX4_init_44 : decode cX4_init 44 = .ok (.aload_n 0, 1) := by decide +kernel
theorem dX4_init_45 : decode cX4_init 45 = .ok (.bipush 16, 2) := by decide +kernel
theorem dX4_init_47 : decode cX4_init 47 = .ok (.newarray .int, 2) := by decide +kernel
theorem dX4_init_49 : decode cX4_init 49 = .ok (.putfield 27, 3) := by decide +kernel
theorem dX4_init_52 : decode cX4_init 52 = .ok (.aload_n 0, 1) := by decide +kernel
theorem dX4_init_53 : decode cX4_init 53 = .ok (.bipush 16, 2) := by decide +kernel
theorem dX4_init_55 : decode cX4_init 55 = .ok (.newarray .int, 2) := by decide +kernel
theorem dX4_init_57 : decode cX4_init 57 = .ok (.putfield 30, 3) := by decide +kernel
theorem dX4_init_60 : decode cX4_init 60 = .ok (.aload_n 0, 1) := by decide +kernel
theorem dX4_init_61 : decode cX4_init 61 = .ok (.bipush 16, 2) := by decide +kernel
theorem dX4_init_63 : decode cX4_init 63 = .ok (.newarray .int, 2) := by decide +kernel
theorem dX4_init_65 : decode cX4_init 65 = .ok (.putfield 33, 3) := by decide +kernel
theorem dX4_init_68 : decode cX4_init 68 = .ok (.aload_n 0, 1) := by decide +kernel
theorem dX4_init_69 : decode cX4_init 69 = .ok (.bipush 12, 2) := by decide +kernel
theorem dX4_init_71 : decode cX4_init 71 = .ok (.newarray .int, 2) := by decide +kernel
theorem dX4_init_73 : decode cX4_init 73 = .ok (.putfield 36, 3) := by decide +kernel
theorem dX4_init_76 : decode cX4_init 76 = .ok (.aload_n 0, 1) := by decide +kernel
theorem dX4_init_77 : decode cX4_init 77 = .ok (.bipush 12, 2) := by decide +kernel
theorem dX4_init_79 : decode cX4_init 79 = .ok (.newarray .int, 2) := by decide +kernel
theorem dX4_init_81 : decode cX4_init 81 = .ok (.putfield 39, 3) := by decide +kernel
theorem dX4_init_84 : decode cX4_init 84 = .ok (.aload_n 0, 1) := by decide +kernel
theorem dX4_init_85 : decode cX4_init 85 = .ok (.bipush 12, 2) := by decide +kernel
theorem dX4_init_87 : decode cX4_init 87 = .ok (.newarray .int, 2) := by decide +kernel
theorem dX4_init_89 : decode cX4_init 89 = .ok (.putfield 42, 3) := by decide +kernel
theorem dX4_init_92 : decode cX4_init 92 = .ok (.aload_n 0, 1) := by decide +kernel
theorem dX4_init_93 : decode cX4_init 93 = .ok (.aload_n 1, 1) := by decide +kernel
theorem dX4_init_94 : decode cX4_init 94 = .ok (.putfield 45, 3) := by decide +kernel
theorem dX4_init_97 : decode cX4_init 97 = .ok (.aload_n 0, 1) := by decide +kernel
theorem dX4_init_98 : decode cX4_init 98 = .ok (.getfield 18, 3) := by decide +kernel
theorem dX4_init_101 : decode cX4_init 101 = .ok (.iconst (-1), 1) := by decide +kernel
theorem dX4_init_102 : decode cX4_init 102 = .ok (.invokestatic 49, 3) := by decide +kernel
theorem dX4_init_105 : decode cX4_init 105 = .ok (.aload_n 0, 1) := by decide +kernel
theorem dX4_init_106 : decode cX4_init 106 = .ok (.getfield 36, 3) := by decide +kernel
theorem dX4_init_109 : decode cX4_init 109 = .ok (.iconst 1, 1) := by decide +kernel
theorem dX4_init_110 : decode cX4_init 110 = .ok (.invokestatic 49, 3) := by decide +kernel
theorem dX4_init_113 : decode cX4_init 113 = .ok (.return_, 1) := by decide +kernel
theorem dX4_copyAllButNames_0 : decode cX4_copyAllButNames 0 = .ok (.aload_n 1, 1) := by decide +kernel
theorem dX4_copyAllButNames_1 : decode cX4_copyAllButNames 1 = .ok (.getfield 9, 3) := by decide +kernel
theorem dX4_copyAllButNames_4 : decode cX4_copyAllButNames 4 = .ok (.iconst 0, 1) := by decide +kernel
theorem dX4_copyAllButNames_5 : decode cX4_copyAllButNames 5 = .ok (.aload_n 0, 1) := by decide +kernel
theorem dX4_copyAllButNames_6 : decode cX4_copyAllButNames 6 = .ok (.getfield 9, 3) := by decide +kernel
theorem dX4_copyAllButNames_9 : decode cX4_copyAllButNames 9 = .ok (.iconst 0, 1) := by decide +kernel
theorem dX4_copyAllButNames_10 : decode cX4_copyAllButNames 10 = .ok (.bipush 12, 2) := by decide +kernel
theorem dX4_copyAllButNames_12 : decode cX4_copyAllButNames 12 = .ok (.invokestatic 55, 3) := by decide +kernel
theorem dX4_copyAllButNames_15 : decode cX4_copyAllButNames 15 = .ok (.aload_n 1, 1) := by decide +kernel
theorem dX4_copyAllButNames_16 : decode cX4_copyAllButNames 16 = .ok (.getfield 15, 3) := by decide +kernel
theorem dX4_copyAllButNames_19 : decode cX4_copyAllButNames 19 = .ok (.iconst 0, 1) := by decide +kernel
theorem dX4_copyAllButNames_20 : decode cX4_copyAllButNames 20 = .ok (.aload_n 0, 1) := by decide +kernel
theorem dX4_copyAllButNames_21 : decode cX4_copyAllButNames 21 = .ok (.getfield 15, 3) := by decide +kernel
theorem dX4_copyAllButNames_24 : decode cX4_copyAllButNames 24 = .ok (.iconst 0, 1) := by decide +kernel
theorem dX4_copyAllButNames_25 : decode cX4_copyAllButNames 25 = .ok (.bipush 12, 2) := by decide +kernel
theorem dX4_copyAllButNames_27 : decode cX4_copyAllButNames 27 = .ok (.invokestatic 55, 3) := by decide +kernel
theorem dX4_copyAllButNames_30 : decode cX4_copyAllButNames 30 = .ok (.aload_n 1, 1) := by decide +kernel
theorem dX4_copyAllButNames_31 : decode cX4_copyAllButNames 31 = .ok (.getfield 21, 3) := by decide +kernel
theorem dX4_copyAllButNames_34 : decode cX4_copyAllButNames 34 = .ok (.iconst 0, 1) := by decide +kernel
theorem dX4_copyAllButNames_35 : decode cX4_copyAllButNames 35 = .ok (.aload_n 0, 1) := by decide +kernel
theorem dX4_copyAllButNames_36 : decode cX4_copyAllButNames 36 = .ok (.getfield 21, 3) := by decide +kernel
theorem dX4_copyAllButNames_39 : decode cX4_copyAllButNames 39 = .ok (.iconst 0, 1) := by decide +kernel
theorem dX4_copyAllButNames_40 : decode cX4_copyAllButNames 40 = .ok (.bipush 12, 2) := by decide +kernel
theorem dX4_copyAllButNames_42 : decode cX4_copyAllButNames 42 = .ok (.invokestatic 55, 3) := by decide +kernel
theorem dX4_copyAllButNames_45 : decode cX4_copyAllButNames 45 = .ok (.aload_n 0, 1) := by decide +kernel
theorem dX4_copyAllButNames_46 : decode cX4_copyAllButNames 46 = .ok (.aload_n 1, 1) := by decide +kernel
theorem dX4_copyAllButNames_47 : decode cX4_copyAllButNames 47 = .ok (.getfield 61, 3) := by decide +kernel
theorem dX4_copyAllButNames_50 : decode cX4_copyAllButNames 50 = .ok (.putfield 61, 3) := by decide +kernel
theorem dX4_copyAllButNames_53 : decode cX4_copyAllButNames 53 = .ok (.aload_n 1, 1) := by decide +kernel
theorem dX4_copyAllButNames_54 : decode cX4_copyAllButNames 54 = .ok (.getfield 24, 3) := by decide +kernel
theorem dX4_copyAllButNames_57 : decode cX4_copyAllButNames 57 = .ok (.iconst 0, 1) := by decide +kernel
theorem dX4_copyAllButNames_58 : decode cX4_copyAllButNames 58 = .ok (.aload_n 0, 1) := by decide +kernel
theorem dX4_copyAllButNames_59 : decode cX4_copyAllButNames 59 = .ok (.getfield 24, 3) := by decide +kernel
theorem dX4_copyAllButNames_62 : decode cX4_copyAllButNames 62 = .ok (.iconst 0, 1) := by decide +kernel
theorem dX4_copyAllButNames_63 : decode cX4_copyAllButNames 63 = .ok (.bipush 16, 2) := by decide +kernel
theorem dX4_copyAllButNames_65 : decode cX4_copyAllButNames 65 = .ok (.invokestatic 55, 3) := by decide +kernel
theorem dX4_copyAllButNames_68 : decode cX4_copyAllButNames 68 = .ok (.aload_n 1, 1) := by decide +kernel
theorem dX4_copyAllButNames_69 : decode cX4_copyAllButNames 69 = .ok (.getfield 27, 3) := by decide +kernel
theorem dX4_copyAllButNames_72 : decode cX4_copyAllButNames 72 = .ok (.iconst 0, 1) := by decide +kernel
theorem dX4_copyAllButNames_73 : decode cX4_copyAllButNames 73 = .ok (.aload_n 0, 1) := by decide +kernel
theorem dX4_copyAllButNames_74 : decode cX4_copyAllButNames 74 = .ok (.getfield 27, 3) := by decide +kernel
theorem dX4_copyAllButNames_77 : decode cX4_copyAllButNames 77 = .ok (.iconst 0, 1) := by decide +kernel
theorem dX4_copyAllButNames_78 : decode cX4_copyAllButNames 78 = .ok (.bipush 16, 2) := by decide +kernel
theorem dX4_copyAllButNames_80 : decode cX4_copyAllButNames 80 = .ok (.invokestatic 55, 3) := by decide +kernel
theorem dX4_copyAllButNames_83 : decode cX4_copyAllButNames 83 = .ok (.aload_n 1, 1) := by decide +kernel
theorem dX4_copyAllButNames_84 : decode cX4_copyAllButNames 84 = .ok (.getfield 30, 3) := by decide +kernel
theorem dX4_copyAllButNames_87 : decode cX4_copyAllButNames 87 = .ok (.iconst 0, 1) := by decide +kernel
theorem dX4_copyAllButNames_88 : decode cX4_copyAllButNames 88 = .ok (.aload_n 0, 1) := by decide +kernel
theorem dX4_copyAllButNames_89 : decode cX4_copyAllButNames 89 = .ok (.getfield 30, 3) := by decide +kernel
theorem dX4_copyAllButNames_92 : decode cX4_copyAllButNames 92 = .ok (.iconst 0, 1) := by decide +kernel
theorem dX4_copyAllButNames_93 : decode cX4_copyAllButNames 93 = .ok (.bipush 16, 2) := by decide +kernel
theorem dX4_copyAllButNames_95 : decode cX4_copyAllButNames 95 = .ok (.invokestatic 55, 3) := by decide +kernel
theorem dX4_copyAllButNames_98 : decode cX4_copyAllButNames 98 = .ok (.aload_n 1, 1) := by decide +kernel
theorem dX4_copyAllButNames_99 : decode cX4_copyAllButNames 99 = .ok (.getfield 33, 3) := by decide +kernel
theorem dX4_copyAllButNames_102 : decode cX4_copyAllButNames 102 = .ok (.iconst 0, 1) := by decide +kernel
theorem dX4_copyAllButNames_103 : decode cX4_copyAllButNames 103 = .ok (.aload_n 0, 1) := by decide +kernel
theorem dX4_copyAllButNames_104 : decode cX4_copyAllButNames 104 = .ok (.getfield 33, 3) := by decide +kernel
theorem dX4_copyAllButNames_107 : decode cX4_copyAllButNames 107 = .ok (.iconst 0, 1) := by decide +kernel
theorem dX4_copyAllButNames_108 : decode cX4_copyAllButNames 108 = .ok (.bipush 16, 2) := by decide +kernel
theorem dX4_copyAllButNames_110 : decode cX4_copyAllButNames 110 = .ok (.invokestatic 55, 3) := by decide +kernel
theorem dX4_copyAllButNames_113 : decode cX4_copyAllButNames 113 = .ok (.aload_n 0, 1) := by decide +kernel
theorem dX4_copyAllButNames_114 : decode cX4_copyAllButNames 114 = .ok (.aload_n 1, 1) := by decide +kernel
theorem dX4_copyAllButNames_115 : decode cX4_copyAllButNames 115 = .ok (.getfield 65, 3) := by decide +kernel
theorem dX4_copyAllButNames_118 : decode cX4_copyAllButNames 118 = .ok (.putfield 65, 3) := by decide +kernel
theorem dX4_copyAllButNames_121 : decode cX4_copyAllButNames 121 = .ok (.aload_n 0, 1) := by decide +kernel
theorem dX4_copyAllButNames_122 : decode cX4_copyAllButNames 122 = .ok (.aload_n 1, 1) := by decide +kernel
theorem dX4_copyAllButNames_123 : decode cX4_copyAllButNames 123 = .ok (.getfield 68, 3) := by decide +kernel
theorem dX4_copyAllButNames_126 : decode cX4_copyAllButNames 126 = .ok (.putfield 68, 3) := by decide +kernel
theorem dX4_copyAllButNames_129 : decode cX4_copyAllButNames 129 = .ok (.aload_n 1, 1) := by decide +kernel
theorem dX4_copyAllButNames_130 : decode cX4_copyAllButNames 130 = .ok (.getfield 36, 3) := by decide +kernel
theorem dX4_copyAllButNames_133 : decode cX4_copyAllButNames 133 = .ok (.iconst 0, 1) := by decide +kernel
theorem dX4_copyAllButNames_134 : decode cX4_copyAllButNames 134 = .ok (.aload_n 0, 1) := by decide +kernel
theorem dX4_copyAllButNames_135 : decode cX4_copyAllButNames 135 = .ok (.getfield 36, 3) := by decide +kernel
theorem dX4_copyAllButNames_138 : decode cX4_copyAllButNames 138 = .ok (.iconst 0, 1) := by decide +kernel
theorem dX4_copyAllButNames_139 : decode cX4_copyAllButNames 139 = .ok (.bipush 12, 2) := by decide +kernel
theorem dX4_copyAllButNames_141 : decode cX4_copyAllButNames 141 = .ok (.invokestatic 55, 3) := by decide +kernel
theorem dX4_copyAllButNames_144 : decode cX4_copyAllButNames 144 = .ok (.aload_n 1, 1) := by decide +kernel
theorem dX4_copyAllButNames_145 : decode cX4_copyAllButNames 145 = .ok (.getfield 39, 3) := by decide +kernel
theorem dX4_copyAllButNames_148 : decode cX4_copyAllButNames 148 = .ok (.iconst 0, 1) := by decide +kernel
theorem dX4_copyAllButNames_149 : decode cX4_copyAllButNames 149 = .ok (.aload_n 0, 1) := by decide +kernel
theorem dX4_copyAllButNames_150 : decode cX4_copyAllButNames 150 = .ok (.getfield 39, 3) := by decide +kernel
theorem dX4_copyAllButNames_153 : decode cX4_copyAllButNames 153 = .ok (.iconst 0, 1) := by decide +kernel
theorem dX4_copyAllButNames_154 : decode cX4_copyAllButNames 154 = .ok (.bipush 12, 2) := by decide +kernel
theorem dX4_copyAllButNames_156 : decode cX4_copyAllButNames 156 = .ok (.invokestatic 55, 3) := by decide +kernel
theorem dX4_copyAllButNames_159 : decode cX4_copyAllButNames 159 = .ok (.return_, 1) := by decide +kernel
theorem dX4_hasPerson_0 : decode cX4_hasPerson 0 = .ok (.iload_n 1, 1) := by decide +kernel
theorem dX4_hasPerson_1 : decode cX4_hasPerson 1 = .ok (.ifCond .lt 15, 3) := by decide +kernel
theorem dX4_hasPerson_4 : decode cX4_hasPerson 4 = .ok (.iload_n 1, 1) := by decide +kernel
theorem dX4_hasPerson_5 : decode cX4_hasPerson 5 = .ok (.aload_n 0, 1) := by decide +kernel
theorem dX4_hasPerson_6 : decode cX4_hasPerson 6 = .ok (.getfield 61, 3) := by decide +kernel
theorem dX4_hasPerson_9 : decode cX4_hasPerson 9 = .ok (.if_icmp .ge 7, 3) := by decide +kernel
theorem dX4_hasPerson_12 : decode cX4_hasPerson 12 = .ok (.iconst 1, 1) := by decide +kernel
theorem dX4_hasPerson_13 : decode cX4_hasPerson 13 = .ok (.goto 4, 3) := by decide +kernel
theorem dX4_hasPerson_16 : decode cX4_hasPerson 16 = .ok (.iconst 0, 1) := by decide +kernel
theorem dX4_hasPerson_17 : decode cX4_hasPerson 17 = .ok (.ireturn, 1) := by decide +kernel
theorem dX4_hasMeeting_0 : decode cX4_hasMeeting 0 = .ok (.iload_n 1, 1) := by decide +kernel
theorem dX4_hasMeeting_1 : decode cX4_hasMeeting 1 = .ok (.ifCond .lt 15, 3) := by decide +kernel
theorem dX4_hasMeeting_4 : decode cX4_hasMeeting 4 = .ok (.iload_n 1, 1) := by decide +kernel
theorem dX4_hasMeeting_5 : decode cX4_hasMeeting 5 = .ok (.aload_n 0, 1) := by decide +kernel
theorem dX4_hasMeeting_6 : decode cX4_hasMeeting 6 = .ok (.getfield 65, 3) := by decide +kernel
theorem dX4_hasMeeting_9 : decode cX4_hasMeeting 9 = .ok (.if_icmp .ge 7, 3) := by decide +kernel
theorem dX4_hasMeeting_12 : decode cX4_hasMeeting 12 = .ok (.iconst 1, 1) := by decide +kernel
theorem dX4_hasMeeting_13 : decode cX4_hasMeeting 13 = .ok (.goto 4, 3) := by decide +kernel
theorem dX4_hasMeeting_16 : decode cX4_hasMeeting 16 = .ok (.iconst 0, 1) := by decide +kernel
theorem dX4_hasMeeting_17 : decode cX4_hasMeeting 17 = .ok (.ireturn, 1) := by decide +kernel
theorem dX4_come_0 : decode cX4_come 0 = .ok (.aload_n 0, 1) := by decide +kernel
theorem dX4_come_1 : decode cX4_come 1 = .ok (.getfield 61, 3) := by decide +kernel
theorem dX4_come_4 : decode cX4_come 4 = .ok (.bipush 12, 2) := by decide +kernel
theorem dX4_come_6 : decode cX4_come 6 = .ok (.if_icmp .lt 6, 3) := by decide +kernel
theorem dX4_come_9 : decode cX4_come 9 = .ok (.bipush (-3), 2) := by decide +kernel
theorem dX4_come_11 : decode cX4_come 11 = .ok (.ireturn, 1) := by decide +kernel
theorem dX4_come_12 : decode cX4_come 12 = .ok (.aload_n 0, 1) := by decide +kernel
theorem dX4_come_13 : decode cX4_come 13 = .ok (.getfield 61, 3) := by decide +kernel
theorem dX4_come_16 : decode cX4_come 16 = .ok (.istore 4, 2) := by decide +kernel
theorem dX4_come_18 : decode cX4_come 18 = .ok (.aload_n 0, 1) := by decide +kernel
theorem dX4_come_19 : decode cX4_come 19 = .ok (.getfield 61, 3) := by decide +kernel
theorem dX4_come_22 : decode cX4_come 22 = .ok (.iconst 1, 1) := by decide +kernel
theorem dX4_come_23 : decode cX4_come 23 = .ok (.isub, 1) := by decide +kernel
theorem dX4_come_24 : decode cX4_come 24 = .ok (.istore 5, 2) := by decide +kernel
theorem dX4_come_26 : decode cX4_come 26 = .ok (.iload 5, 2) := by decide +kernel
theorem dX4_come_28 : decode cX4_come 28 = .ok (.ifCond .lt 45, 3) := by decide +kernel
theorem dX4_come_31 : decode cX4_come 31 = .ok (.aload_n 0, 1) := by decide +kernel
theorem dX4_come_32 : decode cX4_come 32 = .ok (.getfield 9, 3) := by decide +kernel
theorem dX4_come_35 : decode cX4_come 35 = .ok (.aload_n 0, 1) := by decide +kernel
theorem dX4_come_36 : decode cX4_come 36 = .ok (.getfield 21, 3) := by decide +kernel
theorem dX4_come_39 : decode cX4_come 39 = .ok (.iload 5, 2) := by decide +kernel
theorem dX4_come_41 : decode cX4_come 41 = .ok (.iaload, 1) := by decide +kernel
theorem dX4_come_42 : decode cX4_come 42 = .ok (.iaload, 1) := by decide +kernel
theorem dX4_come_43 : decode cX4_come 43 = .ok (.iload_n 1, 1) := by decide +kernel
theorem dX4_come_44 : decode cX4_come 44 = .ok (.if_icmp .le 29, 3) := by decide +kernel
theorem dX4_come_47 : decode cX4_come 47 = .ok (.aload_n 0, 1) := by decide +kernel
theorem dX4_come_48 : decode cX4_come 48 = .ok (.getfield 21, 3) := by decide +kernel
theorem dX4_come_51 : decode cX4_come 51 = .ok (.iload 5, 2) := by decide +kernel
theorem dX4_come_53 : decode cX4_come 53 = .ok (.iconst 1, 1) := by decide +kernel
theorem dX4_come_54 : decode cX4_come 54 = .ok (.iadd, 1) := by decide +kernel
theorem dX4_come_55 : decode cX4_come 55 = .ok (.aload_n 0, 1) := by decide +kernel
theorem dX4_come_56 : decode cX4_come 56 = .ok (.getfield 21, 3) := by decide +kernel
theorem dX4_come_59 : decode cX4_come 59 = .ok (.iload 5, 2) := by decide +kernel
theorem dX4_come_61 : decode cX4_come 61 = .ok (.iaload, 1) := by decide +kernel
theorem dX4_come_62 : decode cX4_come 62 = .ok (.iastore, 1) := by decide +kernel
theorem dX4_come_63 : decode cX4_come 63 = .ok (.iload 5, 2) := by decide +kernel
theorem dX4_come_65 : decode cX4_come 65 = .ok (.istore 4, 2) := by decide +kernel
theorem dX4_come_67 : decode cX4_come 67 = .ok (.iinc 5 (-1), 3) := by decide +kernel
theorem dX4_come_70 : decode cX4_come 70 = .ok (.goto (-44), 3) := by decide +kernel
theorem dX4_come_73 : decode cX4_come 73 = .ok (.aload_n 0, 1) := by decide +kernel
theorem dX4_come_74 : decode cX4_come 74 = .ok (.getfield 21, 3) := by decide +kernel
theorem dX4_come_77 : decode cX4_come 77 = .ok (.iload 4, 2) := by decide +kernel
theorem dX4_come_79 : decode cX4_come 79 = .ok (.aload_n 0, 1) := by decide +kernel
theorem dX4_come_80 : decode cX4_come 80 = .ok (.getfield 61, 3) := by decide +kernel
theorem dX4_come_83 : decode cX4_come 83 = .ok (.iastore, 1) := by decide +kernel
theorem dX4_come_84 : decode cX4_come 84 = .ok (.aload_n 0, 1) := by decide +kernel
theorem dX4_come_85 : decode cX4_come 85 = .ok (.getfield 9, 3) := by decide +kernel
theorem dX4_come_88 : decode cX4_come 88 = .ok (.aload_n 0, 1) := by decide +kernel
theorem dX4_come_89 : decode cX4_come 89 = .ok (.getfield 61, 3) := by decide +kernel
theorem dX4_come_92 : decode cX4_come 92 = .ok (.iload_n 1, 1) := by decide +kernel
theorem dX4_come_93 : decode cX4_come 93 = .ok (.iastore, 1) := by decide +kernel
theorem dX4_come_94 : decode cX4_come 94 = .ok (.aload_n 0, 1) := by decide +kernel
theorem dX4_come_95 : decode cX4_come 95 = .ok (.getfield 15, 3) := by decide +kernel
theorem dX4_come_98 : decode cX4_come 98 = .ok (.aload_n 0, 1) := by decide +kernel
theorem dX4_come_99 : decode cX4_come 99 = .ok (.getfield 61, 3) := by decide +kernel
theorem dX4_come_102 : decode cX4_come 102 = .ok (.iload_n 2, 1) := by decide +kernel
theorem dX4_come_103 : decode cX4_come 103 = .ok (.iastore, 1) := by decide +kernel
theorem dX4_come_104 : decode cX4_come 104 = .ok (.aload_n 0, 1) := by decide +kernel
theorem dX4_come_105 : decode cX4_come 105 = .ok (.getfield 18, 3) := by decide +kernel
theorem dX4_come_108 : decode cX4_come 108 = .ok (.aload_n 0, 1) := by decide +kernel
theorem dX4_come_109 : decode cX4_come 109 = .ok (.getfield 61, 3) := by decide +kernel
theorem dX4_come_112 : decode cX4_come 112 = .ok (.iload_n 3, 1) := by decide +kernel
theorem dX4_come_113 : decode cX4_come 113 = .ok (.iastore, 1) := by decide +kernel
theorem dX4_come_114 : decode cX4_come 114 = .ok (.aload_n 0, 1) := by decide +kernel
theorem dX4_come_115 : decode cX4_come 115 = .ok (.dup, 1) := by decide +kernel
theorem dX4_come_116 : decode cX4_come 116 = .ok (.getfield 61, 3) := by decide +kernel
theorem dX4_come_119 : decode cX4_come 119 = .ok (.dup_x1, 1) := by decide +kernel
theorem dX4_come_120 : decode cX4_come 120 = .ok (.iconst 1, 1) := by decide +kernel
theorem dX4_come_121 : decode cX4_come 121 = .ok (.iadd, 1) := by decide +kernel
theorem dX4_come_122 : decode cX4_come 122 = .ok (.putfield 61, 3) := by decide +kernel
theorem dX4_come_125 : decode cX4_come 125 = .ok (.ireturn, 1) := by decide +kernel
theorem dX4_placeOf_0 : decode cX4_placeOf 0 = .ok (.iconst 0, 1) := by decide +kernel
theorem dX4_placeOf_1 : decode cX4_placeOf 1 = .ok (.istore_n 2, 1) := by decide +kernel
theorem dX4_placeOf_2 : decode cX4_placeOf 2 = .ok (.iload_n 2, 1) := by decide +kernel
theorem dX4_placeOf_3 : decode cX4_placeOf 3 = .ok (.aload_n 0, 1) := by decide +kernel
theorem dX4_placeOf_4 : decode cX4_placeOf 4 = .ok (.getfield 61, 3) := by decide +kernel
theorem dX4_placeOf_7 : decode cX4_placeOf 7 = .ok (.if_icmp .ge 21, 3) := by decide +kernel
theorem dX4_placeOf_10 : decode cX4_placeOf 10 = .ok (.aload_n 0, 1) := by decide +kernel
theorem dX4_placeOf_11 : decode cX4_placeOf 11 = .ok (.getfield 21, 3) := by decide +kernel
theorem dX4_placeOf_14 : decode cX4_placeOf 14 = .ok (.iload_n 2, 1) := by decide +kernel
theorem dX4_placeOf_15 : decode cX4_placeOf 15 = .ok (.iaload, 1) := by decide +kernel
theorem dX4_placeOf_16 : decode cX4_placeOf 16 = .ok (.iload_n 1, 1) := by decide +kernel
theorem dX4_placeOf_17 : decode cX4_placeOf 17 = .ok (.if_icmp .ne 5, 3) := by decide +kernel
theorem dX4_placeOf_20 : decode cX4_placeOf 20 = .ok (.iload_n 2, 1) := by decide +kernel
theorem dX4_placeOf_21 : decode cX4_placeOf 21 = .ok (.ireturn, 1) := by decide +kernel
theorem dX4_placeOf_22 : decode cX4_placeOf 22 = .ok (.iinc 2 1, 3) := by decide +kernel
theorem dX4_placeOf_25 : decode cX4_placeOf 25 = .ok (.goto (-23), 3) := by decide +kernel
theorem dX4_placeOf_28 : decode cX4_placeOf 28 = .ok (.aload_n 0, 1) := by decide +kernel
theorem dX4_placeOf_29 : decode cX4_placeOf 29 = .ok (.getfield 61, 3) := by decide +kernel
theorem dX4_placeOf_32 : decode cX4_placeOf 32 = .ok (.ireturn, 1) := by decide +kernel
theorem dX4_lives_0 : decode cX4_lives 0 = .ok (.aload_n 0, 1) := by decide +kernel
theorem dX4_lives_1 : decode cX4_lives 1 = .ok (.getfield 9, 3) := by decide +kernel
theorem dX4_lives_4 : decode cX4_lives 4 = .ok (.iload_n 1, 1) := by decide +kernel
theorem dX4_lives_5 : decode cX4_lives 5 = .ok (.iaload, 1) := by decide +kernel
theorem dX4_lives_6 : decode cX4_lives 6 = .ok (.iload_n 2, 1) := by decide +kernel
theorem dX4_lives_7 : decode cX4_lives 7 = .ok (.if_icmp .gt 17, 3) := by decide +kernel
theorem dX4_lives_10 : decode cX4_lives 10 = .ok (.iload_n 2, 1) := by decide +kernel
theorem dX4_lives_11 : decode cX4_lives 11 = .ok (.aload_n 0, 1) := by decide +kernel
theorem dX4_lives_12 : decode cX4_lives 12 = .ok (.getfield 15, 3) := by decide +kernel
theorem dX4_lives_15 : decode cX4_lives 15 = .ok (.iload_n 1, 1) := by decide +kernel
theorem dX4_lives_16 : decode cX4_lives 16 = .ok (.iaload, 1) := by decide +kernel
theorem dX4_lives_17 : decode cX4_lives 17 = .ok (.if_icmp .ge 7, 3) := by decide +kernel
theorem dX4_lives_20 : decode cX4_lives 20 = .ok (.iconst 1, 1) := by decide +kernel
theorem dX4_lives_21 : decode cX4_lives 21 = .ok (.goto 4, 3) := by decide +kernel
theorem dX4_lives_24 : decode cX4_lives 24 = .ok (.iconst 0, 1) := by decide +kernel
theorem dX4_lives_25 : decode cX4_lives 25 = .ok (.ireturn, 1) := by decide +kernel
theorem dX4_livingIn_0 : decode cX4_livingIn 0 = .ok (.iconst 0, 1) := by decide +kernel
theorem dX4_livingIn_1 : decode cX4_livingIn 1 = .ok (.istore_n 2, 1) := by decide +kernel
theorem dX4_livingIn_2 : decode cX4_livingIn 2 = .ok (.iconst 0, 1) := by decide +kernel
theorem dX4_livingIn_3 : decode cX4_livingIn 3 = .ok (.istore_n 3, 1) := by decide +kernel
theorem dX4_livingIn_4 : decode cX4_livingIn 4 = .ok (.iload_n 3, 1) := by decide +kernel
theorem dX4_livingIn_5 : decode cX4_livingIn 5 = .ok (.aload_n 0, 1) := by decide +kernel
theorem dX4_livingIn_6 : decode cX4_livingIn 6 = .ok (.getfield 61, 3) := by decide +kernel
theorem dX4_livingIn_9 : decode cX4_livingIn 9 = .ok (.if_icmp .ge 24, 3) := by decide +kernel
theorem dX4_livingIn_12 : decode cX4_livingIn 12 = .ok (.aload_n 0, 1) := by decide +kernel
theorem dX4_livingIn_13 : decode cX4_livingIn 13 = .ok (.iload_n 3, 1) := by decide +kernel
theorem dX4_livingIn_14 : decode cX4_livingIn 14 = .ok (.iload_n 1, 1) := by decide +kernel
theorem dX4_livingIn_15 : decode cX4_livingIn 15 = .ok (.invokevirtual 71, 3) := by decide +kernel
theorem dX4_livingIn_18 : decode cX4_livingIn 18 = .ok (.ifCond .eq 9, 3) := by decide +kernel
theorem dX4_livingIn_21 : decode cX4_livingIn 21 = .ok (.iload_n 2, 1) := by decide +kernel
theorem dX4_livingIn_22 : decode cX4_livingIn 22 = .ok (.iconst 1, 1) := by decide +kernel
theorem dX4_livingIn_23 : decode cX4_livingIn 23 = .ok (.iload_n 3, 1) := by decide +kernel
theorem dX4_livingIn_24 : decode cX4_livingIn 24 = .ok (.ishl, 1) := by decide +kernel
theorem dX4_livingIn_25 : decode cX4_livingIn 25 = .ok (.ior, 1) := by decide +kernel
theorem dX4_livingIn_26 : decode cX4_livingIn 26 = .ok (.istore_n 2, 1) := by decide +kernel
theorem dX4_livingIn_27 : decode cX4_livingIn 27 = .ok (.iinc 3 1, 3) := by decide +kernel
theorem dX4_livingIn_30 : decode cX4_livingIn 30 = .ok (.goto (-26), 3) := by decide +kernel
theorem dX4_livingIn_33 : decode cX4_livingIn 33 = .ok (.iload_n 2, 1) := by decide +kernel
theorem dX4_livingIn_34 : decode cX4_livingIn 34 = .ok (.ireturn, 1) := by decide +kernel
theorem dX4_mayMeet_0 : decode cX4_mayMeet 0 = .ok (.aload_n 0, 1) := by decide +kernel
theorem dX4_mayMeet_1 : decode cX4_mayMeet 1 = .ok (.iload_n 1, 1) := by decide +kernel
theorem dX4_mayMeet_2 : decode cX4_mayMeet 2 = .ok (.invokevirtual 75, 3) := by decide +kernel
theorem dX4_mayMeet_5 : decode cX4_mayMeet 5 = .ok (.ifCond .eq 38, 3) := by decide +kernel
theorem dX4_mayMeet_8 : decode cX4_mayMeet 8 = .ok (.aload_n 0, 1) := by decide +kernel
theorem dX4_mayMeet_9 : decode cX4_mayMeet 9 = .ok (.iload_n 2, 1) := by decide +kernel
theorem dX4_mayMeet_10 : decode cX4_mayMeet 10 = .ok (.invokevirtual 75, 3) := by decide +kernel
theorem dX4_mayMeet_13 : decode cX4_mayMeet 13 = .ok (.ifCond .eq 30, 3) := by decide +kernel
theorem dX4_mayMeet_16 : decode cX4_mayMeet 16 = .ok (.iload_n 1, 1) := by decide +kernel
theorem dX4_mayMeet_17 : decode cX4_mayMeet 17 = .ok (.iload_n 2, 1) := by decide +kernel
theorem dX4_mayMeet_18 : decode cX4_mayMeet 18 = .ok (.if_icmp .eq 25, 3) := by decide +kernel
theorem dX4_mayMeet_21 : decode cX4_mayMeet 21 = .ok (.aload_n 0, 1) := by decide +kernel
theorem dX4_mayMeet_22 : decode cX4_mayMeet 22 = .ok (.iload_n 1, 1) := by decide +kernel
theorem dX4_mayMeet_23 : decode cX4_mayMeet 23 = .ok (.iload_n 3, 1) := by decide +kernel
theorem dX4_mayMeet_24 : decode cX4_mayMeet 24 = .ok (.invokevirtual 71, 3) := by decide +kernel
theorem dX4_mayMeet_27 : decode cX4_mayMeet 27 = .ok (.ifCond .eq 16, 3) := by decide +kernel
theorem dX4_mayMeet_30 : decode cX4_mayMeet 30 = .ok (.aload_n 0, 1) := by decide +kernel
theorem dX4_mayMeet_31 : decode cX4_mayMeet 31 = .ok (.iload_n 2, 1) := by decide +kernel
theorem dX4_mayMeet_32 : decode cX4_mayMeet 32 = .ok (.iload_n 3, 1) := by decide +kernel
theorem dX4_mayMeet_33 : decode cX4_mayMeet 33 = .ok (.invokevirtual 71, 3) := by decide +kernel
theorem dX4_mayMeet_36 : decode cX4_mayMeet 36 = .ok (.ifCond .eq 7, 3) := by decide +kernel
theorem dX4_mayMeet_39 : decode cX4_mayMeet 39 = .ok (.iconst 1, 1) := by decide +kernel
theorem dX4_mayMeet_40 : decode cX4_mayMeet 40 = .ok (.goto 4, 3) := by decide +kernel
theorem dX4_mayMeet_43 : decode cX4_mayMeet 43 = .ok (.iconst 0, 1) := by decide +kernel
theorem dX4_mayMeet_44 : decode cX4_mayMeet 44 = .ok (.ireturn, 1) := by decide +kernel
theorem dX4_addMeeting_0 : decode cX4_addMeeting 0 = .ok (.aload_n 0, 1) := by decide +kernel
theorem dX4_addMeeting_1 : decode cX4_addMeeting 1 = .ok (.getfield 65, 3) := by decide +kernel
theorem dX4_addMeeting_4 : decode cX4_addMeeting 4 = .ok (.bipush 16, 2) := by decide +kernel
theorem dX4_addMeeting_6 : decode cX4_addMeeting 6 = .ok (.if_icmp .lt 6, 3) := by decide +kernel
theorem dX4_addMeeting_9 : decode cX4_addMeeting 9 = .ok (.bipush (-3), 2) := by decide +kernel
theorem dX4_addMeeting_11 : decode cX4_addMeeting 11 = .ok (.ireturn, 1) := by decide +kernel
theorem dX4_addMeeting_12 : decode cX4_addMeeting 12 = .ok (.aload_n 0, 1) := by decide +kernel
theorem dX4_addMeeting_13 : decode cX4_addMeeting 13 = .ok (.getfield 65, 3) := by decide +kernel
theorem dX4_addMeeting_16 : decode cX4_addMeeting 16 = .ok (.istore 4, 2) := by decide +kernel
theorem dX4_addMeeting_18 : decode cX4_addMeeting 18 = .ok (.aload_n 0, 1) := by decide +kernel
theorem dX4_addMeeting_19 : decode cX4_addMeeting 19 = .ok (.getfield 65, 3) := by decide +kernel
theorem dX4_addMeeting_22 : decode cX4_addMeeting 22 = .ok (.iconst 1, 1) := by decide +kernel
theorem dX4_addMeeting_23 : decode cX4_addMeeting 23 = .ok (.isub, 1) := by decide +kernel
theorem dX4_addMeeting_24 : decode cX4_addMeeting 24 = .ok (.istore 5, 2) := by decide +kernel
theorem dX4_addMeeting_26 : decode cX4_addMeeting 26 = .ok (.iload 5, 2) := by decide +kernel
theorem dX4_addMeeting_28 : decode cX4_addMeeting 28 = .ok (.ifCond .lt 45, 3) := by decide +kernel
theorem dX4_addMeeting_31 : decode cX4_addMeeting 31 = .ok (.aload_n 0, 1) := by decide +kernel
theorem dX4_addMeeting_32 : decode cX4_addMeeting 32 = .ok (.getfield 30, 3) := by decide +kernel
theorem dX4_addMeeting_35 : decode cX4_addMeeting 35 = .ok (.aload_n 0, 1) := by decide +kernel
theorem dX4_addMeeting_36 : decode cX4_addMeeting 36 = .ok (.getfield 33, 3) := by decide +kernel
theorem dX4_addMeeting_39 : decode cX4_addMeeting 39 = .ok (.iload 5, 2) := by decide +kernel
theorem dX4_addMeeting_41 : decode cX4_addMeeting 41 = .ok (.iaload, 1) := by decide +kernel
theorem dX4_addMeeting_42 : decode cX4_addMeeting 42 = .ok (.iaload, 1) := by decide +kernel
theorem dX4_addMeeting_43 : decode cX4_addMeeting 43 = .ok (.iload_n 3, 1) := by decide +kernel
theorem dX4_addMeeting_44 : decode cX4_addMeeting 44 = .ok (.if_icmp .le 29, 3) := by decide +kernel
theorem dX4_addMeeting_47 : decode cX4_addMeeting 47 = .ok (.aload_n 0, 1) := by decide +kernel
theorem dX4_addMeeting_48 : decode cX4_addMeeting 48 = .ok (.getfield 33, 3) := by decide +kernel
theorem dX4_addMeeting_51 : decode cX4_addMeeting 51 = .ok (.iload 5, 2) := by decide +kernel
theorem dX4_addMeeting_53 : decode cX4_addMeeting 53 = .ok (.iconst 1, 1) := by decide +kernel
theorem dX4_addMeeting_54 : decode cX4_addMeeting 54 = .ok (.iadd, 1) := by decide +kernel
theorem dX4_addMeeting_55 : decode cX4_addMeeting 55 = .ok (.aload_n 0, 1) := by decide +kernel
theorem dX4_addMeeting_56 : decode cX4_addMeeting 56 = .ok (.getfield 33, 3) := by decide +kernel
theorem dX4_addMeeting_59 : decode cX4_addMeeting 59 = .ok (.iload 5, 2) := by decide +kernel
theorem dX4_addMeeting_61 : decode cX4_addMeeting 61 = .ok (.iaload, 1) := by decide +kernel
theorem dX4_addMeeting_62 : decode cX4_addMeeting 62 = .ok (.iastore, 1) := by decide +kernel
theorem dX4_addMeeting_63 : decode cX4_addMeeting 63 = .ok (.iload 5, 2) := by decide +kernel
theorem dX4_addMeeting_65 : decode cX4_addMeeting 65 = .ok (.istore 4, 2) := by decide +kernel
theorem dX4_addMeeting_67 : decode cX4_addMeeting 67 = .ok (.iinc 5 (-1), 3) := by decide +kernel
theorem dX4_addMeeting_70 : decode cX4_addMeeting 70 = .ok (.goto (-44), 3) := by decide +kernel
theorem dX4_addMeeting_73 : decode cX4_addMeeting 73 = .ok (.aload_n 0, 1) := by decide +kernel
theorem dX4_addMeeting_74 : decode cX4_addMeeting 74 = .ok (.getfield 33, 3) := by decide +kernel
theorem dX4_addMeeting_77 : decode cX4_addMeeting 77 = .ok (.iload 4, 2) := by decide +kernel
theorem dX4_addMeeting_79 : decode cX4_addMeeting 79 = .ok (.aload_n 0, 1) := by decide +kernel
theorem dX4_addMeeting_80 : decode cX4_addMeeting 80 = .ok (.getfield 65, 3) := by decide +kernel
theorem dX4_addMeeting_83 : decode cX4_addMeeting 83 = .ok (.iastore, 1) := by decide +kernel
theorem dX4_addMeeting_84 : decode cX4_addMeeting 84 = .ok (.aload_n 0, 1) := by decide +kernel
theorem dX4_addMeeting_85 : decode cX4_addMeeting 85 = .ok (.getfield 24, 3) := by decide +kernel
theorem dX4_addMeeting_88 : decode cX4_addMeeting 88 = .ok (.aload_n 0, 1) := by decide +kernel
theorem dX4_addMeeting_89 : decode cX4_addMeeting 89 = .ok (.getfield 65, 3) := by decide +kernel
theorem dX4_addMeeting_92 : decode cX4_addMeeting 92 = .ok (.iload_n 1, 1) := by decide +kernel
theorem dX4_addMeeting_93 : decode cX4_addMeeting 93 = .ok (.iastore, 1) := by decide +kernel
theorem dX4_addMeeting_94 : decode cX4_addMeeting 94 = .ok (.aload_n 0, 1) := by decide +kernel
theorem dX4_addMeeting_95 : decode cX4_addMeeting 95 = .ok (.getfield 27, 3) := by decide +kernel
theorem dX4_addMeeting_98 : decode cX4_addMeeting 98 = .ok (.aload_n 0, 1) := by decide +kernel
theorem dX4_addMeeting_99 : decode cX4_addMeeting 99 = .ok (.getfield 65, 3) := by decide +kernel
theorem dX4_addMeeting_102 : decode cX4_addMeeting 102 = .ok (.iload_n 2, 1) := by decide +kernel
theorem dX4_addMeeting_103 : decode cX4_addMeeting 103 = .ok (.iastore, 1) := by decide +kernel
theorem dX4_addMeeting_104 : decode cX4_addMeeting 104 = .ok (.aload_n 0, 1) := by decide +kernel
theorem dX4_addMeeting_105 : decode cX4_addMeeting 105 = .ok (.getfield 30, 3) := by decide +kernel
theorem dX4_addMeeting_108 : decode cX4_addMeeting 108 = .ok (.aload_n 0, 1) := by decide +kernel
theorem dX4_addMeeting_109 : decode cX4_addMeeting 109 = .ok (.getfield 65, 3) := by decide +kernel
theorem dX4_addMeeting_112 : decode cX4_addMeeting 112 = .ok (.iload_n 3, 1) := by decide +kernel
theorem dX4_addMeeting_113 : decode cX4_addMeeting 113 = .ok (.iastore, 1) := by decide +kernel
theorem dX4_addMeeting_114 : decode cX4_addMeeting 114 = .ok (.aload_n 0, 1) := by decide +kernel
theorem dX4_addMeeting_115 : decode cX4_addMeeting 115 = .ok (.dup, 1) := by decide +kernel
theorem dX4_addMeeting_116 : decode cX4_addMeeting 116 = .ok (.getfield 65, 3) := by decide +kernel
theorem dX4_addMeeting_119 : decode cX4_addMeeting 119 = .ok (.dup_x1, 1) := by decide +kernel
theorem dX4_addMeeting_120 : decode cX4_addMeeting 120 = .ok (.iconst 1, 1) := by decide +kernel
theorem dX4_addMeeting_121 : decode cX4_addMeeting 121 = .ok (.iadd, 1) := by decide +kernel
theorem dX4_addMeeting_122 : decode cX4_addMeeting 122 = .ok (.putfield 65, 3) := by decide +kernel
theorem dX4_addMeeting_125 : decode cX4_addMeeting 125 = .ok (.ireturn, 1) := by decide +kernel
theorem dX4_counts_0 : decode cX4_counts 0 = .ok (.aload_n 0, 1) := by decide +kernel
theorem dX4_counts_1 : decode cX4_counts 1 = .ok (.aload_n 0, 1) := by decide +kernel
theorem dX4_counts_2 : decode cX4_counts 2 = .ok (.getfield 24, 3) := by decide +kernel
theorem dX4_counts_5 : decode cX4_counts 5 = .ok (.iload_n 1, 1) := by decide +kernel
theorem dX4_counts_6 : decode cX4_counts 6 = .ok (.iaload, 1) := by decide +kernel
theorem dX4_counts_7 : decode cX4_counts 7 = .ok (.aload_n 0, 1) := by decide +kernel
theorem dX4_counts_8 : decode cX4_counts 8 = .ok (.getfield 30, 3) := by decide +kernel
theorem dX4_counts_11 : decode cX4_counts 11 = .ok (.iload_n 1, 1) := by decide +kernel
theorem dX4_counts_12 : decode cX4_counts 12 = .ok (.iaload, 1) := by decide +kernel
theorem dX4_counts_13 : decode cX4_counts 13 = .ok (.invokevirtual 71, 3) := by decide +kernel
theorem dX4_counts_16 : decode cX4_counts 16 = .ok (.ifCond .eq 26, 3) := by decide +kernel
theorem dX4_counts_19 : decode cX4_counts 19 = .ok (.aload_n 0, 1) := by decide +kernel
theorem dX4_counts_20 : decode cX4_counts 20 = .ok (.aload_n 0, 1) := by decide +kernel
theorem dX4_counts_21 : decode cX4_counts 21 = .ok (.getfield 27, 3) := by decide +kernel
theorem dX4_counts_24 : decode cX4_counts 24 = .ok (.iload_n 1, 1) := by decide +kernel
theorem dX4_counts_25 : decode cX4_counts 25 = .ok (.iaload, 1) := by decide +kernel
theorem dX4_counts_26 : decode cX4_counts 26 = .ok (.aload_n 0, 1) := by decide +kernel
theorem dX4_counts_27 : decode cX4_counts 27 = .ok (.getfield 30, 3) := by decide +kernel
theorem dX4_counts_30 : decode cX4_counts 30 = .ok (.iload_n 1, 1) := by decide +kernel
theorem dX4_counts_31 : decode cX4_counts 31 = .ok (.iaload, 1) := by decide +kernel
theorem dX4_counts_32 : decode cX4_counts 32 = .ok (.invokevirtual 71, 3) := by decide +kernel
theorem dX4_counts_35 : decode cX4_counts 35 = .ok (.ifCond .eq 7, 3) := by decide +kernel
theorem dX4_counts_38 : decode cX4_counts 38 = .ok (.iconst 1, 1) := by decide +kernel
theorem dX4_counts_39 : decode cX4_counts 39 = .ok (.goto 4, 3) := by decide +kernel
theorem dX4_counts_42 : decode cX4_counts 42 = .ok (.iconst 0, 1) := by decide +kernel
theorem dX4_counts_43 : decode cX4_counts 43 = .ok (.ireturn, 1) := by decide +kernel
theorem dX4_countsBy_0 : decode cX4_countsBy 0 = .ok (.aload_n 0, 1) := by decide +kernel
theorem dX4_countsBy_1 : decode cX4_countsBy 1 = .ok (.getfield 30, 3) := by decide +kernel
theorem dX4_countsBy_4 : decode cX4_countsBy 4 = .ok (.iload_n 1, 1) := by decide +kernel
theorem dX4_countsBy_5 : decode cX4_countsBy 5 = .ok (.iaload, 1) := by decide +kernel
theorem dX4_countsBy_6 : decode cX4_countsBy 6 = .ok (.iload_n 2, 1) := by decide +kernel
theorem dX4_countsBy_7 : decode cX4_countsBy 7 = .ok (.if_icmp .gt 15, 3) := by decide +kernel
theorem dX4_countsBy_10 : decode cX4_countsBy 10 = .ok (.aload_n 0, 1) := by decide +kernel
theorem dX4_countsBy_11 : decode cX4_countsBy 11 = .ok (.iload_n 1, 1) := by decide +kernel
theorem dX4_countsBy_12 : decode cX4_countsBy 12 = .ok (.invokevirtual 79, 3) := by decide +kernel
theorem dX4_countsBy_15 : decode cX4_countsBy 15 = .ok (.ifCond .eq 7, 3) := by decide +kernel
theorem dX4_countsBy_18 : decode cX4_countsBy 18 = .ok (.iconst 1, 1) := by decide +kernel
theorem dX4_countsBy_19 : decode cX4_countsBy 19 = .ok (.goto 4, 3) := by decide +kernel
theorem dX4_countsBy_22 : decode cX4_countsBy 22 = .ok (.iconst 0, 1) := by decide +kernel
theorem dX4_countsBy_23 : decode cX4_countsBy 23 = .ok (.ireturn, 1) := by decide +kernel
theorem dX4_learnUpTo_0 : decode cX4_learnUpTo 0 = .ok (.aload_n 0, 1) := by decide +kernel
theorem dX4_learnUpTo_1 : decode cX4_learnUpTo 1 = .ok (.invokevirtual 82, 3) := by decide +kernel
theorem dX4_learnUpTo_4 : decode cX4_learnUpTo 4 = .ok (.iconst 0, 1) := by decide +kernel
theorem dX4_learnUpTo_5 : decode cX4_learnUpTo 5 = .ok (.istore_n 2, 1) := by decide +kernel
theorem dX4_learnUpTo_6 : decode cX4_learnUpTo 6 = .ok (.iload_n 2, 1) := by decide +kernel
theorem dX4_learnUpTo_7 : decode cX4_learnUpTo 7 = .ok (.aload_n 0, 1) := by decide +kernel
theorem dX4_learnUpTo_8 : decode cX4_learnUpTo 8 = .ok (.getfield 65, 3) := by decide +kernel
theorem dX4_learnUpTo_11 : decode cX4_learnUpTo 11 = .ok (.if_icmp .ge 33, 3) := by decide +kernel
theorem dX4_learnUpTo_14 : decode cX4_learnUpTo 14 = .ok (.aload_n 0, 1) := by decide +kernel
theorem dX4_learnUpTo_15 : decode cX4_learnUpTo 15 = .ok (.aload_n 0, 1) := by decide +kernel
theorem dX4_learnUpTo_16 : decode cX4_learnUpTo 16 = .ok (.getfield 33, 3) := by decide +kernel
theorem dX4_learnUpTo_19 : decode cX4_learnUpTo 19 = .ok (.iload_n 2, 1) := by decide +kernel
theorem dX4_learnUpTo_20 : decode cX4_learnUpTo 20 = .ok (.iaload, 1) := by decide +kernel
theorem dX4_learnUpTo_21 : decode cX4_learnUpTo 21 = .ok (.iload_n 1, 1) := by decide +kernel
theorem dX4_learnUpTo_22 : decode cX4_learnUpTo 22 = .ok (.invokevirtual 85, 3) := by decide +kernel
theorem dX4_learnUpTo_25 : decode cX4_learnUpTo 25 = .ok (.ifCond .eq 13, 3) := by decide +kernel
theorem dX4_learnUpTo_28 : decode cX4_learnUpTo 28 = .ok (.aload_n 0, 1) := by decide +kernel
theorem dX4_learnUpTo_29 : decode cX4_learnUpTo 29 = .ok (.aload_n 0, 1) := by decide +kernel
theorem dX4_learnUpTo_30 : decode cX4_learnUpTo 30 = .ok (.getfield 33, 3) := by decide +kernel
theorem dX4_learnUpTo_33 : decode cX4_learnUpTo 33 = .ok (.iload_n 2, 1) := by decide +kernel
theorem dX4_learnUpTo_34 : decode cX4_learnUpTo 34 = .ok (.iaload, 1) := by decide +kernel
theorem dX4_learnUpTo_35 : decode cX4_learnUpTo 35 = .ok (.invokevirtual 88, 3) := by decide +kernel
theorem dX4_learnUpTo_38 : decode cX4_learnUpTo 38 = .ok (.iinc 2 1, 3) := by decide +kernel
theorem dX4_learnUpTo_41 : decode cX4_learnUpTo 41 = .ok (.goto (-35), 3) := by decide +kernel
theorem dX4_learnUpTo_44 : decode cX4_learnUpTo 44 = .ok (.return_, 1) := by decide +kernel
theorem dX4_knowOneself_0 : decode cX4_knowOneself 0 = .ok (.iconst 0, 1) := by decide +kernel
theorem dX4_knowOneself_1 : decode cX4_knowOneself 1 = .ok (.istore_n 1, 1) := by decide +kernel
theorem dX4_knowOneself_2 : decode cX4_knowOneself 2 = .ok (.iload_n 1, 1) := by decide +kernel
theorem dX4_knowOneself_3 : decode cX4_knowOneself 3 = .ok (.aload_n 0, 1) := by decide +kernel
theorem dX4_knowOneself_4 : decode cX4_knowOneself 4 = .ok (.getfield 61, 3) := by decide +kernel
theorem dX4_knowOneself_7 : decode cX4_knowOneself 7 = .ok (.if_icmp .ge 18, 3) := by decide +kernel
theorem dX4_knowOneself_10 : decode cX4_knowOneself 10 = .ok (.aload_n 0, 1) := by decide +kernel
theorem dX4_knowOneself_11 : decode cX4_knowOneself 11 = .ok (.getfield 42, 3) := by decide +kernel
theorem dX4_knowOneself_14 : decode cX4_knowOneself 14 = .ok (.iload_n 1, 1) := by decide +kernel
theorem dX4_knowOneself_15 : decode cX4_knowOneself 15 = .ok (.iconst 1, 1) := by decide +kernel
theorem dX4_knowOneself_16 : decode cX4_knowOneself 16 = .ok (.iload_n 1, 1) := by decide +kernel
theorem dX4_knowOneself_17 : decode cX4_knowOneself 17 = .ok (.ishl, 1) := by decide +kernel
theorem dX4_knowOneself_18 : decode cX4_knowOneself 18 = .ok (.iastore, 1) := by decide +kernel
theorem dX4_knowOneself_19 : decode cX4_knowOneself 19 = .ok (.iinc 1 1, 3) := by decide +kernel
theorem dX4_knowOneself_22 : decode cX4_knowOneself 22 = .ok (.goto (-20), 3) := by decide +kernel
theorem dX4_knowOneself_25 : decode cX4_knowOneself 25 = .ok (.return_, 1) := by decide +kernel
theorem dX4_greet_0 : decode cX4_greet 0 = .ok (.aload_n 0, 1) := by decide +kernel
theorem dX4_greet_1 : decode cX4_greet 1 = .ok (.getfield 24, 3) := by decide +kernel
theorem dX4_greet_4 : decode cX4_greet 4 = .ok (.iload_n 1, 1) := by decide +kernel
theorem dX4_greet_5 : decode cX4_greet 5 = .ok (.iaload, 1) := by decide +kernel
theorem dX4_greet_6 : decode cX4_greet 6 = .ok (.istore_n 2, 1) := by decide +kernel
theorem dX4_greet_7 : decode cX4_greet 7 = .ok (.aload_n 0, 1) := by decide +kernel
theorem dX4_greet_8 : decode cX4_greet 8 = .ok (.getfield 27, 3) := by decide +kernel
theorem dX4_greet_11 : decode cX4_greet 11 = .ok (.iload_n 1, 1) := by decide +kernel
theorem dX4_greet_12 : decode cX4_greet 12 = .ok (.iaload, 1) := by decide +kernel
theorem dX4_greet_13 : decode cX4_greet 13 = .ok (.istore_n 3, 1) := by decide +kernel
theorem dX4_greet_14 : decode cX4_greet 14 = .ok (.aload_n 0, 1) := by decide +kernel
theorem dX4_greet_15 : decode cX4_greet 15 = .ok (.getfield 42, 3) := by decide +kernel
theorem dX4_greet_18 : decode cX4_greet 18 = .ok (.iload_n 2, 1) := by decide +kernel
theorem dX4_greet_19 : decode cX4_greet 19 = .ok (.iaload, 1) := by decide +kernel
theorem dX4_greet_20 : decode cX4_greet 20 = .ok (.istore 4, 2) := by decide +kernel
theorem dX4_greet_22 : decode cX4_greet 22 = .ok (.aload_n 0, 1) := by decide +kernel
theorem dX4_greet_23 : decode cX4_greet 23 = .ok (.getfield 42, 3) := by decide +kernel
theorem dX4_greet_26 : decode cX4_greet 26 = .ok (.iload_n 3, 1) := by decide +kernel
theorem dX4_greet_27 : decode cX4_greet 27 = .ok (.iaload, 1) := by decide +kernel
theorem dX4_greet_28 : decode cX4_greet 28 = .ok (.istore 5, 2) := by decide +kernel
theorem dX4_greet_30 : decode cX4_greet 30 = .ok (.aload_n 0, 1) := by decide +kernel
theorem dX4_greet_31 : decode cX4_greet 31 = .ok (.getfield 42, 3) := by decide +kernel
theorem dX4_greet_34 : decode cX4_greet 34 = .ok (.iload_n 2, 1) := by decide +kernel
theorem dX4_greet_35 : decode cX4_greet 35 = .ok (.iload 4, 2) := by decide +kernel
theorem dX4_greet_37 : decode cX4_greet 37 = .ok (.aload_n 0, 1) := by decide +kernel
theorem dX4_greet_38 : decode cX4_greet 38 = .ok (.getfield 68, 3) := by decide +kernel
theorem dX4_greet_41 : decode cX4_greet 41 = .ok (.iconst 1, 1) := by decide +kernel
theorem dX4_greet_42 : decode cX4_greet 42 = .ok (.if_icmp .ne 8, 3) := by decide +kernel
theorem dX4_greet_45 : decode cX4_greet 45 = .ok (.iload 5, 2) := by decide +kernel
theorem dX4_greet_47 : decode cX4_greet 47 = .ok (.goto 6, 3) := by decide +kernel
theorem dX4_greet_50 : decode cX4_greet 50 = .ok (.iconst 1, 1) := by decide +kernel
theorem dX4_greet_51 : decode cX4_greet 51 = .ok (.iload_n 3, 1) := by decide +kernel
theorem dX4_greet_52 : decode cX4_greet 52 = .ok (.ishl, 1) := by decide +kernel
theorem dX4_greet_53 : decode cX4_greet 53 = .ok (.ior, 1) := by decide +kernel
theorem dX4_greet_54 : decode cX4_greet 54 = .ok (.iastore, 1) := by decide +kernel
theorem dX4_greet_55 : decode cX4_greet 55 = .ok (.aload_n 0, 1) := by decide +kernel
theorem dX4_greet_56 : decode cX4_greet 56 = .ok (.getfield 42, 3) := by decide +kernel
theorem dX4_greet_59 : decode cX4_greet 59 = .ok (.iload_n 3, 1) := by decide +kernel
theorem dX4_greet_60 : decode cX4_greet 60 = .ok (.iload 5, 2) := by decide +kernel
theorem dX4_greet_62 : decode cX4_greet 62 = .ok (.aload_n 0, 1) := by decide +kernel
theorem dX4_greet_63 : decode cX4_greet 63 = .ok (.getfield 68, 3) := by decide +kernel
theorem dX4_greet_66 : decode cX4_greet 66 = .ok (.iconst 1, 1) := by decide +kernel
theorem dX4_greet_67 : decode cX4_greet 67 = .ok (.if_icmp .ne 8, 3) := by decide +kernel
theorem dX4_greet_70 : decode cX4_greet 70 = .ok (.iload 4, 2) := by decide +kernel
theorem dX4_greet_72 : decode cX4_greet 72 = .ok (.goto 6, 3) := by decide +kernel
theorem dX4_greet_75 : decode cX4_greet 75 = .ok (.iconst 1, 1) := by decide +kernel
theorem dX4_greet_76 : decode cX4_greet 76 = .ok (.iload_n 2, 1) := by decide +kernel
theorem dX4_greet_77 : decode cX4_greet 77 = .ok (.ishl, 1) := by decide +kernel
theorem dX4_greet_78 : decode cX4_greet 78 = .ok (.ior, 1) := by decide +kernel
theorem dX4_greet_79 : decode cX4_greet 79 = .ok (.iastore, 1) := by decide +kernel
theorem dX4_greet_80 : decode cX4_greet 80 = .ok (.return_, 1) := by decide +kernel
theorem dX4_bearersOf_0 : decode cX4_bearersOf 0 = .ok (.iconst 0, 1) := by decide +kernel
theorem dX4_bearersOf_1 : decode cX4_bearersOf 1 = .ok (.istore_n 2, 1) := by decide +kernel
theorem dX4_bearersOf_2 : decode cX4_bearersOf 2 = .ok (.iconst 0, 1) := by decide +kernel
theorem dX4_bearersOf_3 : decode cX4_bearersOf 3 = .ok (.istore_n 3, 1) := by decide +kernel
theorem dX4_bearersOf_4 : decode cX4_bearersOf 4 = .ok (.iload_n 3, 1) := by decide +kernel
theorem dX4_bearersOf_5 : decode cX4_bearersOf 5 = .ok (.aload_n 0, 1) := by decide +kernel
theorem dX4_bearersOf_6 : decode cX4_bearersOf 6 = .ok (.getfield 61, 3) := by decide +kernel
theorem dX4_bearersOf_9 : decode cX4_bearersOf 9 = .ok (.if_icmp .ge 25, 3) := by decide +kernel
theorem dX4_bearersOf_12 : decode cX4_bearersOf 12 = .ok (.aload_n 0, 1) := by decide +kernel
theorem dX4_bearersOf_13 : decode cX4_bearersOf 13 = .ok (.getfield 18, 3) := by decide +kernel
theorem dX4_bearersOf_16 : decode cX4_bearersOf 16 = .ok (.iload_n 3, 1) := by decide +kernel
theorem dX4_bearersOf_17 : decode cX4_bearersOf 17 = .ok (.iaload, 1) := by decide +kernel
theorem dX4_bearersOf_18 : decode cX4_bearersOf 18 = .ok (.iload_n 1, 1) := by decide +kernel
theorem dX4_bearersOf_19 : decode cX4_bearersOf 19 = .ok (.if_icmp .ne 9, 3) := by decide +kernel
theorem dX4_bearersOf_22 : decode cX4_bearersOf 22 = .ok (.iload_n 2, 1) := by decide +kernel
theorem dX4_bearersOf_23 : decode cX4_bearersOf 23 = .ok (.iconst 1, 1) := by decide +kernel
theorem dX4_bearersOf_24 : decode cX4_bearersOf 24 = .ok (.iload_n 3, 1) := by decide +kernel
theorem dX4_bearersOf_25 : decode cX4_bearersOf 25 = .ok (.ishl, 1) := by decide +kernel
theorem dX4_bearersOf_26 : decode cX4_bearersOf 26 = .ok (.ior, 1) := by decide +kernel
theorem dX4_bearersOf_27 : decode cX4_bearersOf 27 = .ok (.istore_n 2, 1) := by decide +kernel
theorem dX4_bearersOf_28 : decode cX4_bearersOf 28 = .ok (.iinc 3 1, 3) := by decide +kernel
theorem dX4_bearersOf_31 : decode cX4_bearersOf 31 = .ok (.goto (-27), 3) := by decide +kernel
theorem dX4_bearersOf_34 : decode cX4_bearersOf 34 = .ok (.iload_n 2, 1) := by decide +kernel
theorem dX4_bearersOf_35 : decode cX4_bearersOf 35 = .ok (.ireturn, 1) := by decide +kernel
theorem dX4_namedPeople_0 : decode cX4_namedPeople 0 = .ok (.iconst 0, 1) := by decide +kernel
theorem dX4_namedPeople_1 : decode cX4_namedPeople 1 = .ok (.istore_n 1, 1) := by decide +kernel
theorem dX4_namedPeople_2 : decode cX4_namedPeople 2 = .ok (.iconst 0, 1) := by decide +kernel
theorem dX4_namedPeople_3 : decode cX4_namedPeople 3 = .ok (.istore_n 2, 1) := by decide +kernel
theorem dX4_namedPeople_4 : decode cX4_namedPeople 4 = .ok (.iload_n 2, 1) := by decide +kernel
theorem dX4_namedPeople_5 : decode cX4_namedPeople 5 = .ok (.aload_n 0, 1) := by decide +kernel
theorem dX4_namedPeople_6 : decode cX4_namedPeople 6 = .ok (.getfield 61, 3) := by decide +kernel
theorem dX4_namedPeople_9 : decode cX4_namedPeople 9 = .ok (.if_icmp .ge 22, 3) := by decide +kernel
theorem dX4_namedPeople_12 : decode cX4_namedPeople 12 = .ok (.aload_n 0, 1) := by decide +kernel
theorem dX4_namedPeople_13 : decode cX4_namedPeople 13 = .ok (.getfield 18, 3) := by decide +kernel
theorem dX4_namedPeople_16 : decode cX4_namedPeople 16 = .ok (.iload_n 2, 1) := by decide +kernel
theorem dX4_namedPeople_17 : decode cX4_namedPeople 17 = .ok (.iaload, 1) := by decide +kernel
theorem dX4_namedPeople_18 : decode cX4_namedPeople 18 = .ok (.iconst (-1), 1) := by decide +kernel
theorem dX4_namedPeople_19 : decode cX4_namedPeople 19 = .ok (.if_icmp .eq 6, 3) := by decide +kernel
theorem dX4_namedPeople_22 : decode cX4_namedPeople 22 = .ok (.iinc 1 1, 3) := by decide +kernel
theorem dX4_namedPeople_25 : decode cX4_namedPeople 25 = .ok (.iinc 2 1, 3) := by decide +kernel
theorem dX4_namedPeople_28 : decode cX4_namedPeople 28 = .ok (.goto (-24), 3) := by decide +kernel
theorem dX4_namedPeople_31 : decode cX4_namedPeople 31 = .ok (.iload_n 1, 1) := by decide +kernel
theorem dX4_namedPeople_32 : decode cX4_namedPeople 32 = .ok (.ireturn, 1) := by decide +kernel
theorem dX4_isBearer_0 : decode cX4_isBearer 0 = .ok (.aload_n 0, 1) := by decide +kernel
theorem dX4_isBearer_1 : decode cX4_isBearer 1 = .ok (.getfield 18, 3) := by decide +kernel
theorem dX4_isBearer_4 : decode cX4_isBearer 4 = .ok (.iload_n 1, 1) := by decide +kernel
theorem dX4_isBearer_5 : decode cX4_isBearer 5 = .ok (.iaload, 1) := by decide +kernel
theorem dX4_isBearer_6 : decode cX4_isBearer 6 = .ok (.iload_n 2, 1) := by decide +kernel
theorem dX4_isBearer_7 : decode cX4_isBearer 7 = .ok (.if_icmp .ne 17, 3) := by decide +kernel
theorem dX4_isBearer_10 : decode cX4_isBearer 10 = .ok (.aload_n 0, 1) := by decide +kernel
theorem dX4_isBearer_11 : decode cX4_isBearer 11 = .ok (.getfield 9, 3) := by decide +kernel
theorem dX4_isBearer_14 : decode cX4_isBearer 14 = .ok (.iload_n 1, 1) := by decide +kernel
theorem dX4_isBearer_15 : decode cX4_isBearer 15 = .ok (.iaload, 1) := by decide +kernel
theorem dX4_isBearer_16 : decode cX4_isBearer 16 = .ok (.iload_n 3, 1) := by decide +kernel
theorem dX4_isBearer_17 : decode cX4_isBearer 17 = .ok (.if_icmp .gt 7, 3) := by decide +kernel
theorem dX4_isBearer_20 : decode cX4_isBearer 20 = .ok (.iconst 1, 1) := by decide +kernel
theorem dX4_isBearer_21 : decode cX4_isBearer 21 = .ok (.goto 4, 3) := by decide +kernel
theorem dX4_isBearer_24 : decode cX4_isBearer 24 = .ok (.iconst 0, 1) := by decide +kernel
theorem dX4_isBearer_25 : decode cX4_isBearer 25 = .ok (.ireturn, 1) := by decide +kernel
theorem dX4_isFamed_0 : decode cX4_isFamed 0 = .ok (.iconst 0, 1) := by decide +kernel
theorem dX4_isFamed_1 : decode cX4_isFamed 1 = .ok (.istore_n 3, 1) := by decide +kernel
theorem dX4_isFamed_2 : decode cX4_isFamed 2 = .ok (.iload_n 3, 1) := by decide +kernel
theorem dX4_isFamed_3 : decode cX4_isFamed 3 = .ok (.aload_n 0, 1) := by decide +kernel
theorem dX4_isFamed_4 : decode cX4_isFamed 4 = .ok (.getfield 61, 3) := by decide +kernel
theorem dX4_isFamed_7 : decode cX4_isFamed 7 = .ok (.if_icmp .ge 31, 3) := by decide +kernel
theorem dX4_isFamed_10 : decode cX4_isFamed 10 = .ok (.aload_n 0, 1) := by decide +kernel
theorem dX4_isFamed_11 : decode cX4_isFamed 11 = .ok (.getfield 39, 3) := by decide +kernel
theorem dX4_isFamed_14 : decode cX4_isFamed 14 = .ok (.iload_n 1, 1) := by decide +kernel
theorem dX4_isFamed_15 : decode cX4_isFamed 15 = .ok (.iaload, 1) := by decide +kernel
theorem dX4_isFamed_16 : decode cX4_isFamed 16 = .ok (.iconst 1, 1) := by decide +kernel
theorem dX4_isFamed_17 : decode cX4_isFamed 17 = .ok (.if_icmp .ne 21, 3) := by decide +kernel
theorem dX4_isFamed_20 : decode cX4_isFamed 20 = .ok (.aload_n 0, 1) := by decide +kernel
theorem dX4_isFamed_21 : decode cX4_isFamed 21 = .ok (.iload_n 3, 1) := by decide +kernel
theorem dX4_isFamed_22 : decode cX4_isFamed 22 = .ok (.iload_n 1, 1) := by decide +kernel
theorem dX4_isFamed_23 : decode cX4_isFamed 23 = .ok (.iload_n 2, 1) := by decide +kernel
theorem dX4_isFamed_24 : decode cX4_isFamed 24 = .ok (.invokevirtual 92, 3) := by decide +kernel
theorem dX4_isFamed_27 : decode cX4_isFamed 27 = .ok (.ifCond .eq 5, 3) := by decide +kernel
theorem dX4_isFamed_30 : decode cX4_isFamed 30 = .ok (.iconst 1, 1) := by decide +kernel
theorem dX4_isFamed_31 : decode cX4_isFamed 31 = .ok (.ireturn, 1) := by decide +kernel
theorem dX4_isFamed_32 : decode cX4_isFamed 32 = .ok (.iinc 3 1, 3) := by decide +kernel
theorem dX4_isFamed_35 : decode cX4_isFamed 35 = .ok (.goto (-33), 3) := by decide +kernel
theorem dX4_isFamed_38 : decode cX4_isFamed 38 = .ok (.iconst 0, 1) := by decide +kernel
theorem dX4_isFamed_39 : decode cX4_isFamed 39 = .ok (.ireturn, 1) := by decide +kernel
theorem dX4_livesKnowing_0 : decode cX4_livesKnowing 0 = .ok (.aload_n 0, 1) := by decide +kernel
theorem dX4_livesKnowing_1 : decode cX4_livesKnowing 1 = .ok (.getfield 42, 3) := by decide +kernel
theorem dX4_livesKnowing_4 : decode cX4_livesKnowing 4 = .ok (.iload_n 1, 1) := by decide +kernel
theorem dX4_livesKnowing_5 : decode cX4_livesKnowing 5 = .ok (.iaload, 1) := by decide +kernel
theorem dX4_livesKnowing_6 : decode cX4_livesKnowing 6 = .ok (.iload_n 2, 1) := by decide +kernel
theorem dX4_livesKnowing_7 : decode cX4_livesKnowing 7 = .ok (.ishr, 1) := by decide +kernel
theorem dX4_livesKnowing_8 : decode cX4_livesKnowing 8 = .ok (.iconst 1, 1) := by decide +kernel
theorem dX4_livesKnowing_9 : decode cX4_livesKnowing 9 = .ok (.iand, 1) := by decide +kernel
theorem dX4_livesKnowing_10 : decode cX4_livesKnowing 10 = .ok (.iconst 1, 1) := by decide +kernel
theorem dX4_livesKnowing_11 : decode cX4_livesKnowing 11 = .ok (.if_icmp .ne 16, 3) := by decide +kernel
theorem dX4_livesKnowing_14 : decode cX4_livesKnowing 14 = .ok (.aload_n 0, 1) := by decide +kernel
theorem dX4_livesKnowing_15 : decode cX4_livesKnowing 15 = .ok (.iload_n 1, 1) := by decide +kernel
theorem dX4_livesKnowing_16 : decode cX4_livesKnowing 16 = .ok (.iload_n 3, 1) := by decide +kernel
theorem dX4_livesKnowing_17 : decode cX4_livesKnowing 17 = .ok (.invokevirtual 71, 3) := by decide +kernel
theorem dX4_livesKnowing_20 : decode cX4_livesKnowing 20 = .ok (.ifCond .eq 7, 3) := by decide +kernel
theorem dX4_livesKnowing_23 : decode cX4_livesKnowing 23 = .ok (.iconst 1, 1) := by decide +kernel
theorem dX4_livesKnowing_24 : decode cX4_livesKnowing 24 = .ok (.goto 4, 3) := by decide +kernel
theorem dX4_livesKnowing_27 : decode cX4_livesKnowing 27 = .ok (.iconst 0, 1) := by decide +kernel
theorem dX4_livesKnowing_28 : decode cX4_livesKnowing 28 = .ok (.ireturn, 1) := by decide +kernel
theorem dX4_wouldHold_0 : decode cX4_wouldHold 0 = .ok (.aload_n 0, 1) := by decide +kernel
theorem dX4_wouldHold_1 : decode cX4_wouldHold 1 = .ok (.getfield 18, 3) := by decide +kernel
theorem dX4_wouldHold_4 : decode cX4_wouldHold 4 = .ok (.iload_n 2, 1) := by decide +kernel
theorem dX4_wouldHold_5 : decode cX4_wouldHold 5 = .ok (.iaload, 1) := by decide +kernel
theorem dX4_wouldHold_6 : decode cX4_wouldHold 6 = .ok (.istore 4, 2) := by decide +kernel
theorem dX4_wouldHold_8 : decode cX4_wouldHold 8 = .ok (.iload 4, 2) := by decide +kernel
theorem dX4_wouldHold_10 : decode cX4_wouldHold 10 = .ok (.ifCond .ge 5, 3) := by decide +kernel
theorem dX4_wouldHold_13 : decode cX4_wouldHold 13 = .ok (.iconst 0, 1) := by decide +kernel
theorem dX4_wouldHold_14 : decode cX4_wouldHold 14 = .ok (.ireturn, 1) := by decide +kernel
theorem dX4_wouldHold_15 : decode cX4_wouldHold 15 = .ok (.iconst 0, 1) := by decide +kernel
theorem dX4_wouldHold_16 : decode cX4_wouldHold 16 = .ok (.iload_n 3, 1) := by decide +kernel
theorem dX4_wouldHold_17 : decode cX4_wouldHold 17 = .ok (.aload_n 0, 1) := by decide +kernel
theorem dX4_wouldHold_18 : decode cX4_wouldHold 18 = .ok (.getfield 15, 3) := by decide +kernel
theorem dX4_wouldHold_21 : decode cX4_wouldHold 21 = .ok (.iload_n 2, 1) := by decide +kernel
theorem dX4_wouldHold_22 : decode cX4_wouldHold 22 = .ok (.iaload, 1) := by decide +kernel
theorem dX4_wouldHold_23 : decode cX4_wouldHold 23 = .ok (.isub, 1) := by decide +kernel
theorem dX4_wouldHold_24 : decode cX4_wouldHold 24 = .ok (.invokestatic 96, 3) := by decide +kernel
theorem dX4_wouldHold_27 : decode cX4_wouldHold 27 = .ok (.istore 5, 2) := by decide +kernel
theorem dX4_wouldHold_29 : decode cX4_wouldHold 29 = .ok (.iload_n 1, 1) := by decide +kernel
theorem dX4_wouldHold_30 : decode cX4_wouldHold 30 = .ok (.iload_n 2, 1) := by decide +kernel
theorem dX4_wouldHold_31 : decode cX4_wouldHold 31 = .ok (.if_icmp .ne 7, 3) := by decide +kernel
theorem dX4_wouldHold_34 : decode cX4_wouldHold 34 = .ok (.iconst 1, 1) := by decide +kernel
theorem dX4_wouldHold_35 : decode cX4_wouldHold 35 = .ok (.goto 4, 3) := by decide +kernel
theorem dX4_wouldHold_38 : decode cX4_wouldHold 38 = .ok (.iconst 0, 1) := by decide +kernel
theorem dX4_wouldHold_39 : decode cX4_wouldHold 39 = .ok (.istore 6, 2) := by decide +kernel
theorem dX4_wouldHold_41 : decode cX4_wouldHold 41 = .ok (.aload_n 0, 1) := by decide +kernel
theorem dX4_wouldHold_42 : decode cX4_wouldHold 42 = .ok (.getfield 45, 3) := by decide +kernel
theorem dX4_wouldHold_45 : decode cX4_wouldHold 45 = .ok (.iload_n 3, 1) := by decide +kernel
theorem dX4_wouldHold_46 : decode cX4_wouldHold 46 = .ok (.aload_n 0, 1) := by decide +kernel
theorem dX4_wouldHold_47 : decode cX4_wouldHold 47 = .ok (.getfield 9, 3) := by decide +kernel
theorem dX4_wouldHold_50 : decode cX4_wouldHold 50 = .ok (.iload_n 1, 1) := by decide +kernel
theorem dX4_wouldHold_51 : decode cX4_wouldHold 51 = .ok (.iaload, 1) := by decide +kernel
theorem dX4_wouldHold_52 : decode cX4_wouldHold 52 = .ok (.isub, 1) := by decide +kernel
theorem dX4_wouldHold_53 : decode cX4_wouldHold 53 = .ok (.iload 5, 2) := by decide +kernel
theorem dX4_wouldHold_55 : decode cX4_wouldHold 55 = .ok (.aload_n 0, 1) := by decide +kernel
theorem dX4_wouldHold_56 : decode cX4_wouldHold 56 = .ok (.getfield 39, 3) := by decide +kernel
theorem dX4_wouldHold_59 : decode cX4_wouldHold 59 = .ok (.iload 4, 2) := by decide +kernel
theorem dX4_wouldHold_61 : decode cX4_wouldHold 61 = .ok (.iaload, 1) := by decide +kernel
theorem dX4_wouldHold_62 : decode cX4_wouldHold 62 = .ok (.aload_n 0, 1) := by decide +kernel
theorem dX4_wouldHold_63 : decode cX4_wouldHold 63 = .ok (.getfield 36, 3) := by decide +kernel
theorem dX4_wouldHold_66 : decode cX4_wouldHold 66 = .ok (.iload 4, 2) := by decide +kernel
theorem dX4_wouldHold_68 : decode cX4_wouldHold 68 = .ok (.iaload, 1) := by decide +kernel
theorem dX4_wouldHold_69 : decode cX4_wouldHold 69 = .ok (.iload 6, 2) := by decide +kernel
theorem dX4_wouldHold_71 : decode cX4_wouldHold 71 = .ok (.iload 4, 2) := by decide +kernel
theorem dX4_wouldHold_73 : decode cX4_wouldHold 73 = .ok (.invokevirtual 102, 3) := by decide +kernel
theorem dX4_wouldHold_76 : decode cX4_wouldHold 76 = .ok (.aload_n 0, 1) := by decide +kernel
theorem dX4_wouldHold_77 : decode cX4_wouldHold 77 = .ok (.getfield 45, 3) := by decide +kernel
theorem dX4_wouldHold_80 : decode cX4_wouldHold 80 = .ok (.invokevirtual 108, 3) := by decide +kernel
theorem dX4_wouldHold_83 : decode cX4_wouldHold 83 = .ok (.ifCond .eq 7, 3) := by decide +kernel
theorem dX4_wouldHold_86 : decode cX4_wouldHold 86 = .ok (.iconst 1, 1) := by decide +kernel
theorem dX4_wouldHold_87 : decode cX4_wouldHold 87 = .ok (.goto 4, 3) := by decide +kernel
theorem dX4_wouldHold_90 : decode cX4_wouldHold 90 = .ok (.iconst 0, 1) := by decide +kernel
theorem dX4_wouldHold_91 : decode cX4_wouldHold 91 = .ok (.ireturn, 1) := by decide +kernel
theorem dX4_holdersOf_0 : decode cX4_holdersOf 0 = .ok (.aload_n 0, 1) := by decide +kernel
theorem dX4_holdersOf_1 : decode cX4_holdersOf 1 = .ok (.iload_n 2, 1) := by decide +kernel
theorem dX4_holdersOf_2 : decode cX4_holdersOf 2 = .ok (.invokevirtual 112, 3) := by decide +kernel
theorem dX4_holdersOf_5 : decode cX4_holdersOf 5 = .ok (.iconst 0, 1) := by decide +kernel
theorem dX4_holdersOf_6 : decode cX4_holdersOf 6 = .ok (.istore_n 3, 1) := by decide +kernel
theorem dX4_holdersOf_7 : decode cX4_holdersOf 7 = .ok (.iconst 0, 1) := by decide +kernel
theorem dX4_holdersOf_8 : decode cX4_holdersOf 8 = .ok (.istore 4, 2) := by decide +kernel
theorem dX4_holdersOf_10 : decode cX4_holdersOf 10 = .ok (.iload 4, 2) := by decide +kernel
theorem dX4_holdersOf_12 : decode cX4_holdersOf 12 = .ok (.aload_n 0, 1) := by decide +kernel
theorem dX4_holdersOf_13 : decode cX4_holdersOf 13 = .ok (.getfield 61, 3) := by decide +kernel
theorem dX4_holdersOf_16 : decode cX4_holdersOf 16 = .ok (.if_icmp .ge 81, 3) := by decide +kernel
theorem dX4_holdersOf_19 : decode cX4_holdersOf 19 = .ok (.aload_n 0, 1) := by decide +kernel
theorem dX4_holdersOf_20 : decode cX4_holdersOf 20 = .ok (.iload 4, 2) := by decide +kernel
theorem dX4_holdersOf_22 : decode cX4_holdersOf 22 = .ok (.iload_n 1, 1) := by decide +kernel
theorem dX4_holdersOf_23 : decode cX4_holdersOf 23 = .ok (.iload_n 2, 1) := by decide +kernel
theorem dX4_holdersOf_24 : decode cX4_holdersOf 24 = .ok (.invokevirtual 92, 3) := by decide +kernel
theorem dX4_holdersOf_27 : decode cX4_holdersOf 27 = .ok (.ifCond .ne 6, 3) := by decide +kernel
theorem dX4_holdersOf_30 : decode cX4_holdersOf 30 = .ok (.goto 61, 3) := by decide +kernel
theorem dX4_holdersOf_33 : decode cX4_holdersOf 33 = .ok (.iconst 0, 1) := by decide +kernel
theorem dX4_holdersOf_34 : decode cX4_holdersOf 34 = .ok (.istore 5, 2) := by decide +kernel
theorem dX4_holdersOf_36 : decode cX4_holdersOf 36 = .ok (.iload 5, 2) := by decide +kernel
theorem dX4_holdersOf_38 : decode cX4_holdersOf 38 = .ok (.aload_n 0, 1) := by decide +kernel
theorem dX4_holdersOf_39 : decode cX4_holdersOf 39 = .ok (.getfield 61, 3) := by decide +kernel
theorem dX4_holdersOf_42 : decode cX4_holdersOf 42 = .ok (.if_icmp .ge 49, 3) := by decide +kernel
theorem dX4_holdersOf_45 : decode cX4_holdersOf 45 = .ok (.iload_n 3, 1) := by decide +kernel
theorem dX4_holdersOf_46 : decode cX4_holdersOf 46 = .ok (.iload 5, 2) := by decide +kernel
theorem dX4_holdersOf_48 : decode cX4_holdersOf 48 = .ok (.ishr, 1) := by decide +kernel
theorem dX4_holdersOf_49 : decode cX4_holdersOf 49 = .ok (.iconst 1, 1) := by decide +kernel
theorem dX4_holdersOf_50 : decode cX4_holdersOf 50 = .ok (.iand, 1) := by decide +kernel
theorem dX4_holdersOf_51 : decode cX4_holdersOf 51 = .ok (.ifCond .ne 34, 3) := by decide +kernel
theorem dX4_holdersOf_54 : decode cX4_holdersOf 54 = .ok (.aload_n 0, 1) := by decide +kernel
theorem dX4_holdersOf_55 : decode cX4_holdersOf 55 = .ok (.iload 5, 2) := by decide +kernel
theorem dX4_holdersOf_57 : decode cX4_holdersOf 57 = .ok (.iload 4, 2) := by decide +kernel
theorem dX4_holdersOf_59 : decode cX4_holdersOf 59 = .ok (.iload_n 2, 1) := by decide +kernel
theorem dX4_holdersOf_60 : decode cX4_holdersOf 60 = .ok (.invokevirtual 115, 3) := by decide +kernel
theorem dX4_holdersOf_63 : decode cX4_holdersOf 63 = .ok (.ifCond .eq 22, 3) := by decide +kernel
theorem dX4_holdersOf_66 : decode cX4_holdersOf 66 = .ok (.aload_n 0, 1) := by decide +kernel
theorem dX4_holdersOf_67 : decode cX4_holdersOf 67 = .ok (.iload 5, 2) := by decide +kernel
theorem dX4_holdersOf_69 : decode cX4_holdersOf 69 = .ok (.iload 4, 2) := by decide +kernel
theorem dX4_holdersOf_71 : decode cX4_holdersOf 71 = .ok (.iload_n 2, 1) := by decide +kernel
theorem dX4_holdersOf_72 : decode cX4_holdersOf 72 = .ok (.invokevirtual 118, 3) := by decide +kernel
theorem dX4_holdersOf_75 : decode cX4_holdersOf 75 = .ok (.ifCond .eq 10, 3) := by decide +kernel
theorem dX4_holdersOf_78 : decode cX4_holdersOf 78 = .ok (.iload_n 3, 1) := by decide +kernel
theorem dX4_holdersOf_79 : decode cX4_holdersOf 79 = .ok (.iconst 1, 1) := by decide +kernel
theorem dX4_holdersOf_80 : decode cX4_holdersOf 80 = .ok (.iload 5, 2) := by decide +kernel
theorem dX4_holdersOf_82 : decode cX4_holdersOf 82 = .ok (.ishl, 1) := by decide +kernel
theorem dX4_holdersOf_83 : decode cX4_holdersOf 83 = .ok (.ior, 1) := by decide +kernel
theorem dX4_holdersOf_84 : decode cX4_holdersOf 84 = .ok (.istore_n 3, 1) := by decide +kernel
theorem dX4_holdersOf_85 : decode cX4_holdersOf 85 = .ok (.iinc 5 1, 3) := by decide +kernel
theorem dX4_holdersOf_88 : decode cX4_holdersOf 88 = .ok (.goto (-52), 3) := by decide +kernel
theorem dX4_holdersOf_91 : decode cX4_holdersOf 91 = .ok (.iinc 4 1, 3) := by decide +kernel
theorem dX4_holdersOf_94 : decode cX4_holdersOf 94 = .ok (.goto (-84), 3) := by decide +kernel
theorem dX4_holdersOf_97 : decode cX4_holdersOf 97 = .ok (.iload_n 3, 1) := by decide +kernel
theorem dX4_holdersOf_98 : decode cX4_holdersOf 98 = .ok (.ireturn, 1) := by decide +kernel
theorem dX4_heldIn_0 : decode cX4_heldIn 0 = .ok (.aload_n 0, 1) := by decide +kernel
theorem dX4_heldIn_1 : decode cX4_heldIn 1 = .ok (.iload_n 1, 1) := by decide +kernel
theorem dX4_heldIn_2 : decode cX4_heldIn 2 = .ok (.invokevirtual 112, 3) := by decide +kernel
theorem dX4_heldIn_5 : decode cX4_heldIn 5 = .ok (.iconst 0, 1) := by decide +kernel
theorem dX4_heldIn_6 : decode cX4_heldIn 6 = .ok (.istore_n 2, 1) := by decide +kernel
theorem dX4_heldIn_7 : decode cX4_heldIn 7 = .ok (.iconst 0, 1) := by decide +kernel
theorem dX4_heldIn_8 : decode cX4_heldIn 8 = .ok (.istore_n 3, 1) := by decide +kernel
theorem dX4_heldIn_9 : decode cX4_heldIn 9 = .ok (.iload_n 3, 1) := by decide +kernel
theorem dX4_heldIn_10 : decode cX4_heldIn 10 = .ok (.aload_n 0, 1) := by decide +kernel
theorem dX4_heldIn_11 : decode cX4_heldIn 11 = .ok (.getfield 61, 3) := by decide +kernel
theorem dX4_heldIn_14 : decode cX4_heldIn 14 = .ok (.if_icmp .ge 131, 3) := by decide +kernel
theorem dX4_heldIn_17 : decode cX4_heldIn 17 = .ok (.aload_n 0, 1) := by decide +kernel
theorem dX4_heldIn_18 : decode cX4_heldIn 18 = .ok (.getfield 18, 3) := by decide +kernel
theorem dX4_heldIn_21 : decode cX4_heldIn 21 = .ok (.iload_n 3, 1) := by decide +kernel
theorem dX4_heldIn_22 : decode cX4_heldIn 22 = .ok (.iaload, 1) := by decide +kernel
theorem dX4_heldIn_23 : decode cX4_heldIn 23 = .ok (.istore 4, 2) := by decide +kernel
theorem dX4_heldIn_25 : decode cX4_heldIn 25 = .ok (.iload 4, 2) := by decide +kernel
theorem dX4_heldIn_27 : decode cX4_heldIn 27 = .ok (.ifCond .lt 112, 3) := by decide +kernel
theorem dX4_heldIn_30 : decode cX4_heldIn 30 = .ok (.aload_n 0, 1) := by decide +kernel
theorem dX4_heldIn_31 : decode cX4_heldIn 31 = .ok (.getfield 9, 3) := by decide +kernel
theorem dX4_heldIn_34 : decode cX4_heldIn 34 = .ok (.iload_n 3, 1) := by decide +kernel
theorem dX4_heldIn_35 : decode cX4_heldIn 35 = .ok (.iaload, 1) := by decide +kernel
theorem dX4_heldIn_36 : decode cX4_heldIn 36 = .ok (.iload_n 1, 1) := by decide +kernel
theorem dX4_heldIn_37 : decode cX4_heldIn 37 = .ok (.if_icmp .gt 102, 3) := by decide +kernel
theorem dX4_heldIn_40 : decode cX4_heldIn 40 = .ok (.iload_n 2, 1) := by decide +kernel
theorem dX4_heldIn_41 : decode cX4_heldIn 41 = .ok (.iload 4, 2) := by decide +kernel
theorem dX4_heldIn_43 : decode cX4_heldIn 43 = .ok (.ishr, 1) := by decide +kernel
theorem dX4_heldIn_44 : decode cX4_heldIn 44 = .ok (.iconst 1, 1) := by decide +kernel
theorem dX4_heldIn_45 : decode cX4_heldIn 45 = .ok (.iand, 1) := by decide +kernel
theorem dX4_heldIn_46 : decode cX4_heldIn 46 = .ok (.iconst 1, 1) := by decide +kernel
theorem dX4_heldIn_47 : decode cX4_heldIn 47 = .ok (.if_icmp .ne 6, 3) := by decide +kernel
theorem dX4_heldIn_50 : decode cX4_heldIn 50 = .ok (.goto 89, 3) := by decide +kernel
theorem dX4_heldIn_53 : decode cX4_heldIn 53 = .ok (.aload_n 0, 1) := by decide +kernel
theorem dX4_heldIn_54 : decode cX4_heldIn 54 = .ok (.getfield 39, 3) := by decide +kernel
theorem dX4_heldIn_57 : decode cX4_heldIn 57 = .ok (.iload 4, 2) := by decide +kernel
theorem dX4_heldIn_59 : decode cX4_heldIn 59 = .ok (.iaload, 1) := by decide +kernel
theorem dX4_heldIn_60 : decode cX4_heldIn 60 = .ok (.iconst 1, 1) := by decide +kernel
theorem dX4_heldIn_61 : decode cX4_heldIn 61 = .ok (.if_icmp .ne 7, 3) := by decide +kernel
theorem dX4_heldIn_64 : decode cX4_heldIn 64 = .ok (.iconst 1, 1) := by decide +kernel
theorem dX4_heldIn_65 : decode cX4_heldIn 65 = .ok (.goto 4, 3) := by decide +kernel
theorem dX4_heldIn_68 : decode cX4_heldIn 68 = .ok (.iconst 0, 1) := by decide +kernel
theorem dX4_heldIn_69 : decode cX4_heldIn 69 = .ok (.istore 5, 2) := by decide +kernel
theorem dX4_heldIn_71 : decode cX4_heldIn 71 = .ok (.iconst 0, 1) := by decide +kernel
theorem dX4_heldIn_72 : decode cX4_heldIn 72 = .ok (.istore 6, 2) := by decide +kernel
theorem dX4_heldIn_74 : decode cX4_heldIn 74 = .ok (.iload 6, 2) := by decide +kernel
theorem dX4_heldIn_76 : decode cX4_heldIn 76 = .ok (.aload_n 0, 1) := by decide +kernel
theorem dX4_heldIn_77 : decode cX4_heldIn 77 = .ok (.getfield 61, 3) := by decide +kernel
theorem dX4_heldIn_80 : decode cX4_heldIn 80 = .ok (.if_icmp .ge 43, 3) := by decide +kernel
theorem dX4_heldIn_83 : decode cX4_heldIn 83 = .ok (.iload 5, 2) := by decide +kernel
theorem dX4_heldIn_85 : decode cX4_heldIn 85 = .ok (.ifCond .ne 38, 3) := by decide +kernel
theorem dX4_heldIn_88 : decode cX4_heldIn 88 = .ok (.aload_n 0, 1) := by decide +kernel
theorem dX4_heldIn_89 : decode cX4_heldIn 89 = .ok (.iload 6, 2) := by decide +kernel
theorem dX4_heldIn_91 : decode cX4_heldIn 91 = .ok (.iload_n 3, 1) := by decide +kernel
theorem dX4_heldIn_92 : decode cX4_heldIn 92 = .ok (.iload_n 1, 1) := by decide +kernel
theorem dX4_heldIn_93 : decode cX4_heldIn 93 = .ok (.invokevirtual 115, 3) := by decide +kernel
theorem dX4_heldIn_96 : decode cX4_heldIn 96 = .ok (.ifCond .eq 18, 3) := by decide +kernel
theorem dX4_heldIn_99 : decode cX4_heldIn 99 = .ok (.aload_n 0, 1) := by decide +kernel
theorem dX4_heldIn_100 : decode cX4_heldIn 100 = .ok (.iload 6, 2) := by decide +kernel
theorem dX4_heldIn_102 : decode cX4_heldIn 102 = .ok (.iload_n 3, 1) := by decide +kernel
theorem dX4_heldIn_103 : decode cX4_heldIn 103 = .ok (.iload_n 1, 1) := by decide +kernel
theorem dX4_heldIn_104 : decode cX4_heldIn 104 = .ok (.invokevirtual 118, 3) := by decide +kernel
theorem dX4_heldIn_107 : decode cX4_heldIn 107 = .ok (.ifCond .eq 7, 3) := by decide +kernel
theorem dX4_heldIn_110 : decode cX4_heldIn 110 = .ok (.iconst 1, 1) := by decide +kernel
theorem dX4_heldIn_111 : decode cX4_heldIn 111 = .ok (.goto 4, 3) := by decide +kernel
theorem dX4_heldIn_114 : decode cX4_heldIn 114 = .ok (.iconst 0, 1) := by decide +kernel
theorem dX4_heldIn_115 : decode cX4_heldIn 115 = .ok (.istore 5, 2) := by decide +kernel
theorem dX4_heldIn_117 : decode cX4_heldIn 117 = .ok (.iinc 6 1, 3) := by decide +kernel
theorem dX4_heldIn_120 : decode cX4_heldIn 120 = .ok (.goto (-46), 3) := by decide +kernel
theorem dX4_heldIn_123 : decode cX4_heldIn 123 = .ok (.iload_n 2, 1) := by decide +kernel
theorem dX4_heldIn_124 : decode cX4_heldIn 124 = .ok (.iload 5, 2) := by decide +kernel
theorem dX4_heldIn_126 : decode cX4_heldIn 126 = .ok (.ifCond .eq 10, 3) := by decide +kernel
theorem dX4_heldIn_129 : decode cX4_heldIn 129 = .ok (.iconst 1, 1) := by decide +kernel
theorem dX4_heldIn_130 : decode cX4_heldIn 130 = .ok (.iload 4, 2) := by decide +kernel
theorem dX4_heldIn_132 : decode cX4_heldIn 132 = .ok (.ishl, 1) := by decide +kernel
theorem dX4_heldIn_133 : decode cX4_heldIn 133 = .ok (.goto 4, 3) := by decide +kernel
theorem dX4_heldIn_136 : decode cX4_heldIn 136 = .ok (.iconst 0, 1) := by decide +kernel
theorem dX4_heldIn_137 : decode cX4_heldIn 137 = .ok (.ior, 1) := by decide +kernel
theorem dX4_heldIn_138 : decode cX4_heldIn 138 = .ok (.istore_n 2, 1) := by decide +kernel
theorem dX4_heldIn_139 : decode cX4_heldIn 139 = .ok (.iinc 3 1, 3) := by decide +kernel
theorem dX4_heldIn_142 : decode cX4_heldIn 142 = .ok (.goto (-133), 3) := by decide +kernel
theorem dX4_heldIn_145 : decode cX4_heldIn 145 = .ok (.iload_n 2, 1) := by decide +kernel
theorem dX4_heldIn_146 : decode cX4_heldIn 146 = .ok (.ireturn, 1) := by decide +kernel
theorem dX5_init_0 : decode cX5_init 0 = .ok (.aload_n 0, 1) := by decide +kernel
theorem dX5_init_1 : decode cX5_init 1 = .ok (.invokespecial 3, 3) := by decide +kernel
theorem dX5_init_4 : decode cX5_init 4 = .ok (.aload_n 0, 1) := by decide +kernel
theorem dX5_init_5 : decode cX5_init 5 = .ok (.bipush 12, 2) := by decide +kernel
theorem dX5_init_7 : decode cX5_init 7 = .ok (.newarray .int, 2) := by decide +kernel
theorem dX5_init_9 : decode cX5_init 9 = .ok (.putfield 9, 3) := by decide +kernel
theorem dX5_init_12 : decode cX5_init 12 = .ok (.aload_n 0, 1) := by decide +kernel
theorem dX5_init_13 : decode cX5_init 13 = .ok (.sipush 144, 3) := by decide +kernel
theorem dX5_init_16 : decode cX5_init 16 = .ok (.newarray .int, 2) := by decide +kernel
theorem dX5_init_18 : decode cX5_init 18 = .ok (.putfield 15, 3) := by decide +kernel
theorem dX5_init_21 : decode cX5_init 21 = .ok (.aload_n 0, 1) := by decide +kernel
theorem dX5_init_22 : decode cX5_init 22 = .ok (.aload_n 1, 1) := by decide +kernel
theorem dX5_init_23 : decode cX5_init 23 = .ok (.putfield 18, 3) := by decide +kernel
theorem dX5_init_26 : decode cX5_init 26 = .ok (.return_, 1) := by decide +kernel
theorem dX5_fewest_0 : decode cX5_fewest 0 = .ok (.aload_n 0, 1) := by decide +kernel
theorem dX5_fewest_1 : decode cX5_fewest 1 = .ok (.iload_n 2, 1) := by decide +kernel
theorem dX5_fewest_2 : decode cX5_fewest 2 = .ok (.putfield 22, 3) := by decide +kernel
theorem dX5_fewest_5 : decode cX5_fewest 5 = .ok (.aload_n 0, 1) := by decide +kernel
theorem dX5_fewest_6 : decode cX5_fewest 6 = .ok (.getfield 18, 3) := by decide +kernel
theorem dX5_fewest_9 : decode cX5_fewest 9 = .ok (.iload_n 1, 1) := by decide +kernel
theorem dX5_fewest_10 : decode cX5_fewest 10 = .ok (.aload_n 0, 1) := by decide +kernel
theorem dX5_fewest_11 : decode cX5_fewest 11 = .ok (.getfield 22, 3) := by decide +kernel
theorem dX5_fewest_14 : decode cX5_fewest 14 = .ok (.invokevirtual 26, 3) := by decide +kernel
theorem dX5_fewest_17 : decode cX5_fewest 17 = .ok (.ifCond .ne 11, 3) := by decide +kernel
theorem dX5_fewest_20 : decode cX5_fewest 20 = .ok (.aload_n 0, 1) := by decide +kernel
theorem dX5_fewest_21 : decode cX5_fewest 21 = .ok (.iload_n 1, 1) := by decide +kernel
theorem dX5_fewest_22 : decode cX5_fewest 22 = .ok (.invokevirtual 32, 3) := by decide +kernel
theorem dX5_fewest_25 : decode cX5_fewest 25 = .ok (.ifCond .ne 6, 3) := by decide +kernel
theorem dX5_fewest_28 : decode cX5_fewest 28 = .ok (.bipush (-2), 2) := by decide +kernel
theorem dX5_fewest_30 : decode cX5_fewest 30 = .ok (.ireturn, 1) := by decide +kernel
theorem dX5_fewest_31 : decode cX5_fewest 31 = .ok (.aload_n 0, 1) := by decide +kernel
theorem dX5_fewest_32 : decode cX5_fewest 32 = .ok (.iconst 0, 1) := by decide +kernel
theorem dX5_fewest_33 : decode cX5_fewest 33 = .ok (.putfield 36, 3) := by decide +kernel
theorem dX5_fewest_36 : decode cX5_fewest 36 = .ok (.aload_n 0, 1) := by decide +kernel
theorem dX5_fewest_37 : decode cX5_fewest 37 = .ok (.bipush 17, 2) := by decide +kernel
theorem dX5_fewest_39 : decode cX5_fewest 39 = .ok (.putfield 39, 3) := by decide +kernel
theorem dX5_fewest_42 : decode cX5_fewest 42 = .ok (.aload_n 0, 1) := by decide +kernel
theorem dX5_fewest_43 : decode cX5_fewest 43 = .ok (.iconst 0, 1) := by decide +kernel
theorem dX5_fewest_44 : decode cX5_fewest 44 = .ok (.iconst 0, 1) := by decide +kernel
theorem dX5_fewest_45 : decode cX5_fewest 45 = .ok (.iconst 0, 1) := by decide +kernel
theorem dX5_fewest_46 : decode cX5_fewest 46 = .ok (.invokevirtual 42, 3) := by decide +kernel
theorem dX5_fewest_49 : decode cX5_fewest 49 = .ok (.aload_n 0, 1) := by decide +kernel
theorem dX5_fewest_50 : decode cX5_fewest 50 = .ok (.getfield 36, 3) := by decide +kernel
theorem dX5_fewest_53 : decode cX5_fewest 53 = .ok (.ireturn, 1) := by decide +kernel
theorem dX5_noteWhoHolds_0 : decode cX5_noteWhoHolds 0 = .ok (.iconst 0, 1) := by decide +kernel
theorem dX5_noteWhoHolds_1 : decode cX5_noteWhoHolds 1 = .ok (.istore_n 2, 1) := by decide +kernel
theorem dX5_noteWhoHolds_2 : decode cX5_noteWhoHolds 2 = .ok (.iload_n 2, 1) := by decide +kernel
theorem dX5_noteWhoHolds_3 : decode cX5_noteWhoHolds 3 = .ok (.aload_n 0, 1) := by decide +kernel
theorem dX5_noteWhoHolds_4 : decode cX5_noteWhoHolds 4 = .ok (.getfield 18, 3) := by decide +kernel
theorem dX5_noteWhoHolds_7 : decode cX5_noteWhoHolds 7 = .ok (.getfield 46, 3) := by decide +kernel
theorem dX5_noteWhoHolds_10 : decode cX5_noteWhoHolds 10 = .ok (.if_icmp .ge 110, 3) := by decide +kernel
theorem dX5_noteWhoHolds_13 : decode cX5_noteWhoHolds 13 = .ok (.aload_n 0, 1) := by decide +kernel
theorem dX5_noteWhoHolds_14 : decode cX5_noteWhoHolds 14 = .ok (.getfield 9, 3) := by decide +kernel
theorem dX5_noteWhoHolds_17 : decode cX5_noteWhoHolds 17 = .ok (.iload_n 2, 1) := by decide +kernel
theorem dX5_noteWhoHolds_18 : decode cX5_noteWhoHolds 18 = .ok (.iconst 0, 1) := by decide +kernel
theorem dX5_noteWhoHolds_19 : decode cX5_noteWhoHolds 19 = .ok (.iastore, 1) := by decide +kernel
theorem dX5_noteWhoHolds_20 : decode cX5_noteWhoHolds 20 = .ok (.iconst 0, 1) := by decide +kernel
theorem dX5_noteWhoHolds_21 : decode cX5_noteWhoHolds 21 = .ok (.istore_n 3, 1) := by decide +kernel
theorem dX5_noteWhoHolds_22 : decode cX5_noteWhoHolds 22 = .ok (.iload_n 3, 1) := by decide +kernel
theorem dX5_noteWhoHolds_23 : decode cX5_noteWhoHolds 23 = .ok (.aload_n 0, 1) := by decide +kernel
theorem dX5_noteWhoHolds_24 : decode cX5_noteWhoHolds 24 = .ok (.getfield 18, 3) := by decide +kernel
theorem dX5_noteWhoHolds_27 : decode cX5_noteWhoHolds 27 = .ok (.getfield 46, 3) := by decide +kernel
theorem dX5_noteWhoHolds_30 : decode cX5_noteWhoHolds 30 = .ok (.if_icmp .ge 68, 3) := by decide +kernel
theorem dX5_noteWhoHolds_33 : decode cX5_noteWhoHolds 33 = .ok (.aload_n 0, 1) := by decide +kernel
theorem dX5_noteWhoHolds_34 : decode cX5_noteWhoHolds 34 = .ok (.getfield 18, 3) := by decide +kernel
theorem dX5_noteWhoHolds_37 : decode cX5_noteWhoHolds 37 = .ok (.iload_n 2, 1) := by decide +kernel
theorem dX5_noteWhoHolds_38 : decode cX5_noteWhoHolds 38 = .ok (.aload_n 0, 1) := by decide +kernel
theorem dX5_noteWhoHolds_39 : decode cX5_noteWhoHolds 39 = .ok (.getfield 22, 3) := by decide +kernel
theorem dX5_noteWhoHolds_42 : decode cX5_noteWhoHolds 42 = .ok (.invokevirtual 49, 3) := by decide +kernel
theorem dX5_noteWhoHolds_45 : decode cX5_noteWhoHolds 45 = .ok (.ifCond .eq 53, 3) := by decide +kernel
theorem dX5_noteWhoHolds_48 : decode cX5_noteWhoHolds 48 = .ok (.aload_n 0, 1) := by decide +kernel
theorem dX5_noteWhoHolds_49 : decode cX5_noteWhoHolds 49 = .ok (.getfield 18, 3) := by decide +kernel
theorem dX5_noteWhoHolds_52 : decode cX5_noteWhoHolds 52 = .ok (.iload_n 3, 1) := by decide +kernel
theorem dX5_noteWhoHolds_53 : decode cX5_noteWhoHolds 53 = .ok (.iload_n 1, 1) := by decide +kernel
theorem dX5_noteWhoHolds_54 : decode cX5_noteWhoHolds 54 = .ok (.aload_n 0, 1) := by decide +kernel
theorem dX5_noteWhoHolds_55 : decode cX5_noteWhoHolds 55 = .ok (.getfield 22, 3) := by decide +kernel
theorem dX5_noteWhoHolds_58 : decode cX5_noteWhoHolds 58 = .ok (.invokevirtual 52, 3) := by decide +kernel
theorem dX5_noteWhoHolds_61 : decode cX5_noteWhoHolds 61 = .ok (.ifCond .eq 31, 3) := by decide +kernel
theorem dX5_noteWhoHolds_64 : decode cX5_noteWhoHolds 64 = .ok (.aload_n 0, 1) := by decide +kernel
theorem dX5_noteWhoHolds_65 : decode cX5_noteWhoHolds 65 = .ok (.getfield 18, 3) := by decide +kernel
theorem dX5_noteWhoHolds_68 : decode cX5_noteWhoHolds 68 = .ok (.iload_n 2, 1) := by decide +kernel
theorem dX5_noteWhoHolds_69 : decode cX5_noteWhoHolds 69 = .ok (.iload_n 3, 1) := by decide +kernel
theorem dX5_noteWhoHolds_70 : decode cX5_noteWhoHolds 70 = .ok (.aload_n 0, 1) := by decide +kernel
theorem dX5_noteWhoHolds_71 : decode cX5_noteWhoHolds 71 = .ok (.getfield 22, 3) := by decide +kernel
theorem dX5_noteWhoHolds_74 : decode cX5_noteWhoHolds 74 = .ok (.invokevirtual 56, 3) := by decide +kernel
theorem dX5_noteWhoHolds_77 : decode cX5_noteWhoHolds 77 = .ok (.ifCond .eq 15, 3) := by decide +kernel
theorem dX5_noteWhoHolds_80 : decode cX5_noteWhoHolds 80 = .ok (.aload_n 0, 1) := by decide +kernel
theorem dX5_noteWhoHolds_81 : decode cX5_noteWhoHolds 81 = .ok (.getfield 9, 3) := by decide +kernel
theorem dX5_noteWhoHolds_84 : decode cX5_noteWhoHolds 84 = .ok (.iload_n 2, 1) := by decide +kernel
theorem dX5_noteWhoHolds_85 : decode cX5_noteWhoHolds 85 = .ok (.dup2, 1) := by decide +kernel
theorem dX5_noteWhoHolds_86 : decode cX5_noteWhoHolds 86 = .ok (.iaload, 1) := by decide +kernel
theorem dX5_noteWhoHolds_87 : decode cX5_noteWhoHolds 87 = .ok (.iconst 1, 1) := by decide +kernel
theorem dX5_noteWhoHolds_88 : decode cX5_noteWhoHolds 88 = .ok (.iload_n 3, 1) := by decide +kernel
theorem dX5_noteWhoHolds_89 : decode cX5_noteWhoHolds 89 = .ok (.ishl, 1) := by decide +kernel
theorem dX5_noteWhoHolds_90 : decode cX5_noteWhoHolds 90 = .ok (.ior, 1) := by decide +kernel
theorem dX5_noteWhoHolds_91 : decode cX5_noteWhoHolds 91 = .ok (.iastore, 1) := by decide +kernel
theorem dX5_noteWhoHolds_92 : decode cX5_noteWhoHolds 92 = .ok (.iinc 3 1, 3) := by decide +kernel
theorem dX5_noteWhoHolds_95 : decode cX5_noteWhoHolds 95 = .ok (.goto (-73), 3) := by decide +kernel
theorem dX5_noteWhoHolds_98 : decode cX5_noteWhoHolds 98 = .ok (.aload_n 0, 1) := by decide +kernel
theorem dX5_noteWhoHolds_99 : decode cX5_noteWhoHolds 99 = .ok (.getfield 9, 3) := by decide +kernel
theorem dX5_noteWhoHolds_102 : decode cX5_noteWhoHolds 102 = .ok (.iload_n 2, 1) := by decide +kernel
theorem dX5_noteWhoHolds_103 : decode cX5_noteWhoHolds 103 = .ok (.iaload, 1) := by decide +kernel
theorem dX5_noteWhoHolds_104 : decode cX5_noteWhoHolds 104 = .ok (.iload_n 2, 1) := by decide +kernel
theorem dX5_noteWhoHolds_105 : decode cX5_noteWhoHolds 105 = .ok (.ishr, 1) := by decide +kernel
theorem dX5_noteWhoHolds_106 : decode cX5_noteWhoHolds 106 = .ok (.iconst 1, 1) := by decide +kernel
theorem dX5_noteWhoHolds_107 : decode cX5_noteWhoHolds 107 = .ok (.iand, 1) := by decide +kernel
theorem dX5_noteWhoHolds_108 : decode cX5_noteWhoHolds 108 = .ok (.iconst 1, 1) := by decide +kernel
theorem dX5_noteWhoHolds_109 : decode cX5_noteWhoHolds 109 = .ok (.if_icmp .ne 5, 3) := by decide +kernel
theorem dX5_noteWhoHolds_112 : decode cX5_noteWhoHolds 112 = .ok (.iconst 0, 1) := by decide +kernel
theorem dX5_noteWhoHolds_113 : decode cX5_noteWhoHolds 113 = .ok (.ireturn, 1) := by decide +kernel
theorem dX5_noteWhoHolds_114 : decode cX5_noteWhoHolds 114 = .ok (.iinc 2 1, 3) := by decide +kernel
theorem dX5_noteWhoHolds_117 : decode cX5_noteWhoHolds 117 = .ok (.goto (-115), 3) := by decide +kernel
theorem dX5_noteWhoHolds_120 : decode cX5_noteWhoHolds 120 = .ok (.iconst 1, 1) := by decide +kernel
theorem dX5_noteWhoHolds_121 : decode cX5_noteWhoHolds 121 = .ok (.ireturn, 1) := by decide +kernel
theorem dX5_seek_0 : decode cX5_seek 0 = .ok (.aload_n 0, 1) := by decide +kernel
theorem dX5_seek_1 : decode cX5_seek 1 = .ok (.iload_n 1, 1) := by decide +kernel
theorem dX5_seek_2 : decode cX5_seek 2 = .ok (.invokevirtual 59, 3) := by decide +kernel
theorem dX5_seek_5 : decode cX5_seek 5 = .ok (.istore 4, 2) := by decide +kernel
theorem dX5_seek_7 : decode cX5_seek 7 = .ok (.iload 4, 2) := by decide +kernel
theorem dX5_seek_9 : decode cX5_seek 9 = .ok (.ifCond .ne 30, 3) := by decide +kernel
theorem dX5_seek_12 : decode cX5_seek 12 = .ok (.iload_n 3, 1) := by decide +kernel
theorem dX5_seek_13 : decode cX5_seek 13 = .ok (.aload_n 0, 1) := by decide +kernel
theorem dX5_seek_14 : decode cX5_seek 14 = .ok (.getfield 39, 3) := by decide +kernel
theorem dX5_seek_17 : decode cX5_seek 17 = .ok (.if_icmp .lt 11, 3) := by decide +kernel
theorem dX5_seek_20 : decode cX5_seek 20 = .ok (.iload_n 1, 1) := by decide +kernel
theorem dX5_seek_21 : decode cX5_seek 21 = .ok (.aload_n 0, 1) := by decide +kernel
theorem dX5_seek_22 : decode cX5_seek 22 = .ok (.getfield 36, 3) := by decide +kernel
theorem dX5_seek_25 : decode cX5_seek 25 = .ok (.if_icmp .ge 13, 3) := by decide +kernel
theorem dX5_seek_28 : decode cX5_seek 28 = .ok (.aload_n 0, 1) := by decide +kernel
theorem dX5_seek_29 : decode cX5_seek 29 = .ok (.iload_n 1, 1) := by decide +kernel
theorem dX5_seek_30 : decode cX5_seek 30 = .ok (.putfield 36, 3) := by decide +kernel
theorem dX5_seek_33 : decode cX5_seek 33 = .ok (.aload_n 0, 1) := by decide +kernel
theorem dX5_seek_34 : decode cX5_seek 34 = .ok (.iload_n 3, 1) := by decide +kernel
theorem dX5_seek_35 : decode cX5_seek 35 = .ok (.putfield 39, 3) := by decide +kernel
theorem dX5_seek_38 : decode cX5_seek 38 = .ok (.return_, 1) := by decide +kernel
theorem dX5_seek_39 : decode cX5_seek 39 = .ok (.iload_n 2, 1) := by decide +kernel
theorem dX5_seek_40 : decode cX5_seek 40 = .ok (.istore 5, 2) := by decide +kernel
theorem dX5_seek_42 : decode cX5_seek 42 = .ok (.iconst 0, 1) := by decide +kernel
theorem dX5_seek_43 : decode cX5_seek 43 = .ok (.istore 6, 2) := by decide +kernel
theorem dX5_seek_45 : decode cX5_seek 45 = .ok (.iload 6, 2) := by decide +kernel
theorem dX5_seek_47 : decode cX5_seek 47 = .ok (.bipush 16, 2) := by decide +kernel
theorem dX5_seek_49 : decode cX5_seek 49 = .ok (.if_icmp .ge 77, 3) := by decide +kernel
theorem dX5_seek_52 : decode cX5_seek 52 = .ok (.iload_n 3, 1) := by decide +kernel
theorem dX5_seek_53 : decode cX5_seek 53 = .ok (.aload_n 0, 1) := by decide +kernel
theorem dX5_seek_54 : decode cX5_seek 54 = .ok (.getfield 39, 3) := by decide +kernel
theorem dX5_seek_57 : decode cX5_seek 57 = .ok (.if_icmp .ge 69, 3) := by decide +kernel
theorem dX5_seek_60 : decode cX5_seek 60 = .ok (.iload_n 3, 1) := by decide +kernel
theorem dX5_seek_61 : decode cX5_seek 61 = .ok (.bipush 16, 2) := by decide +kernel
theorem dX5_seek_63 : decode cX5_seek 63 = .ok (.if_icmp .ge 63, 3) := by decide +kernel
theorem dX5_seek_66 : decode cX5_seek 66 = .ok (.iload 4, 2) := by decide +kernel
theorem dX5_seek_68 : decode cX5_seek 68 = .ok (.iload 5, 2) := by decide +kernel
theorem dX5_seek_70 : decode cX5_seek 70 = .ok (.iconst (-1), 1) := by decide +kernel
theorem dX5_seek_71 : decode cX5_seek 71 = .ok (.ixor, 1) := by decide +kernel
theorem dX5_seek_72 : decode cX5_seek 72 = .ok (.iand, 1) := by decide +kernel
theorem dX5_seek_73 : decode cX5_seek 73 = .ok (.iload 6, 2) := by decide +kernel
theorem dX5_seek_75 : decode cX5_seek 75 = .ok (.ishr, 1) := by decide +kernel
theorem dX5_seek_76 : decode cX5_seek 76 = .ok (.ifCond .ne 4, 3) := by decide +kernel
theorem dX5_seek_79 : decode cX5_seek 79 = .ok (.return_, 1) := by decide +kernel
theorem dX5_seek_80 : decode cX5_seek 80 = .ok (.iload 4, 2) := by decide +kernel
theorem dX5_seek_82 : decode cX5_seek 82 = .ok (.iload 5, 2) := by decide +kernel
theorem dX5_seek_84 : decode cX5_seek 84 = .ok (.iconst (-1), 1) := by decide +kernel
theorem dX5_seek_85 : decode cX5_seek 85 = .ok (.ixor, 1) := by decide +kernel
theorem dX5_seek_86 : decode cX5_seek 86 = .ok (.iand, 1) := by decide +kernel
theorem dX5_seek_87 : decode cX5_seek 87 = .ok (.iload 6, 2) := by decide +kernel
theorem dX5_seek_89 : decode cX5_seek 89 = .ok (.ishr, 1) := by decide +kernel
theorem dX5_seek_90 : decode cX5_seek 90 = .ok (.iconst 1, 1) := by decide +kernel
theorem dX5_seek_91 : decode cX5_seek 91 = .ok (.iand, 1) := by decide +kernel
theorem dX5_seek_92 : decode cX5_seek 92 = .ok (.iconst 1, 1) := by decide +kernel
theorem dX5_seek_93 : decode cX5_seek 93 = .ok (.if_icmp .ne 27, 3) := by decide +kernel
theorem dX5_seek_96 : decode cX5_seek 96 = .ok (.aload_n 0, 1) := by decide +kernel
theorem dX5_seek_97 : decode cX5_seek 97 = .ok (.iload_n 1, 1) := by decide +kernel
theorem dX5_seek_98 : decode cX5_seek 98 = .ok (.iconst 1, 1) := by decide +kernel
theorem dX5_seek_99 : decode cX5_seek 99 = .ok (.iload 6, 2) := by decide +kernel
theorem dX5_seek_101 : decode cX5_seek 101 = .ok (.ishl, 1) := by decide +kernel
theorem dX5_seek_102 : decode cX5_seek 102 = .ok (.ior, 1) := by decide +kernel
theorem dX5_seek_103 : decode cX5_seek 103 = .ok (.iload 5, 2) := by decide +kernel
theorem dX5_seek_105 : decode cX5_seek 105 = .ok (.iload_n 3, 1) := by decide +kernel
theorem dX5_seek_106 : decode cX5_seek 106 = .ok (.iconst 1, 1) := by decide +kernel
theorem dX5_seek_107 : decode cX5_seek 107 = .ok (.iadd, 1) := by decide +kernel
theorem dX5_seek_108 : decode cX5_seek 108 = .ok (.invokevirtual 42, 3) := by decide +kernel
theorem dX5_seek_111 : decode cX5_seek 111 = .ok (.iload 5, 2) := by decide +kernel
theorem dX5_seek_113 : decode cX5_seek 113 = .ok (.iconst 1, 1) := by decide +kernel
theorem dX5_seek_114 : decode cX5_seek 114 = .ok (.iload 6, 2) := by decide +kernel
theorem dX5_seek_116 : decode cX5_seek 116 = .ok (.ishl, 1) := by decide +kernel
theorem dX5_seek_117 : decode cX5_seek 117 = .ok (.ior, 1) := by decide +kernel
theorem dX5_seek_118 : decode cX5_seek 118 = .ok (.istore 5, 2) := by decide +kernel
theorem dX5_seek_120 : decode cX5_seek 120 = .ok (.iinc 6 1, 3) := by decide +kernel
theorem dX5_seek_123 : decode cX5_seek 123 = .ok (.goto (-78), 3) := by decide +kernel
theorem dX5_seek_126 : decode cX5_seek 126 = .ok (.return_, 1) := by decide +kernel
theorem dX5_chainWithout_0 : decode cX5_chainWithout 0 = .ok (.aload_n 0, 1) := by decide +kernel
theorem dX5_chainWithout_1 : decode cX5_chainWithout 1 = .ok (.getfield 18, 3) := by decide +kernel
theorem dX5_chainWithout_4 : decode cX5_chainWithout 4 = .ok (.invokevirtual 63, 3) := by decide +kernel
theorem dX5_chainWithout_7 : decode cX5_chainWithout 7 = .ok (.iconst 0, 1) := by decide +kernel
theorem dX5_chainWithout_8 : decode cX5_chainWithout 8 = .ok (.istore_n 2, 1) := by decide +kernel
theorem dX5_chainWithout_9 : decode cX5_chainWithout 9 = .ok (.iload_n 2, 1) := by decide +kernel
theorem dX5_chainWithout_10 : decode cX5_chainWithout 10 = .ok (.aload_n 0, 1) := by decide +kernel
theorem dX5_chainWithout_11 : decode cX5_chainWithout 11 = .ok (.getfield 18, 3) := by decide +kernel
theorem dX5_chainWithout_14 : decode cX5_chainWithout 14 = .ok (.getfield 66, 3) := by decide +kernel
theorem dX5_chainWithout_17 : decode cX5_chainWithout 17 = .ok (.if_icmp .ge 47, 3) := by decide +kernel
theorem dX5_chainWithout_20 : decode cX5_chainWithout 20 = .ok (.aload_n 0, 1) := by decide +kernel
theorem dX5_chainWithout_21 : decode cX5_chainWithout 21 = .ok (.getfield 18, 3) := by decide +kernel
theorem dX5_chainWithout_24 : decode cX5_chainWithout 24 = .ok (.getfield 69, 3) := by decide +kernel
theorem dX5_chainWithout_27 : decode cX5_chainWithout 27 = .ok (.iload_n 2, 1) := by decide +kernel
theorem dX5_chainWithout_28 : decode cX5_chainWithout 28 = .ok (.iaload, 1) := by decide +kernel
theorem dX5_chainWithout_29 : decode cX5_chainWithout 29 = .ok (.istore_n 3, 1) := by decide +kernel
theorem dX5_chainWithout_30 : decode cX5_chainWithout 30 = .ok (.iload_n 1, 1) := by decide +kernel
theorem dX5_chainWithout_31 : decode cX5_chainWithout 31 = .ok (.iload_n 3, 1) := by decide +kernel
theorem dX5_chainWithout_32 : decode cX5_chainWithout 32 = .ok (.ishr, 1) := by decide +kernel
theorem dX5_chainWithout_33 : decode cX5_chainWithout 33 = .ok (.iconst 1, 1) := by decide +kernel
theorem dX5_chainWithout_34 : decode cX5_chainWithout 34 = .ok (.iand, 1) := by decide +kernel
theorem dX5_chainWithout_35 : decode cX5_chainWithout 35 = .ok (.ifCond .ne 23, 3) := by decide +kernel
theorem dX5_chainWithout_38 : decode cX5_chainWithout 38 = .ok (.aload_n 0, 1) := by decide +kernel
theorem dX5_chainWithout_39 : decode cX5_chainWithout 39 = .ok (.getfield 18, 3) := by decide +kernel
theorem dX5_chainWithout_42 : decode cX5_chainWithout 42 = .ok (.iload_n 3, 1) := by decide +kernel
theorem dX5_chainWithout_43 : decode cX5_chainWithout 43 = .ok (.aload_n 0, 1) := by decide +kernel
theorem dX5_chainWithout_44 : decode cX5_chainWithout 44 = .ok (.getfield 22, 3) := by decide +kernel
theorem dX5_chainWithout_47 : decode cX5_chainWithout 47 = .ok (.invokevirtual 72, 3) := by decide +kernel
theorem dX5_chainWithout_50 : decode cX5_chainWithout 50 = .ok (.ifCond .eq 8, 3) := by decide +kernel
theorem dX5_chainWithout_53 : decode cX5_chainWithout 53 = .ok (.aload_n 0, 1) := by decide +kernel
theorem dX5_chainWithout_54 : decode cX5_chainWithout 54 = .ok (.iload_n 3, 1) := by decide +kernel
theorem dX5_chainWithout_55 : decode cX5_chainWithout 55 = .ok (.invokevirtual 75, 3) := by decide +kernel
theorem dX5_chainWithout_58 : decode cX5_chainWithout 58 = .ok (.iinc 2 1, 3) := by decide +kernel
theorem dX5_chainWithout_61 : decode cX5_chainWithout 61 = .ok (.goto (-52), 3) := by decide +kernel
theorem dX5_chainWithout_64 : decode cX5_chainWithout 64 = .ok (.iconst 0, 1) := by decide +kernel
theorem dX5_chainWithout_65 : decode cX5_chainWithout 65 = .ok (.istore_n 2, 1) := by decide +kernel
theorem dX5_chainWithout_66 : decode cX5_chainWithout 66 = .ok (.iload_n 2, 1) := by decide +kernel
theorem dX5_chainWithout_67 : decode cX5_chainWithout 67 = .ok (.aload_n 0, 1) := by decide +kernel
theorem dX5_chainWithout_68 : decode cX5_chainWithout 68 = .ok (.getfield 18, 3) := by decide +kernel
theorem dX5_chainWithout_71 : decode cX5_chainWithout 71 = .ok (.getfield 46, 3) := by decide +kernel
theorem dX5_chainWithout_74 : decode cX5_chainWithout 74 = .ok (.if_icmp .ge 69, 3) := by decide +kernel
theorem dX5_chainWithout_77 : decode cX5_chainWithout 77 = .ok (.aload_n 0, 1) := by decide +kernel
theorem dX5_chainWithout_78 : decode cX5_chainWithout 78 = .ok (.getfield 18, 3) := by decide +kernel
theorem dX5_chainWithout_81 : decode cX5_chainWithout 81 = .ok (.getfield 79, 3) := by decide +kernel
theorem dX5_chainWithout_84 : decode cX5_chainWithout 84 = .ok (.iload_n 2, 1) := by decide +kernel
theorem dX5_chainWithout_85 : decode cX5_chainWithout 85 = .ok (.iaload, 1) := by decide +kernel
theorem dX5_chainWithout_86 : decode cX5_chainWithout 86 = .ok (.aload_n 0, 1) := by decide +kernel
theorem dX5_chainWithout_87 : decode cX5_chainWithout 87 = .ok (.getfield 9, 3) := by decide +kernel
theorem dX5_chainWithout_90 : decode cX5_chainWithout 90 = .ok (.iload_n 2, 1) := by decide +kernel
theorem dX5_chainWithout_91 : decode cX5_chainWithout 91 = .ok (.iaload, 1) := by decide +kernel
theorem dX5_chainWithout_92 : decode cX5_chainWithout 92 = .ok (.iand, 1) := by decide +kernel
theorem dX5_chainWithout_93 : decode cX5_chainWithout 93 = .ok (.istore_n 3, 1) := by decide +kernel
theorem dX5_chainWithout_94 : decode cX5_chainWithout 94 = .ok (.iconst 0, 1) := by decide +kernel
theorem dX5_chainWithout_95 : decode cX5_chainWithout 95 = .ok (.istore 4, 2) := by decide +kernel
theorem dX5_chainWithout_97 : decode cX5_chainWithout 97 = .ok (.iload 4, 2) := by decide +kernel
theorem dX5_chainWithout_99 : decode cX5_chainWithout 99 = .ok (.aload_n 0, 1) := by decide +kernel
theorem dX5_chainWithout_100 : decode cX5_chainWithout 100 = .ok (.getfield 18, 3) := by decide +kernel
theorem dX5_chainWithout_103 : decode cX5_chainWithout 103 = .ok (.getfield 46, 3) := by decide +kernel
theorem dX5_chainWithout_106 : decode cX5_chainWithout 106 = .ok (.if_icmp .ge 31, 3) := by decide +kernel
theorem dX5_chainWithout_109 : decode cX5_chainWithout 109 = .ok (.iload_n 3, 1) := by decide +kernel
theorem dX5_chainWithout_110 : decode cX5_chainWithout 110 = .ok (.ifCond .eq 27, 3) := by decide +kernel
theorem dX5_chainWithout_113 : decode cX5_chainWithout 113 = .ok (.iload_n 3, 1) := by decide +kernel
theorem dX5_chainWithout_114 : decode cX5_chainWithout 114 = .ok (.iload 4, 2) := by decide +kernel
theorem dX5_chainWithout_116 : decode cX5_chainWithout 116 = .ok (.ishr, 1) := by decide +kernel
theorem dX5_chainWithout_117 : decode cX5_chainWithout 117 = .ok (.iconst 1, 1) := by decide +kernel
theorem dX5_chainWithout_118 : decode cX5_chainWithout 118 = .ok (.iand, 1) := by decide +kernel
theorem dX5_chainWithout_119 : decode cX5_chainWithout 119 = .ok (.iconst 1, 1) := by decide +kernel
theorem dX5_chainWithout_120 : decode cX5_chainWithout 120 = .ok (.if_icmp .ne 11, 3) := by decide +kernel
theorem dX5_chainWithout_123 : decode cX5_chainWithout 123 = .ok (.aload_n 0, 1) := by decide +kernel
theorem dX5_chainWithout_124 : decode cX5_chainWithout 124 = .ok (.iload_n 2, 1) := by decide +kernel
theorem dX5_chainWithout_125 : decode cX5_chainWithout 125 = .ok (.iload 4, 2) := by decide +kernel
theorem dX5_chainWithout_127 : decode cX5_chainWithout 127 = .ok (.invokevirtual 82, 3) := by decide +kernel
theorem dX5_chainWithout_130 : decode cX5_chainWithout 130 = .ok (.ireturn, 1) := by decide +kernel
theorem dX5_chainWithout_131 : decode cX5_chainWithout 131 = .ok (.iinc 4 1, 3) := by decide +kernel
theorem dX5_chainWithout_134 : decode cX5_chainWithout 134 = .ok (.goto (-37), 3) := by decide +kernel
theorem dX5_chainWithout_137 : decode cX5_chainWithout 137 = .ok (.iinc 2 1, 3) := by decide +kernel
theorem dX5_chainWithout_140 : decode cX5_chainWithout 140 = .ok (.goto (-74), 3) := by decide +kernel
theorem dX5_chainWithout_143 : decode cX5_chainWithout 143 = .ok (.iconst 0, 1) := by decide +kernel
theorem dX5_chainWithout_144 : decode cX5_chainWithout 144 = .ok (.ireturn, 1) := by decide +kernel
theorem dX5_greetAndNote_0 : decode cX5_greetAndNote 0 = .ok (.aload_n 0, 1) := by decide +kernel
theorem dX5_greetAndNote_1 : decode cX5_greetAndNote 1 = .ok (.getfield 18, 3) := by decide +kernel
theorem dX5_greetAndNote_4 : decode cX5_greetAndNote 4 = .ok (.getfield 86, 3) := by decide +kernel
theorem dX5_greetAndNote_7 : decode cX5_greetAndNote 7 = .ok (.iload_n 1, 1) := by decide +kernel
theorem dX5_greetAndNote_8 : decode cX5_greetAndNote 8 = .ok (.iaload, 1) := by decide +kernel
theorem dX5_greetAndNote_9 : decode cX5_greetAndNote 9 = .ok (.istore_n 2, 1) := by decide +kernel
theorem dX5_greetAndNote_10 : decode cX5_greetAndNote 10 = .ok (.aload_n 0, 1) := by decide +kernel
theorem dX5_greetAndNote_11 : decode cX5_greetAndNote 11 = .ok (.getfield 18, 3) := by decide +kernel
theorem dX5_greetAndNote_14 : decode cX5_greetAndNote 14 = .ok (.getfield 89, 3) := by decide +kernel
theorem dX5_greetAndNote_17 : decode cX5_greetAndNote 17 = .ok (.iload_n 1, 1) := by decide +kernel
theorem dX5_greetAndNote_18 : decode cX5_greetAndNote 18 = .ok (.iaload, 1) := by decide +kernel
theorem dX5_greetAndNote_19 : decode cX5_greetAndNote 19 = .ok (.istore_n 3, 1) := by decide +kernel
theorem dX5_greetAndNote_20 : decode cX5_greetAndNote 20 = .ok (.aload_n 0, 1) := by decide +kernel
theorem dX5_greetAndNote_21 : decode cX5_greetAndNote 21 = .ok (.getfield 18, 3) := by decide +kernel
theorem dX5_greetAndNote_24 : decode cX5_greetAndNote 24 = .ok (.getfield 79, 3) := by decide +kernel
theorem dX5_greetAndNote_27 : decode cX5_greetAndNote 27 = .ok (.iload_n 2, 1) := by decide +kernel
theorem dX5_greetAndNote_28 : decode cX5_greetAndNote 28 = .ok (.iaload, 1) := by decide +kernel
theorem dX5_greetAndNote_29 : decode cX5_greetAndNote 29 = .ok (.istore 4, 2) := by decide +kernel
theorem dX5_greetAndNote_31 : decode cX5_greetAndNote 31 = .ok (.aload_n 0, 1) := by decide +kernel
theorem dX5_greetAndNote_32 : decode cX5_greetAndNote 32 = .ok (.getfield 18, 3) := by decide +kernel
theorem dX5_greetAndNote_35 : decode cX5_greetAndNote 35 = .ok (.getfield 79, 3) := by decide +kernel
theorem dX5_greetAndNote_38 : decode cX5_greetAndNote 38 = .ok (.iload_n 3, 1) := by decide +kernel
theorem dX5_greetAndNote_39 : decode cX5_greetAndNote 39 = .ok (.iaload, 1) := by decide +kernel
theorem dX5_greetAndNote_40 : decode cX5_greetAndNote 40 = .ok (.istore 5, 2) := by decide +kernel
theorem dX5_greetAndNote_42 : decode cX5_greetAndNote 42 = .ok (.aload_n 0, 1) := by decide +kernel
theorem dX5_greetAndNote_43 : decode cX5_greetAndNote 43 = .ok (.getfield 18, 3) := by decide +kernel
theorem dX5_greetAndNote_46 : decode cX5_greetAndNote 46 = .ok (.iload_n 1, 1) := by decide +kernel
theorem dX5_greetAndNote_47 : decode cX5_greetAndNote 47 = .ok (.invokevirtual 92, 3) := by decide +kernel
theorem dX5_greetAndNote_50 : decode cX5_greetAndNote 50 = .ok (.aload_n 0, 1) := by decide +kernel
theorem dX5_greetAndNote_51 : decode cX5_greetAndNote 51 = .ok (.iload_n 2, 1) := by decide +kernel
theorem dX5_greetAndNote_52 : decode cX5_greetAndNote 52 = .ok (.aload_n 0, 1) := by decide +kernel
theorem dX5_greetAndNote_53 : decode cX5_greetAndNote 53 = .ok (.getfield 18, 3) := by decide +kernel
theorem dX5_greetAndNote_56 : decode cX5_greetAndNote 56 = .ok (.getfield 79, 3) := by decide +kernel
theorem dX5_greetAndNote_59 : decode cX5_greetAndNote 59 = .ok (.iload_n 2, 1) := by decide +kernel
theorem dX5_greetAndNote_60 : decode cX5_greetAndNote 60 = .ok (.iaload, 1) := by decide +kernel
theorem dX5_greetAndNote_61 : decode cX5_greetAndNote 61 = .ok (.iload 4, 2) := by decide +kernel
theorem dX5_greetAndNote_63 : decode cX5_greetAndNote 63 = .ok (.iconst (-1), 1) := by decide +kernel
theorem dX5_greetAndNote_64 : decode cX5_greetAndNote 64 = .ok (.ixor, 1) := by decide +kernel
theorem dX5_greetAndNote_65 : decode cX5_greetAndNote 65 = .ok (.iand, 1) := by decide +kernel
theorem dX5_greetAndNote_66 : decode cX5_greetAndNote 66 = .ok (.iload_n 1, 1) := by decide +kernel
theorem dX5_greetAndNote_67 : decode cX5_greetAndNote 67 = .ok (.invokevirtual 95, 3) := by decide +kernel
theorem dX5_greetAndNote_70 : decode cX5_greetAndNote 70 = .ok (.aload_n 0, 1) := by decide +kernel
theorem dX5_greetAndNote_71 : decode cX5_greetAndNote 71 = .ok (.iload_n 3, 1) := by decide +kernel
theorem dX5_greetAndNote_72 : decode cX5_greetAndNote 72 = .ok (.aload_n 0, 1) := by decide +kernel
theorem dX5_greetAndNote_73 : decode cX5_greetAndNote 73 = .ok (.getfield 18, 3) := by decide +kernel
theorem dX5_greetAndNote_76 : decode cX5_greetAndNote 76 = .ok (.getfield 79, 3) := by decide +kernel
theorem dX5_greetAndNote_79 : decode cX5_greetAndNote 79 = .ok (.iload_n 3, 1) := by decide +kernel
theorem dX5_greetAndNote_80 : decode cX5_greetAndNote 80 = .ok (.iaload, 1) := by decide +kernel
theorem dX5_greetAndNote_81 : decode cX5_greetAndNote 81 = .ok (.iload 5, 2) := by decide +kernel
theorem dX5_greetAndNote_83 : decode cX5_greetAndNote 83 = .ok (.iconst (-1), 1) := by decide +kernel
theorem dX5_greetAndNote_84 : decode cX5_greetAndNote 84 = .ok (.ixor, 1) := by decide +kernel
theorem dX5_greetAndNote_85 : decode cX5_greetAndNote 85 = .ok (.iand, 1) := by decide +kernel
theorem dX5_greetAndNote_86 : decode cX5_greetAndNote 86 = .ok (.iload_n 1, 1) := by decide +kernel
theorem dX5_greetAndNote_87 : decode cX5_greetAndNote 87 = .ok (.invokevirtual 95, 3) := by decide +kernel
theorem dX5_greetAndNote_90 : decode cX5_greetAndNote 90 = .ok (.return_, 1) := by decide +kernel
theorem dX5_noteLearnt_0 : decode cX5_noteLearnt 0 = .ok (.iconst 0, 1) := by decide +kernel
theorem dX5_noteLearnt_1 : decode cX5_noteLearnt 1 = .ok (.istore 4, 2) := by decide +kernel
theorem dX5_noteLearnt_3 : decode cX5_noteLearnt 3 = .ok (.iload 4, 2) := by decide +kernel
theorem dX5_noteLearnt_5 : decode cX5_noteLearnt 5 = .ok (.bipush 12, 2) := by decide +kernel
theorem dX5_noteLearnt_7 : decode cX5_noteLearnt 7 = .ok (.if_icmp .ge 39, 3) := by decide +kernel
theorem dX5_noteLearnt_10 : decode cX5_noteLearnt 10 = .ok (.iload_n 2, 1) := by decide +kernel
theorem dX5_noteLearnt_11 : decode cX5_noteLearnt 11 = .ok (.iload 4, 2) := by decide +kernel
theorem dX5_noteLearnt_13 : decode cX5_noteLearnt 13 = .ok (.ishr, 1) := by decide +kernel
theorem dX5_noteLearnt_14 : decode cX5_noteLearnt 14 = .ok (.ifCond .eq 32, 3) := by decide +kernel
theorem dX5_noteLearnt_17 : decode cX5_noteLearnt 17 = .ok (.iload_n 2, 1) := by decide +kernel
theorem dX5_noteLearnt_18 : decode cX5_noteLearnt 18 = .ok (.iload 4, 2) := by decide +kernel
theorem dX5_noteLearnt_20 : decode cX5_noteLearnt 20 = .ok (.ishr, 1) := by decide +kernel
theorem dX5_noteLearnt_21 : decode cX5_noteLearnt 21 = .ok (.iconst 1, 1) := by decide +kernel
theorem dX5_noteLearnt_22 : decode cX5_noteLearnt 22 = .ok (.iand, 1) := by decide +kernel
theorem dX5_noteLearnt_23 : decode cX5_noteLearnt 23 = .ok (.iconst 1, 1) := by decide +kernel
theorem dX5_noteLearnt_24 : decode cX5_noteLearnt 24 = .ok (.if_icmp .ne 16, 3) := by decide +kernel
theorem dX5_noteLearnt_27 : decode cX5_noteLearnt 27 = .ok (.aload_n 0, 1) := by decide +kernel
theorem dX5_noteLearnt_28 : decode cX5_noteLearnt 28 = .ok (.getfield 15, 3) := by decide +kernel
theorem dX5_noteLearnt_31 : decode cX5_noteLearnt 31 = .ok (.iload_n 1, 1) := by decide +kernel
theorem dX5_noteLearnt_32 : decode cX5_noteLearnt 32 = .ok (.bipush 12, 2) := by decide +kernel
theorem dX5_noteLearnt_34 : decode cX5_noteLearnt 34 = .ok (.imul, 1) := by decide +kernel
theorem dX5_noteLearnt_35 : decode cX5_noteLearnt 35 = .ok (.iload 4, 2) := by decide +kernel
theorem dX5_noteLearnt_37 : decode cX5_noteLearnt 37 = .ok (.iadd, 1) := by decide +kernel
theorem dX5_noteLearnt_38 : decode cX5_noteLearnt 38 = .ok (.iload_n 3, 1) := by decide +kernel
theorem dX5_noteLearnt_39 : decode cX5_noteLearnt 39 = .ok (.iastore, 1) := by decide +kernel
theorem dX5_noteLearnt_40 : decode cX5_noteLearnt 40 = .ok (.iinc 4 1, 3) := by decide +kernel
theorem dX5_noteLearnt_43 : decode cX5_noteLearnt 43 = .ok (.goto (-40), 3) := by decide +kernel
theorem dX5_noteLearnt_46 : decode cX5_noteLearnt 46 = .ok (.return_, 1) := by decide +kernel
theorem dX5_chainOf_0 : decode cX5_chainOf 0 = .ok (.iconst 0, 1) := by decide +kernel
theorem dX5_chainOf_1 : decode cX5_chainOf 1 = .ok (.istore_n 3, 1) := by decide +kernel
theorem dX5_chainOf_2 : decode cX5_chainOf 2 = .ok (.iload_n 1, 1) := by decide +kernel
theorem dX5_chainOf_3 : decode cX5_chainOf 3 = .ok (.istore 4, 2) := by decide +kernel
theorem dX5_chainOf_5 : decode cX5_chainOf 5 = .ok (.iconst 0, 1) := by decide +kernel
theorem dX5_chainOf_6 : decode cX5_chainOf 6 = .ok (.istore 5, 2) := by decide +kernel
theorem dX5_chainOf_8 : decode cX5_chainOf 8 = .ok (.iload 5, 2) := by decide +kernel
theorem dX5_chainOf_10 : decode cX5_chainOf 10 = .ok (.bipush 16, 2) := by decide +kernel
theorem dX5_chainOf_12 : decode cX5_chainOf 12 = .ok (.if_icmp .ge 76, 3) := by decide +kernel
theorem dX5_chainOf_15 : decode cX5_chainOf 15 = .ok (.iload 4, 2) := by decide +kernel
theorem dX5_chainOf_17 : decode cX5_chainOf 17 = .ok (.iload_n 2, 1) := by decide +kernel
theorem dX5_chainOf_18 : decode cX5_chainOf 18 = .ok (.if_icmp .eq 70, 3) := by decide +kernel
theorem dX5_chainOf_21 : decode cX5_chainOf 21 = .ok (.aload_n 0, 1) := by decide +kernel
theorem dX5_chainOf_22 : decode cX5_chainOf 22 = .ok (.getfield 15, 3) := by decide +kernel
theorem dX5_chainOf_25 : decode cX5_chainOf 25 = .ok (.iload 4, 2) := by decide +kernel
theorem dX5_chainOf_27 : decode cX5_chainOf 27 = .ok (.bipush 12, 2) := by decide +kernel
theorem dX5_chainOf_29 : decode cX5_chainOf 29 = .ok (.imul, 1) := by decide +kernel
theorem dX5_chainOf_30 : decode cX5_chainOf 30 = .ok (.iload_n 2, 1) := by decide +kernel
theorem dX5_chainOf_31 : decode cX5_chainOf 31 = .ok (.iadd, 1) := by decide +kernel
theorem dX5_chainOf_32 : decode cX5_chainOf 32 = .ok (.iaload, 1) := by decide +kernel
theorem dX5_chainOf_33 : decode cX5_chainOf 33 = .ok (.istore 6, 2) := by decide +kernel
theorem dX5_chainOf_35 : decode cX5_chainOf 35 = .ok (.iload_n 3, 1) := by decide +kernel
theorem dX5_chainOf_36 : decode cX5_chainOf 36 = .ok (.iconst 1, 1) := by decide +kernel
theorem dX5_chainOf_37 : decode cX5_chainOf 37 = .ok (.iload 6, 2) := by decide +kernel
theorem dX5_chainOf_39 : decode cX5_chainOf 39 = .ok (.ishl, 1) := by decide +kernel
theorem dX5_chainOf_40 : decode cX5_chainOf 40 = .ok (.ior, 1) := by decide +kernel
theorem dX5_chainOf_41 : decode cX5_chainOf 41 = .ok (.istore_n 3, 1) := by decide +kernel
theorem dX5_chainOf_42 : decode cX5_chainOf 42 = .ok (.aload_n 0, 1) := by decide +kernel
theorem dX5_chainOf_43 : decode cX5_chainOf 43 = .ok (.getfield 18, 3) := by decide +kernel
theorem dX5_chainOf_46 : decode cX5_chainOf 46 = .ok (.getfield 86, 3) := by decide +kernel
theorem dX5_chainOf_49 : decode cX5_chainOf 49 = .ok (.iload 6, 2) := by decide +kernel
theorem dX5_chainOf_51 : decode cX5_chainOf 51 = .ok (.iaload, 1) := by decide +kernel
theorem dX5_chainOf_52 : decode cX5_chainOf 52 = .ok (.iload 4, 2) := by decide +kernel
theorem dX5_chainOf_54 : decode cX5_chainOf 54 = .ok (.if_icmp .ne 16, 3) := by decide +kernel
theorem dX5_chainOf_57 : decode cX5_chainOf 57 = .ok (.aload_n 0, 1) := by decide +kernel
theorem dX5_chainOf_58 : decode cX5_chainOf 58 = .ok (.getfield 18, 3) := by decide +kernel
theorem dX5_chainOf_61 : decode cX5_chainOf 61 = .ok (.getfield 89, 3) := by decide +kernel
theorem dX5_chainOf_64 : decode cX5_chainOf 64 = .ok (.iload 6, 2) := by decide +kernel
theorem dX5_chainOf_66 : decode cX5_chainOf 66 = .ok (.iaload, 1) := by decide +kernel
theorem dX5_chainOf_67 : decode cX5_chainOf 67 = .ok (.goto 13, 3) := by decide +kernel
theorem dX5_chainOf_70 : decode cX5_chainOf 70 = .ok (.aload_n 0, 1) := by decide +kernel
theorem dX5_chainOf_71 : decode cX5_chainOf 71 = .ok (.getfield 18, 3) := by decide +kernel
theorem dX5_chainOf_74 : decode cX5_chainOf 74 = .ok (.getfield 86, 3) := by decide +kernel
theorem dX5_chainOf_77 : decode cX5_chainOf 77 = .ok (.iload 6, 2) := by decide +kernel
theorem dX5_chainOf_79 : decode cX5_chainOf 79 = .ok (.iaload, 1) := by decide +kernel
theorem dX5_chainOf_80 : decode cX5_chainOf 80 = .ok (.istore 4, 2) := by decide +kernel
theorem dX5_chainOf_82 : decode cX5_chainOf 82 = .ok (.iinc 5 1, 3) := by decide +kernel
theorem dX5_chainOf_85 : decode cX5_chainOf 85 = .ok (.goto (-77), 3) := by decide +kernel
theorem dX5_chainOf_88 : decode cX5_chainOf 88 = .ok (.iload_n 3, 1) := by decide +kernel
theorem dX5_chainOf_89 : decode cX5_chainOf 89 = .ok (.ireturn, 1) := by decide +kernel
theorem dX6_init_0 : decode cX6_init 0 = .ok (.aload_n 0, 1) := by decide +kernel
theorem dX6_init_1 : decode cX6_init 1 = .ok (.invokespecial 3, 3) := by decide +kernel
theorem dX6_init_4 : decode cX6_init 4 = .ok (.aload_n 0, 1) := by decide +kernel
theorem dX6_init_5 : decode cX6_init 5 = .ok (.bipush 60, 2) := by decide +kernel
theorem dX6_init_7 : decode cX6_init 7 = .ok (.newarray .long, 2) := by decide +kernel
theorem dX6_init_9 : decode cX6_init 9 = .ok (.putfield 11, 3) := by decide +kernel
theorem dX6_init_12 : decode cX6_init 12 = .ok (.aload_n 0, 1) := by decide +kernel
theorem dX6_init_13 : decode cX6_init 13 = .ok (.iconst (-1), 1) := by decide +kernel
theorem dX6_init_14 : decode cX6_init 14 = .ok (.putfield 15, 3) := by decide +kernel
theorem dX6_init_17 : decode cX6_init 17 = .ok (.aload_n 0, 1) := by decide +kernel
theorem dX6_init_18 : decode cX6_init 18 = .ok (.iconst (-1), 1) := by decide +kernel
theorem dX6_init_19 : decode cX6_init 19 = .ok (.putfield 19, 3) := by decide +kernel
theorem dX6_init_22 : decode cX6_init 22 = .ok (.return_, 1) := by decide +kernel
theorem dX6_isRow_0 : decode cX6_isRow 0 = .ok (.aload_n 0, 1) := by decide +kernel
theorem dX6_isRow_1 : decode cX6_isRow 1 = .ok (.getfield 19, 3) := by decide +kernel
theorem dX6_isRow_4 : decode cX6_isRow 4 = .ok (.iconst (-1), 1) := by decide +kernel
theorem dX6_isRow_5 : decode cX6_isRow 5 = .ok (.if_icmp .eq 7, 3) := by decide +kernel
theorem dX6_isRow_8 : decode cX6_isRow 8 = .ok (.iconst 1, 1) := by decide +kernel
theorem dX6_isRow_9 : decode cX6_isRow 9 = .ok (.goto 4, 3) := by decide +kernel
theorem dX6_isRow_12 : decode cX6_isRow 12 = .ok (.iconst 0, 1) := by decide +kernel
theorem dX6_isRow_13 : decode cX6_isRow 13 = .ok (.ireturn, 1) := by decide +kernel
theorem dX6_isEmpty_0 : decode cX6_isEmpty 0 = .ok (.aload_n 0, 1) := by decide +kernel
theorem dX6_isEmpty_1 : decode cX6_isEmpty 1 = .ok (.getfield 19, 3) := by decide +kernel
theorem dX6_isEmpty_4 : decode cX6_isEmpty 4 = .ok (.iconst (-1), 1) := by decide +kernel
theorem dX6_isEmpty_5 : decode cX6_isEmpty 5 = .ok (.if_icmp .ne 15, 3) := by decide +kernel
theorem dX6_isEmpty_8 : decode cX6_isEmpty 8 = .ok (.aload_n 0, 1) := by decide +kernel
theorem dX6_isEmpty_9 : decode cX6_isEmpty 9 = .ok (.getfield 15, 3) := by decide +kernel
theorem dX6_isEmpty_12 : decode cX6_isEmpty 12 = .ok (.iconst (-1), 1) := by decide +kernel
theorem dX6_isEmpty_13 : decode cX6_isEmpty 13 = .ok (.if_icmp .ne 7, 3) := by decide +kernel
theorem dX6_isEmpty_16 : decode cX6_isEmpty 16 = .ok (.iconst 1, 1) := by decide +kernel
theorem dX6_isEmpty_17 : decode cX6_isEmpty 17 = .ok (.goto 4, 3) := by decide +kernel
theorem dX6_isEmpty_20 : decode cX6_isEmpty 20 = .ok (.iconst 0, 1) := by decide +kernel
theorem dX6_isEmpty_21 : decode cX6_isEmpty 21 = .ok (.ireturn, 1) := by decide +kernel
theorem dX6_holdBody_0 : decode cX6_holdBody 0 = .ok (.aload_n 0, 1) := by decide +kernel
theorem dX6_holdBody_1 : decode cX6_holdBody 1 = .ok (.iload_n 1, 1) := by decide +kernel
theorem dX6_holdBody_2 : decode cX6_holdBody 2 = .ok (.putfield 15, 3) := by decide +kernel
theorem dX6_holdBody_5 : decode cX6_holdBody 5 = .ok (.aload_n 0, 1) := by decide +kernel
theorem dX6_holdBody_6 : decode cX6_holdBody 6 = .ok (.iconst (-1), 1) := by decide +kernel
theorem dX6_holdBody_7 : decode cX6_holdBody 7 = .ok (.putfield 19, 3) := by decide +kernel
theorem dX6_holdBody_10 : decode cX6_holdBody 10 = .ok (.aload_n 0, 1) := by decide +kernel
theorem dX6_holdBody_11 : decode cX6_holdBody 11 = .ok (.iconst 0, 1) := by decide +kernel
theorem dX6_holdBody_12 : decode cX6_holdBody 12 = .ok (.putfield 22, 3) := by decide +kernel
theorem dX6_holdBody_15 : decode cX6_holdBody 15 = .ok (.return_, 1) := by decide +kernel
theorem dX6_holdRow_0 : decode cX6_holdRow 0 = .ok (.aload_n 0, 1) := by decide +kernel
theorem dX6_holdRow_1 : decode cX6_holdRow 1 = .ok (.iconst (-1), 1) := by decide +kernel
theorem dX6_holdRow_2 : decode cX6_holdRow 2 = .ok (.putfield 15, 3) := by decide +kernel
theorem dX6_holdRow_5 : decode cX6_holdRow 5 = .ok (.aload_n 0, 1) := by decide +kernel
theorem dX6_holdRow_6 : decode cX6_holdRow 6 = .ok (.iload_n 1, 1) := by decide +kernel
theorem dX6_holdRow_7 : decode cX6_holdRow 7 = .ok (.putfield 19, 3) := by decide +kernel
theorem dX6_holdRow_10 : decode cX6_holdRow 10 = .ok (.aload_n 0, 1) := by decide +kernel
theorem dX6_holdRow_11 : decode cX6_holdRow 11 = .ok (.iload_n 2, 1) := by decide +kernel
theorem dX6_holdRow_12 : decode cX6_holdRow 12 = .ok (.putfield 22, 3) := by decide +kernel
theorem dX6_holdRow_15 : decode cX6_holdRow 15 = .ok (.aload_n 0, 1) := by decide +kernel
theorem dX6_holdRow_16 : decode cX6_holdRow 16 = .ok (.getfield 11, 3) := by decide +kernel
theorem dX6_holdRow_19 : decode cX6_holdRow 19 = .ok (.lconst 0, 1) := by decide +kernel
theorem dX6_holdRow_20 : decode cX6_holdRow 20 = .ok (.invokestatic 25, 3) := by decide +kernel
theorem dX6_holdRow_23 : decode cX6_holdRow 23 = .ok (.return_, 1) := by decide +kernel
theorem dX6_hasPlaces_0 : decode cX6_hasPlaces 0 = .ok (.iload_n 1, 1) := by decide +kernel
theorem dX6_hasPlaces_1 : decode cX6_hasPlaces 1 = .ok (.ifCond .lt 29, 3) := by decide +kernel
theorem dX6_hasPlaces_4 : decode cX6_hasPlaces 4 = .ok (.iload_n 2, 1) := by decide +kernel
theorem dX6_hasPlaces_5 : decode cX6_hasPlaces 5 = .ok (.ifCond .lt 25, 3) := by decide +kernel
theorem dX6_hasPlaces_8 : decode cX6_hasPlaces 8 = .ok (.iload_n 1, 1) := by decide +kernel
theorem dX6_hasPlaces_9 : decode cX6_hasPlaces 9 = .ok (.aload_n 0, 1) := by decide +kernel
theorem dX6_hasPlaces_10 : decode cX6_hasPlaces 10 = .ok (.getfield 22, 3) := by decide +kernel
theorem dX6_hasPlaces_13 : decode cX6_hasPlaces 13 = .ok (.if_icmp .gt 17, 3) := by decide +kernel
theorem dX6_hasPlaces_16 : decode cX6_hasPlaces 16 = .ok (.iload_n 2, 1) := by decide +kernel
theorem dX6_hasPlaces_17 : decode cX6_hasPlaces 17 = .ok (.aload_n 0, 1) := by decide +kernel
theorem dX6_hasPlaces_18 : decode cX6_hasPlaces 18 = .ok (.getfield 22, 3) := by decide +kernel
theorem dX6_hasPlaces_21 : decode cX6_hasPlaces 21 = .ok (.iload_n 1, 1) := by decide +kernel
theorem dX6_hasPlaces_22 : decode cX6_hasPlaces 22 = .ok (.isub, 1) := by decide +kernel
theorem dX6_hasPlaces_23 : decode cX6_hasPlaces 23 = .ok (.if_icmp .gt 7, 3) := by decide +kernel
theorem dX6_hasPlaces_26 : decode cX6_hasPlaces 26 = .ok (.iconst 1, 1) := by decide +kernel
theorem dX6_hasPlaces_27 : decode cX6_hasPlaces 27 = .ok (.goto 4, 3) := by decide +kernel
theorem dX6_hasPlaces_30 : decode cX6_hasPlaces 30 = .ok (.iconst 0, 1) := by decide +kernel
theorem dX6_hasPlaces_31 : decode cX6_hasPlaces 31 = .ok (.ireturn, 1) := by decide +kernel
theorem dX6_setElement_0 : decode cX6_setElement 0 = .ok (.aload_n 0, 1) := by decide +kernel
theorem dX6_setElement_1 : decode cX6_setElement 1 = .ok (.iload_n 1, 1) := by decide +kernel
theorem dX6_setElement_2 : decode cX6_setElement 2 = .ok (.iconst 1, 1) := by decide +kernel
theorem dX6_setElement_3 : decode cX6_setElement 3 = .ok (.invokevirtual 31, 3) := by decide +kernel
theorem dX6_setElement_6 : decode cX6_setElement 6 = .ok (.ifCond .eq 14, 3) := by decide +kernel
theorem dX6_setElement_9 : decode cX6_setElement 9 = .ok (.aload_n 0, 1) := by decide +kernel
theorem dX6_setElement_10 : decode cX6_setElement 10 = .ok (.getfield 11, 3) := by decide +kernel
theorem dX6_setElement_13 : decode cX6_setElement 13 = .ok (.iload_n 1, 1) := by decide +kernel
theorem dX6_setElement_14 : decode cX6_setElement 14 = .ok (.aload_n 0, 1) := by decide +kernel
theorem dX6_setElement_15 : decode cX6_setElement 15 = .ok (.lload_n 2, 1) := by decide +kernel
theorem dX6_setElement_16 : decode cX6_setElement 16 = .ok (.invokevirtual 35, 3) := by decide +kernel
theorem dX6_setElement_19 : decode cX6_setElement 19 = .ok (.lastore, 1) := by decide +kernel
theorem dX6_setElement_20 : decode cX6_setElement 20 = .ok (.return_, 1) := by decide +kernel
theorem dX6_lowestBits_0 : decode cX6_lowestBits 0 = .ok (.aload_n 0, 1) := by decide +kernel
theorem dX6_lowestBits_1 : decode cX6_lowestBits 1 = .ok (.getfield 19, 3) := by decide +kernel
theorem dX6_lowestBits_4 : decode cX6_lowestBits 4 = .ok (.tableswitch 62 0 4 #[36, 41, 46, 62, 50], 36) := by decide +kernel
theorem dX6_lowestBits_40 : decode cX6_lowestBits 40 = .ok (.lload_n 1, 1) := by decide +kernel
theorem dX6_lowestBits_41 : decode cX6_lowestBits 41 = .ok (.l2i, 1) := by decide +kernel
theorem dX6_lowestBits_42 : decode cX6_lowestBits 42 = .ok (.i2b, 1) := by decide +kernel
theorem dX6_lowestBits_43 : decode cX6_lowestBits 43 = .ok (.i2l, 1) := by decide +kernel
theorem dX6_lowestBits_44 : decode cX6_lowestBits 44 = .ok (.lreturn, 1) := by decide +kernel
theorem dX6_lowestBits_45 : decode cX6_lowestBits 45 = .ok (.lload_n 1, 1) := by decide +kernel
theorem dX6_lowestBits_46 : decode cX6_lowestBits 46 = .ok (.l2i, 1) := by decide +kernel
theorem dX6_lowestBits_47 : decode cX6_lowestBits 47 = .ok (.i2s, 1) := by decide +kernel
theorem dX6_lowestBits_48 : decode cX6_lowestBits 48 = .ok (.i2l, 1) := by decide +kernel
theorem dX6_lowestBits_49 : decode cX6_lowestBits 49 = .ok (.lreturn, 1) := by decide +kernel
theorem dX6_lowestBits_50 : decode cX6_lowestBits 50 = .ok (.lload_n 1, 1) := by decide +kernel
theorem dX6_lowestBits_51 : decode cX6_lowestBits 51 = .ok (.l2i, 1) := by decide +kernel
theorem dX6_lowestBits_52 : decode cX6_lowestBits 52 = .ok (.i2l, 1) := by decide +kernel
theorem dX6_lowestBits_53 : decode cX6_lowestBits 53 = .ok (.lreturn, 1) := by decide +kernel
theorem dX6_lowestBits_54 : decode cX6_lowestBits 54 = .ok (.lload_n 1, 1) := by decide +kernel
theorem dX6_lowestBits_55 : decode cX6_lowestBits 55 = .ok (.lconst 0, 1) := by decide +kernel
theorem dX6_lowestBits_56 : decode cX6_lowestBits 56 = .ok (.lcmp, 1) := by decide +kernel
theorem dX6_lowestBits_57 : decode cX6_lowestBits 57 = .ok (.ifCond .eq 7, 3) := by decide +kernel
theorem dX6_lowestBits_60 : decode cX6_lowestBits 60 = .ok (.lconst 1, 1) := by decide +kernel
theorem dX6_lowestBits_61 : decode cX6_lowestBits 61 = .ok (.goto 4, 3) := by decide +kernel
theorem dX6_lowestBits_64 : decode cX6_lowestBits 64 = .ok (.lconst 0, 1) := by decide +kernel
theorem dX6_lowestBits_65 : decode cX6_lowestBits 65 = .ok (.lreturn, 1) := by decide +kernel
theorem dX6_lowestBits_66 : decode cX6_lowestBits 66 = .ok (.lload_n 1, 1) := by decide +kernel
theorem dX6_lowestBits_67 : decode cX6_lowestBits 67 = .ok (.lreturn, 1) := by decide +kernel
theorem dX7_init_0 : decode cX7_init 0 = .ok (.aload_n 0, 1) := by decide +kernel
theorem dX7_init_1 : decode cX7_init 1 = .ok (.invokespecial 1, 3) := by decide +kernel
theorem dX7_init_4 : decode cX7_init 4 = .ok (.aload_n 0, 1) := by decide +kernel
theorem dX7_init_5 : decode cX7_init 5 = .ok (.new 7, 3) := by decide +kernel
theorem dX7_init_8 : decode cX7_init 8 = .ok (.dup, 1) := by decide +kernel
theorem dX7_init_9 : decode cX7_init 9 = .ok (.invokespecial 9, 3) := by decide +kernel
theorem dX7_init_12 : decode cX7_init 12 = .ok (.putfield 10, 3) := by decide +kernel
theorem dX7_init_15 : decode cX7_init 15 = .ok (.aload_n 0, 1) := by decide +kernel
theorem dX7_init_16 : decode cX7_init 16 = .ok (.new 16, 3) := by decide +kernel
theorem dX7_init_19 : decode cX7_init 19 = .ok (.dup, 1) := by decide +kernel
theorem dX7_init_20 : decode cX7_init 20 = .ok (.aload_n 0, 1) := by decide +kernel
theorem dX7_init_21 : decode cX7_init 21 = .ok (.getfield 10, 3) := by decide +kernel
theorem dX7_init_24 : decode cX7_init 24 = .ok (.invokespecial 18, 3) := by decide +kernel
theorem dX7_init_27 : decode cX7_init 27 = .ok (.putfield 21, 3) := by decide +kernel
theorem dX7_init_30 : decode cX7_init 30 = .ok (.aload_n 0, 1) := by decide +kernel
theorem dX7_init_31 : decode cX7_init 31 = .ok (.new 25, 3) := by decide +kernel
theorem dX7_init_34 : decode cX7_init 34 = .ok (.dup, 1) := by decide +kernel
theorem dX7_init_35 : decode cX7_init 35 = .ok (.aload_n 0, 1) := by decide +kernel
theorem dX7_init_36 : decode cX7_init 36 = .ok (.getfield 21, 3) := by decide +kernel
theorem dX7_init_39 : decode cX7_init 39 = .ok (.new 16, 3) := by decide +kernel
theorem dX7_init_42 : decode cX7_init 42 = .ok (.dup, 1) := by decide +kernel
theorem dX7_init_43 : decode cX7_init 43 = .ok (.aload_n 0, 1) := by decide +kernel
theorem dX7_init_44 : decode cX7_init 44 = .ok (.getfield 10, 3) := by decide +kernel
theorem dX7_init_47 : decode cX7_init 47 = .ok (.invokespecial 18, 3) := by decide +kernel
theorem dX7_init_50 : decode cX7_init 50 = .ok (.invokespecial 27, 3) := by decide +kernel
theorem dX7_init_53 : decode cX7_init 53 = .ok (.putfield 30, 3) := by decide +kernel
theorem dX7_init_56 : decode cX7_init 56 = .ok (.aload_n 0, 1) := by decide +kernel
theorem dX7_init_57 : decode cX7_init 57 = .ok (.new 34, 3) := by decide +kernel
theorem dX7_init_60 : decode cX7_init 60 = .ok (.dup, 1) := by decide +kernel
theorem dX7_init_61 : decode cX7_init 61 = .ok (.aload_n 0, 1) := by decide +kernel
theorem dX7_init_62 : decode cX7_init 62 = .ok (.getfield 21, 3) := by decide +kernel
theorem dX7_init_65 : decode cX7_init 65 = .ok (.invokespecial 36, 3) := by decide +kernel
theorem dX7_init_68 : decode cX7_init 68 = .ok (.putfield 39, 3) := by decide +kernel
theorem dX7_init_71 : decode cX7_init 71 = .ok (.aload_n 0, 1) := by decide +kernel
theorem dX7_init_72 : decode cX7_init 72 = .ok (.new 43, 3) := by decide +kernel
theorem dX7_init_75 : decode cX7_init 75 = .ok (.dup, 1) := by decide +kernel
theorem dX7_init_76 : decode cX7_init 76 = .ok (.invokespecial 45, 3) := by decide +kernel
theorem dX7_init_79 : decode cX7_init 79 = .ok (.putfield 46, 3) := by decide +kernel
theorem dX7_init_82 : decode cX7_init 82 = .ok (.aload_n 0, 1) := by decide +kernel
theorem dX7_init_83 : decode cX7_init 83 = .ok (.new 50, 3) := by decide +kernel
theorem dX7_init_86 : decode cX7_init 86 = .ok (.dup, 1) := by decide +kernel
theorem dX7_init_87 : decode cX7_init 87 = .ok (.invokespecial 52, 3) := by decide +kernel
theorem dX7_init_90 : decode cX7_init 90 = .ok (.putfield 53, 3) := by decide +kernel
theorem dX7_init_93 : decode cX7_init 93 = .ok (.aload_n 0, 1) := by decide +kernel
theorem dX7_init_94 : decode cX7_init 94 = .ok (.bipush 6, 2) := by decide +kernel
theorem dX7_init_96 : decode cX7_init 96 = .ok (.anewarray 57, 3) := by decide +kernel
theorem dX7_init_99 : decode cX7_init 99 = .ok (.putfield 59, 3) := by decide +kernel
theorem dX7_init_102 : decode cX7_init 102 = .ok (.iconst 0, 1) := by decide +kernel
theorem dX7_init_103 : decode cX7_init 103 = .ok (.istore_n 1, 1) := by decide +kernel
theorem dX7_init_104 : decode cX7_init 104 = .ok (.iload_n 1, 1) := by decide +kernel
theorem dX7_init_105 : decode cX7_init 105 = .ok (.bipush 6, 2) := by decide +kernel
theorem dX7_init_107 : decode cX7_init 107 = .ok (.if_icmp .ge 22, 3) := by decide +kernel
theorem dX7_init_110 : decode cX7_init 110 = .ok (.aload_n 0, 1) := by decide +kernel
theorem dX7_init_111 : decode cX7_init 111 = .ok (.getfield 59, 3) := by decide +kernel
theorem dX7_init_114 : decode cX7_init 114 = .ok (.iload_n 1, 1) := by decide +kernel
theorem dX7_init_115 : decode cX7_init 115 = .ok (.new 57, 3) := by decide +kernel
theorem dX7_init_118 : decode cX7_init 118 = .ok (.dup, 1) := by decide +kernel
theorem dX7_init_119 : decode cX7_init 119 = .ok (.invokespecial 63, 3) := by decide +kernel
theorem dX7_init_122 : decode cX7_init 122 = .ok (.aastore, 1) := by decide +kernel
theorem dX7_init_123 : decode cX7_init 123 = .ok (.iinc 1 1, 3) := by decide +kernel
theorem dX7_init_126 : decode cX7_init 126 = .ok (.goto (-22), 3) := by decide +kernel
theorem dX7_init_129 : decode cX7_init 129 = .ok (.aload_n 0, 1) := by decide +kernel
theorem dX7_init_130 : decode cX7_init 130 = .ok (.bipush 12, 2) := by decide +kernel
theorem dX7_init_132 : decode cX7_init 132 = .ok (.newarray .int, 2) := by decide +kernel
theorem dX7_init_134 : decode cX7_init 134 = .ok (.putfield 64, 3) := by decide +kernel
theorem dX7_init_137 : decode cX7_init 137 = .ok (.aload_n 0, 1) := by decide +kernel
theorem dX7_init_138 : decode cX7_init 138 = .ok (.iconst (-1), 1) := by decide +kernel
theorem dX7_init_139 : decode cX7_init 139 = .ok (.putfield 68, 3) := by decide +kernel
theorem dX7_init_142 : decode cX7_init 142 = .ok (.return_, 1) := by decide +kernel
theorem dX7_person_0 : decode cX7_person 0 = .ok (.iload_n 1, 1) := by decide +kernel
theorem dX7_person_1 : decode cX7_person 1 = .ok (.iload_n 2, 1) := by decide +kernel
theorem dX7_person_2 : decode cX7_person 2 = .ok (.invokestatic 72, 3) := by decide +kernel
theorem dX7_person_5 : decode cX7_person 5 = .ok (.ifCond .ne 5, 3) := by decide +kernel
theorem dX7_person_8 : decode cX7_person 8 = .ok (.iconst (-1), 1) := by decide +kernel
theorem dX7_person_9 : decode cX7_person 9 = .ok (.ireturn, 1) := by decide +kernel
theorem dX7_person_10 : decode cX7_person 10 = .ok (.aload_n 0, 1) := by decide +kernel
theorem dX7_person_11 : decode cX7_person 11 = .ok (.getfield 21, 3) := by decide +kernel
theorem dX7_person_14 : decode cX7_person 14 = .ok (.iload_n 1, 1) := by decide +kernel
theorem dX7_person_15 : decode cX7_person 15 = .ok (.iload_n 2, 1) := by decide +kernel
theorem dX7_person_16 : decode cX7_person 16 = .ok (.iconst (-1), 1) := by decide +kernel
theorem dX7_person_17 : decode cX7_person 17 = .ok (.invokevirtual 76, 3) := by decide +kernel
theorem dX7_person_20 : decode cX7_person 20 = .ok (.ireturn, 1) := by decide +kernel
theorem dX7_people_0 : decode cX7_people 0 = .ok (.iload_n 1, 1) := by decide +kernel
theorem dX7_people_1 : decode cX7_people 1 = .ok (.invokestatic 80, 3) := by decide +kernel
theorem dX7_people_4 : decode cX7_people 4 = .ok (.ifCond .eq 14, 3) := by decide +kernel
theorem dX7_people_7 : decode cX7_people 7 = .ok (.iload_n 3, 1) := by decide +kernel
theorem dX7_people_8 : decode cX7_people 8 = .ok (.iconst 1, 1) := by decide +kernel
theorem dX7_people_9 : decode cX7_people 9 = .ok (.if_icmp .lt 9, 3) := by decide +kernel
theorem dX7_people_12 : decode cX7_people 12 = .ok (.iload_n 3, 1) := by decide +kernel
theorem dX7_people_13 : decode cX7_people 13 = .ok (.bipush 12, 2) := by decide +kernel
theorem dX7_people_15 : decode cX7_people 15 = .ok (.if_icmp .le 5, 3) := by decide +kernel
theorem dX7_people_18 : decode cX7_people 18 = .ok (.iconst (-1), 1) := by decide +kernel
theorem dX7_people_19 : decode cX7_people 19 = .ok (.ireturn, 1) := by decide +kernel
theorem dX7_people_20 : decode cX7_people 20 = .ok (.aload_n 0, 1) := by decide +kernel
theorem dX7_people_21 : decode cX7_people 21 = .ok (.getfield 59, 3) := by decide +kernel
theorem dX7_people_24 : decode cX7_people 24 = .ok (.iload_n 1, 1) := by decide +kernel
theorem dX7_people_25 : decode cX7_people 25 = .ok (.aaload, 1) := by decide +kernel
theorem dX7_people_26 : decode cX7_people 26 = .ok (.astore 4, 2) := by decide +kernel
theorem dX7_people_28 : decode cX7_people 28 = .ok (.aload 4, 2) := by decide +kernel
theorem dX7_people_30 : decode cX7_people 30 = .ok (.invokevirtual 84, 3) := by decide +kernel
theorem dX7_people_33 : decode cX7_people 33 = .ok (.ifCond .eq 5, 3) := by decide +kernel
theorem dX7_people_36 : decode cX7_people 36 = .ok (.iconst 0, 1) := by decide +kernel
theorem dX7_people_37 : decode cX7_people 37 = .ok (.ireturn, 1) := by decide +kernel
theorem dX7_people_38 : decode cX7_people 38 = .ok (.aload 4, 2) := by decide +kernel
theorem dX7_people_40 : decode cX7_people 40 = .ok (.invokevirtual 88, 3) := by decide +kernel
theorem dX7_people_43 : decode cX7_people 43 = .ok (.ifCond .eq 11, 3) := by decide +kernel
theorem dX7_people_46 : decode cX7_people 46 = .ok (.aload 4, 2) := by decide +kernel
theorem dX7_people_48 : decode cX7_people 48 = .ok (.getfield 91, 3) := by decide +kernel
theorem dX7_people_51 : decode cX7_people 51 = .ok (.ifCond .eq 6, 3) := by decide +kernel
theorem dX7_people_54 : decode cX7_people 54 = .ok (.bipush (-12), 2) := by decide +kernel
theorem dX7_people_56 : decode cX7_people 56 = .ok (.ireturn, 1) := by decide +kernel
theorem dX7_people_57 : decode cX7_people 57 = .ok (.iconst 0, 1) := by decide +kernel
theorem dX7_people_58 : decode cX7_people 58 = .ok (.istore 5, 2) := by decide +kernel
theorem dX7_people_60 : decode cX7_people 60 = .ok (.iload 5, 2) := by decide +kernel
theorem dX7_people_62 : decode cX7_people 62 = .ok (.iload_n 3, 1) := by decide +kernel
theorem dX7_people_63 : decode cX7_people 63 = .ok (.if_icmp .ge 24, 3) := by decide +kernel
theorem dX7_people_66 : decode cX7_people 66 = .ok (.aload_n 0, 1) := by decide +kernel
theorem dX7_people_67 : decode cX7_people 67 = .ok (.aload 4, 2) := by decide +kernel
theorem dX7_people_69 : decode cX7_people 69 = .ok (.iload_n 2, 1) := by decide +kernel
theorem dX7_people_70 : decode cX7_people 70 = .ok (.iload 5, 2) := by decide +kernel
theorem dX7_people_72 : decode cX7_people 72 = .ok (.invokevirtual 94, 3) := by decide +kernel
theorem dX7_people_75 : decode cX7_people 75 = .ok (.ifCond .ne 6, 3) := by decide +kernel
theorem dX7_people_78 : decode cX7_people 78 = .ok (.iload 5, 2) := by decide +kernel
theorem dX7_people_80 : decode cX7_people 80 = .ok (.ireturn, 1) := by decide +kernel
theorem dX7_people_81 : decode cX7_people 81 = .ok (.iinc 5 1, 3) := by decide +kernel
theorem dX7_people_84 : decode cX7_people 84 = .ok (.goto (-24), 3) := by decide +kernel
theorem dX7_people_87 : decode cX7_people 87 = .ok (.iload_n 3, 1) := by decide +kernel
theorem dX7_people_88 : decode cX7_people 88 = .ok (.ireturn, 1) := by decide +kernel
theorem dX7_meet_0 : decode cX7_meet 0 = .ok (.iload_n 1, 1) := by decide +kernel
theorem dX7_meet_1 : decode cX7_meet 1 = .ok (.ifCond .lt 22, 3) := by decide +kernel
theorem dX7_meet_4 : decode cX7_meet 4 = .ok (.aload_n 0, 1) := by decide +kernel
theorem dX7_meet_5 : decode cX7_meet 5 = .ok (.getfield 21, 3) := by decide +kernel
theorem dX7_meet_8 : decode cX7_meet 8 = .ok (.iload_n 1, 1) := by decide +kernel
theorem dX7_meet_9 : decode cX7_meet 9 = .ok (.bipush 100, 2) := by decide +kernel
theorem dX7_meet_11 : decode cX7_meet 11 = .ok (.idiv, 1) := by decide +kernel
theorem dX7_meet_12 : decode cX7_meet 12 = .ok (.iload_n 1, 1) := by decide +kernel
theorem dX7_meet_13 : decode cX7_meet 13 = .ok (.bipush 100, 2) := by decide +kernel
theorem dX7_meet_15 : decode cX7_meet 15 = .ok (.irem, 1) := by decide +kernel
theorem dX7_meet_16 : decode cX7_meet 16 = .ok (.iload_n 2, 1) := by decide +kernel
theorem dX7_meet_17 : decode cX7_meet 17 = .ok (.invokevirtual 98, 3) := by decide +kernel
theorem dX7_meet_20 : decode cX7_meet 20 = .ok (.ifCond .ne 5, 3) := by decide +kernel
theorem dX7_meet_23 : decode cX7_meet 23 = .ok (.iconst (-1), 1) := by decide +kernel
theorem dX7_meet_24 : decode cX7_meet 24 = .ok (.ireturn, 1) := by decide +kernel
theorem dX7_meet_25 : decode cX7_meet 25 = .ok (.aload_n 0, 1) := by decide +kernel
theorem dX7_meet_26 : decode cX7_meet 26 = .ok (.getfield 21, 3) := by decide +kernel
theorem dX7_meet_29 : decode cX7_meet 29 = .ok (.iload_n 1, 1) := by decide +kernel
theorem dX7_meet_30 : decode cX7_meet 30 = .ok (.bipush 100, 2) := by decide +kernel
theorem dX7_meet_32 : decode cX7_meet 32 = .ok (.idiv, 1) := by decide +kernel
theorem dX7_meet_33 : decode cX7_meet 33 = .ok (.iload_n 1, 1) := by decide +kernel
theorem dX7_meet_34 : decode cX7_meet 34 = .ok (.bipush 100, 2) := by decide +kernel
theorem dX7_meet_36 : decode cX7_meet 36 = .ok (.irem, 1) := by decide +kernel
theorem dX7_meet_37 : decode cX7_meet 37 = .ok (.iload_n 2, 1) := by decide +kernel
theorem dX7_meet_38 : decode cX7_meet 38 = .ok (.invokevirtual 102, 3) := by decide +kernel
theorem dX7_meet_41 : decode cX7_meet 41 = .ok (.ireturn, 1) := by decide +kernel
theorem dX7_hearing_0 : decode cX7_hearing 0 = .ok (.iload_n 1, 1) := by decide +kernel
theorem dX7_hearing_1 : decode cX7_hearing 1 = .ok (.ifCond .eq 10, 3) := by decide +kernel
theorem dX7_hearing_4 : decode cX7_hearing 4 = .ok (.iload_n 1, 1) := by decide +kernel
theorem dX7_hearing_5 : decode cX7_hearing 5 = .ok (.iconst 1, 1) := by decide +kernel
theorem dX7_hearing_6 : decode cX7_hearing 6 = .ok (.if_icmp .eq 5, 3) := by decide +kernel
theorem dX7_hearing_9 : decode cX7_hearing 9 = .ok (.iconst (-1), 1) := by decide +kernel
theorem dX7_hearing_10 : decode cX7_hearing 10 = .ok (.ireturn, 1) := by decide +kernel
theorem dX7_hearing_11 : decode cX7_hearing 11 = .ok (.aload_n 0, 1) := by decide +kernel
theorem dX7_hearing_12 : decode cX7_hearing 12 = .ok (.getfield 21, 3) := by decide +kernel
theorem dX7_hearing_15 : decode cX7_hearing 15 = .ok (.getfield 105, 3) := by decide +kernel
theorem dX7_hearing_18 : decode cX7_hearing 18 = .ok (.istore_n 2, 1) := by decide +kernel
theorem dX7_hearing_19 : decode cX7_hearing 19 = .ok (.aload_n 0, 1) := by decide +kernel
theorem dX7_hearing_20 : decode cX7_hearing 20 = .ok (.getfield 21, 3) := by decide +kernel
theorem dX7_hearing_23 : decode cX7_hearing 23 = .ok (.iload_n 1, 1) := by decide +kernel
theorem dX7_hearing_24 : decode cX7_hearing 24 = .ok (.putfield 105, 3) := by decide +kernel
theorem dX7_hearing_27 : decode cX7_hearing 27 = .ok (.iload_n 2, 1) := by decide +kernel
theorem dX7_hearing_28 : decode cX7_hearing 28 = .ok (.ireturn, 1) := by decide +kernel
theorem dX7_name_0 : decode cX7_name 0 = .ok (.aload_n 0, 1) := by decide +kernel
theorem dX7_name_1 : decode cX7_name 1 = .ok (.getfield 21, 3) := by decide +kernel
theorem dX7_name_4 : decode cX7_name 4 = .ok (.iload_n 1, 1) := by decide +kernel
theorem dX7_name_5 : decode cX7_name 5 = .ok (.invokevirtual 108, 3) := by decide +kernel
theorem dX7_name_8 : decode cX7_name 8 = .ok (.ifCond .eq 10, 3) := by decide +kernel
theorem dX7_name_11 : decode cX7_name 11 = .ok (.iload_n 2, 1) := by decide +kernel
theorem dX7_name_12 : decode cX7_name 12 = .ok (.invokestatic 111, 3) := by decide +kernel
theorem dX7_name_15 : decode cX7_name 15 = .ok (.ifCond .ne 6, 3) := by decide +kernel
theorem dX7_name_18 : decode cX7_name 18 = .ok (.ldc 114, 2) := by decide +kernel
theorem dX7_name_20 : decode cX7_name 20 = .ok (.ireturn, 1) := by decide +kernel
theorem dX7_name_21 : decode cX7_name 21 = .ok (.aload_n 0, 1) := by decide +kernel
theorem dX7_name_22 : decode cX7_name 22 = .ok (.getfield 21, 3) := by decide +kernel
theorem dX7_name_25 : decode cX7_name 25 = .ok (.getfield 115, 3) := by decide +kernel
theorem dX7_name_28 : decode cX7_name 28 = .ok (.iload_n 1, 1) := by decide +kernel
theorem dX7_name_29 : decode cX7_name 29 = .ok (.iaload, 1) := by decide +kernel
theorem dX7_name_30 : decode cX7_name 30 = .ok (.istore_n 3, 1) := by decide +kernel
theorem dX7_name_31 : decode cX7_name 31 = .ok (.aload_n 0, 1) := by decide +kernel
theorem dX7_name_32 : decode cX7_name 32 = .ok (.getfield 21, 3) := by decide +kernel
theorem dX7_name_35 : decode cX7_name 35 = .ok (.getfield 115, 3) := by decide +kernel
theorem dX7_name_38 : decode cX7_name 38 = .ok (.iload_n 1, 1) := by decide +kernel
theorem dX7_name_39 : decode cX7_name 39 = .ok (.iload_n 2, 1) := by decide +kernel
theorem dX7_name_40 : decode cX7_name 40 = .ok (.iastore, 1) := by decide +kernel
theorem dX7_name_41 : decode cX7_name 41 = .ok (.iload_n 3, 1) := by decide +kernel
theorem dX7_name_42 : decode cX7_name 42 = .ok (.ireturn, 1) := by decide +kernel
theorem dX7_fame_0 : decode cX7_fame 0 = .ok (.iload_n 1, 1) := by decide +kernel
theorem dX7_fame_1 : decode cX7_fame 1 = .ok (.invokestatic 118, 3) := by decide +kernel
theorem dX7_fame_4 : decode cX7_fame 4 = .ok (.ifCond .eq 12, 3) := by decide +kernel
theorem dX7_fame_7 : decode cX7_fame 7 = .ok (.iload_n 2, 1) := by decide +kernel
theorem dX7_fame_8 : decode cX7_fame 8 = .ok (.ifCond .eq 10, 3) := by decide +kernel
theorem dX7_fame_11 : decode cX7_fame 11 = .ok (.iload_n 2, 1) := by decide +kernel
theorem dX7_fame_12 : decode cX7_fame 12 = .ok (.iconst 1, 1) := by decide +kernel
theorem dX7_fame_13 : decode cX7_fame 13 = .ok (.if_icmp .eq 5, 3) := by decide +kernel
theorem dX7_fame_16 : decode cX7_fame 16 = .ok (.iconst (-1), 1) := by decide +kernel
theorem dX7_fame_17 : decode cX7_fame 17 = .ok (.ireturn, 1) := by decide +kernel
theorem dX7_fame_18 : decode cX7_fame 18 = .ok (.aload_n 0, 1) := by decide +kernel
theorem dX7_fame_19 : decode cX7_fame 19 = .ok (.getfield 21, 3) := by decide +kernel
theorem dX7_fame_22 : decode cX7_fame 22 = .ok (.getfield 121, 3) := by decide +kernel
theorem dX7_fame_25 : decode cX7_fame 25 = .ok (.iload_n 1, 1) := by decide +kernel
theorem dX7_fame_26 : decode cX7_fame 26 = .ok (.iaload, 1) := by decide +kernel
theorem dX7_fame_27 : decode cX7_fame 27 = .ok (.istore_n 3, 1) := by decide +kernel
theorem dX7_fame_28 : decode cX7_fame 28 = .ok (.aload_n 0, 1) := by decide +kernel
theorem dX7_fame_29 : decode cX7_fame 29 = .ok (.getfield 21, 3) := by decide +kernel
theorem dX7_fame_32 : decode cX7_fame 32 = .ok (.getfield 121, 3) := by decide +kernel
theorem dX7_fame_35 : decode cX7_fame 35 = .ok (.iload_n 1, 1) := by decide +kernel
theorem dX7_fame_36 : decode cX7_fame 36 = .ok (.iload_n 2, 1) := by decide +kernel
theorem dX7_fame_37 : decode cX7_fame 37 = .ok (.iastore, 1) := by decide +kernel
theorem dX7_fame_38 : decode cX7_fame 38 = .ok (.iload_n 3, 1) := by decide +kernel
theorem dX7_fame_39 : decode cX7_fame 39 = .ok (.ireturn, 1) := by decide +kernel
theorem dX7_mend_0 : decode cX7_mend 0 = .ok (.aload_n 0, 1) := by decide +kernel
theorem dX7_mend_1 : decode cX7_mend 1 = .ok (.iload_n 1, 1) := by decide +kernel
theorem dX7_mend_2 : decode cX7_mend 2 = .ok (.iload_n 2, 1) := by decide +kernel
theorem dX7_mend_3 : decode cX7_mend 3 = .ok (.iload_n 3, 1) := by decide +kernel
theorem dX7_mend_4 : decode cX7_mend 4 = .ok (.invokevirtual 124, 3) := by decide +kernel
theorem dX7_mend_7 : decode cX7_mend 7 = .ok (.ifCond .ne 5, 3) := by decide +kernel
theorem dX7_mend_10 : decode cX7_mend 10 = .ok (.iconst (-1), 1) := by decide +kernel
theorem dX7_mend_11 : decode cX7_mend 11 = .ok (.ireturn, 1) := by decide +kernel
theorem dX7_mend_12 : decode cX7_mend 12 = .ok (.iload_n 2, 1) := by decide +kernel
theorem dX7_mend_13 : decode cX7_mend 13 = .ok (.ifCond .ne 13, 3) := by decide +kernel
theorem dX7_mend_16 : decode cX7_mend 16 = .ok (.aload_n 0, 1) := by decide +kernel
theorem dX7_mend_17 : decode cX7_mend 17 = .ok (.getfield 21, 3) := by decide +kernel
theorem dX7_mend_20 : decode cX7_mend 20 = .ok (.getfield 127, 3) := by decide +kernel
theorem dX7_mend_23 : decode cX7_mend 23 = .ok (.goto 10, 3) := by decide +kernel
theorem dX7_mend_26 : decode cX7_mend 26 = .ok (.aload_n 0, 1) := by decide +kernel
theorem dX7_mend_27 : decode cX7_mend 27 = .ok (.getfield 21, 3) := by decide +kernel
theorem dX7_mend_30 : decode cX7_mend 30 = .ok (.getfield 130, 3) := by decide +kernel
theorem dX7_mend_33 : decode cX7_mend 33 = .ok (.astore 4, 2) := by decide +kernel
theorem dX7_mend_35 : decode cX7_mend 35 = .ok (.aload 4, 2) := by decide +kernel
theorem dX7_mend_37 : decode cX7_mend 37 = .ok (.iload_n 1, 1) := by decide +kernel
theorem dX7_mend_38 : decode cX7_mend 38 = .ok (.iaload, 1) := by decide +kernel
theorem dX7_mend_39 : decode cX7_mend 39 = .ok (.istore 5, 2) := by decide +kernel
theorem dX7_mend_41 : decode cX7_mend 41 = .ok (.iload 5, 2) := by decide +kernel
theorem dX7_mend_43 : decode cX7_mend 43 = .ok (.iload_n 3, 1) := by decide +kernel
theorem dX7_mend_44 : decode cX7_mend 44 = .ok (.if_icmp .eq 20, 3) := by decide +kernel
theorem dX7_mend_47 : decode cX7_mend 47 = .ok (.aload 4, 2) := by decide +kernel
theorem dX7_mend_49 : decode cX7_mend 49 = .ok (.iload_n 1, 1) := by decide +kernel
theorem dX7_mend_50 : decode cX7_mend 50 = .ok (.iload_n 3, 1) := by decide +kernel
theorem dX7_mend_51 : decode cX7_mend 51 = .ok (.iastore, 1) := by decide +kernel
theorem dX7_mend_52 : decode cX7_mend 52 = .ok (.aload_n 0, 1) := by decide +kernel
theorem dX7_mend_53 : decode cX7_mend 53 = .ok (.getfield 46, 3) := by decide +kernel
theorem dX7_mend_56 : decode cX7_mend 56 = .ok (.iload_n 2, 1) := by decide +kernel
theorem dX7_mend_57 : decode cX7_mend 57 = .ok (.iload_n 1, 1) := by decide +kernel
theorem dX7_mend_58 : decode cX7_mend 58 = .ok (.iload 5, 2) := by decide +kernel
theorem dX7_mend_60 : decode cX7_mend 60 = .ok (.iload_n 3, 1) := by decide +kernel
theorem dX7_mend_61 : decode cX7_mend 61 = .ok (.invokevirtual 133, 3) := by decide +kernel
theorem dX7_mend_64 : decode cX7_mend 64 = .ok (.iload 5, 2) := by decide +kernel
theorem dX7_mend_66 : decode cX7_mend 66 = .ok (.ireturn, 1) := by decide +kernel
theorem dX7_of_0 : decode cX7_of 0 = .ok (.iload_n 2, 1) := by decide +kernel
theorem dX7_of_1 : decode cX7_of 1 = .ok (.bipush 10, 2) := by decide +kernel
theorem dX7_of_3 : decode cX7_of 3 = .ok (.if_icmp .ge 26, 3) := by decide +kernel
theorem dX7_of_6 : decode cX7_of 6 = .ok (.aload_n 0, 1) := by decide +kernel
theorem dX7_of_7 : decode cX7_of 7 = .ok (.getfield 21, 3) := by decide +kernel
theorem dX7_of_10 : decode cX7_of 10 = .ok (.iload_n 1, 1) := by decide +kernel
theorem dX7_of_11 : decode cX7_of 11 = .ok (.invokevirtual 108, 3) := by decide +kernel
theorem dX7_of_14 : decode cX7_of 14 = .ok (.ifCond .eq 12, 3) := by decide +kernel
theorem dX7_of_17 : decode cX7_of 17 = .ok (.aload_n 0, 1) := by decide +kernel
theorem dX7_of_18 : decode cX7_of 18 = .ok (.iload_n 1, 1) := by decide +kernel
theorem dX7_of_19 : decode cX7_of 19 = .ok (.iload_n 2, 1) := by decide +kernel
theorem dX7_of_20 : decode cX7_of 20 = .ok (.invokevirtual 137, 3) := by decide +kernel
theorem dX7_of_23 : decode cX7_of 23 = .ok (.goto 5, 3) := by decide +kernel
theorem dX7_of_26 : decode cX7_of 26 = .ok (.ldc 114, 2) := by decide +kernel
theorem dX7_of_28 : decode cX7_of 28 = .ok (.ireturn, 1) := by decide +kernel
theorem dX7_of_29 : decode cX7_of 29 = .ok (.iload_n 2, 1) := by decide +kernel
theorem dX7_of_30 : decode cX7_of 30 = .ok (.bipush 20, 2) := by decide +kernel
theorem dX7_of_32 : decode cX7_of 32 = .ok (.if_icmp .ge 22, 3) := by decide +kernel
theorem dX7_of_35 : decode cX7_of 35 = .ok (.iload_n 1, 1) := by decide +kernel
theorem dX7_of_36 : decode cX7_of 36 = .ok (.invokestatic 118, 3) := by decide +kernel
theorem dX7_of_39 : decode cX7_of 39 = .ok (.ifCond .eq 12, 3) := by decide +kernel
theorem dX7_of_42 : decode cX7_of 42 = .ok (.aload_n 0, 1) := by decide +kernel
theorem dX7_of_43 : decode cX7_of 43 = .ok (.iload_n 1, 1) := by decide +kernel
theorem dX7_of_44 : decode cX7_of 44 = .ok (.iload_n 2, 1) := by decide +kernel
theorem dX7_of_45 : decode cX7_of 45 = .ok (.invokevirtual 141, 3) := by decide +kernel
theorem dX7_of_48 : decode cX7_of 48 = .ok (.goto 5, 3) := by decide +kernel
theorem dX7_of_51 : decode cX7_of 51 = .ok (.ldc 114, 2) := by decide +kernel
theorem dX7_of_53 : decode cX7_of 53 = .ok (.ireturn, 1) := by decide +kernel
theorem dX7_of_54 : decode cX7_of 54 = .ok (.aload_n 0, 1) := by decide +kernel
theorem dX7_of_55 : decode cX7_of 55 = .ok (.getfield 21, 3) := by decide +kernel
theorem dX7_of_58 : decode cX7_of 58 = .ok (.iload_n 1, 1) := by decide +kernel
theorem dX7_of_59 : decode cX7_of 59 = .ok (.invokevirtual 144, 3) := by decide +kernel
theorem dX7_of_62 : decode cX7_of 62 = .ok (.ifCond .eq 12, 3) := by decide +kernel
theorem dX7_of_65 : decode cX7_of 65 = .ok (.aload_n 0, 1) := by decide +kernel
theorem dX7_of_66 : decode cX7_of 66 = .ok (.iload_n 1, 1) := by decide +kernel
theorem dX7_of_67 : decode cX7_of 67 = .ok (.iload_n 2, 1) := by decide +kernel
theorem dX7_of_68 : decode cX7_of 68 = .ok (.invokevirtual 147, 3) := by decide +kernel
theorem dX7_of_71 : decode cX7_of 71 = .ok (.goto 5, 3) := by decide +kernel
theorem dX7_of_74 : decode cX7_of 74 = .ok (.ldc 114, 2) := by decide +kernel
theorem dX7_of_76 : decode cX7_of 76 = .ok (.ireturn, 1) := by decide +kernel
theorem dX7_feed_0 : decode cX7_feed 0 = .ok (.iload_n 1, 1) := by decide +kernel
theorem dX7_feed_1 : decode cX7_feed 1 = .ok (.ifCond .lt 10, 3) := by decide +kernel
theorem dX7_feed_4 : decode cX7_feed 4 = .ok (.iload_n 1, 1) := by decide +kernel
theorem dX7_feed_5 : decode cX7_feed 5 = .ok (.sipush 255, 3) := by decide +kernel
theorem dX7_feed_8 : decode cX7_feed 8 = .ok (.if_icmp .le 5, 3) := by decide +kernel
theorem dX7_feed_11 : decode cX7_feed 11 = .ok (.iconst (-1), 1) := by decide +kernel
theorem dX7_feed_12 : decode cX7_feed 12 = .ok (.ireturn, 1) := by decide +kernel
theorem dX7_feed_13 : decode cX7_feed 13 = .ok (.aload_n 0, 1) := by decide +kernel
theorem dX7_feed_14 : decode cX7_feed 14 = .ok (.getfield 10, 3) := by decide +kernel
theorem dX7_feed_17 : decode cX7_feed 17 = .ok (.iload_n 1, 1) := by decide +kernel
theorem dX7_feed_18 : decode cX7_feed 18 = .ok (.invokevirtual 150, 3) := by decide +kernel
theorem dX7_feed_21 : decode cX7_feed 21 = .ok (.ireturn, 1) := by decide +kernel
theorem dX7_law_0 : decode cX7_law 0 = .ok (.aload_n 0, 1) := by decide +kernel
theorem dX7_law_1 : decode cX7_law 1 = .ok (.getfield 10, 3) := by decide +kernel
theorem dX7_law_4 : decode cX7_law 4 = .ok (.invokevirtual 154, 3) := by decide +kernel
theorem dX7_law_7 : decode cX7_law 7 = .ok (.istore_n 1, 1) := by decide +kernel
theorem dX7_law_8 : decode cX7_law 8 = .ok (.iload_n 1, 1) := by decide +kernel
theorem dX7_law_9 : decode cX7_law 9 = .ok (.iconst (-1), 1) := by decide +kernel
theorem dX7_law_10 : decode cX7_law 10 = .ok (.if_icmp .ne 7, 3) := by decide +kernel
theorem dX7_law_13 : decode cX7_law 13 = .ok (.iconst 1, 1) := by decide +kernel
theorem dX7_law_14 : decode cX7_law 14 = .ok (.goto 7, 3) := by decide +kernel
theorem dX7_law_17 : decode cX7_law 17 = .ok (.bipush (-100), 2) := by decide +kernel
theorem dX7_law_19 : decode cX7_law 19 = .ok (.iload_n 1, 1) := by decide +kernel
theorem dX7_law_20 : decode cX7_law 20 = .ok (.isub, 1) := by decide +kernel
theorem dX7_law_21 : decode cX7_law 21 = .ok (.ireturn, 1) := by decide +kernel
theorem dX7_knows_0 : decode cX7_knows 0 = .ok (.aload_n 0, 1) := by decide +kernel
theorem dX7_knows_1 : decode cX7_knows 1 = .ok (.getfield 21, 3) := by decide +kernel
theorem dX7_knows_4 : decode cX7_knows 4 = .ok (.iload_n 1, 1) := by decide +kernel
theorem dX7_knows_5 : decode cX7_knows 5 = .ok (.invokevirtual 108, 3) := by decide +kernel
theorem dX7_knows_8 : decode cX7_knows 8 = .ok (.ifCond .eq 10, 3) := by decide +kernel
theorem dX7_knows_11 : decode cX7_knows 11 = .ok (.iload_n 2, 1) := by decide +kernel
theorem dX7_knows_12 : decode cX7_knows 12 = .ok (.invokestatic 158, 3) := by decide +kernel
theorem dX7_knows_15 : decode cX7_knows 15 = .ok (.ifCond .ne 5, 3) := by decide +kernel
theorem dX7_knows_18 : decode cX7_knows 18 = .ok (.iconst (-1), 1) := by decide +kernel
theorem dX7_knows_19 : decode cX7_knows 19 = .ok (.ireturn, 1) := by decide +kernel
theorem dX7_knows_20 : decode cX7_knows 20 = .ok (.aload_n 0, 1) := by decide +kernel
theorem dX7_knows_21 : decode cX7_knows 21 = .ok (.getfield 21, 3) := by decide +kernel
theorem dX7_knows_24 : decode cX7_knows 24 = .ok (.iload_n 2, 1) := by decide +kernel
theorem dX7_knows_25 : decode cX7_knows 25 = .ok (.invokevirtual 161, 3) := by decide +kernel
theorem dX7_knows_28 : decode cX7_knows 28 = .ok (.aload_n 0, 1) := by decide +kernel
theorem dX7_knows_29 : decode cX7_knows 29 = .ok (.getfield 21, 3) := by decide +kernel
theorem dX7_knows_32 : decode cX7_knows 32 = .ok (.getfield 165, 3) := by decide +kernel
theorem dX7_knows_35 : decode cX7_knows 35 = .ok (.iload_n 1, 1) := by decide +kernel
theorem dX7_knows_36 : decode cX7_knows 36 = .ok (.iaload, 1) := by decide +kernel
theorem dX7_knows_37 : decode cX7_knows 37 = .ok (.ireturn, 1) := by decide +kernel
theorem dX7_held_0 : decode cX7_held 0 = .ok (.iload_n 1, 1) := by decide +kernel
theorem dX7_held_1 : decode cX7_held 1 = .ok (.invokestatic 118, 3) := by decide +kernel
theorem dX7_held_4 : decode cX7_held 4 = .ok (.ifCond .eq 10, 3) := by decide +kernel
theorem dX7_held_7 : decode cX7_held 7 = .ok (.iload_n 2, 1) := by decide +kernel
theorem dX7_held_8 : decode cX7_held 8 = .ok (.invokestatic 158, 3) := by decide +kernel
theorem dX7_held_11 : decode cX7_held 11 = .ok (.ifCond .ne 5, 3) := by decide +kernel
theorem dX7_held_14 : decode cX7_held 14 = .ok (.iconst (-1), 1) := by decide +kernel
theorem dX7_held_15 : decode cX7_held 15 = .ok (.ireturn, 1) := by decide +kernel
theorem dX7_held_16 : decode cX7_held 16 = .ok (.iload_n 3, 1) := by decide +kernel
theorem dX7_held_17 : decode cX7_held 17 = .ok (.tableswitch 57 0 2 #[27, 40, 50], 27) := by decide +kernel
theorem dX7_held_44 : decode cX7_held 44 = .ok (.aload_n 0, 1) := by decide +kernel
theorem dX7_held_45 : decode cX7_held 45 = .ok (.getfield 21, 3) := by decide +kernel
theorem dX7_held_48 : decode cX7_held 48 = .ok (.iload_n 2, 1) := by decide +kernel
theorem dX7_held_49 : decode cX7_held 49 = .ok (.invokevirtual 168, 3) := by decide +kernel
theorem dX7_held_52 : decode cX7_held 52 = .ok (.iload_n 1, 1) := by decide +kernel
theorem dX7_held_53 : decode cX7_held 53 = .ok (.ishr, 1) := by decide +kernel
theorem dX7_held_54 : decode cX7_held 54 = .ok (.iconst 1, 1) := by decide +kernel
theorem dX7_held_55 : decode cX7_held 55 = .ok (.iand, 1) := by decide +kernel
theorem dX7_held_56 : decode cX7_held 56 = .ok (.ireturn, 1) := by decide +kernel
theorem dX7_held_57 : decode cX7_held 57 = .ok (.aload_n 0, 1) := by decide +kernel
theorem dX7_held_58 : decode cX7_held 58 = .ok (.getfield 21, 3) := by decide +kernel
theorem dX7_held_61 : decode cX7_held 61 = .ok (.iload_n 1, 1) := by decide +kernel
theorem dX7_held_62 : decode cX7_held 62 = .ok (.iload_n 2, 1) := by decide +kernel
theorem dX7_held_63 : decode cX7_held 63 = .ok (.invokevirtual 171, 3) := by decide +kernel
theorem dX7_held_66 : decode cX7_held 66 = .ok (.ireturn, 1) := by decide +kernel
theorem dX7_held_67 : decode cX7_held 67 = .ok (.aload_n 0, 1) := by decide +kernel
theorem dX7_held_68 : decode cX7_held 68 = .ok (.iload_n 1, 1) := by decide +kernel
theorem dX7_held_69 : decode cX7_held 69 = .ok (.iload_n 2, 1) := by decide +kernel
theorem dX7_held_70 : decode cX7_held 70 = .ok (.invokevirtual 174, 3) := by decide +kernel
theorem dX7_held_73 : decode cX7_held 73 = .ok (.ireturn, 1) := by decide +kernel
theorem dX7_held_74 : decode cX7_held 74 = .ok (.iconst (-1), 1) := by decide +kernel
theorem dX7_held_75 : decode cX7_held 75 = .ok (.ireturn, 1) := by decide +kernel
theorem dX7_free_0 : decode cX7_free 0 = .ok (.iload_n 1, 1) := by decide +kernel
theorem dX7_free_1 : decode cX7_free 1 = .ok (.invokestatic 158, 3) := by decide +kernel
theorem dX7_free_4 : decode cX7_free 4 = .ok (.ifCond .eq 20, 3) := by decide +kernel
theorem dX7_free_7 : decode cX7_free 7 = .ok (.sipush 4095, 3) := by decide +kernel
theorem dX7_free_10 : decode cX7_free 10 = .ok (.aload_n 0, 1) := by decide +kernel
theorem dX7_free_11 : decode cX7_free 11 = .ok (.getfield 21, 3) := by decide +kernel
theorem dX7_free_14 : decode cX7_free 14 = .ok (.iload_n 1, 1) := by decide +kernel
theorem dX7_free_15 : decode cX7_free 15 = .ok (.invokevirtual 168, 3) := by decide +kernel
theorem dX7_free_18 : decode cX7_free 18 = .ok (.iconst (-1), 1) := by decide +kernel
theorem dX7_free_19 : decode cX7_free 19 = .ok (.ixor, 1) := by decide +kernel
theorem dX7_free_20 : decode cX7_free 20 = .ok (.iand, 1) := by decide +kernel
theorem dX7_free_21 : decode cX7_free 21 = .ok (.goto 4, 3) := by decide +kernel
theorem dX7_free_24 : decode cX7_free 24 = .ok (.iconst (-1), 1) := by decide +kernel
theorem dX7_free_25 : decode cX7_free 25 = .ok (.ireturn, 1) := by decide +kernel
theorem dX7_most_0 : decode cX7_most 0 = .ok (.iload_n 1, 1) := by decide +kernel
theorem dX7_most_1 : decode cX7_most 1 = .ok (.ifCond .eq 10, 3) := by decide +kernel
theorem dX7_most_4 : decode cX7_most 4 = .ok (.iload_n 1, 1) := by decide +kernel
theorem dX7_most_5 : decode cX7_most 5 = .ok (.iconst 1, 1) := by decide +kernel
theorem dX7_most_6 : decode cX7_most 6 = .ok (.if_icmp .eq 5, 3) := by decide +kernel
theorem dX7_most_9 : decode cX7_most 9 = .ok (.iconst (-1), 1) := by decide +kernel
theorem dX7_most_10 : decode cX7_most 10 = .ok (.ireturn, 1) := by decide +kernel
theorem dX7_most_11 : decode cX7_most 11 = .ok (.iconst 0, 1) := by decide +kernel
theorem dX7_most_12 : decode cX7_most 12 = .ok (.istore_n 2, 1) := by decide +kernel
theorem dX7_most_13 : decode cX7_most 13 = .ok (.iconst 0, 1) := by decide +kernel
theorem dX7_most_14 : decode cX7_most 14 = .ok (.istore_n 3, 1) := by decide +kernel
theorem dX7_most_15 : decode cX7_most 15 = .ok (.iconst 0, 1) := by decide +kernel
theorem dX7_most_16 : decode cX7_most 16 = .ok (.istore 4, 2) := by decide +kernel
theorem dX7_most_18 : decode cX7_most 18 = .ok (.iload 4, 2) := by decide +kernel
theorem dX7_most_20 : decode cX7_most 20 = .ok (.bipush 100, 2) := by decide +kernel
theorem dX7_most_22 : decode cX7_most 22 = .ok (.if_icmp .ge 35, 3) := by decide +kernel
theorem dX7_most_25 : decode cX7_most 25 = .ok (.aload_n 0, 1) := by decide +kernel
theorem dX7_most_26 : decode cX7_most 26 = .ok (.getfield 21, 3) := by decide +kernel
theorem dX7_most_29 : decode cX7_most 29 = .ok (.iload 4, 2) := by decide +kernel
theorem dX7_most_31 : decode cX7_most 31 = .ok (.invokevirtual 168, 3) := by decide +kernel
theorem dX7_most_34 : decode cX7_most 34 = .ok (.invokestatic 177, 3) := by decide +kernel
theorem dX7_most_37 : decode cX7_most 37 = .ok (.istore 5, 2) := by decide +kernel
theorem dX7_most_39 : decode cX7_most 39 = .ok (.iload 5, 2) := by decide +kernel
theorem dX7_most_41 : decode cX7_most 41 = .ok (.iload_n 2, 1) := by decide +kernel
theorem dX7_most_42 : decode cX7_most 42 = .ok (.if_icmp .le 9, 3) := by decide +kernel
theorem dX7_most_45 : decode cX7_most 45 = .ok (.iload 5, 2) := by decide +kernel
theorem dX7_most_47 : decode cX7_most 47 = .ok (.istore_n 2, 1) := by decide +kernel
theorem dX7_most_48 : decode cX7_most 48 = .ok (.iload 4, 2) := by decide +kernel
theorem dX7_most_50 : decode cX7_most 50 = .ok (.istore_n 3, 1) := by decide +kernel
theorem dX7_most_51 : decode cX7_most 51 = .ok (.iinc 4 1, 3) := by decide +kernel
theorem dX7_most_54 : decode cX7_most 54 = .ok (.goto (-36), 3) := by decide +kernel
theorem dX7_most_57 : decode cX7_most 57 = .ok (.iload_n 1, 1) := by decide +kernel
theorem dX7_most_58 : decode cX7_most 58 = .ok (.ifCond .ne 7, 3) := by decide +kernel
theorem dX7_most_61 : decode cX7_most 61 = .ok (.iload_n 2, 1) := by decide +kernel
theorem dX7_most_62 : decode cX7_most 62 = .ok (.goto 4, 3) := by decide +kernel
theorem dX7_most_65 : decode cX7_most 65 = .ok (.iload_n 3, 1) := by decide +kernel
theorem dX7_most_66 : decode cX7_most 66 = .ok (.ireturn, 1) := by decide +kernel
theorem dX7_judge_0 : decode cX7_judge 0 = .ok (.aload_n 0, 1) := by decide +kernel
theorem dX7_judge_1 : decode cX7_judge 1 = .ok (.getfield 30, 3) := by decide +kernel
theorem dX7_judge_4 : decode cX7_judge 4 = .ok (.invokevirtual 182, 3) := by decide +kernel
theorem dX7_judge_7 : decode cX7_judge 7 = .ok (.ireturn, 1) := by decide +kernel
theorem dX7_give_0 : decode cX7_give 0 = .ok (.aload_n 0, 1) := by decide +kernel
theorem dX7_give_1 : decode cX7_give 1 = .ok (.getfield 21, 3) := by decide +kernel
theorem dX7_give_4 : decode cX7_give 4 = .ok (.iload_n 1, 1) := by decide +kernel
theorem dX7_give_5 : decode cX7_give 5 = .ok (.invokevirtual 108, 3) := by decide +kernel
theorem dX7_give_8 : decode cX7_give 8 = .ok (.ifCond .eq 10, 3) := by decide +kernel
theorem dX7_give_11 : decode cX7_give 11 = .ok (.iload_n 2, 1) := by decide +kernel
theorem dX7_give_12 : decode cX7_give 12 = .ok (.invokestatic 185, 3) := by decide +kernel
theorem dX7_give_15 : decode cX7_give 15 = .ok (.ifCond .ne 5, 3) := by decide +kernel
theorem dX7_give_18 : decode cX7_give 18 = .ok (.iconst (-1), 1) := by decide +kernel
theorem dX7_give_19 : decode cX7_give 19 = .ok (.ireturn, 1) := by decide +kernel
theorem dX7_give_20 : decode cX7_give 20 = .ok (.aload_n 0, 1) := by decide +kernel
theorem dX7_give_21 : decode cX7_give 21 = .ok (.getfield 21, 3) := by decide +kernel
theorem dX7_give_24 : decode cX7_give 24 = .ok (.getfield 115, 3) := by decide +kernel
theorem dX7_give_27 : decode cX7_give 27 = .ok (.iload_n 1, 1) := by decide +kernel
theorem dX7_give_28 : decode cX7_give 28 = .ok (.iaload, 1) := by decide +kernel
theorem dX7_give_29 : decode cX7_give 29 = .ok (.iconst (-1), 1) := by decide +kernel
theorem dX7_give_30 : decode cX7_give 30 = .ok (.if_icmp .eq 6, 3) := by decide +kernel
theorem dX7_give_33 : decode cX7_give 33 = .ok (.bipush (-5), 2) := by decide +kernel
theorem dX7_give_35 : decode cX7_give 35 = .ok (.ireturn, 1) := by decide +kernel
theorem dX7_give_36 : decode cX7_give 36 = .ok (.aload_n 0, 1) := by decide +kernel
theorem dX7_give_37 : decode cX7_give 37 = .ok (.getfield 30, 3) := by decide +kernel
theorem dX7_give_40 : decode cX7_give 40 = .ok (.iload_n 1, 1) := by decide +kernel
theorem dX7_give_41 : decode cX7_give 41 = .ok (.iload_n 2, 1) := by decide +kernel
theorem dX7_give_42 : decode cX7_give 42 = .ok (.invokevirtual 188, 3) := by decide +kernel
theorem dX7_give_45 : decode cX7_give 45 = .ok (.istore_n 3, 1) := by decide +kernel
theorem dX7_give_46 : decode cX7_give 46 = .ok (.iload_n 3, 1) := by decide +kernel
theorem dX7_give_47 : decode cX7_give 47 = .ok (.bipush (-2), 2) := by decide +kernel
theorem dX7_give_49 : decode cX7_give 49 = .ok (.if_icmp .eq 13, 3) := by decide +kernel
theorem dX7_give_52 : decode cX7_give 52 = .ok (.aload_n 0, 1) := by decide +kernel
theorem dX7_give_53 : decode cX7_give 53 = .ok (.getfield 21, 3) := by decide +kernel
theorem dX7_give_56 : decode cX7_give 56 = .ok (.getfield 115, 3) := by decide +kernel
theorem dX7_give_59 : decode cX7_give 59 = .ok (.iload_n 1, 1) := by decide +kernel
theorem dX7_give_60 : decode cX7_give 60 = .ok (.iload_n 3, 1) := by decide +kernel
theorem dX7_give_61 : decode cX7_give 61 = .ok (.iastore, 1) := by decide +kernel
theorem dX7_give_62 : decode cX7_give 62 = .ok (.iload_n 3, 1) := by decide +kernel
theorem dX7_give_63 : decode cX7_give 63 = .ok (.ireturn, 1) := by decide +kernel
theorem dX7_run_0 : decode cX7_run 0 = .ok (.iload_n 1, 1) := by decide +kernel
theorem dX7_run_1 : decode cX7_run 1 = .ok (.invokestatic 185, 3) := by decide +kernel
theorem dX7_run_4 : decode cX7_run 4 = .ok (.ifCond .eq 14, 3) := by decide +kernel
theorem dX7_run_7 : decode cX7_run 7 = .ok (.aload_n 0, 1) := by decide +kernel
theorem dX7_run_8 : decode cX7_run 8 = .ok (.getfield 21, 3) := by decide +kernel
theorem dX7_run_11 : decode cX7_run 11 = .ok (.iload_n 2, 1) := by decide +kernel
theorem dX7_run_12 : decode cX7_run 12 = .ok (.invokevirtual 108, 3) := by decide +kernel
theorem dX7_run_15 : decode cX7_run 15 = .ok (.ifCond .ne 5, 3) := by decide +kernel
theorem dX7_run_18 : decode cX7_run 18 = .ok (.iconst (-1), 1) := by decide +kernel
theorem dX7_run_19 : decode cX7_run 19 = .ok (.ireturn, 1) := by decide +kernel
theorem dX7_run_20 : decode cX7_run 20 = .ok (.aload_n 0, 1) := by decide +kernel
theorem dX7_run_21 : decode cX7_run 21 = .ok (.getfield 30, 3) := by decide +kernel
theorem dX7_run_24 : decode cX7_run 24 = .ok (.invokevirtual 191, 3) := by decide +kernel
theorem dX7_run_27 : decode cX7_run 27 = .ok (.aload_n 0, 1) := by decide +kernel
theorem dX7_run_28 : decode cX7_run 28 = .ok (.getfield 30, 3) := by decide +kernel
theorem dX7_run_31 : decode cX7_run 31 = .ok (.iload_n 1, 1) := by decide +kernel
theorem dX7_run_32 : decode cX7_run 32 = .ok (.invokevirtual 194, 3) := by decide +kernel
theorem dX7_run_35 : decode cX7_run 35 = .ok (.aload_n 0, 1) := by decide +kernel
theorem dX7_run_36 : decode cX7_run 36 = .ok (.getfield 30, 3) := by decide +kernel
theorem dX7_run_39 : decode cX7_run 39 = .ok (.getfield 197, 3) := by decide +kernel
theorem dX7_run_42 : decode cX7_run 42 = .ok (.getfield 115, 3) := by decide +kernel
theorem dX7_run_45 : decode cX7_run 45 = .ok (.iload_n 2, 1) := by decide +kernel
theorem dX7_run_46 : decode cX7_run 46 = .ok (.iaload, 1) := by decide +kernel
theorem dX7_run_47 : decode cX7_run 47 = .ok (.istore_n 3, 1) := by decide +kernel
theorem dX7_run_48 : decode cX7_run 48 = .ok (.iload_n 3, 1) := by decide +kernel
theorem dX7_run_49 : decode cX7_run 49 = .ok (.iconst (-1), 1) := by decide +kernel
theorem dX7_run_50 : decode cX7_run 50 = .ok (.if_icmp .ne 8, 3) := by decide +kernel
theorem dX7_run_53 : decode cX7_run 53 = .ok (.bipush (-2), 2) := by decide +kernel
theorem dX7_run_55 : decode cX7_run 55 = .ok (.goto 4, 3) := by decide +kernel
theorem dX7_run_58 : decode cX7_run 58 = .ok (.iload_n 3, 1) := by decide +kernel
theorem dX7_run_59 : decode cX7_run 59 = .ok (.ireturn, 1) := by decide +kernel
theorem dX7_used_0 : decode cX7_used 0 = .ok (.iload_n 1, 1) := by decide +kernel
theorem dX7_used_1 : decode cX7_used 1 = .ok (.invokestatic 185, 3) := by decide +kernel
theorem dX7_used_4 : decode cX7_used 4 = .ok (.ifCond .eq 12, 3) := by decide +kernel
theorem dX7_used_7 : decode cX7_used 7 = .ok (.iload_n 2, 1) := by decide +kernel
theorem dX7_used_8 : decode cX7_used 8 = .ok (.ifCond .lt 8, 3) := by decide +kernel
theorem dX7_used_11 : decode cX7_used 11 = .ok (.iload_n 2, 1) := by decide +kernel
theorem dX7_used_12 : decode cX7_used 12 = .ok (.iconst 2, 1) := by decide +kernel
theorem dX7_used_13 : decode cX7_used 13 = .ok (.if_icmp .le 5, 3) := by decide +kernel
theorem dX7_used_16 : decode cX7_used 16 = .ok (.iconst (-1), 1) := by decide +kernel
theorem dX7_used_17 : decode cX7_used 17 = .ok (.ireturn, 1) := by decide +kernel
theorem dX7_used_18 : decode cX7_used 18 = .ok (.aload_n 0, 1) := by decide +kernel
theorem dX7_used_19 : decode cX7_used 19 = .ok (.getfield 30, 3) := by decide +kernel
theorem dX7_used_22 : decode cX7_used 22 = .ok (.invokevirtual 191, 3) := by decide +kernel
theorem dX7_used_25 : decode cX7_used 25 = .ok (.aload_n 0, 1) := by decide +kernel
theorem dX7_used_26 : decode cX7_used 26 = .ok (.getfield 30, 3) := by decide +kernel
theorem dX7_used_29 : decode cX7_used 29 = .ok (.iload_n 1, 1) := by decide +kernel
theorem dX7_used_30 : decode cX7_used 30 = .ok (.invokevirtual 194, 3) := by decide +kernel
theorem dX7_used_33 : decode cX7_used 33 = .ok (.iload_n 2, 1) := by decide +kernel
theorem dX7_used_34 : decode cX7_used 34 = .ok (.ifCond .ne 11, 3) := by decide +kernel
theorem dX7_used_37 : decode cX7_used 37 = .ok (.aload_n 0, 1) := by decide +kernel
theorem dX7_used_38 : decode cX7_used 38 = .ok (.getfield 30, 3) := by decide +kernel
theorem dX7_used_41 : decode cX7_used 41 = .ok (.invokevirtual 200, 3) := by decide +kernel
theorem dX7_used_44 : decode cX7_used 44 = .ok (.ireturn, 1) := by decide +kernel
theorem dX7_used_45 : decode cX7_used 45 = .ok (.iload_n 2, 1) := by decide +kernel
theorem dX7_used_46 : decode cX7_used 46 = .ok (.iconst 1, 1) := by decide +kernel
theorem dX7_used_47 : decode cX7_used 47 = .ok (.if_icmp .ne 13, 3) := by decide +kernel
theorem dX7_used_50 : decode cX7_used 50 = .ok (.aload_n 0, 1) := by decide +kernel
theorem dX7_used_51 : decode cX7_used 51 = .ok (.getfield 30, 3) := by decide +kernel
theorem dX7_used_54 : decode cX7_used 54 = .ok (.invokevirtual 203, 3) := by decide +kernel
theorem dX7_used_57 : decode cX7_used 57 = .ok (.goto 10, 3) := by decide +kernel
theorem dX7_used_60 : decode cX7_used 60 = .ok (.aload_n 0, 1) := by decide +kernel
theorem dX7_used_61 : decode cX7_used 61 = .ok (.getfield 30, 3) := by decide +kernel
theorem dX7_used_64 : decode cX7_used 64 = .ok (.invokevirtual 206, 3) := by decide +kernel
theorem dX7_used_67 : decode cX7_used 67 = .ok (.ireturn, 1) := by decide +kernel
theorem dX7_apart_0 : decode cX7_apart 0 = .ok (.iload_n 1, 1) := by decide +kernel
theorem dX7_apart_1 : decode cX7_apart 1 = .ok (.invokestatic 118, 3) := by decide +kernel
theorem dX7_apart_4 : decode cX7_apart 4 = .ok (.ifCond .eq 10, 3) := by decide +kernel
theorem dX7_apart_7 : decode cX7_apart 7 = .ok (.iload_n 2, 1) := by decide +kernel
theorem dX7_apart_8 : decode cX7_apart 8 = .ok (.invokestatic 158, 3) := by decide +kernel
theorem dX7_apart_11 : decode cX7_apart 11 = .ok (.ifCond .ne 5, 3) := by decide +kernel
theorem dX7_apart_14 : decode cX7_apart 14 = .ok (.iconst (-1), 1) := by decide +kernel
theorem dX7_apart_15 : decode cX7_apart 15 = .ok (.ireturn, 1) := by decide +kernel
theorem dX7_apart_16 : decode cX7_apart 16 = .ok (.aload_n 0, 1) := by decide +kernel
theorem dX7_apart_17 : decode cX7_apart 17 = .ok (.getfield 39, 3) := by decide +kernel
theorem dX7_apart_20 : decode cX7_apart 20 = .ok (.iload_n 1, 1) := by decide +kernel
theorem dX7_apart_21 : decode cX7_apart 21 = .ok (.iload_n 2, 1) := by decide +kernel
theorem dX7_apart_22 : decode cX7_apart 22 = .ok (.invokevirtual 209, 3) := by decide +kernel
theorem dX7_apart_25 : decode cX7_apart 25 = .ok (.ireturn, 1) := by decide +kernel
theorem dX7_freed_0 : decode cX7_freed 0 = .ok (.aload_n 0, 1) := by decide +kernel
theorem dX7_freed_1 : decode cX7_freed 1 = .ok (.getfield 21, 3) := by decide +kernel
theorem dX7_freed_4 : decode cX7_freed 4 = .ok (.iload_n 1, 1) := by decide +kernel
theorem dX7_freed_5 : decode cX7_freed 5 = .ok (.invokevirtual 108, 3) := by decide +kernel
theorem dX7_freed_8 : decode cX7_freed 8 = .ok (.ifCond .eq 10, 3) := by decide +kernel
theorem dX7_freed_11 : decode cX7_freed 11 = .ok (.iload_n 2, 1) := by decide +kernel
theorem dX7_freed_12 : decode cX7_freed 12 = .ok (.invokestatic 158, 3) := by decide +kernel
theorem dX7_freed_15 : decode cX7_freed 15 = .ok (.ifCond .ne 5, 3) := by decide +kernel
theorem dX7_freed_18 : decode cX7_freed 18 = .ok (.iconst (-1), 1) := by decide +kernel
theorem dX7_freed_19 : decode cX7_freed 19 = .ok (.ireturn, 1) := by decide +kernel
theorem dX7_freed_20 : decode cX7_freed 20 = .ok (.iconst 0, 1) := by decide +kernel
theorem dX7_freed_21 : decode cX7_freed 21 = .ok (.istore_n 3, 1) := by decide +kernel
theorem dX7_freed_22 : decode cX7_freed 22 = .ok (.iconst 0, 1) := by decide +kernel
theorem dX7_freed_23 : decode cX7_freed 23 = .ok (.istore 4, 2) := by decide +kernel
theorem dX7_freed_25 : decode cX7_freed 25 = .ok (.iload 4, 2) := by decide +kernel
theorem dX7_freed_27 : decode cX7_freed 27 = .ok (.bipush 12, 2) := by decide +kernel
theorem dX7_freed_29 : decode cX7_freed 29 = .ok (.if_icmp .ge 45, 3) := by decide +kernel
theorem dX7_freed_32 : decode cX7_freed 32 = .ok (.aload_n 0, 1) := by decide +kernel
theorem dX7_freed_33 : decode cX7_freed 33 = .ok (.getfield 21, 3) := by decide +kernel
theorem dX7_freed_36 : decode cX7_freed 36 = .ok (.iload 4, 2) := by decide +kernel
theorem dX7_freed_38 : decode cX7_freed 38 = .ok (.iload_n 2, 1) := by decide +kernel
theorem dX7_freed_39 : decode cX7_freed 39 = .ok (.invokevirtual 171, 3) := by decide +kernel
theorem dX7_freed_42 : decode cX7_freed 42 = .ok (.iconst 1, 1) := by decide +kernel
theorem dX7_freed_43 : decode cX7_freed 43 = .ok (.iload_n 1, 1) := by decide +kernel
theorem dX7_freed_44 : decode cX7_freed 44 = .ok (.ishl, 1) := by decide +kernel
theorem dX7_freed_45 : decode cX7_freed 45 = .ok (.if_icmp .ne 23, 3) := by decide +kernel
theorem dX7_freed_48 : decode cX7_freed 48 = .ok (.aload_n 0, 1) := by decide +kernel
theorem dX7_freed_49 : decode cX7_freed 49 = .ok (.getfield 21, 3) := by decide +kernel
theorem dX7_freed_52 : decode cX7_freed 52 = .ok (.iload 4, 2) := by decide +kernel
theorem dX7_freed_54 : decode cX7_freed 54 = .ok (.iload_n 2, 1) := by decide +kernel
theorem dX7_freed_55 : decode cX7_freed 55 = .ok (.invokevirtual 212, 3) := by decide +kernel
theorem dX7_freed_58 : decode cX7_freed 58 = .ok (.ifCond .ne 10, 3) := by decide +kernel
theorem dX7_freed_61 : decode cX7_freed 61 = .ok (.iload_n 3, 1) := by decide +kernel
theorem dX7_freed_62 : decode cX7_freed 62 = .ok (.iconst 1, 1) := by decide +kernel
theorem dX7_freed_63 : decode cX7_freed 63 = .ok (.iload 4, 2) := by decide +kernel
theorem dX7_freed_65 : decode cX7_freed 65 = .ok (.ishl, 1) := by decide +kernel
theorem dX7_freed_66 : decode cX7_freed 66 = .ok (.ior, 1) := by decide +kernel
theorem dX7_freed_67 : decode cX7_freed 67 = .ok (.istore_n 3, 1) := by decide +kernel
theorem dX7_freed_68 : decode cX7_freed 68 = .ok (.iinc 4 1, 3) := by decide +kernel
theorem dX7_freed_71 : decode cX7_freed 71 = .ok (.goto (-46), 3) := by decide +kernel
theorem dX7_freed_74 : decode cX7_freed 74 = .ok (.iload_n 3, 1) := by decide +kernel
theorem dX7_freed_75 : decode cX7_freed 75 = .ok (.ireturn, 1) := by decide +kernel
theorem dX7_never_0 : decode cX7_never 0 = .ok (.aload_n 0, 1) := by decide +kernel
theorem dX7_never_1 : decode cX7_never 1 = .ok (.getfield 21, 3) := by decide +kernel
theorem dX7_never_4 : decode cX7_never 4 = .ok (.iload_n 1, 1) := by decide +kernel
theorem dX7_never_5 : decode cX7_never 5 = .ok (.invokevirtual 108, 3) := by decide +kernel
theorem dX7_never_8 : decode cX7_never 8 = .ok (.ifCond .ne 5, 3) := by decide +kernel
theorem dX7_never_11 : decode cX7_never 11 = .ok (.iconst (-1), 1) := by decide +kernel
theorem dX7_never_12 : decode cX7_never 12 = .ok (.ireturn, 1) := by decide +kernel
theorem dX7_never_13 : decode cX7_never 13 = .ok (.aload_n 0, 1) := by decide +kernel
theorem dX7_never_14 : decode cX7_never 14 = .ok (.getfield 21, 3) := by decide +kernel
theorem dX7_never_17 : decode cX7_never 17 = .ok (.getfield 115, 3) := by decide +kernel
theorem dX7_never_20 : decode cX7_never 20 = .ok (.iload_n 1, 1) := by decide +kernel
theorem dX7_never_21 : decode cX7_never 21 = .ok (.iaload, 1) := by decide +kernel
theorem dX7_never_22 : decode cX7_never 22 = .ok (.iconst (-1), 1) := by decide +kernel
theorem dX7_never_23 : decode cX7_never 23 = .ok (.if_icmp .ne 5, 3) := by decide +kernel
theorem dX7_never_26 : decode cX7_never 26 = .ok (.iconst 0, 1) := by decide +kernel
theorem dX7_never_27 : decode cX7_never 27 = .ok (.ireturn, 1) := by decide +kernel
theorem dX7_never_28 : decode cX7_never 28 = .ok (.iconst 0, 1) := by decide +kernel
theorem dX7_never_29 : decode cX7_never 29 = .ok (.istore_n 2, 1) := by decide +kernel
theorem dX7_never_30 : decode cX7_never 30 = .ok (.aload_n 0, 1) := by decide +kernel
theorem dX7_never_31 : decode cX7_never 31 = .ok (.getfield 21, 3) := by decide +kernel
theorem dX7_never_34 : decode cX7_never 34 = .ok (.iload_n 1, 1) := by decide +kernel
theorem dX7_never_35 : decode cX7_never 35 = .ok (.invokevirtual 215, 3) := by decide +kernel
theorem dX7_never_38 : decode cX7_never 38 = .ok (.iconst 1, 1) := by decide +kernel
theorem dX7_never_39 : decode cX7_never 39 = .ok (.iadd, 1) := by decide +kernel
theorem dX7_never_40 : decode cX7_never 40 = .ok (.istore_n 3, 1) := by decide +kernel
theorem dX7_never_41 : decode cX7_never 41 = .ok (.iload_n 3, 1) := by decide +kernel
theorem dX7_never_42 : decode cX7_never 42 = .ok (.aload_n 0, 1) := by decide +kernel
theorem dX7_never_43 : decode cX7_never 43 = .ok (.getfield 21, 3) := by decide +kernel
theorem dX7_never_46 : decode cX7_never 46 = .ok (.getfield 218, 3) := by decide +kernel
theorem dX7_never_49 : decode cX7_never 49 = .ok (.if_icmp .ge 69, 3) := by decide +kernel
theorem dX7_never_52 : decode cX7_never 52 = .ok (.aload_n 0, 1) := by decide +kernel
theorem dX7_never_53 : decode cX7_never 53 = .ok (.getfield 21, 3) := by decide +kernel
theorem dX7_never_56 : decode cX7_never 56 = .ok (.getfield 221, 3) := by decide +kernel
theorem dX7_never_59 : decode cX7_never 59 = .ok (.iload_n 3, 1) := by decide +kernel
theorem dX7_never_60 : decode cX7_never 60 = .ok (.iaload, 1) := by decide +kernel
theorem dX7_never_61 : decode cX7_never 61 = .ok (.istore 4, 2) := by decide +kernel
theorem dX7_never_63 : decode cX7_never 63 = .ok (.aload_n 0, 1) := by decide +kernel
theorem dX7_never_64 : decode cX7_never 64 = .ok (.getfield 21, 3) := by decide +kernel
theorem dX7_never_67 : decode cX7_never 67 = .ok (.getfield 115, 3) := by decide +kernel
theorem dX7_never_70 : decode cX7_never 70 = .ok (.iload 4, 2) := by decide +kernel
theorem dX7_never_72 : decode cX7_never 72 = .ok (.iaload, 1) := by decide +kernel
theorem dX7_never_73 : decode cX7_never 73 = .ok (.aload_n 0, 1) := by decide +kernel
theorem dX7_never_74 : decode cX7_never 74 = .ok (.getfield 21, 3) := by decide +kernel
theorem dX7_never_77 : decode cX7_never 77 = .ok (.getfield 115, 3) := by decide +kernel
theorem dX7_never_80 : decode cX7_never 80 = .ok (.iload_n 1, 1) := by decide +kernel
theorem dX7_never_81 : decode cX7_never 81 = .ok (.iaload, 1) := by decide +kernel
theorem dX7_never_82 : decode cX7_never 82 = .ok (.if_icmp .ne 30, 3) := by decide +kernel
theorem dX7_never_85 : decode cX7_never 85 = .ok (.iload_n 2, 1) := by decide +kernel
theorem dX7_never_86 : decode cX7_never 86 = .ok (.aload_n 0, 1) := by decide +kernel
theorem dX7_never_87 : decode cX7_never 87 = .ok (.getfield 21, 3) := by decide +kernel
theorem dX7_never_90 : decode cX7_never 90 = .ok (.aload_n 0, 1) := by decide +kernel
theorem dX7_never_91 : decode cX7_never 91 = .ok (.getfield 21, 3) := by decide +kernel
theorem dX7_never_94 : decode cX7_never 94 = .ok (.getfield 224, 3) := by decide +kernel
theorem dX7_never_97 : decode cX7_never 97 = .ok (.iload 4, 2) := by decide +kernel
theorem dX7_never_99 : decode cX7_never 99 = .ok (.iaload, 1) := by decide +kernel
theorem dX7_never_100 : decode cX7_never 100 = .ok (.invokevirtual 227, 3) := by decide +kernel
theorem dX7_never_103 : decode cX7_never 103 = .ok (.iconst 1, 1) := by decide +kernel
theorem dX7_never_104 : decode cX7_never 104 = .ok (.iload 4, 2) := by decide +kernel
theorem dX7_never_106 : decode cX7_never 106 = .ok (.ishl, 1) := by decide +kernel
theorem dX7_never_107 : decode cX7_never 107 = .ok (.iconst (-1), 1) := by decide +kernel
theorem dX7_never_108 : decode cX7_never 108 = .ok (.ixor, 1) := by decide +kernel
theorem dX7_never_109 : decode cX7_never 109 = .ok (.iand, 1) := by decide +kernel
theorem dX7_never_110 : decode cX7_never 110 = .ok (.ior, 1) := by decide +kernel
theorem dX7_never_111 : decode cX7_never 111 = .ok (.istore_n 2, 1) := by decide +kernel
theorem dX7_never_112 : decode cX7_never 112 = .ok (.iinc 3 1, 3) := by decide +kernel
theorem dX7_never_115 : decode cX7_never 115 = .ok (.goto (-74), 3) := by decide +kernel
theorem dX7_never_118 : decode cX7_never 118 = .ok (.iload_n 2, 1) := by decide +kernel
theorem dX7_never_119 : decode cX7_never 119 = .ok (.iconst 1, 1) := by decide +kernel
theorem dX7_never_120 : decode cX7_never 120 = .ok (.iload_n 1, 1) := by decide +kernel
theorem dX7_never_121 : decode cX7_never 121 = .ok (.ishl, 1) := by decide +kernel
theorem dX7_never_122 : decode cX7_never 122 = .ok (.iconst (-1), 1) := by decide +kernel
theorem dX7_never_123 : decode cX7_never 123 = .ok (.ixor, 1) := by decide +kernel
theorem dX7_never_124 : decode cX7_never 124 = .ok (.iand, 1) := by decide +kernel
theorem dX7_never_125 : decode cX7_never 125 = .ok (.ireturn, 1) := by decide +kernel
theorem dX7_needs_0 : decode cX7_needs 0 = .ok (.iload_n 2, 1) := by decide +kernel
theorem dX7_needs_1 : decode cX7_needs 1 = .ok (.iconst 1, 1) := by decide +kernel
theorem dX7_needs_2 : decode cX7_needs 2 = .ok (.if_icmp .lt 18, 3) := by decide +kernel
theorem dX7_needs_5 : decode cX7_needs 5 = .ok (.iload_n 2, 1) := by decide +kernel
theorem dX7_needs_6 : decode cX7_needs 6 = .ok (.bipush 20, 2) := by decide +kernel
theorem dX7_needs_8 : decode cX7_needs 8 = .ok (.if_icmp .gt 12, 3) := by decide +kernel
theorem dX7_needs_11 : decode cX7_needs 11 = .ok (.iload_n 3, 1) := by decide +kernel
theorem dX7_needs_12 : decode cX7_needs 12 = .ok (.ifCond .eq 10, 3) := by decide +kernel
theorem dX7_needs_15 : decode cX7_needs 15 = .ok (.iload_n 3, 1) := by decide +kernel
theorem dX7_needs_16 : decode cX7_needs 16 = .ok (.iconst 1, 1) := by decide +kernel
theorem dX7_needs_17 : decode cX7_needs 17 = .ok (.if_icmp .eq 5, 3) := by decide +kernel
theorem dX7_needs_20 : decode cX7_needs 20 = .ok (.iconst (-1), 1) := by decide +kernel
theorem dX7_needs_21 : decode cX7_needs 21 = .ok (.ireturn, 1) := by decide +kernel
theorem dX7_needs_22 : decode cX7_needs 22 = .ok (.aload_n 0, 1) := by decide +kernel
theorem dX7_needs_23 : decode cX7_needs 23 = .ok (.getfield 30, 3) := by decide +kernel
theorem dX7_needs_26 : decode cX7_needs 26 = .ok (.invokevirtual 191, 3) := by decide +kernel
theorem dX7_needs_29 : decode cX7_needs 29 = .ok (.iload_n 1, 1) := by decide +kernel
theorem dX7_needs_30 : decode cX7_needs 30 = .ok (.istore 4, 2) := by decide +kernel
theorem dX7_needs_32 : decode cX7_needs 32 = .ok (.iconst 0, 1) := by decide +kernel
theorem dX7_needs_33 : decode cX7_needs 33 = .ok (.istore 5, 2) := by decide +kernel
theorem dX7_needs_35 : decode cX7_needs 35 = .ok (.iconst 0, 1) := by decide +kernel
theorem dX7_needs_36 : decode cX7_needs 36 = .ok (.istore 6, 2) := by decide +kernel
theorem dX7_needs_38 : decode cX7_needs 38 = .ok (.iconst 0, 1) := by decide +kernel
theorem dX7_needs_39 : decode cX7_needs 39 = .ok (.istore 7, 2) := by decide +kernel
theorem dX7_needs_41 : decode cX7_needs 41 = .ok (.iload 7, 2) := by decide +kernel
theorem dX7_needs_43 : decode cX7_needs 43 = .ok (.iload_n 2, 1) := by decide +kernel
theorem dX7_needs_44 : decode cX7_needs 44 = .ok (.if_icmp .ge 54, 3) := by decide +kernel
theorem dX7_needs_47 : decode cX7_needs 47 = .ok (.aload_n 0, 1) := by decide +kernel
theorem dX7_needs_48 : decode cX7_needs 48 = .ok (.getfield 30, 3) := by decide +kernel
theorem dX7_needs_51 : decode cX7_needs 51 = .ok (.iload 4, 2) := by decide +kernel
theorem dX7_needs_53 : decode cX7_needs 53 = .ok (.invokevirtual 230, 3) := by decide +kernel
theorem dX7_needs_56 : decode cX7_needs 56 = .ok (.istore 4, 2) := by decide +kernel
theorem dX7_needs_58 : decode cX7_needs 58 = .ok (.aload_n 0, 1) := by decide +kernel
theorem dX7_needs_59 : decode cX7_needs 59 = .ok (.getfield 30, 3) := by decide +kernel
theorem dX7_needs_62 : decode cX7_needs 62 = .ok (.iconst 0, 1) := by decide +kernel
theorem dX7_needs_63 : decode cX7_needs 63 = .ok (.invokevirtual 194, 3) := by decide +kernel
theorem dX7_needs_66 : decode cX7_needs 66 = .ok (.iload 5, 2) := by decide +kernel
theorem dX7_needs_68 : decode cX7_needs 68 = .ok (.aload_n 0, 1) := by decide +kernel
theorem dX7_needs_69 : decode cX7_needs 69 = .ok (.getfield 30, 3) := by decide +kernel
theorem dX7_needs_72 : decode cX7_needs 72 = .ok (.invokevirtual 200, 3) := by decide +kernel
theorem dX7_needs_75 : decode cX7_needs 75 = .ok (.iadd, 1) := by decide +kernel
theorem dX7_needs_76 : decode cX7_needs 76 = .ok (.istore 5, 2) := by decide +kernel
theorem dX7_needs_78 : decode cX7_needs 78 = .ok (.iload 6, 2) := by decide +kernel
theorem dX7_needs_80 : decode cX7_needs 80 = .ok (.aload_n 0, 1) := by decide +kernel
theorem dX7_needs_81 : decode cX7_needs 81 = .ok (.getfield 30, 3) := by decide +kernel
theorem dX7_needs_84 : decode cX7_needs 84 = .ok (.invokevirtual 200, 3) := by decide +kernel
theorem dX7_needs_87 : decode cX7_needs 87 = .ok (.invokestatic 233, 3) := by decide +kernel
theorem dX7_needs_90 : decode cX7_needs 90 = .ok (.istore 6, 2) := by decide +kernel
theorem dX7_needs_92 : decode cX7_needs 92 = .ok (.iinc 7 1, 3) := by decide +kernel
theorem dX7_needs_95 : decode cX7_needs 95 = .ok (.goto (-54), 3) := by decide +kernel
theorem dX7_needs_98 : decode cX7_needs 98 = .ok (.iload_n 3, 1) := by decide +kernel
theorem dX7_needs_99 : decode cX7_needs 99 = .ok (.ifCond .ne 10, 3) := by decide +kernel
theorem dX7_needs_102 : decode cX7_needs 102 = .ok (.iload 5, 2) := by decide +kernel
theorem dX7_needs_104 : decode cX7_needs 104 = .ok (.iload_n 2, 1) := by decide +kernel
theorem dX7_needs_105 : decode cX7_needs 105 = .ok (.idiv, 1) := by decide +kernel
theorem dX7_needs_106 : decode cX7_needs 106 = .ok (.goto 5, 3) := by decide +kernel
theorem dX7_needs_109 : decode cX7_needs 109 = .ok (.iload 6, 2) := by decide +kernel
theorem dX7_needs_111 : decode cX7_needs 111 = .ok (.ireturn, 1) := by decide +kernel
theorem dX7_image_0 : decode cX7_image 0 = .ok (.aload_n 0, 1) := by decide +kernel
theorem dX7_image_1 : decode cX7_image 1 = .ok (.aload_n 0, 1) := by decide +kernel
theorem dX7_image_2 : decode cX7_image 2 = .ok (.getfield 21, 3) := by decide +kernel
theorem dX7_image_5 : decode cX7_image 5 = .ok (.getfield 218, 3) := by decide +kernel
theorem dX7_image_8 : decode cX7_image 8 = .ok (.putfield 68, 3) := by decide +kernel
theorem dX7_image_11 : decode cX7_image 11 = .ok (.aload_n 0, 1) := by decide +kernel
theorem dX7_image_12 : decode cX7_image 12 = .ok (.getfield 21, 3) := by decide +kernel
theorem dX7_image_15 : decode cX7_image 15 = .ok (.getfield 115, 3) := by decide +kernel
theorem dX7_image_18 : decode cX7_image 18 = .ok (.iconst 0, 1) := by decide +kernel
theorem dX7_image_19 : decode cX7_image 19 = .ok (.aload_n 0, 1) := by decide +kernel
theorem dX7_image_20 : decode cX7_image 20 = .ok (.getfield 64, 3) := by decide +kernel
theorem dX7_image_23 : decode cX7_image 23 = .ok (.iconst 0, 1) := by decide +kernel
theorem dX7_image_24 : decode cX7_image 24 = .ok (.bipush 12, 2) := by decide +kernel
theorem dX7_image_26 : decode cX7_image 26 = .ok (.invokestatic 238, 3) := by decide +kernel
theorem dX7_image_29 : decode cX7_image 29 = .ok (.aload_n 0, 1) := by decide +kernel
theorem dX7_image_30 : decode cX7_image 30 = .ok (.getfield 68, 3) := by decide +kernel
theorem dX7_image_33 : decode cX7_image 33 = .ok (.ireturn, 1) := by decide +kernel
theorem dX7_back_0 : decode cX7_back 0 = .ok (.aload_n 0, 1) := by decide +kernel
theorem dX7_back_1 : decode cX7_back 1 = .ok (.getfield 68, 3) := by decide +kernel
theorem dX7_back_4 : decode cX7_back 4 = .ok (.iconst (-1), 1) := by decide +kernel
theorem dX7_back_5 : decode cX7_back 5 = .ok (.if_icmp .ne 6, 3) := by decide +kernel
theorem dX7_back_8 : decode cX7_back 8 = .ok (.bipush (-5), 2) := by decide +kernel
theorem dX7_back_10 : decode cX7_back 10 = .ok (.ireturn, 1) := by decide +kernel
theorem dX7_back_11 : decode cX7_back 11 = .ok (.aload_n 0, 1) := by decide +kernel
theorem dX7_back_12 : decode cX7_back 12 = .ok (.getfield 64, 3) := by decide +kernel
theorem dX7_back_15 : decode cX7_back 15 = .ok (.iconst 0, 1) := by decide +kernel
theorem dX7_back_16 : decode cX7_back 16 = .ok (.aload_n 0, 1) := by decide +kernel
theorem dX7_back_17 : decode cX7_back 17 = .ok (.getfield 21, 3) := by decide +kernel
theorem dX7_back_20 : decode cX7_back 20 = .ok (.getfield 115, 3) := by decide +kernel
theorem dX7_back_23 : decode cX7_back 23 = .ok (.iconst 0, 1) := by decide +kernel
theorem dX7_back_24 : decode cX7_back 24 = .ok (.aload_n 0, 1) := by decide +kernel
theorem dX7_back_25 : decode cX7_back 25 = .ok (.getfield 68, 3) := by decide +kernel
theorem dX7_back_28 : decode cX7_back 28 = .ok (.invokestatic 238, 3) := by decide +kernel
theorem dX7_back_31 : decode cX7_back 31 = .ok (.aload_n 0, 1) := by decide +kernel
theorem dX7_back_32 : decode cX7_back 32 = .ok (.getfield 68, 3) := by decide +kernel
theorem dX7_back_35 : decode cX7_back 35 = .ok (.ireturn, 1) := by decide +kernel
theorem dX7_undo_0 : decode cX7_undo 0 = .ok (.aload_n 0, 1) := by decide +kernel
theorem dX7_undo_1 : decode cX7_undo 1 = .ok (.getfield 46, 3) := by decide +kernel
theorem dX7_undo_4 : decode cX7_undo 4 = .ok (.invokevirtual 244, 3) := by decide +kernel
theorem dX7_undo_7 : decode cX7_undo 7 = .ok (.ifCond .ne 6, 3) := by decide +kernel
theorem dX7_undo_10 : decode cX7_undo 10 = .ok (.bipush (-5), 2) := by decide +kernel
theorem dX7_undo_12 : decode cX7_undo 12 = .ok (.ireturn, 1) := by decide +kernel
theorem dX7_undo_13 : decode cX7_undo 13 = .ok (.aload_n 0, 1) := by decide +kernel
theorem dX7_undo_14 : decode cX7_undo 14 = .ok (.aload_n 0, 1) := by decide +kernel
theorem dX7_undo_15 : decode cX7_undo 15 = .ok (.getfield 46, 3) := by decide +kernel
theorem dX7_undo_18 : decode cX7_undo 18 = .ok (.getfield 247, 3) := by decide +kernel
theorem dX7_undo_21 : decode cX7_undo 21 = .ok (.aload_n 0, 1) := by decide +kernel
theorem dX7_undo_22 : decode cX7_undo 22 = .ok (.getfield 46, 3) := by decide +kernel
theorem dX7_undo_25 : decode cX7_undo 25 = .ok (.getfield 250, 3) := by decide +kernel
theorem dX7_undo_28 : decode cX7_undo 28 = .ok (.iaload, 1) := by decide +kernel
theorem dX7_undo_29 : decode cX7_undo 29 = .ok (.invokevirtual 253, 3) := by decide +kernel
theorem dX7_undo_32 : decode cX7_undo 32 = .ok (.aload_n 0, 1) := by decide +kernel
theorem dX7_undo_33 : decode cX7_undo 33 = .ok (.getfield 46, 3) := by decide +kernel
theorem dX7_undo_36 : decode cX7_undo 36 = .ok (.getfield 250, 3) := by decide +kernel
theorem dX7_undo_39 : decode cX7_undo 39 = .ok (.ireturn, 1) := by decide +kernel
theorem dX7_redo_0 : decode cX7_redo 0 = .ok (.aload_n 0, 1) := by decide +kernel
theorem dX7_redo_1 : decode cX7_redo 1 = .ok (.getfield 46, 3) := by decide +kernel
theorem dX7_redo_4 : decode cX7_redo 4 = .ok (.invokevirtual 256, 3) := by decide +kernel
theorem dX7_redo_7 : decode cX7_redo 7 = .ok (.ifCond .ne 6, 3) := by decide +kernel
theorem dX7_redo_10 : decode cX7_redo 10 = .ok (.bipush (-5), 2) := by decide +kernel
theorem dX7_redo_12 : decode cX7_redo 12 = .ok (.ireturn, 1) := by decide +kernel
theorem dX7_redo_13 : decode cX7_redo 13 = .ok (.aload_n 0, 1) := by decide +kernel
theorem dX7_redo_14 : decode cX7_redo 14 = .ok (.aload_n 0, 1) := by decide +kernel
theorem dX7_redo_15 : decode cX7_redo 15 = .ok (.getfield 46, 3) := by decide +kernel
theorem dX7_redo_18 : decode cX7_redo 18 = .ok (.getfield 259, 3) := by decide +kernel
theorem dX7_redo_21 : decode cX7_redo 21 = .ok (.aload_n 0, 1) := by decide +kernel
theorem dX7_redo_22 : decode cX7_redo 22 = .ok (.getfield 46, 3) := by decide +kernel
theorem dX7_redo_25 : decode cX7_redo 25 = .ok (.getfield 250, 3) := by decide +kernel
theorem dX7_redo_28 : decode cX7_redo 28 = .ok (.iaload, 1) := by decide +kernel
theorem dX7_redo_29 : decode cX7_redo 29 = .ok (.invokevirtual 253, 3) := by decide +kernel
theorem dX7_redo_32 : decode cX7_redo 32 = .ok (.aload_n 0, 1) := by decide +kernel
theorem dX7_redo_33 : decode cX7_redo 33 = .ok (.getfield 46, 3) := by decide +kernel
theorem dX7_redo_36 : decode cX7_redo 36 = .ok (.invokevirtual 262, 3) := by decide +kernel
theorem dX7_redo_39 : decode cX7_redo 39 = .ok (.aload_n 0, 1) := by decide +kernel
theorem dX7_redo_40 : decode cX7_redo 40 = .ok (.getfield 46, 3) := by decide +kernel
theorem dX7_redo_43 : decode cX7_redo 43 = .ok (.getfield 265, 3) := by decide +kernel
theorem dX7_redo_46 : decode cX7_redo 46 = .ok (.aload_n 0, 1) := by decide +kernel
theorem dX7_redo_47 : decode cX7_redo 47 = .ok (.getfield 46, 3) := by decide +kernel
theorem dX7_redo_50 : decode cX7_redo 50 = .ok (.getfield 250, 3) := by decide +kernel
theorem dX7_redo_53 : decode cX7_redo 53 = .ok (.isub, 1) := by decide +kernel
theorem dX7_redo_54 : decode cX7_redo 54 = .ok (.ireturn, 1) := by decide +kernel
theorem dX7_body_0 : decode cX7_body 0 = .ok (.iload_n 1, 1) := by decide +kernel
theorem dX7_body_1 : decode cX7_body 1 = .ok (.invokestatic 268, 3) := by decide +kernel
theorem dX7_body_4 : decode cX7_body 4 = .ok (.ifCond .eq 14, 3) := by decide +kernel
theorem dX7_body_7 : decode cX7_body 7 = .ok (.aload_n 0, 1) := by decide +kernel
theorem dX7_body_8 : decode cX7_body 8 = .ok (.getfield 53, 3) := by decide +kernel
theorem dX7_body_11 : decode cX7_body 11 = .ok (.iload_n 1, 1) := by decide +kernel
theorem dX7_body_12 : decode cX7_body 12 = .ok (.invokevirtual 271, 3) := by decide +kernel
theorem dX7_body_15 : decode cX7_body 15 = .ok (.goto 4, 3) := by decide +kernel
theorem dX7_body_18 : decode cX7_body 18 = .ok (.iconst (-1), 1) := by decide +kernel
theorem dX7_body_19 : decode cX7_body 19 = .ok (.ireturn, 1) := by decide +kernel
theorem dX7_act_0 : decode cX7_act 0 = .ok (.aload_n 0, 1) := by decide +kernel
theorem dX7_act_1 : decode cX7_act 1 = .ok (.getfield 53, 3) := by decide +kernel
theorem dX7_act_4 : decode cX7_act 4 = .ok (.iload_n 1, 1) := by decide +kernel
theorem dX7_act_5 : decode cX7_act 5 = .ok (.iload_n 2, 1) := by decide +kernel
theorem dX7_act_6 : decode cX7_act 6 = .ok (.iload_n 3, 1) := by decide +kernel
theorem dX7_act_7 : decode cX7_act 7 = .ok (.invokevirtual 273, 3) := by decide +kernel
theorem dX7_act_10 : decode cX7_act 10 = .ok (.ireturn, 1) := by decide +kernel
theorem dX7_trace_0 : decode cX7_trace 0 = .ok (.iload_n 1, 1) := by decide +kernel
theorem dX7_trace_1 : decode cX7_trace 1 = .ok (.ifCond .lt 26, 3) := by decide +kernel
theorem dX7_trace_4 : decode cX7_trace 4 = .ok (.iload_n 1, 1) := by decide +kernel
theorem dX7_trace_5 : decode cX7_trace 5 = .ok (.aload_n 0, 1) := by decide +kernel
theorem dX7_trace_6 : decode cX7_trace 6 = .ok (.getfield 53, 3) := by decide +kernel
theorem dX7_trace_9 : decode cX7_trace 9 = .ok (.invokevirtual 276, 3) := by decide +kernel
theorem dX7_trace_12 : decode cX7_trace 12 = .ok (.if_icmp .ge 15, 3) := by decide +kernel
theorem dX7_trace_15 : decode cX7_trace 15 = .ok (.aload_n 0, 1) := by decide +kernel
theorem dX7_trace_16 : decode cX7_trace 16 = .ok (.getfield 53, 3) := by decide +kernel
theorem dX7_trace_19 : decode cX7_trace 19 = .ok (.getfield 279, 3) := by decide +kernel
theorem dX7_trace_22 : decode cX7_trace 22 = .ok (.iload_n 1, 1) := by decide +kernel
theorem dX7_trace_23 : decode cX7_trace 23 = .ok (.iaload, 1) := by decide +kernel
theorem dX7_trace_24 : decode cX7_trace 24 = .ok (.goto 4, 3) := by decide +kernel
theorem dX7_trace_27 : decode cX7_trace 27 = .ok (.iconst (-1), 1) := by decide +kernel
theorem dX7_trace_28 : decode cX7_trace 28 = .ok (.ireturn, 1) := by decide +kernel
theorem dX7_keep_0 : decode cX7_keep 0 = .ok (.iload_n 1, 1) := by decide +kernel
theorem dX7_keep_1 : decode cX7_keep 1 = .ok (.invokestatic 80, 3) := by decide +kernel
theorem dX7_keep_4 : decode cX7_keep 4 = .ok (.ifCond .eq 19, 3) := by decide +kernel
theorem dX7_keep_7 : decode cX7_keep 7 = .ok (.iload_n 2, 1) := by decide +kernel
theorem dX7_keep_8 : decode cX7_keep 8 = .ok (.iconst (-1), 1) := by decide +kernel
theorem dX7_keep_9 : decode cX7_keep 9 = .ok (.if_icmp .eq 16, 3) := by decide +kernel
theorem dX7_keep_12 : decode cX7_keep 12 = .ok (.aload_n 0, 1) := by decide +kernel
theorem dX7_keep_13 : decode cX7_keep 13 = .ok (.getfield 53, 3) := by decide +kernel
theorem dX7_keep_16 : decode cX7_keep 16 = .ok (.iload_n 2, 1) := by decide +kernel
theorem dX7_keep_17 : decode cX7_keep 17 = .ok (.invokevirtual 282, 3) := by decide +kernel
theorem dX7_keep_20 : decode cX7_keep 20 = .ok (.ifCond .ne 5, 3) := by decide +kernel
theorem dX7_keep_23 : decode cX7_keep 23 = .ok (.iconst (-1), 1) := by decide +kernel
theorem dX7_keep_24 : decode cX7_keep 24 = .ok (.ireturn, 1) := by decide +kernel
theorem dX7_keep_25 : decode cX7_keep 25 = .ok (.aload_n 0, 1) := by decide +kernel
theorem dX7_keep_26 : decode cX7_keep 26 = .ok (.getfield 59, 3) := by decide +kernel
theorem dX7_keep_29 : decode cX7_keep 29 = .ok (.iload_n 1, 1) := by decide +kernel
theorem dX7_keep_30 : decode cX7_keep 30 = .ok (.aaload, 1) := by decide +kernel
theorem dX7_keep_31 : decode cX7_keep 31 = .ok (.iload_n 2, 1) := by decide +kernel
theorem dX7_keep_32 : decode cX7_keep 32 = .ok (.invokevirtual 285, 3) := by decide +kernel
theorem dX7_keep_35 : decode cX7_keep 35 = .ok (.iconst 1, 1) := by decide +kernel
theorem dX7_keep_36 : decode cX7_keep 36 = .ok (.ireturn, 1) := by decide +kernel
theorem dX7_row_0 : decode cX7_row 0 = .ok (.iload_n 1, 1) := by decide +kernel
theorem dX7_row_1 : decode cX7_row 1 = .ok (.invokestatic 80, 3) := by decide +kernel
theorem dX7_row_4 : decode cX7_row 4 = .ok (.ifCond .eq 18, 3) := by decide +kernel
theorem dX7_row_7 : decode cX7_row 7 = .ok (.iload_n 2, 1) := by decide +kernel
theorem dX7_row_8 : decode cX7_row 8 = .ok (.ifCond .lt 14, 3) := by decide +kernel
theorem dX7_row_11 : decode cX7_row 11 = .ok (.iload_n 2, 1) := by decide +kernel
theorem dX7_row_12 : decode cX7_row 12 = .ok (.iconst 4, 1) := by decide +kernel
theorem dX7_row_13 : decode cX7_row 13 = .ok (.if_icmp .gt 9, 3) := by decide +kernel
theorem dX7_row_16 : decode cX7_row 16 = .ok (.iload_n 3, 1) := by decide +kernel
theorem dX7_row_17 : decode cX7_row 17 = .ok (.bipush 60, 2) := by decide +kernel
theorem dX7_row_19 : decode cX7_row 19 = .ok (.if_icmp .le 5, 3) := by decide +kernel
theorem dX7_row_22 : decode cX7_row 22 = .ok (.iconst (-1), 1) := by decide +kernel
theorem dX7_row_23 : decode cX7_row 23 = .ok (.ireturn, 1) := by decide +kernel
theorem dX7_row_24 : decode cX7_row 24 = .ok (.iload_n 3, 1) := by decide +kernel
theorem dX7_row_25 : decode cX7_row 25 = .ok (.ifCond .ge 6, 3) := by decide +kernel
theorem dX7_row_28 : decode cX7_row 28 = .ok (.bipush (-14), 2) := by decide +kernel
theorem dX7_row_30 : decode cX7_row 30 = .ok (.ireturn, 1) := by decide +kernel
theorem dX7_row_31 : decode cX7_row 31 = .ok (.aload_n 0, 1) := by decide +kernel
theorem dX7_row_32 : decode cX7_row 32 = .ok (.getfield 59, 3) := by decide +kernel
theorem dX7_row_35 : decode cX7_row 35 = .ok (.iload_n 1, 1) := by decide +kernel
theorem dX7_row_36 : decode cX7_row 36 = .ok (.aaload, 1) := by decide +kernel
theorem dX7_row_37 : decode cX7_row 37 = .ok (.iload_n 2, 1) := by decide +kernel
theorem dX7_row_38 : decode cX7_row 38 = .ok (.iload_n 3, 1) := by decide +kernel
theorem dX7_row_39 : decode cX7_row 39 = .ok (.invokevirtual 288, 3) := by decide +kernel
theorem dX7_row_42 : decode cX7_row 42 = .ok (.iconst 1, 1) := by decide +kernel
theorem dX7_row_43 : decode cX7_row 43 = .ok (.ireturn, 1) := by decide +kernel
theorem dX7_put_0 : decode cX7_put 0 = .ok (.aload_n 0, 1) := by decide +kernel
theorem dX7_put_1 : decode cX7_put 1 = .ok (.iload_n 1, 1) := by decide +kernel
theorem dX7_put_2 : decode cX7_put 2 = .ok (.iload_n 2, 1) := by decide +kernel
theorem dX7_put_3 : decode cX7_put 3 = .ok (.invokevirtual 292, 3) := by decide +kernel
theorem dX7_put_6 : decode cX7_put 6 = .ok (.istore 5, 2) := by decide +kernel
theorem dX7_put_8 : decode cX7_put 8 = .ok (.iload 5, 2) := by decide +kernel
theorem dX7_put_10 : decode cX7_put 10 = .ok (.ifCond .eq 6, 3) := by decide +kernel
theorem dX7_put_13 : decode cX7_put 13 = .ok (.iload 5, 2) := by decide +kernel
theorem dX7_put_15 : decode cX7_put 15 = .ok (.ireturn, 1) := by decide +kernel
theorem dX7_put_16 : decode cX7_put 16 = .ok (.aload_n 0, 1) := by decide +kernel
theorem dX7_put_17 : decode cX7_put 17 = .ok (.getfield 59, 3) := by decide +kernel
theorem dX7_put_20 : decode cX7_put 20 = .ok (.iload_n 1, 1) := by decide +kernel
theorem dX7_put_21 : decode cX7_put 21 = .ok (.aaload, 1) := by decide +kernel
theorem dX7_put_22 : decode cX7_put 22 = .ok (.iload_n 2, 1) := by decide +kernel
theorem dX7_put_23 : decode cX7_put 23 = .ok (.lload_n 3, 1) := by decide +kernel
theorem dX7_put_24 : decode cX7_put 24 = .ok (.invokevirtual 295, 3) := by decide +kernel
theorem dX7_put_27 : decode cX7_put 27 = .ok (.iconst 1, 1) := by decide +kernel
theorem dX7_put_28 : decode cX7_put 28 = .ok (.ireturn, 1) := by decide +kernel
theorem dX7_element_0 : decode cX7_element 0 = .ok (.aload_n 0, 1) := by decide +kernel
theorem dX7_element_1 : decode cX7_element 1 = .ok (.iload_n 1, 1) := by decide +kernel
theorem dX7_element_2 : decode cX7_element 2 = .ok (.iload_n 2, 1) := by decide +kernel
theorem dX7_element_3 : decode cX7_element 3 = .ok (.invokevirtual 292, 3) := by decide +kernel
theorem dX7_element_6 : decode cX7_element 6 = .ok (.ifCond .ne 17, 3) := by decide +kernel
theorem dX7_element_9 : decode cX7_element 9 = .ok (.aload_n 0, 1) := by decide +kernel
theorem dX7_element_10 : decode cX7_element 10 = .ok (.getfield 59, 3) := by decide +kernel
theorem dX7_element_13 : decode cX7_element 13 = .ok (.iload_n 1, 1) := by decide +kernel
theorem dX7_element_14 : decode cX7_element 14 = .ok (.aaload, 1) := by decide +kernel
theorem dX7_element_15 : decode cX7_element 15 = .ok (.getfield 299, 3) := by decide +kernel
theorem dX7_element_18 : decode cX7_element 18 = .ok (.iload_n 2, 1) := by decide +kernel
theorem dX7_element_19 : decode cX7_element 19 = .ok (.laload, 1) := by decide +kernel
theorem dX7_element_20 : decode cX7_element 20 = .ok (.goto 6, 3) := by decide +kernel
theorem dX7_element_23 : decode cX7_element 23 = .ok (.ldc2_w 305, 3) := by decide +kernel
theorem dX7_element_26 : decode cX7_element 26 = .ok (.lreturn, 1) := by decide +kernel
theorem dX7_shift_0 : decode cX7_shift 0 = .ok (.iload_n 1, 1) := by decide +kernel
theorem dX7_shift_1 : decode cX7_shift 1 = .ok (.invokestatic 80, 3) := by decide +kernel
theorem dX7_shift_4 : decode cX7_shift 4 = .ok (.ifCond .eq 10, 3) := by decide +kernel
theorem dX7_shift_7 : decode cX7_shift 7 = .ok (.iload_n 3, 1) := by decide +kernel
theorem dX7_shift_8 : decode cX7_shift 8 = .ok (.invokestatic 80, 3) := by decide +kernel
theorem dX7_shift_11 : decode cX7_shift 11 = .ok (.ifCond .ne 5, 3) := by decide +kernel
theorem dX7_shift_14 : decode cX7_shift 14 = .ok (.iconst (-1), 1) := by decide +kernel
theorem dX7_shift_15 : decode cX7_shift 15 = .ok (.ireturn, 1) := by decide +kernel
theorem dX7_shift_16 : decode cX7_shift 16 = .ok (.aload_n 0, 1) := by decide +kernel
theorem dX7_shift_17 : decode cX7_shift 17 = .ok (.getfield 59, 3) := by decide +kernel
theorem dX7_shift_20 : decode cX7_shift 20 = .ok (.iload_n 1, 1) := by decide +kernel
theorem dX7_shift_21 : decode cX7_shift 21 = .ok (.aaload, 1) := by decide +kernel
theorem dX7_shift_22 : decode cX7_shift 22 = .ok (.astore 6, 2) := by decide +kernel
theorem dX7_shift_24 : decode cX7_shift 24 = .ok (.aload_n 0, 1) := by decide +kernel
theorem dX7_shift_25 : decode cX7_shift 25 = .ok (.getfield 59, 3) := by decide +kernel
theorem dX7_shift_28 : decode cX7_shift 28 = .ok (.iload_n 3, 1) := by decide +kernel
theorem dX7_shift_29 : decode cX7_shift 29 = .ok (.aaload, 1) := by decide +kernel
theorem dX7_shift_30 : decode cX7_shift 30 = .ok (.astore 7, 2) := by decide +kernel
theorem dX7_shift_32 : decode cX7_shift 32 = .ok (.aload 6, 2) := by decide +kernel
theorem dX7_shift_34 : decode cX7_shift 34 = .ok (.invokevirtual 84, 3) := by decide +kernel
theorem dX7_shift_37 : decode cX7_shift 37 = .ok (.ifCond .ne 11, 3) := by decide +kernel
theorem dX7_shift_40 : decode cX7_shift 40 = .ok (.aload 7, 2) := by decide +kernel
theorem dX7_shift_42 : decode cX7_shift 42 = .ok (.invokevirtual 84, 3) := by decide +kernel
theorem dX7_shift_45 : decode cX7_shift 45 = .ok (.ifCond .eq 6, 3) := by decide +kernel
theorem dX7_shift_48 : decode cX7_shift 48 = .ok (.bipush (-11), 2) := by decide +kernel
theorem dX7_shift_50 : decode cX7_shift 50 = .ok (.ireturn, 1) := by decide +kernel
theorem dX7_shift_51 : decode cX7_shift 51 = .ok (.aload 6, 2) := by decide +kernel
theorem dX7_shift_53 : decode cX7_shift 53 = .ok (.invokevirtual 88, 3) := by decide +kernel
theorem dX7_shift_56 : decode cX7_shift 56 = .ok (.ifCond .eq 24, 3) := by decide +kernel
theorem dX7_shift_59 : decode cX7_shift 59 = .ok (.aload 7, 2) := by decide +kernel
theorem dX7_shift_61 : decode cX7_shift 61 = .ok (.invokevirtual 88, 3) := by decide +kernel
theorem dX7_shift_64 : decode cX7_shift 64 = .ok (.ifCond .eq 16, 3) := by decide +kernel
theorem dX7_shift_67 : decode cX7_shift 67 = .ok (.aload 6, 2) := by decide +kernel
theorem dX7_shift_69 : decode cX7_shift 69 = .ok (.getfield 91, 3) := by decide +kernel
theorem dX7_shift_72 : decode cX7_shift 72 = .ok (.aload 7, 2) := by decide +kernel
theorem dX7_shift_74 : decode cX7_shift 74 = .ok (.getfield 91, 3) := by decide +kernel
theorem dX7_shift_77 : decode cX7_shift 77 = .ok (.if_icmp .eq 6, 3) := by decide +kernel
theorem dX7_shift_80 : decode cX7_shift 80 = .ok (.bipush (-12), 2) := by decide +kernel
theorem dX7_shift_82 : decode cX7_shift 82 = .ok (.ireturn, 1) := by decide +kernel
theorem dX7_shift_83 : decode cX7_shift 83 = .ok (.aload 6, 2) := by decide +kernel
theorem dX7_shift_85 : decode cX7_shift 85 = .ok (.iload_n 2, 1) := by decide +kernel
theorem dX7_shift_86 : decode cX7_shift 86 = .ok (.iload 5, 2) := by decide +kernel
theorem dX7_shift_88 : decode cX7_shift 88 = .ok (.invokevirtual 307, 3) := by decide +kernel
theorem dX7_shift_91 : decode cX7_shift 91 = .ok (.ifCond .eq 15, 3) := by decide +kernel
theorem dX7_shift_94 : decode cX7_shift 94 = .ok (.aload 7, 2) := by decide +kernel
theorem dX7_shift_96 : decode cX7_shift 96 = .ok (.iload 4, 2) := by decide +kernel
theorem dX7_shift_98 : decode cX7_shift 98 = .ok (.iload 5, 2) := by decide +kernel
theorem dX7_shift_100 : decode cX7_shift 100 = .ok (.invokevirtual 307, 3) := by decide +kernel
theorem dX7_shift_103 : decode cX7_shift 103 = .ok (.ifCond .ne 6, 3) := by decide +kernel
theorem dX7_shift_106 : decode cX7_shift 106 = .ok (.bipush (-13), 2) := by decide +kernel
theorem dX7_shift_108 : decode cX7_shift 108 = .ok (.ireturn, 1) := by decide +kernel
theorem dX7_shift_109 : decode cX7_shift 109 = .ok (.aload 6, 2) := by decide +kernel
theorem dX7_shift_111 : decode cX7_shift 111 = .ok (.getfield 299, 3) := by decide +kernel
theorem dX7_shift_114 : decode cX7_shift 114 = .ok (.iload_n 2, 1) := by decide +kernel
theorem dX7_shift_115 : decode cX7_shift 115 = .ok (.aload 7, 2) := by decide +kernel
theorem dX7_shift_117 : decode cX7_shift 117 = .ok (.getfield 299, 3) := by decide +kernel
theorem dX7_shift_120 : decode cX7_shift 120 = .ok (.iload 4, 2) := by decide +kernel
theorem dX7_shift_122 : decode cX7_shift 122 = .ok (.iload 5, 2) := by decide +kernel
theorem dX7_shift_124 : decode cX7_shift 124 = .ok (.invokestatic 238, 3) := by decide +kernel
theorem dX7_shift_127 : decode cX7_shift 127 = .ok (.iload 5, 2) := by decide +kernel
theorem dX7_shift_129 : decode cX7_shift 129 = .ok (.ireturn, 1) := by decide +kernel
theorem dX7_taken_0 : decode cX7_taken 0 = .ok (.iload_n 1, 1) := by decide +kernel
theorem dX7_taken_1 : decode cX7_taken 1 = .ok (.invokestatic 80, 3) := by decide +kernel
theorem dX7_taken_4 : decode cX7_taken 4 = .ok (.ifCond .eq 10, 3) := by decide +kernel
theorem dX7_taken_7 : decode cX7_taken 7 = .ok (.iload_n 2, 1) := by decide +kernel
theorem dX7_taken_8 : decode cX7_taken 8 = .ok (.invokestatic 268, 3) := by decide +kernel
theorem dX7_taken_11 : decode cX7_taken 11 = .ok (.ifCond .ne 5, 3) := by decide +kernel
theorem dX7_taken_14 : decode cX7_taken 14 = .ok (.iconst (-1), 1) := by decide +kernel
theorem dX7_taken_15 : decode cX7_taken 15 = .ok (.ireturn, 1) := by decide +kernel
theorem dX7_taken_16 : decode cX7_taken 16 = .ok (.aload_n 0, 1) := by decide +kernel
theorem dX7_taken_17 : decode cX7_taken 17 = .ok (.getfield 59, 3) := by decide +kernel
theorem dX7_taken_20 : decode cX7_taken 20 = .ok (.iload_n 1, 1) := by decide +kernel
theorem dX7_taken_21 : decode cX7_taken 21 = .ok (.aaload, 1) := by decide +kernel
theorem dX7_taken_22 : decode cX7_taken 22 = .ok (.astore_n 3, 1) := by decide +kernel
theorem dX7_taken_23 : decode cX7_taken 23 = .ok (.aload_n 3, 1) := by decide +kernel
theorem dX7_taken_24 : decode cX7_taken 24 = .ok (.invokevirtual 84, 3) := by decide +kernel
theorem dX7_taken_27 : decode cX7_taken 27 = .ok (.ifCond .eq 6, 3) := by decide +kernel
theorem dX7_taken_30 : decode cX7_taken 30 = .ok (.bipush (-11), 2) := by decide +kernel
theorem dX7_taken_32 : decode cX7_taken 32 = .ok (.ireturn, 1) := by decide +kernel
theorem dX7_taken_33 : decode cX7_taken 33 = .ok (.aload_n 3, 1) := by decide +kernel
theorem dX7_taken_34 : decode cX7_taken 34 = .ok (.invokevirtual 88, 3) := by decide +kernel
theorem dX7_taken_37 : decode cX7_taken 37 = .ok (.ifCond .ne 17, 3) := by decide +kernel
theorem dX7_taken_40 : decode cX7_taken 40 = .ok (.aload_n 0, 1) := by decide +kernel
theorem dX7_taken_41 : decode cX7_taken 41 = .ok (.getfield 53, 3) := by decide +kernel
theorem dX7_taken_44 : decode cX7_taken 44 = .ok (.aload_n 3, 1) := by decide +kernel
theorem dX7_taken_45 : decode cX7_taken 45 = .ok (.getfield 310, 3) := by decide +kernel
theorem dX7_taken_48 : decode cX7_taken 48 = .ok (.invokevirtual 282, 3) := by decide +kernel
theorem dX7_taken_51 : decode cX7_taken 51 = .ok (.ifCond .ne 6, 3) := by decide +kernel
theorem dX7_taken_54 : decode cX7_taken 54 = .ok (.bipush (-12), 2) := by decide +kernel
theorem dX7_taken_56 : decode cX7_taken 56 = .ok (.ireturn, 1) := by decide +kernel
theorem dX7_taken_57 : decode cX7_taken 57 = .ok (.aload_n 0, 1) := by decide +kernel
theorem dX7_taken_58 : decode cX7_taken 58 = .ok (.getfield 53, 3) := by decide +kernel
theorem dX7_taken_61 : decode cX7_taken 61 = .ok (.getfield 313, 3) := by decide +kernel
theorem dX7_taken_64 : decode cX7_taken 64 = .ok (.aload_n 3, 1) := by decide +kernel
theorem dX7_taken_65 : decode cX7_taken 65 = .ok (.getfield 310, 3) := by decide +kernel
theorem dX7_taken_68 : decode cX7_taken 68 = .ok (.iaload, 1) := by decide +kernel
theorem dX7_taken_69 : decode cX7_taken 69 = .ok (.istore 4, 2) := by decide +kernel
theorem dX7_taken_71 : decode cX7_taken 71 = .ok (.iload 4, 2) := by decide +kernel
theorem dX7_taken_73 : decode cX7_taken 73 = .ok (.iload_n 2, 1) := by decide +kernel
theorem dX7_taken_74 : decode cX7_taken 74 = .ok (.invokestatic 316, 3) := by decide +kernel
theorem dX7_taken_77 : decode cX7_taken 77 = .ok (.ifCond .eq 8, 3) := by decide +kernel
theorem dX7_taken_80 : decode cX7_taken 80 = .ok (.iload 4, 2) := by decide +kernel
theorem dX7_taken_82 : decode cX7_taken 82 = .ok (.goto 5, 3) := by decide +kernel
theorem dX7_taken_85 : decode cX7_taken 85 = .ok (.bipush (-12), 2) := by decide +kernel
theorem dX7_taken_87 : decode cX7_taken 87 = .ok (.ireturn, 1) := by decide +kernel
theorem dX7_count_0 : decode cX7_count 0 = .ok (.iload_n 1, 1) := by decide +kernel
theorem dX7_count_1 : decode cX7_count 1 = .ok (.tableswitch 99 0 6 #[43, 51, 59, 67, 75, 83, 91], 43) := by decide +kernel
theorem dX7_count_44 : decode cX7_count 44 = .ok (.aload_n 0, 1) := by decide +kernel
theorem dX7_count_45 : decode cX7_count 45 = .ok (.getfield 21, 3) := by decide +kernel
theorem dX7_count_48 : decode cX7_count 48 = .ok (.getfield 218, 3) := by decide +kernel
theorem dX7_count_51 : decode cX7_count 51 = .ok (.ireturn, 1) := by decide +kernel
theorem dX7_count_52 : decode cX7_count 52 = .ok (.aload_n 0, 1) := by decide +kernel
theorem dX7_count_53 : decode cX7_count 53 = .ok (.getfield 21, 3) := by decide +kernel
theorem dX7_count_56 : decode cX7_count 56 = .ok (.getfield 319, 3) := by decide +kernel
theorem dX7_count_59 : decode cX7_count 59 = .ok (.ireturn, 1) := by decide +kernel
theorem dX7_count_60 : decode cX7_count 60 = .ok (.aload_n 0, 1) := by decide +kernel
theorem dX7_count_61 : decode cX7_count 61 = .ok (.getfield 21, 3) := by decide +kernel
theorem dX7_count_64 : decode cX7_count 64 = .ok (.invokevirtual 322, 3) := by decide +kernel
theorem dX7_count_67 : decode cX7_count 67 = .ok (.ireturn, 1) := by decide +kernel
theorem dX7_count_68 : decode cX7_count 68 = .ok (.aload_n 0, 1) := by decide +kernel
theorem dX7_count_69 : decode cX7_count 69 = .ok (.getfield 10, 3) := by decide +kernel
theorem dX7_count_72 : decode cX7_count 72 = .ok (.getfield 325, 3) := by decide +kernel
theorem dX7_count_75 : decode cX7_count 75 = .ok (.ireturn, 1) := by decide +kernel
theorem dX7_count_76 : decode cX7_count 76 = .ok (.aload_n 0, 1) := by decide +kernel
theorem dX7_count_77 : decode cX7_count 77 = .ok (.getfield 46, 3) := by decide +kernel
theorem dX7_count_80 : decode cX7_count 80 = .ok (.getfield 250, 3) := by decide +kernel
theorem dX7_count_83 : decode cX7_count 83 = .ok (.ireturn, 1) := by decide +kernel
theorem dX7_count_84 : decode cX7_count 84 = .ok (.aload_n 0, 1) := by decide +kernel
theorem dX7_count_85 : decode cX7_count 85 = .ok (.getfield 53, 3) := by decide +kernel
theorem dX7_count_88 : decode cX7_count 88 = .ok (.getfield 328, 3) := by decide +kernel
theorem dX7_count_91 : decode cX7_count 91 = .ok (.ireturn, 1) := by decide +kernel
theorem dX7_count_92 : decode cX7_count 92 = .ok (.aload_n 0, 1) := by decide +kernel
theorem dX7_count_93 : decode cX7_count 93 = .ok (.getfield 53, 3) := by decide +kernel
theorem dX7_count_96 : decode cX7_count 96 = .ok (.getfield 331, 3) := by decide +kernel
theorem dX7_count_99 : decode cX7_count 99 = .ok (.ireturn, 1) := by decide +kernel
theorem dX7_count_100 : decode cX7_count 100 = .ok (.iconst (-1), 1) := by decide +kernel
theorem dX7_count_101 : decode cX7_count 101 = .ok (.ireturn, 1) := by decide +kernel
theorem dX7_isYear_0 : decode cX7_isYear 0 = .ok (.iload_n 0, 1) := by decide +kernel
theorem dX7_isYear_1 : decode cX7_isYear 1 = .ok (.ifCond .lt 13, 3) := by decide +kernel
theorem dX7_isYear_4 : decode cX7_isYear 4 = .ok (.iload_n 0, 1) := by decide +kernel
theorem dX7_isYear_5 : decode cX7_isYear 5 = .ok (.bipush 100, 2) := by decide +kernel
theorem dX7_isYear_7 : decode cX7_isYear 7 = .ok (.if_icmp .ge 7, 3) := by decide +kernel
theorem dX7_isYear_10 : decode cX7_isYear 10 = .ok (.iconst 1, 1) := by decide +kernel
theorem dX7_isYear_11 : decode cX7_isYear 11 = .ok (.goto 4, 3) := by decide +kernel
theorem dX7_isYear_14 : decode cX7_isYear 14 = .ok (.iconst 0, 1) := by decide +kernel
theorem dX7_isYear_15 : decode cX7_isYear 15 = .ok (.ireturn, 1) := by decide +kernel
theorem dX7_isName_0 : decode cX7_isName 0 = .ok (.iload_n 0, 1) := by decide +kernel
theorem dX7_isName_1 : decode cX7_isName 1 = .ok (.ifCond .lt 13, 3) := by decide +kernel
theorem dX7_isName_4 : decode cX7_isName 4 = .ok (.iload_n 0, 1) := by decide +kernel
theorem dX7_isName_5 : decode cX7_isName 5 = .ok (.bipush 12, 2) := by decide +kernel
theorem dX7_isName_7 : decode cX7_isName 7 = .ok (.if_icmp .ge 7, 3) := by decide +kernel
theorem dX7_isName_10 : decode cX7_isName 10 = .ok (.iconst 1, 1) := by decide +kernel
theorem dX7_isName_11 : decode cX7_isName 11 = .ok (.goto 4, 3) := by decide +kernel
theorem dX7_isName_14 : decode cX7_isName 14 = .ok (.iconst 0, 1) := by decide +kernel
theorem dX7_isName_15 : decode cX7_isName 15 = .ok (.ireturn, 1) := by decide +kernel
theorem dX7_isWay_0 : decode cX7_isWay 0 = .ok (.iload_n 0, 1) := by decide +kernel
theorem dX7_isWay_1 : decode cX7_isWay 1 = .ok (.ifCond .lt 12, 3) := by decide +kernel
theorem dX7_isWay_4 : decode cX7_isWay 4 = .ok (.iload_n 0, 1) := by decide +kernel
theorem dX7_isWay_5 : decode cX7_isWay 5 = .ok (.iconst 3, 1) := by decide +kernel
theorem dX7_isWay_6 : decode cX7_isWay 6 = .ok (.if_icmp .ge 7, 3) := by decide +kernel
theorem dX7_isWay_9 : decode cX7_isWay 9 = .ok (.iconst 1, 1) := by decide +kernel
theorem dX7_isWay_10 : decode cX7_isWay 10 = .ok (.goto 4, 3) := by decide +kernel
theorem dX7_isWay_13 : decode cX7_isWay 13 = .ok (.iconst 0, 1) := by decide +kernel
theorem dX7_isWay_14 : decode cX7_isWay 14 = .ok (.ireturn, 1) := by decide +kernel
theorem dX7_isShelf_0 : decode cX7_isShelf 0 = .ok (.iload_n 0, 1) := by decide +kernel
theorem dX7_isShelf_1 : decode cX7_isShelf 1 = .ok (.ifCond .lt 13, 3) := by decide +kernel
theorem dX7_isShelf_4 : decode cX7_isShelf 4 = .ok (.iload_n 0, 1) := by decide +kernel
theorem dX7_isShelf_5 : decode cX7_isShelf 5 = .ok (.bipush 6, 2) := by decide +kernel
theorem dX7_isShelf_7 : decode cX7_isShelf 7 = .ok (.if_icmp .ge 7, 3) := by decide +kernel
theorem dX7_isShelf_10 : decode cX7_isShelf 10 = .ok (.iconst 1, 1) := by decide +kernel
theorem dX7_isShelf_11 : decode cX7_isShelf 11 = .ok (.goto 4, 3) := by decide +kernel
theorem dX7_isShelf_14 : decode cX7_isShelf 14 = .ok (.iconst 0, 1) := by decide +kernel
theorem dX7_isShelf_15 : decode cX7_isShelf 15 = .ok (.ireturn, 1) := by decide +kernel
theorem dX7_isKind_0 : decode cX7_isKind 0 = .ok (.iload_n 0, 1) := by decide +kernel
theorem dX7_isKind_1 : decode cX7_isKind 1 = .ok (.ifCond .lt 13, 3) := by decide +kernel
theorem dX7_isKind_4 : decode cX7_isKind 4 = .ok (.iload_n 0, 1) := by decide +kernel
theorem dX7_isKind_5 : decode cX7_isKind 5 = .ok (.bipush 8, 2) := by decide +kernel
theorem dX7_isKind_7 : decode cX7_isKind 7 = .ok (.if_icmp .ge 7, 3) := by decide +kernel
theorem dX7_isKind_10 : decode cX7_isKind 10 = .ok (.iconst 1, 1) := by decide +kernel
theorem dX7_isKind_11 : decode cX7_isKind 11 = .ok (.goto 4, 3) := by decide +kernel
theorem dX7_isKind_14 : decode cX7_isKind 14 = .ok (.iconst 0, 1) := by decide +kernel
theorem dX7_isKind_15 : decode cX7_isKind 15 = .ok (.ireturn, 1) := by decide +kernel
theorem dX7_mayLive_0 : decode cX7_mayLive 0 = .ok (.iload_n 0, 1) := by decide +kernel
theorem dX7_mayLive_1 : decode cX7_mayLive 1 = .ok (.invokestatic 158, 3) := by decide +kernel
theorem dX7_mayLive_4 : decode cX7_mayLive 4 = .ok (.ifCond .eq 18, 3) := by decide +kernel
theorem dX7_mayLive_7 : decode cX7_mayLive 7 = .ok (.iload_n 1, 1) := by decide +kernel
theorem dX7_mayLive_8 : decode cX7_mayLive 8 = .ok (.iload_n 0, 1) := by decide +kernel
theorem dX7_mayLive_9 : decode cX7_mayLive 9 = .ok (.if_icmp .le 13, 3) := by decide +kernel
theorem dX7_mayLive_12 : decode cX7_mayLive 12 = .ok (.iload_n 1, 1) := by decide +kernel
theorem dX7_mayLive_13 : decode cX7_mayLive 13 = .ok (.bipush 100, 2) := by decide +kernel
theorem dX7_mayLive_15 : decode cX7_mayLive 15 = .ok (.if_icmp .gt 7, 3) := by decide +kernel
theorem dX7_mayLive_18 : decode cX7_mayLive 18 = .ok (.iconst 1, 1) := by decide +kernel
theorem dX7_mayLive_19 : decode cX7_mayLive 19 = .ok (.goto 4, 3) := by decide +kernel
theorem dX7_mayLive_22 : decode cX7_mayLive 22 = .ok (.iconst 0, 1) := by decide +kernel
theorem dX7_mayLive_23 : decode cX7_mayLive 23 = .ok (.ireturn, 1) := by decide +kernel
theorem dX7_mayBeNamed_0 : decode cX7_mayBeNamed 0 = .ok (.iload_n 0, 1) := by decide +kernel
theorem dX7_mayBeNamed_1 : decode cX7_mayBeNamed 1 = .ok (.iconst (-1), 1) := by decide +kernel
theorem dX7_mayBeNamed_2 : decode cX7_mayBeNamed 2 = .ok (.if_icmp .eq 10, 3) := by decide +kernel
theorem dX7_mayBeNamed_5 : decode cX7_mayBeNamed 5 = .ok (.iload_n 0, 1) := by decide +kernel
theorem dX7_mayBeNamed_6 : decode cX7_mayBeNamed 6 = .ok (.invokestatic 118, 3) := by decide +kernel
theorem dX7_mayBeNamed_9 : decode cX7_mayBeNamed 9 = .ok (.ifCond .eq 7, 3) := by decide +kernel
theorem dX7_mayBeNamed_12 : decode cX7_mayBeNamed 12 = .ok (.iconst 1, 1) := by decide +kernel
theorem dX7_mayBeNamed_13 : decode cX7_mayBeNamed 13 = .ok (.goto 4, 3) := by decide +kernel
theorem dX7_mayBeNamed_16 : decode cX7_mayBeNamed 16 = .ok (.iconst 0, 1) := by decide +kernel
theorem dX7_mayBeNamed_17 : decode cX7_mayBeNamed 17 = .ok (.ireturn, 1) := by decide +kernel
theorem dX7_mayMend_0 : decode cX7_mayMend 0 = .ok (.iload_n 2, 1) := by decide +kernel
theorem dX7_mayMend_1 : decode cX7_mayMend 1 = .ok (.ifCond .ne 36, 3) := by decide +kernel
theorem dX7_mayMend_4 : decode cX7_mayMend 4 = .ok (.aload_n 0, 1) := by decide +kernel
theorem dX7_mayMend_5 : decode cX7_mayMend 5 = .ok (.getfield 21, 3) := by decide +kernel
theorem dX7_mayMend_8 : decode cX7_mayMend 8 = .ok (.iload_n 1, 1) := by decide +kernel
theorem dX7_mayMend_9 : decode cX7_mayMend 9 = .ok (.invokevirtual 108, 3) := by decide +kernel
theorem dX7_mayMend_12 : decode cX7_mayMend 12 = .ok (.ifCond .eq 23, 3) := by decide +kernel
theorem dX7_mayMend_15 : decode cX7_mayMend 15 = .ok (.aload_n 0, 1) := by decide +kernel
theorem dX7_mayMend_16 : decode cX7_mayMend 16 = .ok (.getfield 21, 3) := by decide +kernel
theorem dX7_mayMend_19 : decode cX7_mayMend 19 = .ok (.getfield 224, 3) := by decide +kernel
theorem dX7_mayMend_22 : decode cX7_mayMend 22 = .ok (.iload_n 1, 1) := by decide +kernel
theorem dX7_mayMend_23 : decode cX7_mayMend 23 = .ok (.iaload, 1) := by decide +kernel
theorem dX7_mayMend_24 : decode cX7_mayMend 24 = .ok (.iload_n 3, 1) := by decide +kernel
theorem dX7_mayMend_25 : decode cX7_mayMend 25 = .ok (.invokestatic 72, 3) := by decide +kernel
theorem dX7_mayMend_28 : decode cX7_mayMend 28 = .ok (.ifCond .eq 7, 3) := by decide +kernel
theorem dX7_mayMend_31 : decode cX7_mayMend 31 = .ok (.iconst 1, 1) := by decide +kernel
theorem dX7_mayMend_32 : decode cX7_mayMend 32 = .ok (.goto 4, 3) := by decide +kernel
theorem dX7_mayMend_35 : decode cX7_mayMend 35 = .ok (.iconst 0, 1) := by decide +kernel
theorem dX7_mayMend_36 : decode cX7_mayMend 36 = .ok (.ireturn, 1) := by decide +kernel
theorem dX7_mayMend_37 : decode cX7_mayMend 37 = .ok (.iload_n 2, 1) := by decide +kernel
theorem dX7_mayMend_38 : decode cX7_mayMend 38 = .ok (.iconst 1, 1) := by decide +kernel
theorem dX7_mayMend_39 : decode cX7_mayMend 39 = .ok (.if_icmp .ne 24, 3) := by decide +kernel
theorem dX7_mayMend_42 : decode cX7_mayMend 42 = .ok (.iload_n 1, 1) := by decide +kernel
theorem dX7_mayMend_43 : decode cX7_mayMend 43 = .ok (.invokestatic 118, 3) := by decide +kernel
theorem dX7_mayMend_46 : decode cX7_mayMend 46 = .ok (.ifCond .eq 17, 3) := by decide +kernel
theorem dX7_mayMend_49 : decode cX7_mayMend 49 = .ok (.iload_n 3, 1) := by decide +kernel
theorem dX7_mayMend_50 : decode cX7_mayMend 50 = .ok (.ifCond .lt 13, 3) := by decide +kernel
theorem dX7_mayMend_53 : decode cX7_mayMend 53 = .ok (.iload_n 3, 1) := by decide +kernel
theorem dX7_mayMend_54 : decode cX7_mayMend 54 = .ok (.bipush 9, 2) := by decide +kernel
theorem dX7_mayMend_56 : decode cX7_mayMend 56 = .ok (.if_icmp .gt 7, 3) := by decide +kernel
theorem dX7_mayMend_59 : decode cX7_mayMend 59 = .ok (.iconst 1, 1) := by decide +kernel
theorem dX7_mayMend_60 : decode cX7_mayMend 60 = .ok (.goto 4, 3) := by decide +kernel
theorem dX7_mayMend_63 : decode cX7_mayMend 63 = .ok (.iconst 0, 1) := by decide +kernel
theorem dX7_mayMend_64 : decode cX7_mayMend 64 = .ok (.ireturn, 1) := by decide +kernel
theorem dX7_comesFrom_0 : decode cX7_comesFrom 0 = .ok (.iload_n 2, 1) := by decide +kernel
theorem dX7_comesFrom_1 : decode cX7_comesFrom 1 = .ok (.ifCond .lt 17, 3) := by decide +kernel
theorem dX7_comesFrom_4 : decode cX7_comesFrom 4 = .ok (.iload_n 2, 1) := by decide +kernel
theorem dX7_comesFrom_5 : decode cX7_comesFrom 5 = .ok (.aload_n 1, 1) := by decide +kernel
theorem dX7_comesFrom_6 : decode cX7_comesFrom 6 = .ok (.getfield 334, 3) := by decide +kernel
theorem dX7_comesFrom_9 : decode cX7_comesFrom 9 = .ok (.iconst 3, 1) := by decide +kernel
theorem dX7_comesFrom_10 : decode cX7_comesFrom 10 = .ok (.isub, 1) := by decide +kernel
theorem dX7_comesFrom_11 : decode cX7_comesFrom 11 = .ok (.iconst 3, 1) := by decide +kernel
theorem dX7_comesFrom_12 : decode cX7_comesFrom 12 = .ok (.iload_n 3, 1) := by decide +kernel
theorem dX7_comesFrom_13 : decode cX7_comesFrom 13 = .ok (.imul, 1) := by decide +kernel
theorem dX7_comesFrom_14 : decode cX7_comesFrom 14 = .ok (.isub, 1) := by decide +kernel
theorem dX7_comesFrom_15 : decode cX7_comesFrom 15 = .ok (.if_icmp .le 5, 3) := by decide +kernel
theorem dX7_comesFrom_18 : decode cX7_comesFrom 18 = .ok (.iconst 0, 1) := by decide +kernel
theorem dX7_comesFrom_19 : decode cX7_comesFrom 19 = .ok (.ireturn, 1) := by decide +kernel
theorem dX7_comesFrom_20 : decode cX7_comesFrom 20 = .ok (.iload_n 2, 1) := by decide +kernel
theorem dX7_comesFrom_21 : decode cX7_comesFrom 21 = .ok (.iconst 3, 1) := by decide +kernel
theorem dX7_comesFrom_22 : decode cX7_comesFrom 22 = .ok (.iload_n 3, 1) := by decide +kernel
theorem dX7_comesFrom_23 : decode cX7_comesFrom 23 = .ok (.imul, 1) := by decide +kernel
theorem dX7_comesFrom_24 : decode cX7_comesFrom 24 = .ok (.iadd, 1) := by decide +kernel
theorem dX7_comesFrom_25 : decode cX7_comesFrom 25 = .ok (.istore 4, 2) := by decide +kernel
theorem dX7_comesFrom_27 : decode cX7_comesFrom 27 = .ok (.aload_n 1, 1) := by decide +kernel
theorem dX7_comesFrom_28 : decode cX7_comesFrom 28 = .ok (.getfield 299, 3) := by decide +kernel
theorem dX7_comesFrom_31 : decode cX7_comesFrom 31 = .ok (.iload 4, 2) := by decide +kernel
theorem dX7_comesFrom_33 : decode cX7_comesFrom 33 = .ok (.laload, 1) := by decide +kernel
theorem dX7_comesFrom_34 : decode cX7_comesFrom 34 = .ok (.l2i, 1) := by decide +kernel
theorem dX7_comesFrom_35 : decode cX7_comesFrom 35 = .ok (.istore 5, 2) := by decide +kernel
theorem dX7_comesFrom_37 : decode cX7_comesFrom 37 = .ok (.aload_n 1, 1) := by decide +kernel
theorem dX7_comesFrom_38 : decode cX7_comesFrom 38 = .ok (.getfield 299, 3) := by decide +kernel
theorem dX7_comesFrom_41 : decode cX7_comesFrom 41 = .ok (.iload 4, 2) := by decide +kernel
theorem dX7_comesFrom_43 : decode cX7_comesFrom 43 = .ok (.iconst 1, 1) := by decide +kernel
theorem dX7_comesFrom_44 : decode cX7_comesFrom 44 = .ok (.iadd, 1) := by decide +kernel
theorem dX7_comesFrom_45 : decode cX7_comesFrom 45 = .ok (.laload, 1) := by decide +kernel
theorem dX7_comesFrom_46 : decode cX7_comesFrom 46 = .ok (.l2i, 1) := by decide +kernel
theorem dX7_comesFrom_47 : decode cX7_comesFrom 47 = .ok (.istore 6, 2) := by decide +kernel
theorem dX7_comesFrom_49 : decode cX7_comesFrom 49 = .ok (.aload_n 1, 1) := by decide +kernel
theorem dX7_comesFrom_50 : decode cX7_comesFrom 50 = .ok (.getfield 299, 3) := by decide +kernel
theorem dX7_comesFrom_53 : decode cX7_comesFrom 53 = .ok (.iload 4, 2) := by decide +kernel
theorem dX7_comesFrom_55 : decode cX7_comesFrom 55 = .ok (.iconst 2, 1) := by decide +kernel
theorem dX7_comesFrom_56 : decode cX7_comesFrom 56 = .ok (.iadd, 1) := by decide +kernel
theorem dX7_comesFrom_57 : decode cX7_comesFrom 57 = .ok (.laload, 1) := by decide +kernel
theorem dX7_comesFrom_58 : decode cX7_comesFrom 58 = .ok (.l2i, 1) := by decide +kernel
theorem dX7_comesFrom_59 : decode cX7_comesFrom 59 = .ok (.istore 7, 2) := by decide +kernel
theorem dX7_comesFrom_61 : decode cX7_comesFrom 61 = .ok (.iload 5, 2) := by decide +kernel
theorem dX7_comesFrom_63 : decode cX7_comesFrom 63 = .ok (.iload 6, 2) := by decide +kernel
theorem dX7_comesFrom_65 : decode cX7_comesFrom 65 = .ok (.invokestatic 72, 3) := by decide +kernel
theorem dX7_comesFrom_68 : decode cX7_comesFrom 68 = .ok (.ifCond .eq 33, 3) := by decide +kernel
theorem dX7_comesFrom_71 : decode cX7_comesFrom 71 = .ok (.iload 7, 2) := by decide +kernel
theorem dX7_comesFrom_73 : decode cX7_comesFrom 73 = .ok (.invokestatic 111, 3) := by decide +kernel
theorem dX7_comesFrom_76 : decode cX7_comesFrom 76 = .ok (.ifCond .eq 25, 3) := by decide +kernel
theorem dX7_comesFrom_79 : decode cX7_comesFrom 79 = .ok (.aload_n 0, 1) := by decide +kernel
theorem dX7_comesFrom_80 : decode cX7_comesFrom 80 = .ok (.getfield 21, 3) := by decide +kernel
theorem dX7_comesFrom_83 : decode cX7_comesFrom 83 = .ok (.iload 5, 2) := by decide +kernel
theorem dX7_comesFrom_85 : decode cX7_comesFrom 85 = .ok (.iload 6, 2) := by decide +kernel
theorem dX7_comesFrom_87 : decode cX7_comesFrom 87 = .ok (.iload 7, 2) := by decide +kernel
theorem dX7_comesFrom_89 : decode cX7_comesFrom 89 = .ok (.invokevirtual 76, 3) := by decide +kernel
theorem dX7_comesFrom_92 : decode cX7_comesFrom 92 = .ok (.bipush (-3), 2) := by decide +kernel
theorem dX7_comesFrom_94 : decode cX7_comesFrom 94 = .ok (.if_icmp .eq 7, 3) := by decide +kernel
theorem dX7_comesFrom_97 : decode cX7_comesFrom 97 = .ok (.iconst 1, 1) := by decide +kernel
theorem dX7_comesFrom_98 : decode cX7_comesFrom 98 = .ok (.goto 4, 3) := by decide +kernel
theorem dX7_comesFrom_101 : decode cX7_comesFrom 101 = .ok (.iconst 0, 1) := by decide +kernel
theorem dX7_comesFrom_102 : decode cX7_comesFrom 102 = .ok (.ireturn, 1) := by decide +kernel
theorem dX7_ofPerson_0 : decode cX7_ofPerson 0 = .ok (.iload_n 2, 1) := by decide +kernel
theorem dX7_ofPerson_1 : decode cX7_ofPerson 1 = .ok (.tableswitch 70 0 3 #[31, 41, 51, 61], 31) := by decide +kernel
theorem dX7_ofPerson_32 : decode cX7_ofPerson 32 = .ok (.aload_n 0, 1) := by decide +kernel
theorem dX7_ofPerson_33 : decode cX7_ofPerson 33 = .ok (.getfield 21, 3) := by decide +kernel
theorem dX7_ofPerson_36 : decode cX7_ofPerson 36 = .ok (.getfield 224, 3) := by decide +kernel
theorem dX7_ofPerson_39 : decode cX7_ofPerson 39 = .ok (.iload_n 1, 1) := by decide +kernel
theorem dX7_ofPerson_40 : decode cX7_ofPerson 40 = .ok (.iaload, 1) := by decide +kernel
theorem dX7_ofPerson_41 : decode cX7_ofPerson 41 = .ok (.ireturn, 1) := by decide +kernel
theorem dX7_ofPerson_42 : decode cX7_ofPerson 42 = .ok (.aload_n 0, 1) := by decide +kernel
theorem dX7_ofPerson_43 : decode cX7_ofPerson 43 = .ok (.getfield 21, 3) := by decide +kernel
theorem dX7_ofPerson_46 : decode cX7_ofPerson 46 = .ok (.getfield 127, 3) := by decide +kernel
theorem dX7_ofPerson_49 : decode cX7_ofPerson 49 = .ok (.iload_n 1, 1) := by decide +kernel
theorem dX7_ofPerson_50 : decode cX7_ofPerson 50 = .ok (.iaload, 1) := by decide +kernel
theorem dX7_ofPerson_51 : decode cX7_ofPerson 51 = .ok (.ireturn, 1) := by decide +kernel
theorem dX7_ofPerson_52 : decode cX7_ofPerson 52 = .ok (.aload_n 0, 1) := by decide +kernel
theorem dX7_ofPerson_53 : decode cX7_ofPerson 53 = .ok (.getfield 21, 3) := by decide +kernel
theorem dX7_ofPerson_56 : decode cX7_ofPerson 56 = .ok (.getfield 115, 3) := by decide +kernel
theorem dX7_ofPerson_59 : decode cX7_ofPerson 59 = .ok (.iload_n 1, 1) := by decide +kernel
theorem dX7_ofPerson_60 : decode cX7_ofPerson 60 = .ok (.iaload, 1) := by decide +kernel
theorem dX7_ofPerson_61 : decode cX7_ofPerson 61 = .ok (.ireturn, 1) := by decide +kernel
theorem dX7_ofPerson_62 : decode cX7_ofPerson 62 = .ok (.aload_n 0, 1) := by decide +kernel
theorem dX7_ofPerson_63 : decode cX7_ofPerson 63 = .ok (.getfield 21, 3) := by decide +kernel
theorem dX7_ofPerson_66 : decode cX7_ofPerson 66 = .ok (.iload_n 1, 1) := by decide +kernel
theorem dX7_ofPerson_67 : decode cX7_ofPerson 67 = .ok (.invokevirtual 215, 3) := by decide +kernel
theorem dX7_ofPerson_70 : decode cX7_ofPerson 70 = .ok (.ireturn, 1) := by decide +kernel
theorem dX7_ofPerson_71 : decode cX7_ofPerson 71 = .ok (.ldc 114, 2) := by decide +kernel
theorem dX7_ofPerson_73 : decode cX7_ofPerson 73 = .ok (.ireturn, 1) := by decide +kernel
theorem dX7_ofName_0 : decode cX7_ofName 0 = .ok (.iload_n 2, 1) := by decide +kernel
theorem dX7_ofName_1 : decode cX7_ofName 1 = .ok (.tableswitch 56 10 12 #[27, 37, 47], 27) := by decide +kernel
theorem dX7_ofName_28 : decode cX7_ofName 28 = .ok (.aload_n 0, 1) := by decide +kernel
theorem dX7_ofName_29 : decode cX7_ofName 29 = .ok (.getfield 21, 3) := by decide +kernel
theorem dX7_ofName_32 : decode cX7_ofName 32 = .ok (.getfield 130, 3) := by decide +kernel
theorem dX7_ofName_35 : decode cX7_ofName 35 = .ok (.iload_n 1, 1) := by decide +kernel
theorem dX7_ofName_36 : decode cX7_ofName 36 = .ok (.iaload, 1) := by decide +kernel
theorem dX7_ofName_37 : decode cX7_ofName 37 = .ok (.ireturn, 1) := by decide +kernel
theorem dX7_ofName_38 : decode cX7_ofName 38 = .ok (.aload_n 0, 1) := by decide +kernel
theorem dX7_ofName_39 : decode cX7_ofName 39 = .ok (.getfield 21, 3) := by decide +kernel
theorem dX7_ofName_42 : decode cX7_ofName 42 = .ok (.getfield 121, 3) := by decide +kernel
theorem dX7_ofName_45 : decode cX7_ofName 45 = .ok (.iload_n 1, 1) := by decide +kernel
theorem dX7_ofName_46 : decode cX7_ofName 46 = .ok (.iaload, 1) := by decide +kernel
theorem dX7_ofName_47 : decode cX7_ofName 47 = .ok (.ireturn, 1) := by decide +kernel
theorem dX7_ofName_48 : decode cX7_ofName 48 = .ok (.aload_n 0, 1) := by decide +kernel
theorem dX7_ofName_49 : decode cX7_ofName 49 = .ok (.getfield 21, 3) := by decide +kernel
theorem dX7_ofName_52 : decode cX7_ofName 52 = .ok (.iload_n 1, 1) := by decide +kernel
theorem dX7_ofName_53 : decode cX7_ofName 53 = .ok (.invokevirtual 337, 3) := by decide +kernel
theorem dX7_ofName_56 : decode cX7_ofName 56 = .ok (.ireturn, 1) := by decide +kernel
theorem dX7_ofName_57 : decode cX7_ofName 57 = .ok (.ldc 114, 2) := by decide +kernel
theorem dX7_ofName_59 : decode cX7_ofName 59 = .ok (.ireturn, 1) := by decide +kernel
theorem dX7_ofMeeting_0 : decode cX7_ofMeeting 0 = .ok (.iload_n 2, 1) := by decide +kernel
theorem dX7_ofMeeting_1 : decode cX7_ofMeeting 1 = .ok (.tableswitch 77 20 22 #[27, 50, 60], 27) := by decide +kernel
theorem dX7_ofMeeting_28 : decode cX7_ofMeeting 28 = .ok (.bipush 100, 2) := by decide +kernel
theorem dX7_ofMeeting_30 : decode cX7_ofMeeting 30 = .ok (.aload_n 0, 1) := by decide +kernel
theorem dX7_ofMeeting_31 : decode cX7_ofMeeting 31 = .ok (.getfield 21, 3) := by decide +kernel
theorem dX7_ofMeeting_34 : decode cX7_ofMeeting 34 = .ok (.getfield 340, 3) := by decide +kernel
theorem dX7_ofMeeting_37 : decode cX7_ofMeeting 37 = .ok (.iload_n 1, 1) := by decide +kernel
theorem dX7_ofMeeting_38 : decode cX7_ofMeeting 38 = .ok (.iaload, 1) := by decide +kernel
theorem dX7_ofMeeting_39 : decode cX7_ofMeeting 39 = .ok (.imul, 1) := by decide +kernel
theorem dX7_ofMeeting_40 : decode cX7_ofMeeting 40 = .ok (.aload_n 0, 1) := by decide +kernel
theorem dX7_ofMeeting_41 : decode cX7_ofMeeting 41 = .ok (.getfield 21, 3) := by decide +kernel
theorem dX7_ofMeeting_44 : decode cX7_ofMeeting 44 = .ok (.getfield 343, 3) := by decide +kernel
theorem dX7_ofMeeting_47 : decode cX7_ofMeeting 47 = .ok (.iload_n 1, 1) := by decide +kernel
theorem dX7_ofMeeting_48 : decode cX7_ofMeeting 48 = .ok (.iaload, 1) := by decide +kernel
theorem dX7_ofMeeting_49 : decode cX7_ofMeeting 49 = .ok (.iadd, 1) := by decide +kernel
theorem dX7_ofMeeting_50 : decode cX7_ofMeeting 50 = .ok (.ireturn, 1) := by decide +kernel
theorem dX7_ofMeeting_51 : decode cX7_ofMeeting 51 = .ok (.aload_n 0, 1) := by decide +kernel
theorem dX7_ofMeeting_52 : decode cX7_ofMeeting 52 = .ok (.getfield 21, 3) := by decide +kernel
theorem dX7_ofMeeting_55 : decode cX7_ofMeeting 55 = .ok (.getfield 346, 3) := by decide +kernel
theorem dX7_ofMeeting_58 : decode cX7_ofMeeting 58 = .ok (.iload_n 1, 1) := by decide +kernel
theorem dX7_ofMeeting_59 : decode cX7_ofMeeting 59 = .ok (.iaload, 1) := by decide +kernel
theorem dX7_ofMeeting_60 : decode cX7_ofMeeting 60 = .ok (.ireturn, 1) := by decide +kernel
theorem dX7_ofMeeting_61 : decode cX7_ofMeeting 61 = .ok (.aload_n 0, 1) := by decide +kernel
theorem dX7_ofMeeting_62 : decode cX7_ofMeeting 62 = .ok (.getfield 21, 3) := by decide +kernel
theorem dX7_ofMeeting_65 : decode cX7_ofMeeting 65 = .ok (.iload_n 1, 1) := by decide +kernel
theorem dX7_ofMeeting_66 : decode cX7_ofMeeting 66 = .ok (.invokevirtual 349, 3) := by decide +kernel
theorem dX7_ofMeeting_69 : decode cX7_ofMeeting 69 = .ok (.ifCond .eq 7, 3) := by decide +kernel
theorem dX7_ofMeeting_72 : decode cX7_ofMeeting 72 = .ok (.iconst 1, 1) := by decide +kernel
theorem dX7_ofMeeting_73 : decode cX7_ofMeeting 73 = .ok (.goto 4, 3) := by decide +kernel
theorem dX7_ofMeeting_76 : decode cX7_ofMeeting 76 = .ok (.iconst 0, 1) := by decide +kernel
theorem dX7_ofMeeting_77 : decode cX7_ofMeeting 77 = .ok (.ireturn, 1) := by decide +kernel
theorem dX7_ofMeeting_78 : decode cX7_ofMeeting 78 = .ok (.ldc 114, 2) := by decide +kernel
theorem dX7_ofMeeting_80 : decode cX7_ofMeeting 80 = .ok (.ireturn, 1) := by decide +kernel
theorem dX7_heldTill_0 : decode cX7_heldTill 0 = .ok (.iload_n 2, 1) := by decide +kernel
theorem dX7_heldTill_1 : decode cX7_heldTill 1 = .ok (.istore_n 3, 1) := by decide +kernel
theorem dX7_heldTill_2 : decode cX7_heldTill 2 = .ok (.iload_n 3, 1) := by decide +kernel
theorem dX7_heldTill_3 : decode cX7_heldTill 3 = .ok (.bipush 100, 2) := by decide +kernel
theorem dX7_heldTill_5 : decode cX7_heldTill 5 = .ok (.if_icmp .ge 26, 3) := by decide +kernel
theorem dX7_heldTill_8 : decode cX7_heldTill 8 = .ok (.aload_n 0, 1) := by decide +kernel
theorem dX7_heldTill_9 : decode cX7_heldTill 9 = .ok (.getfield 21, 3) := by decide +kernel
theorem dX7_heldTill_12 : decode cX7_heldTill 12 = .ok (.iload_n 3, 1) := by decide +kernel
theorem dX7_heldTill_13 : decode cX7_heldTill 13 = .ok (.invokevirtual 168, 3) := by decide +kernel
theorem dX7_heldTill_16 : decode cX7_heldTill 16 = .ok (.iload_n 1, 1) := by decide +kernel
theorem dX7_heldTill_17 : decode cX7_heldTill 17 = .ok (.ishr, 1) := by decide +kernel
theorem dX7_heldTill_18 : decode cX7_heldTill 18 = .ok (.iconst 1, 1) := by decide +kernel
theorem dX7_heldTill_19 : decode cX7_heldTill 19 = .ok (.iand, 1) := by decide +kernel
theorem dX7_heldTill_20 : decode cX7_heldTill 20 = .ok (.ifCond .ne 5, 3) := by decide +kernel
theorem dX7_heldTill_23 : decode cX7_heldTill 23 = .ok (.iload_n 3, 1) := by decide +kernel
theorem dX7_heldTill_24 : decode cX7_heldTill 24 = .ok (.ireturn, 1) := by decide +kernel
theorem dX7_heldTill_25 : decode cX7_heldTill 25 = .ok (.iinc 3 1, 3) := by decide +kernel
theorem dX7_heldTill_28 : decode cX7_heldTill 28 = .ok (.goto (-26), 3) := by decide +kernel
theorem dX7_heldTill_31 : decode cX7_heldTill 31 = .ok (.bipush (-2), 2) := by decide +kernel
theorem dX7_heldTill_33 : decode cX7_heldTill 33 = .ok (.ireturn, 1) := by decide +kernel
theorem dX7_setChanged_0 : decode cX7_setChanged 0 = .ok (.aload_n 0, 1) := by decide +kernel
theorem dX7_setChanged_1 : decode cX7_setChanged 1 = .ok (.getfield 46, 3) := by decide +kernel
theorem dX7_setChanged_4 : decode cX7_setChanged 4 = .ok (.getfield 352, 3) := by decide +kernel
theorem dX7_setChanged_7 : decode cX7_setChanged 7 = .ok (.aload_n 0, 1) := by decide +kernel
theorem dX7_setChanged_8 : decode cX7_setChanged 8 = .ok (.getfield 46, 3) := by decide +kernel
theorem dX7_setChanged_11 : decode cX7_setChanged 11 = .ok (.getfield 250, 3) := by decide +kernel
theorem dX7_setChanged_14 : decode cX7_setChanged 14 = .ok (.iaload, 1) := by decide +kernel
theorem dX7_setChanged_15 : decode cX7_setChanged 15 = .ok (.istore_n 2, 1) := by decide +kernel
theorem dX7_setChanged_16 : decode cX7_setChanged 16 = .ok (.aload_n 0, 1) := by decide +kernel
theorem dX7_setChanged_17 : decode cX7_setChanged 17 = .ok (.getfield 46, 3) := by decide +kernel
theorem dX7_setChanged_20 : decode cX7_setChanged 20 = .ok (.getfield 355, 3) := by decide +kernel
theorem dX7_setChanged_23 : decode cX7_setChanged 23 = .ok (.aload_n 0, 1) := by decide +kernel
theorem dX7_setChanged_24 : decode cX7_setChanged 24 = .ok (.getfield 46, 3) := by decide +kernel
theorem dX7_setChanged_27 : decode cX7_setChanged 27 = .ok (.getfield 250, 3) := by decide +kernel
theorem dX7_setChanged_30 : decode cX7_setChanged 30 = .ok (.iaload, 1) := by decide +kernel
theorem dX7_setChanged_31 : decode cX7_setChanged 31 = .ok (.ifCond .ne 16, 3) := by decide +kernel
theorem dX7_setChanged_34 : decode cX7_setChanged 34 = .ok (.aload_n 0, 1) := by decide +kernel
theorem dX7_setChanged_35 : decode cX7_setChanged 35 = .ok (.getfield 21, 3) := by decide +kernel
theorem dX7_setChanged_38 : decode cX7_setChanged 38 = .ok (.getfield 127, 3) := by decide +kernel
theorem dX7_setChanged_41 : decode cX7_setChanged 41 = .ok (.iload_n 2, 1) := by decide +kernel
theorem dX7_setChanged_42 : decode cX7_setChanged 42 = .ok (.iload_n 1, 1) := by decide +kernel
theorem dX7_setChanged_43 : decode cX7_setChanged 43 = .ok (.iastore, 1) := by decide +kernel
theorem dX7_setChanged_44 : decode cX7_setChanged 44 = .ok (.goto 13, 3) := by decide +kernel
theorem dX7_setChanged_47 : decode cX7_setChanged 47 = .ok (.aload_n 0, 1) := by decide +kernel
theorem dX7_setChanged_48 : decode cX7_setChanged 48 = .ok (.getfield 21, 3) := by decide +kernel
theorem dX7_setChanged_51 : decode cX7_setChanged 51 = .ok (.getfield 130, 3) := by decide +kernel
theorem dX7_setChanged_54 : decode cX7_setChanged 54 = .ok (.iload_n 2, 1) := by decide +kernel
theorem dX7_setChanged_55 : decode cX7_setChanged 55 = .ok (.iload_n 1, 1) := by decide +kernel
theorem dX7_setChanged_56 : decode cX7_setChanged 56 = .ok (.iastore, 1) := by decide +kernel
theorem dX7_setChanged_57 : decode cX7_setChanged 57 = .ok (.return_, 1) := by decide +kernel
theorem dX7_refusalOf_0 : decode cX7_refusalOf 0 = .ok (.iload_n 1, 1) := by decide +kernel
theorem dX7_refusalOf_1 : decode cX7_refusalOf 1 = .ok (.invokestatic 80, 3) := by decide +kernel
theorem dX7_refusalOf_4 : decode cX7_refusalOf 4 = .ok (.ifCond .ne 5, 3) := by decide +kernel
theorem dX7_refusalOf_7 : decode cX7_refusalOf 7 = .ok (.iconst (-1), 1) := by decide +kernel
theorem dX7_refusalOf_8 : decode cX7_refusalOf 8 = .ok (.ireturn, 1) := by decide +kernel
theorem dX7_refusalOf_9 : decode cX7_refusalOf 9 = .ok (.aload_n 0, 1) := by decide +kernel
theorem dX7_refusalOf_10 : decode cX7_refusalOf 10 = .ok (.getfield 59, 3) := by decide +kernel
theorem dX7_refusalOf_13 : decode cX7_refusalOf 13 = .ok (.iload_n 1, 1) := by decide +kernel
theorem dX7_refusalOf_14 : decode cX7_refusalOf 14 = .ok (.aaload, 1) := by decide +kernel
theorem dX7_refusalOf_15 : decode cX7_refusalOf 15 = .ok (.invokevirtual 84, 3) := by decide +kernel
theorem dX7_refusalOf_18 : decode cX7_refusalOf 18 = .ok (.ifCond .eq 6, 3) := by decide +kernel
theorem dX7_refusalOf_21 : decode cX7_refusalOf 21 = .ok (.bipush (-11), 2) := by decide +kernel
theorem dX7_refusalOf_23 : decode cX7_refusalOf 23 = .ok (.ireturn, 1) := by decide +kernel
theorem dX7_refusalOf_24 : decode cX7_refusalOf 24 = .ok (.aload_n 0, 1) := by decide +kernel
theorem dX7_refusalOf_25 : decode cX7_refusalOf 25 = .ok (.getfield 59, 3) := by decide +kernel
theorem dX7_refusalOf_28 : decode cX7_refusalOf 28 = .ok (.iload_n 1, 1) := by decide +kernel
theorem dX7_refusalOf_29 : decode cX7_refusalOf 29 = .ok (.aaload, 1) := by decide +kernel
theorem dX7_refusalOf_30 : decode cX7_refusalOf 30 = .ok (.invokevirtual 88, 3) := by decide +kernel
theorem dX7_refusalOf_33 : decode cX7_refusalOf 33 = .ok (.ifCond .ne 6, 3) := by decide +kernel
theorem dX7_refusalOf_36 : decode cX7_refusalOf 36 = .ok (.bipush (-12), 2) := by decide +kernel
theorem dX7_refusalOf_38 : decode cX7_refusalOf 38 = .ok (.ireturn, 1) := by decide +kernel
theorem dX7_refusalOf_39 : decode cX7_refusalOf 39 = .ok (.aload_n 0, 1) := by decide +kernel
theorem dX7_refusalOf_40 : decode cX7_refusalOf 40 = .ok (.getfield 59, 3) := by decide +kernel
theorem dX7_refusalOf_43 : decode cX7_refusalOf 43 = .ok (.iload_n 1, 1) := by decide +kernel
theorem dX7_refusalOf_44 : decode cX7_refusalOf 44 = .ok (.aaload, 1) := by decide +kernel
theorem dX7_refusalOf_45 : decode cX7_refusalOf 45 = .ok (.iload_n 2, 1) := by decide +kernel
theorem dX7_refusalOf_46 : decode cX7_refusalOf 46 = .ok (.iconst 1, 1) := by decide +kernel
theorem dX7_refusalOf_47 : decode cX7_refusalOf 47 = .ok (.invokevirtual 307, 3) := by decide +kernel
theorem dX7_refusalOf_50 : decode cX7_refusalOf 50 = .ok (.ifCond .eq 7, 3) := by decide +kernel
theorem dX7_refusalOf_53 : decode cX7_refusalOf 53 = .ok (.iconst 0, 1) := by decide +kernel
theorem dX7_refusalOf_54 : decode cX7_refusalOf 54 = .ok (.goto 5, 3) := by decide +kernel
theorem dX7_refusalOf_57 : decode cX7_refusalOf 57 = .ok (.bipush (-13), 2) := by decide +kernel
theorem dX7_refusalOf_59 : decode cX7_refusalOf 59 = .ok (.ireturn, 1) := by decide +kernel
theorem dJ11_isValidCodePoint_9a6ad_0 : decode cJ11_isValidCodePoint_9a6ad 0 = .ok (.iload_n 0, 1) := by decide +kernel
theorem dJ11_isValidCodePoint_9a6ad_1 : decode cJ11_isValidCodePoint_9a6ad 1 = .ok (.bipush 16, 2) := by decide +kernel
theorem dJ11_isValidCodePoint_9a6ad_3 : decode cJ11_isValidCodePoint_9a6ad 3 = .ok (.iushr, 1) := by decide +kernel
theorem dJ11_isValidCodePoint_9a6ad_4 : decode cJ11_isValidCodePoint_9a6ad 4 = .ok (.istore_n 1, 1) := by decide +kernel
theorem dJ11_isValidCodePoint_9a6ad_5 : decode cJ11_isValidCodePoint_9a6ad 5 = .ok (.iload_n 1, 1) := by decide +kernel
theorem dJ11_isValidCodePoint_9a6ad_6 : decode cJ11_isValidCodePoint_9a6ad 6 = .ok (.bipush 17, 2) := by decide +kernel
theorem dJ11_isValidCodePoint_9a6ad_8 : decode cJ11_isValidCodePoint_9a6ad 8 = .ok (.if_icmp .ge 7, 3) := by decide +kernel
theorem dJ11_isValidCodePoint_9a6ad_11 : decode cJ11_isValidCodePoint_9a6ad 11 = .ok (.iconst 1, 1) := by decide +kernel
theorem dJ11_isValidCodePoint_9a6ad_12 : decode cJ11_isValidCodePoint_9a6ad 12 = .ok (.goto 4, 3) := by decide +kernel
theorem dJ11_isValidCodePoint_9a6ad_15 : decode cJ11_isValidCodePoint_9a6ad 15 = .ok (.iconst 0, 1) := by decide +kernel
theorem dJ11_isValidCodePoint_9a6ad_16 : decode cJ11_isValidCodePoint_9a6ad 16 = .ok (.ireturn, 1) := by decide +kernel
theorem dJ11_highSurrogate_5068e_0 : decode cJ11_highSurrogate_5068e 0 = .ok (.iload_n 0, 1) := by decide +kernel
theorem dJ11_highSurrogate_5068e_1 : decode cJ11_highSurrogate_5068e 1 = .ok (.bipush 10, 2) := by decide +kernel
theorem dJ11_highSurrogate_5068e_3 : decode cJ11_highSurrogate_5068e 3 = .ok (.iushr, 1) := by decide +kernel
theorem dJ11_highSurrogate_5068e_4 : decode cJ11_highSurrogate_5068e 4 = .ok (.ldc 110, 2) := by decide +kernel
theorem dJ11_highSurrogate_5068e_6 : decode cJ11_highSurrogate_5068e 6 = .ok (.iadd, 1) := by decide +kernel
theorem dJ11_highSurrogate_5068e_7 : decode cJ11_highSurrogate_5068e 7 = .ok (.i2c, 1) := by decide +kernel
theorem dJ11_highSurrogate_5068e_8 : decode cJ11_highSurrogate_5068e 8 = .ok (.ireturn, 1) := by decide +kernel
theorem dJ11_lowSurrogate_5068e_0 : decode cJ11_lowSurrogate_5068e 0 = .ok (.iload_n 0, 1) := by decide +kernel
theorem dJ11_lowSurrogate_5068e_1 : decode cJ11_lowSurrogate_5068e 1 = .ok (.sipush 1023, 3) := by decide +kernel
theorem dJ11_lowSurrogate_5068e_4 : decode cJ11_lowSurrogate_5068e 4 = .ok (.iand, 1) := by decide +kernel
theorem dJ11_lowSurrogate_5068e_5 : decode cJ11_lowSurrogate_5068e 5 = .ok (.ldc 76, 2) := by decide +kernel
theorem dJ11_lowSurrogate_5068e_7 : decode cJ11_lowSurrogate_5068e 7 = .ok (.iadd, 1) := by decide +kernel
theorem dJ11_lowSurrogate_5068e_8 : decode cJ11_lowSurrogate_5068e 8 = .ok (.i2c, 1) := by decide +kernel
theorem dJ11_lowSurrogate_5068e_9 : decode cJ11_lowSurrogate_5068e 9 = .ok (.ireturn, 1) := by decide +kernel
theorem dJ6_bitCount_0f7a4_0 : decode cJ6_bitCount_0f7a4 0 = .ok (.iload_n 0, 1) := by decide +kernel
theorem dJ6_bitCount_0f7a4_1 : decode cJ6_bitCount_0f7a4 1 = .ok (.iload_n 0, 1) := by decide +kernel
theorem dJ6_bitCount_0f7a4_2 : decode cJ6_bitCount_0f7a4 2 = .ok (.iconst 1, 1) := by decide +kernel
theorem dJ6_bitCount_0f7a4_3 : decode cJ6_bitCount_0f7a4 3 = .ok (.iushr, 1) := by decide +kernel
theorem dJ6_bitCount_0f7a4_4 : decode cJ6_bitCount_0f7a4 4 = .ok (.ldc_w 265, 3) := by decide +kernel
theorem dJ6_bitCount_0f7a4_7 : decode cJ6_bitCount_0f7a4 7 = .ok (.iand, 1) := by decide +kernel
theorem dJ6_bitCount_0f7a4_8 : decode cJ6_bitCount_0f7a4 8 = .ok (.isub, 1) := by decide +kernel
theorem dJ6_bitCount_0f7a4_9 : decode cJ6_bitCount_0f7a4 9 = .ok (.istore_n 0, 1) := by decide +kernel
theorem dJ6_bitCount_0f7a4_10 : decode cJ6_bitCount_0f7a4 10 = .ok (.iload_n 0, 1) := by decide +kernel
theorem dJ6_bitCount_0f7a4_11 : decode cJ6_bitCount_0f7a4 11 = .ok (.ldc_w 266, 3) := by decide +kernel
theorem dJ6_bitCount_0f7a4_14 : decode cJ6_bitCount_0f7a4 14 = .ok (.iand, 1) := by decide +kernel
theorem dJ6_bitCount_0f7a4_15 : decode cJ6_bitCount_0f7a4 15 = .ok (.iload_n 0, 1) := by decide +kernel
theorem dJ6_bitCount_0f7a4_16 : decode cJ6_bitCount_0f7a4 16 = .ok (.iconst 2, 1) := by decide +kernel
theorem dJ6_bitCount_0f7a4_17 : decode cJ6_bitCount_0f7a4 17 = .ok (.iushr, 1) := by decide +kernel
theorem dJ6_bitCount_0f7a4_18 : decode cJ6_bitCount_0f7a4 18 = .ok (.ldc_w 266, 3) := by decide +kernel
theorem dJ6_bitCount_0f7a4_21 : decode cJ6_bitCount_0f7a4 21 = .ok (.iand, 1) := by decide +kernel
theorem dJ6_bitCount_0f7a4_22 : decode cJ6_bitCount_0f7a4 22 = .ok (.iadd, 1) := by decide +kernel
theorem dJ6_bitCount_0f7a4_23 : decode cJ6_bitCount_0f7a4 23 = .ok (.istore_n 0, 1) := by decide +kernel
theorem dJ6_bitCount_0f7a4_24 : decode cJ6_bitCount_0f7a4 24 = .ok (.iload_n 0, 1) := by decide +kernel
theorem dJ6_bitCount_0f7a4_25 : decode cJ6_bitCount_0f7a4 25 = .ok (.iload_n 0, 1) := by decide +kernel
theorem dJ6_bitCount_0f7a4_26 : decode cJ6_bitCount_0f7a4 26 = .ok (.iconst 4, 1) := by decide +kernel
theorem dJ6_bitCount_0f7a4_27 : decode cJ6_bitCount_0f7a4 27 = .ok (.iushr, 1) := by decide +kernel
theorem dJ6_bitCount_0f7a4_28 : decode cJ6_bitCount_0f7a4 28 = .ok (.iadd, 1) := by decide +kernel
theorem dJ6_bitCount_0f7a4_29 : decode cJ6_bitCount_0f7a4 29 = .ok (.ldc_w 267, 3) := by decide +kernel
theorem dJ6_bitCount_0f7a4_32 : decode cJ6_bitCount_0f7a4 32 = .ok (.iand, 1) := by decide +kernel
theorem dJ6_bitCount_0f7a4_33 : decode cJ6_bitCount_0f7a4 33 = .ok (.istore_n 0, 1) := by decide +kernel
theorem dJ6_bitCount_0f7a4_34 : decode cJ6_bitCount_0f7a4 34 = .ok (.iload_n 0, 1) := by decide +kernel
theorem dJ6_bitCount_0f7a4_35 : decode cJ6_bitCount_0f7a4 35 = .ok (.iload_n 0, 1) := by decide +kernel
theorem dJ6_bitCount_0f7a4_36 : decode cJ6_bitCount_0f7a4 36 = .ok (.bipush 8, 2) := by decide +kernel
theorem dJ6_bitCount_0f7a4_38 : decode cJ6_bitCount_0f7a4 38 = .ok (.iushr, 1) := by decide +kernel
theorem dJ6_bitCount_0f7a4_39 : decode cJ6_bitCount_0f7a4 39 = .ok (.iadd, 1) := by decide +kernel
theorem dJ6_bitCount_0f7a4_40 : decode cJ6_bitCount_0f7a4 40 = .ok (.istore_n 0, 1) := by decide +kernel
theorem dJ6_bitCount_0f7a4_41 : decode cJ6_bitCount_0f7a4 41 = .ok (.iload_n 0, 1) := by decide +kernel
theorem dJ6_bitCount_0f7a4_42 : decode cJ6_bitCount_0f7a4 42 = .ok (.iload_n 0, 1) := by decide +kernel
theorem dJ6_bitCount_0f7a4_43 : decode cJ6_bitCount_0f7a4 43 = .ok (.bipush 16, 2) := by decide +kernel
theorem dJ6_bitCount_0f7a4_45 : decode cJ6_bitCount_0f7a4 45 = .ok (.iushr, 1) := by decide +kernel
theorem dJ6_bitCount_0f7a4_46 : decode cJ6_bitCount_0f7a4 46 = .ok (.iadd, 1) := by decide +kernel
theorem dJ6_bitCount_0f7a4_47 : decode cJ6_bitCount_0f7a4 47 = .ok (.istore_n 0, 1) := by decide +kernel
theorem dJ6_bitCount_0f7a4_48 : decode cJ6_bitCount_0f7a4 48 = .ok (.iload_n 0, 1) := by decide +kernel
theorem dJ6_bitCount_0f7a4_49 : decode cJ6_bitCount_0f7a4 49 = .ok (.bipush 63, 2) := by decide +kernel
theorem dJ6_bitCount_0f7a4_51 : decode cJ6_bitCount_0f7a4 51 = .ok (.iand, 1) := by decide +kernel
theorem dJ6_bitCount_0f7a4_52 : decode cJ6_bitCount_0f7a4 52 = .ok (.ireturn, 1) := by decide +kernel
theorem dJ9_max_7cf53_0 : decode cJ9_max_7cf53 0 = .ok (.iload_n 0, 1) := by decide +kernel
theorem dJ9_max_7cf53_1 : decode cJ9_max_7cf53 1 = .ok (.iload_n 1, 1) := by decide +kernel
theorem dJ9_max_7cf53_2 : decode cJ9_max_7cf53 2 = .ok (.if_icmp .lt 7, 3) := by decide +kernel
theorem dJ9_max_7cf53_5 : decode cJ9_max_7cf53 5 = .ok (.iload_n 0, 1) := by decide +kernel
theorem dJ9_max_7cf53_6 : decode cJ9_max_7cf53 6 = .ok (.goto 4, 3) := by decide +kernel
theorem dJ9_max_7cf53_9 : decode cJ9_max_7cf53 9 = .ok (.iload_n 1, 1) := by decide +kernel
theorem dJ9_max_7cf53_10 : decode cJ9_max_7cf53 10 = .ok (.ireturn, 1) := by decide +kernel
theorem dJ9_min_7cf53_0 : decode cJ9_min_7cf53 0 = .ok (.iload_n 0, 1) := by decide +kernel
theorem dJ9_min_7cf53_1 : decode cJ9_min_7cf53 1 = .ok (.iload_n 1, 1) := by decide +kernel
theorem dJ9_min_7cf53_2 : decode cJ9_min_7cf53 2 = .ok (.if_icmp .gt 7, 3) := by decide +kernel
theorem dJ9_min_7cf53_5 : decode cJ9_min_7cf53 5 = .ok (.iload_n 0, 1) := by decide +kernel
theorem dJ9_min_7cf53_6 : decode cJ9_min_7cf53 6 = .ok (.goto 4, 3) := by decide +kernel
theorem dJ9_min_7cf53_9 : decode cJ9_min_7cf53 9 = .ok (.iload_n 1, 1) := by decide +kernel
theorem dJ9_min_7cf53_10 : decode cJ9_min_7cf53 10 = .ok (.ireturn, 1) := by decide +kernel
theorem dJ0_length_8abf5_0 : decode cJ0_length_8abf5 0 = .ok (.aload_n 0, 1) := by decide +kernel
theorem dJ0_length_8abf5_1 : decode cJ0_length_8abf5 1 = .ok (.getfield 9, 3) := by decide +kernel
theorem dJ0_length_8abf5_4 : decode cJ0_length_8abf5 4 = .ok (.arraylength, 1) := by decide +kernel
theorem dJ0_length_8abf5_5 : decode cJ0_length_8abf5 5 = .ok (.aload_n 0, 1) := by decide +kernel
theorem dJ0_length_8abf5_6 : decode cJ0_length_8abf5 6 = .ok (.invokevirtual 335, 3) := by decide +kernel
theorem dJ0_length_8abf5_9 : decode cJ0_length_8abf5 9 = .ok (.ishr, 1) := by decide +kernel
theorem dJ0_length_8abf5_10 : decode cJ0_length_8abf5 10 = .ok (.ireturn, 1) := by decide +kernel
theorem dJ0_indexOf_0f7a4_0 : decode cJ0_indexOf_0f7a4 0 = .ok (.aload_n 0, 1) := by decide +kernel
theorem dJ0_indexOf_0f7a4_1 : decode cJ0_indexOf_0f7a4 1 = .ok (.iload_n 1, 1) := by decide +kernel
theorem dJ0_indexOf_0f7a4_2 : decode cJ0_indexOf_0f7a4 2 = .ok (.iconst 0, 1) := by decide +kernel
theorem dJ0_indexOf_0f7a4_3 : decode cJ0_indexOf_0f7a4 3 = .ok (.invokevirtual 633, 3) := by decide +kernel
theorem dJ0_indexOf_0f7a4_6 : decode cJ0_indexOf_0f7a4 6 = .ok (.ireturn, 1) := by decide +kernel
theorem dJ0_indexOf_7cf53_0 : decode cJ0_indexOf_7cf53 0 = .ok (.aload_n 0, 1) := by decide +kernel
theorem dJ0_indexOf_7cf53_1 : decode cJ0_indexOf_7cf53 1 = .ok (.invokevirtual 492, 3) := by decide +kernel
theorem dJ0_indexOf_7cf53_4 : decode cJ0_indexOf_7cf53 4 = .ok (.ifCond .eq 19, 3) := by decide +kernel
theorem dJ0_indexOf_7cf53_7 : decode cJ0_indexOf_7cf53 7 = .ok (.aload_n 0, 1) := by decide +kernel
theorem dJ0_indexOf_7cf53_8 : decode cJ0_indexOf_7cf53 8 = .ok (.getfield 9, 3) := by decide +kernel
theorem dJ0_indexOf_7cf53_11 : decode cJ0_indexOf_7cf53 11 = .ok (.iload_n 1, 1) := by decide +kernel
theorem dJ0_indexOf_7cf53_12 : decode cJ0_indexOf_7cf53 12 = .ok (.iload_n 2, 1) := by decide +kernel
theorem dJ0_indexOf_7cf53_13 : decode cJ0_indexOf_7cf53 13 = .ok (.aload_n 0, 1) := by decide +kernel
theorem dJ0_indexOf_7cf53_14 : decode cJ0_indexOf_7cf53 14 = .ok (.invokevirtual 505, 3) := by decide +kernel
theorem dJ0_indexOf_7cf53_17 : decode cJ0_indexOf_7cf53 17 = .ok (.invokestatic 637, 3) := by decide +kernel
theorem dJ0_indexOf_7cf53_20 : decode cJ0_indexOf_7cf53 20 = .ok (.goto 16, 3) := by decide +kernel
theorem dJ0_indexOf_7cf53_23 : decode cJ0_indexOf_7cf53 23 = .ok (.aload_n 0, 1) := by decide +kernel
theorem dJ0_indexOf_7cf53_24 : decode cJ0_indexOf_7cf53 24 = .ok (.getfield 9, 3) := by decide +kernel
theorem dJ0_indexOf_7cf53_27 : decode cJ0_indexOf_7cf53 27 = .ok (.iload_n 1, 1) := by decide +kernel
theorem dJ0_indexOf_7cf53_28 : decode cJ0_indexOf_7cf53 28 = .ok (.iload_n 2, 1) := by decide +kernel
theorem dJ0_indexOf_7cf53_29 : decode cJ0_indexOf_7cf53 29 = .ok (.aload_n 0, 1) := by decide +kernel
theorem dJ0_indexOf_7cf53_30 : decode cJ0_indexOf_7cf53 30 = .ok (.invokevirtual 505, 3) := by decide +kernel
theorem dJ0_indexOf_7cf53_33 : decode cJ0_indexOf_7cf53 33 = .ok (.invokestatic 640, 3) := by decide +kernel
theorem dJ0_indexOf_7cf53_36 : decode cJ0_indexOf_7cf53 36 = .ok (.ireturn, 1) := by decide +kernel
theorem dJ0_coder_7d493_0 : decode cJ0_coder_7d493 0 = .ok (.getstatic 38, 3) := by decide +kernel
theorem dJ0_coder_7d493_3 : decode cJ0_coder_7d493 3 = .ok (.ifCond .eq 10, 3) := by decide +kernel
theorem dJ0_coder_7d493_6 : decode cJ0_coder_7d493 6 = .ok (.aload_n 0, 1) := by decide +kernel
theorem dJ0_coder_7d493_7 : decode cJ0_coder_7d493 7 = .ok (.getfield 15, 3) := by decide +kernel
theorem dJ0_coder_7d493_10 : decode cJ0_coder_7d493 10 = .ok (.goto 4, 3) := by decide +kernel
theorem dJ0_coder_7d493_13 : decode cJ0_coder_7d493 13 = .ok (.iconst 1, 1) := by decide +kernel
theorem dJ0_coder_7d493_14 : decode cJ0_coder_7d493 14 = .ok (.ireturn, 1) := by decide +kernel
theorem dJ0_isLatin1_aae02_0 : decode cJ0_isLatin1_aae02 0 = .ok (.getstatic 38, 3) := by decide +kernel
theorem dJ0_isLatin1_aae02_3 : decode cJ0_isLatin1_aae02 3 = .ok (.ifCond .eq 14, 3) := by decide +kernel
theorem dJ0_isLatin1_aae02_6 : decode cJ0_isLatin1_aae02 6 = .ok (.aload_n 0, 1) := by decide +kernel
theorem dJ0_isLatin1_aae02_7 : decode cJ0_isLatin1_aae02 7 = .ok (.getfield 15, 3) := by decide +kernel
theorem dJ0_isLatin1_aae02_10 : decode cJ0_isLatin1_aae02 10 = .ok (.ifCond .ne 7, 3) := by decide +kernel
theorem dJ0_isLatin1_aae02_13 : decode cJ0_isLatin1_aae02 13 = .ok (.iconst 1, 1) := by decide +kernel
theorem dJ0_isLatin1_aae02_14 : decode cJ0_isLatin1_aae02 14 = .ok (.goto 4, 3) := by decide +kernel
theorem dJ0_isLatin1_aae02_17 : decode cJ0_isLatin1_aae02 17 = .ok (.iconst 0, 1) := by decide +kernel
theorem dJ0_isLatin1_aae02_18 : decode cJ0_isLatin1_aae02 18 = .ok (.ireturn, 1) := by decide +kernel
theorem dJ0_checkBoundsBeginEnd_23922_0 : decode cJ0_checkBoundsBeginEnd_23922 0 = .ok (.iload_n 0, 1) := by decide +kernel
theorem dJ0_checkBoundsBeginEnd_23922_1 : decode cJ0_checkBoundsBeginEnd_23922 1 = .ok (.iload_n 1, 1) := by decide +kernel
theorem dJ0_checkBoundsBeginEnd_23922_2 : decode cJ0_checkBoundsBeginEnd_23922 2 = .ok (.iload_n 2, 1) := by decide +kernel
theorem dJ0_checkBoundsBeginEnd_23922_3 : decode cJ0_checkBoundsBeginEnd_23922 3 = .ok (.getstatic 1053, 3) := by decide +kernel
theorem dJ0_checkBoundsBeginEnd_23922_6 : decode cJ0_checkBoundsBeginEnd_23922 6 = .ok (.invokestatic 1062, 3) := by decide +kernel
theorem dJ0_checkBoundsBeginEnd_23922_9 : decode cJ0_checkBoundsBeginEnd_23922 9 = .ok (.pop, 1) := by decide +kernel
theorem dJ0_checkBoundsBeginEnd_23922_10 : decode cJ0_checkBoundsBeginEnd_23922 10 = .ok (.return_, 1) := by decide +kernel
theorem dJ1_canEncode_9a6ad_0 : decode cJ1_canEncode_9a6ad 0 = .ok (.iload_n 0, 1) := by decide +kernel
theorem dJ1_canEncode_9a6ad_1 : decode cJ1_canEncode_9a6ad 1 = .ok (.ifCond .lt 14, 3) := by decide +kernel
theorem dJ1_canEncode_9a6ad_4 : decode cJ1_canEncode_9a6ad 4 = .ok (.iload_n 0, 1) := by decide +kernel
theorem dJ1_canEncode_9a6ad_5 : decode cJ1_canEncode_9a6ad 5 = .ok (.sipush 255, 3) := by decide +kernel
theorem dJ1_canEncode_9a6ad_8 : decode cJ1_canEncode_9a6ad 8 = .ok (.if_icmp .gt 7, 3) := by decide +kernel
theorem dJ1_canEncode_9a6ad_11 : decode cJ1_canEncode_9a6ad 11 = .ok (.iconst 1, 1) := by decide +kernel
theorem dJ1_canEncode_9a6ad_12 : decode cJ1_canEncode_9a6ad 12 = .ok (.goto 4, 3) := by decide +kernel
theorem dJ1_canEncode_9a6ad_15 : decode cJ1_canEncode_9a6ad 15 = .ok (.iconst 0, 1) := by decide +kernel
theorem dJ1_canEncode_9a6ad_16 : decode cJ1_canEncode_9a6ad 16 = .ok (.ireturn, 1) := by decide +kernel
theorem dJ1_indexOf_4cfef_0 : decode cJ1_indexOf_4cfef 0 = .ok (.iload_n 1, 1) := by decide +kernel
theorem dJ1_indexOf_4cfef_1 : decode cJ1_indexOf_4cfef 1 = .ok (.invokestatic 88, 3) := by decide +kernel
theorem dJ1_indexOf_4cfef_4 : decode cJ1_indexOf_4cfef 4 = .ok (.ifCond .ne 5, 3) := by decide +kernel
theorem dJ1_indexOf_4cfef_7 : decode cJ1_indexOf_4cfef 7 = .ok (.iconst (-1), 1) := by decide +kernel
theorem dJ1_indexOf_4cfef_8 : decode cJ1_indexOf_4cfef 8 = .ok (.ireturn, 1) := by decide +kernel
theorem dJ1_indexOf_4cfef_9 : decode cJ1_indexOf_4cfef 9 = .ok (.iload_n 2, 1) := by decide +kernel
theorem dJ1_indexOf_4cfef_10 : decode cJ1_indexOf_4cfef 10 = .ok (.iconst 0, 1) := by decide +kernel
theorem dJ1_indexOf_4cfef_11 : decode cJ1_indexOf_4cfef 11 = .ok (.invokestatic 92, 3) := by decide +kernel
theorem dJ1_indexOf_4cfef_14 : decode cJ1_indexOf_4cfef 14 = .ok (.istore_n 2, 1) := by decide +kernel
theorem dJ1_indexOf_4cfef_15 : decode cJ1_indexOf_4cfef 15 = .ok (.iload_n 3, 1) := by decide +kernel
theorem dJ1_indexOf_4cfef_16 : decode cJ1_indexOf_4cfef 16 = .ok (.aload_n 0, 1) := by decide +kernel
theorem dJ1_indexOf_4cfef_17 : decode cJ1_indexOf_4cfef 17 = .ok (.arraylength, 1) := by decide +kernel
theorem dJ1_indexOf_4cfef_18 : decode cJ1_indexOf_4cfef 18 = .ok (.invokestatic 38, 3) := by decide +kernel
theorem dJ1_indexOf_4cfef_21 : decode cJ1_indexOf_4cfef 21 = .ok (.istore_n 3, 1) := by decide +kernel
theorem dJ1_indexOf_4cfef_22 : decode cJ1_indexOf_4cfef 22 = .ok (.iload_n 2, 1) := by decide +kernel
theorem dJ1_indexOf_4cfef_23 : decode cJ1_indexOf_4cfef 23 = .ok (.iload_n 3, 1) := by decide +kernel
theorem dJ1_indexOf_4cfef_24 : decode cJ1_indexOf_4cfef 24 = .ok (.if_icmp .lt 5, 3) := by decide +kernel
theorem dJ1_indexOf_4cfef_27 : decode cJ1_indexOf_4cfef 27 = .ok (.iconst (-1), 1) := by decide +kernel
theorem dJ1_indexOf_4cfef_28 : decode cJ1_indexOf_4cfef 28 = .ok (.ireturn, 1) := by decide +kernel
theorem dJ1_indexOf_4cfef_29 : decode cJ1_indexOf_4cfef 29 = .ok (.aload_n 0, 1) := by decide +kernel
theorem dJ1_indexOf_4cfef_30 : decode cJ1_indexOf_4cfef 30 = .ok (.iload_n 1, 1) := by decide +kernel
theorem dJ1_indexOf_4cfef_31 : decode cJ1_indexOf_4cfef 31 = .ok (.iload_n 2, 1) := by decide +kernel
theorem dJ1_indexOf_4cfef_32 : decode cJ1_indexOf_4cfef 32 = .ok (.iload_n 3, 1) := by decide +kernel
theorem dJ1_indexOf_4cfef_33 : decode cJ1_indexOf_4cfef 33 = .ok (.invokestatic 95, 3) := by decide +kernel
theorem dJ1_indexOf_4cfef_36 : decode cJ1_indexOf_4cfef 36 = .ok (.ireturn, 1) := by decide +kernel
theorem dJ1_indexOfChar_4cfef_0 : decode cJ1_indexOfChar_4cfef 0 = .ok (.iload_n 1, 1) := by decide +kernel
theorem dJ1_indexOfChar_4cfef_1 : decode cJ1_indexOfChar_4cfef 1 = .ok (.i2b, 1) := by decide +kernel
theorem dJ1_indexOfChar_4cfef_2 : decode cJ1_indexOfChar_4cfef 2 = .ok (.istore 4, 2) := by decide +kernel
theorem dJ1_indexOfChar_4cfef_4 : decode cJ1_indexOfChar_4cfef 4 = .ok (.iload_n 2, 1) := by decide +kernel
theorem dJ1_indexOfChar_4cfef_5 : decode cJ1_indexOfChar_4cfef 5 = .ok (.istore 5, 2) := by decide +kernel
theorem dJ1_indexOfChar_4cfef_7 : decode cJ1_indexOfChar_4cfef 7 = .ok (.iload 5, 2) := by decide +kernel
theorem dJ1_indexOfChar_4cfef_9 : decode cJ1_indexOfChar_4cfef 9 = .ok (.iload_n 3, 1) := by decide +kernel
theorem dJ1_indexOfChar_4cfef_10 : decode cJ1_indexOfChar_4cfef 10 = .ok (.if_icmp .ge 21, 3) := by decide +kernel
theorem dJ1_indexOfChar_4cfef_13 : decode cJ1_indexOfChar_4cfef 13 = .ok (.aload_n 0, 1) := by decide +kernel
theorem dJ1_indexOfChar_4cfef_14 : decode cJ1_indexOfChar_4cfef 14 = .ok (.iload 5, 2) := by decide +kernel
theorem dJ1_indexOfChar_4cfef_16 : decode cJ1_indexOfChar_4cfef 16 = .ok (.baload, 1) := by decide +kernel
theorem dJ1_indexOfChar_4cfef_17 : decode cJ1_indexOfChar_4cfef 17 = .ok (.iload 4, 2) := by decide +kernel
theorem dJ1_indexOfChar_4cfef_19 : decode cJ1_indexOfChar_4cfef 19 = .ok (.if_icmp .ne 6, 3) := by decide +kernel
theorem dJ1_indexOfChar_4cfef_22 : decode cJ1_indexOfChar_4cfef 22 = .ok (.iload 5, 2) := by decide +kernel
theorem dJ1_indexOfChar_4cfef_24 : decode cJ1_indexOfChar_4cfef 24 = .ok (.ireturn, 1) := by decide +kernel
theorem dJ1_indexOfChar_4cfef_25 : decode cJ1_indexOfChar_4cfef 25 = .ok (.iinc 5 1, 3) := by decide +kernel
theorem dJ1_indexOfChar_4cfef_28 : decode cJ1_indexOfChar_4cfef 28 = .ok (.goto (-21), 3) := by decide +kernel
theorem dJ1_indexOfChar_4cfef_31 : decode cJ1_indexOfChar_4cfef 31 = .ok (.iconst (-1), 1) := by decide +kernel
theorem dJ1_indexOfChar_4cfef_32 : decode cJ1_indexOfChar_4cfef 32 = .ok (.ireturn, 1) := by decide +kernel
theorem dJ2_getChar_3b067_0 : decode cJ2_getChar_3b067 0 = .ok (.getstatic 44, 3) := by decide +kernel
theorem dJ2_getChar_3b067_3 : decode cJ2_getChar_3b067 3 = .ok (.ifCond .ne 25, 3) := by decide +kernel
theorem dJ2_getChar_3b067_6 : decode cJ2_getChar_3b067 6 = .ok (.iload_n 1, 1) := by decide +kernel
theorem dJ2_getChar_3b067_7 : decode cJ2_getChar_3b067 7 = .ok (.ifCond .lt 11, 3) := by decide +kernel
theorem dJ2_getChar_3b067_10 : decode cJ2_getChar_3b067 10 = .ok (.iload_n 1, 1) := by decide +kernel
theorem dJ2_getChar_3b067_11 : decode cJ2_getChar_3b067 11 = .ok (.aload_n 0, 1) := by decide +kernel
theorem dJ2_getChar_3b067_12 : decode cJ2_getChar_3b067 12 = .ok (.invokestatic 48, 3) := by decide +kernel
theorem dJ2_getChar_3b067_15 : decode cJ2_getChar_3b067 15 = .ok (.if_icmp .lt 13, 3) := by decide +kernel
theorem dJ2_getChar_3b067_18 : decode cJ2_getChar_3b067 18 = .ok (.new 52, 3) := by decide +kernel
theorem dJ2_getChar_3b067_21 : decode cJ2_getChar_3b067 21 = .ok (.dup, 1) := by decide +kernel
theorem dJ2_getChar_3b067_22 : decode cJ2_getChar_3b067 22 = .ok (.ldc 54, 2) := by decide +kernel
theorem dJ2_getChar_3b067_24 : decode cJ2_getChar_3b067 24 = .ok (.invokespecial 56, 3) := by decide +kernel
theorem dJ2_getChar_3b067_27 : decode cJ2_getChar_3b067 27 = .ok (.athrow, 1) := by decide +kernel
theorem dJ2_getChar_3b067_28 : decode cJ2_getChar_3b067 28 = .ok (.iload_n 1, 1) := by decide +kernel
theorem dJ2_getChar_3b067_29 : decode cJ2_getChar_3b067 29 = .ok (.iconst 1, 1) := by decide +kernel
theorem dJ2_getChar_3b067_30 : decode cJ2_getChar_3b067 30 = .ok (.ishl, 1) := by decide +kernel
theorem dJ2_getChar_3b067_31 : decode cJ2_getChar_3b067 31 = .ok (.istore_n 1, 1) := by decide +kernel
theorem dJ2_getChar_3b067_32 : decode cJ2_getChar_3b067 32 = .ok (.aload_n 0, 1) := by decide +kernel
theorem dJ2_getChar_3b067_33 : decode cJ2_getChar_3b067 33 = .ok (.iload_n 1, 1) := by decide +kernel
theorem dJ2_getChar_3b067_34 : decode cJ2_getChar_3b067 34 = .ok (.iinc 1 1, 3) := by decide +kernel
theorem dJ2_getChar_3b067_37 : decode cJ2_getChar_3b067 37 = .ok (.baload, 1) := by decide +kernel
theorem dJ2_getChar_3b067_38 : decode cJ2_getChar_3b067 38 = .ok (.sipush 255, 3) := by decide +kernel
theorem dJ2_getChar_3b067_41 : decode cJ2_getChar_3b067 41 = .ok (.iand, 1) := by decide +kernel
theorem dJ2_getChar_3b067_42 : decode cJ2_getChar_3b067 42 = .ok (.getstatic 59, 3) := by decide +kernel
theorem dJ2_getChar_3b067_45 : decode cJ2_getChar_3b067 45 = .ok (.ishl, 1) := by decide +kernel
theorem dJ2_getChar_3b067_46 : decode cJ2_getChar_3b067 46 = .ok (.aload_n 0, 1) := by decide +kernel
theorem dJ2_getChar_3b067_47 : decode cJ2_getChar_3b067 47 = .ok (.iload_n 1, 1) := by decide +kernel
theorem dJ2_getChar_3b067_48 : decode cJ2_getChar_3b067 48 = .ok (.baload, 1) := by decide +kernel
theorem dJ2_getChar_3b067_49 : decode cJ2_getChar_3b067 49 = .ok (.sipush 255, 3) := by decide +kernel
theorem dJ2_getChar_3b067_52 : decode cJ2_getChar_3b067 52 = .ok (.iand, 1) := by decide +kernel
theorem dJ2_getChar_3b067_53 : decode cJ2_getChar_3b067 53 = .ok (.getstatic 63, 3) := by decide +kernel
theorem dJ2_getChar_3b067_56 : decode cJ2_getChar_3b067 56 = .ok (.ishl, 1) := by decide +kernel
theorem dJ2_getChar_3b067_57 : decode cJ2_getChar_3b067 57 = .ok (.ior, 1) := by decide +kernel
theorem dJ2_getChar_3b067_58 : decode cJ2_getChar_3b067 58 = .ok (.i2c, 1) := by decide +kernel
theorem dJ2_getChar_3b067_59 : decode cJ2_getChar_3b067 59 = .ok (.ireturn, 1) := by decide +kernel
theorem dJ2_length_9d52b_0 : decode cJ2_length_9d52b 0 = .ok (.aload_n 0, 1) := by decide +kernel
theorem dJ2_length_9d52b_1 : decode cJ2_length_9d52b 1 = .ok (.arraylength, 1) := by decide +kernel
theorem dJ2_length_9d52b_2 : decode cJ2_length_9d52b 2 = .ok (.iconst 1, 1) := by decide +kernel
theorem dJ2_length_9d52b_3 : decode cJ2_length_9d52b 3 = .ok (.ishr, 1) := by decide +kernel
theorem dJ2_length_9d52b_4 : decode cJ2_length_9d52b 4 = .ok (.ireturn, 1) := by decide +kernel
theorem dJ2_indexOf_4cfef_0 : decode cJ2_indexOf_4cfef 0 = .ok (.iload_n 2, 1) := by decide +kernel
theorem dJ2_indexOf_4cfef_1 : decode cJ2_indexOf_4cfef 1 = .ok (.iconst 0, 1) := by decide +kernel
theorem dJ2_indexOf_4cfef_2 : decode cJ2_indexOf_4cfef 2 = .ok (.invokestatic 224, 3) := by decide +kernel
theorem dJ2_indexOf_4cfef_5 : decode cJ2_indexOf_4cfef 5 = .ok (.istore_n 2, 1) := by decide +kernel
theorem dJ2_indexOf_4cfef_6 : decode cJ2_indexOf_4cfef 6 = .ok (.iload_n 3, 1) := by decide +kernel
theorem dJ2_indexOf_4cfef_7 : decode cJ2_indexOf_4cfef 7 = .ok (.aload_n 0, 1) := by decide +kernel
theorem dJ2_indexOf_4cfef_8 : decode cJ2_indexOf_4cfef 8 = .ok (.arraylength, 1) := by decide +kernel
theorem dJ2_indexOf_4cfef_9 : decode cJ2_indexOf_4cfef 9 = .ok (.iconst 1, 1) := by decide +kernel
theorem dJ2_indexOf_4cfef_10 : decode cJ2_indexOf_4cfef 10 = .ok (.ishr, 1) := by decide +kernel
theorem dJ2_indexOf_4cfef_11 : decode cJ2_indexOf_4cfef 11 = .ok (.invokestatic 183, 3) := by decide +kernel
theorem dJ2_indexOf_4cfef_14 : decode cJ2_indexOf_4cfef 14 = .ok (.istore_n 3, 1) := by decide +kernel
theorem dJ2_indexOf_4cfef_15 : decode cJ2_indexOf_4cfef 15 = .ok (.iload_n 2, 1) := by decide +kernel
theorem dJ2_indexOf_4cfef_16 : decode cJ2_indexOf_4cfef 16 = .ok (.iload_n 3, 1) := by decide +kernel
theorem dJ2_indexOf_4cfef_17 : decode cJ2_indexOf_4cfef 17 = .ok (.if_icmp .lt 5, 3) := by decide +kernel
theorem dJ2_indexOf_4cfef_20 : decode cJ2_indexOf_4cfef 20 = .ok (.iconst (-1), 1) := by decide +kernel
theorem dJ2_indexOf_4cfef_21 : decode cJ2_indexOf_4cfef 21 = .ok (.ireturn, 1) := by decide +kernel
theorem dJ2_indexOf_4cfef_22 : decode cJ2_indexOf_4cfef 22 = .ok (.iload_n 1, 1) := by decide +kernel
theorem dJ2_indexOf_4cfef_23 : decode cJ2_indexOf_4cfef 23 = .ok (.ldc 227, 2) := by decide +kernel
theorem dJ2_indexOf_4cfef_25 : decode cJ2_indexOf_4cfef 25 = .ok (.if_icmp .ge 11, 3) := by decide +kernel
theorem dJ2_indexOf_4cfef_28 : decode cJ2_indexOf_4cfef 28 = .ok (.aload_n 0, 1) := by decide +kernel
theorem dJ2_indexOf_4cfef_29 : decode cJ2_indexOf_4cfef 29 = .ok (.iload_n 1, 1) := by decide +kernel
theorem dJ2_indexOf_4cfef_30 : decode cJ2_indexOf_4cfef 30 = .ok (.iload_n 2, 1) := by decide +kernel
theorem dJ2_indexOf_4cfef_31 : decode cJ2_indexOf_4cfef 31 = .ok (.iload_n 3, 1) := by decide +kernel
theorem dJ2_indexOf_4cfef_32 : decode cJ2_indexOf_4cfef 32 = .ok (.invokestatic 228, 3) := by decide +kernel
theorem dJ2_indexOf_4cfef_35 : decode cJ2_indexOf_4cfef 35 = .ok (.ireturn, 1) := by decide +kernel
theorem dJ2_indexOf_4cfef_36 : decode cJ2_indexOf_4cfef 36 = .ok (.aload_n 0, 1) := by decide +kernel
theorem dJ2_indexOf_4cfef_37 : decode cJ2_indexOf_4cfef 37 = .ok (.iload_n 1, 1) := by decide +kernel
theorem dJ2_indexOf_4cfef_38 : decode cJ2_indexOf_4cfef 38 = .ok (.iload_n 2, 1) := by decide +kernel
theorem dJ2_indexOf_4cfef_39 : decode cJ2_indexOf_4cfef 39 = .ok (.iload_n 3, 1) := by decide +kernel
theorem dJ2_indexOf_4cfef_40 : decode cJ2_indexOf_4cfef 40 = .ok (.invokestatic 232, 3) := by decide +kernel
theorem dJ2_indexOf_4cfef_43 : decode cJ2_indexOf_4cfef 43 = .ok (.ireturn, 1) := by decide +kernel
theorem dJ2_indexOfChar_4cfef_0 : decode cJ2_indexOfChar_4cfef 0 = .ok (.iload_n 2, 1) := by decide +kernel
theorem dJ2_indexOfChar_4cfef_1 : decode cJ2_indexOfChar_4cfef 1 = .ok (.iload_n 3, 1) := by decide +kernel
theorem dJ2_indexOfChar_4cfef_2 : decode cJ2_indexOfChar_4cfef 2 = .ok (.aload_n 0, 1) := by decide +kernel
theorem dJ2_indexOfChar_4cfef_3 : decode cJ2_indexOfChar_4cfef 3 = .ok (.invokestatic 96, 3) := by decide +kernel
theorem dJ2_indexOfChar_4cfef_6 : decode cJ2_indexOfChar_4cfef 6 = .ok (.aload_n 0, 1) := by decide +kernel
theorem dJ2_indexOfChar_4cfef_7 : decode cJ2_indexOfChar_4cfef 7 = .ok (.iload_n 1, 1) := by decide +kernel
theorem dJ2_indexOfChar_4cfef_8 : decode cJ2_indexOfChar_4cfef 8 = .ok (.iload_n 2, 1) := by decide +kernel
theorem dJ2_indexOfChar_4cfef_9 : decode cJ2_indexOfChar_4cfef 9 = .ok (.iload_n 3, 1) := by decide +kernel
theorem dJ2_indexOfChar_4cfef_10 : decode cJ2_indexOfChar_4cfef 10 = .ok (.invokestatic 244, 3) := by decide +kernel
theorem dJ2_indexOfChar_4cfef_13 : decode cJ2_indexOfChar_4cfef 13 = .ok (.ireturn, 1) := by decide +kernel
theorem dJ2_indexOfCharUnsafe_4cfef_0 : decode cJ2_indexOfCharUnsafe_4cfef 0 = .ok (.iload_n 2, 1) := by decide +kernel
theorem dJ2_indexOfCharUnsafe_4cfef_1 : decode cJ2_indexOfCharUnsafe_4cfef 1 = .ok (.istore 4, 2) := by decide +kernel
theorem dJ2_indexOfCharUnsafe_4cfef_3 : decode cJ2_indexOfCharUnsafe_4cfef 3 = .ok (.iload 4, 2) := by decide +kernel
theorem dJ2_indexOfCharUnsafe_4cfef_5 : decode cJ2_indexOfCharUnsafe_4cfef 5 = .ok (.iload_n 3, 1) := by decide +kernel
theorem dJ2_indexOfCharUnsafe_4cfef_6 : decode cJ2_indexOfCharUnsafe_4cfef 6 = .ok (.if_icmp .ge 22, 3) := by decide +kernel
theorem dJ2_indexOfCharUnsafe_4cfef_9 : decode cJ2_indexOfCharUnsafe_4cfef 9 = .ok (.aload_n 0, 1) := by decide +kernel
theorem dJ2_indexOfCharUnsafe_4cfef_10 : decode cJ2_indexOfCharUnsafe_4cfef 10 = .ok (.iload 4, 2) := by decide +kernel
theorem dJ2_indexOfCharUnsafe_4cfef_12 : decode cJ2_indexOfCharUnsafe_4cfef 12 = .ok (.invokestatic 71, 3) := by decide +kernel
theorem dJ2_indexOfCharUnsafe_4cfef_15 : decode cJ2_indexOfCharUnsafe_4cfef 15 = .ok (.iload_n 1, 1) := by decide +kernel
theorem dJ2_indexOfCharUnsafe_4cfef_16 : decode cJ2_indexOfCharUnsafe_4cfef 16 = .ok (.if_icmp .ne 6, 3) := by decide +kernel
theorem dJ2_indexOfCharUnsafe_4cfef_19 : decode cJ2_indexOfCharUnsafe_4cfef 19 = .ok (.iload 4, 2) := by decide +kernel
theorem dJ2_indexOfCharUnsafe_4cfef_21 : decode cJ2_indexOfCharUnsafe_4cfef 21 = .ok (.ireturn, 1) := by decide +kernel
theorem dJ2_indexOfCharUnsafe_4cfef_22 : decode cJ2_indexOfCharUnsafe_4cfef 22 = .ok (.iinc 4 1, 3) := by decide +kernel
theorem dJ2_indexOfCharUnsafe_4cfef_25 : decode cJ2_indexOfCharUnsafe_4cfef 25 = .ok (.goto (-22), 3) := by decide +kernel
theorem dJ2_indexOfCharUnsafe_4cfef_28 : decode cJ2_indexOfCharUnsafe_4cfef 28 = .ok (.iconst (-1), 1) := by decide +kernel
theorem dJ2_indexOfCharUnsafe_4cfef_29 : decode cJ2_indexOfCharUnsafe_4cfef 29 = .ok (.ireturn, 1) := by decide +kernel
theorem dJ2_indexOfSupplementary_4cfef_0 : decode cJ2_indexOfSupplementary_4cfef 0 = .ok (.iload_n 1, 1) := by decide +kernel
theorem dJ2_indexOfSupplementary_4cfef_1 : decode cJ2_indexOfSupplementary_4cfef 1 = .ok (.invokestatic 164, 3) := by decide +kernel
theorem dJ2_indexOfSupplementary_4cfef_4 : decode cJ2_indexOfSupplementary_4cfef 4 = .ok (.ifCond .eq 65, 3) := by decide +kernel
theorem dJ2_indexOfSupplementary_4cfef_7 : decode cJ2_indexOfSupplementary_4cfef 7 = .ok (.iload_n 1, 1) := by decide +kernel
theorem dJ2_indexOfSupplementary_4cfef_8 : decode cJ2_indexOfSupplementary_4cfef 8 = .ok (.invokestatic 157, 3) := by decide +kernel
theorem dJ2_indexOfSupplementary_4cfef_11 : decode cJ2_indexOfSupplementary_4cfef 11 = .ok (.istore 4, 2) := by decide +kernel
theorem dJ2_indexOfSupplementary_4cfef_13 : decode cJ2_indexOfSupplementary_4cfef 13 = .ok (.iload_n 1, 1) := by decide +kernel
theorem dJ2_indexOfSupplementary_4cfef_14 : decode cJ2_indexOfSupplementary_4cfef 14 = .ok (.invokestatic 161, 3) := by decide +kernel
theorem dJ2_indexOfSupplementary_4cfef_17 : decode cJ2_indexOfSupplementary_4cfef 17 = .ok (.istore 5, 2) := by decide +kernel
theorem dJ2_indexOfSupplementary_4cfef_19 : decode cJ2_indexOfSupplementary_4cfef 19 = .ok (.iload_n 2, 1) := by decide +kernel
theorem dJ2_indexOfSupplementary_4cfef_20 : decode cJ2_indexOfSupplementary_4cfef 20 = .ok (.iload_n 3, 1) := by decide +kernel
theorem dJ2_indexOfSupplementary_4cfef_21 : decode cJ2_indexOfSupplementary_4cfef 21 = .ok (.aload_n 0, 1) := by decide +kernel
theorem dJ2_indexOfSupplementary_4cfef_22 : decode cJ2_indexOfSupplementary_4cfef 22 = .ok (.invokestatic 96, 3) := by decide +kernel
theorem dJ2_indexOfSupplementary_4cfef_25 : decode cJ2_indexOfSupplementary_4cfef 25 = .ok (.iload_n 2, 1) := by decide +kernel
theorem dJ2_indexOfSupplementary_4cfef_26 : decode cJ2_indexOfSupplementary_4cfef 26 = .ok (.istore 6, 2) := by decide +kernel
theorem dJ2_indexOfSupplementary_4cfef_28 : decode cJ2_indexOfSupplementary_4cfef 28 = .ok (.iload 6, 2) := by decide +kernel
theorem dJ2_indexOfSupplementary_4cfef_30 : decode cJ2_indexOfSupplementary_4cfef 30 = .ok (.iload_n 3, 1) := by decide +kernel
theorem dJ2_indexOfSupplementary_4cfef_31 : decode cJ2_indexOfSupplementary_4cfef 31 = .ok (.iconst 1, 1) := by decide +kernel
theorem dJ2_indexOfSupplementary_4cfef_32 : decode cJ2_indexOfSupplementary_4cfef 32 = .ok (.isub, 1) := by decide +kernel
theorem dJ2_indexOfSupplementary_4cfef_33 : decode cJ2_indexOfSupplementary_4cfef 33 = .ok (.if_icmp .ge 36, 3) := by decide +kernel
theorem dJ2_indexOfSupplementary_4cfef_36 : decode cJ2_indexOfSupplementary_4cfef 36 = .ok (.aload_n 0, 1) := by decide +kernel
theorem dJ2_indexOfSupplementary_4cfef_37 : decode cJ2_indexOfSupplementary_4cfef 37 = .ok (.iload 6, 2) := by decide +kernel
theorem dJ2_indexOfSupplementary_4cfef_39 : decode cJ2_indexOfSupplementary_4cfef 39 = .ok (.invokestatic 71, 3) := by decide +kernel
theorem dJ2_indexOfSupplementary_4cfef_42 : decode cJ2_indexOfSupplementary_4cfef 42 = .ok (.iload 4, 2) := by decide +kernel
theorem dJ2_indexOfSupplementary_4cfef_44 : decode cJ2_indexOfSupplementary_4cfef 44 = .ok (.if_icmp .ne 19, 3) := by decide +kernel
theorem dJ2_indexOfSupplementary_4cfef_47 : decode cJ2_indexOfSupplementary_4cfef 47 = .ok (.aload_n 0, 1) := by decide +kernel
theorem dJ2_indexOfSupplementary_4cfef_48 : decode cJ2_indexOfSupplementary_4cfef 48 = .ok (.iload 6, 2) := by decide +kernel
theorem dJ2_indexOfSupplementary_4cfef_50 : decode cJ2_indexOfSupplementary_4cfef 50 = .ok (.iconst 1, 1) := by decide +kernel
theorem dJ2_indexOfSupplementary_4cfef_51 : decode cJ2_indexOfSupplementary_4cfef 51 = .ok (.iadd, 1) := by decide +kernel
theorem dJ2_indexOfSupplementary_4cfef_52 : decode cJ2_indexOfSupplementary_4cfef 52 = .ok (.invokestatic 71, 3) := by decide +kernel
theorem dJ2_indexOfSupplementary_4cfef_55 : decode cJ2_indexOfSupplementary_4cfef 55 = .ok (.iload 5, 2) := by decide +kernel
theorem dJ2_indexOfSupplementary_4cfef_57 : decode cJ2_indexOfSupplementary_4cfef 57 = .ok (.if_icmp .ne 6, 3) := by decide +kernel
theorem dJ2_indexOfSupplementary_4cfef_60 : decode cJ2_indexOfSupplementary_4cfef 60 = .ok (.iload 6, 2) := by decide +kernel
theorem dJ2_indexOfSupplementary_4cfef_62 : decode cJ2_indexOfSupplementary_4cfef 62 = .ok (.ireturn, 1) := by decide +kernel
theorem dJ2_indexOfSupplementary_4cfef_63 : decode cJ2_indexOfSupplementary_4cfef 63 = .ok (.iinc 6 1, 3) := by decide +kernel
theorem dJ2_indexOfSupplementary_4cfef_66 : decode cJ2_indexOfSupplementary_4cfef 66 = .ok (.goto (-38), 3) := by decide +kernel
theorem dJ2_indexOfSupplementary_4cfef_69 : decode cJ2_indexOfSupplementary_4cfef 69 = .ok (.iconst (-1), 1) := by decide +kernel
theorem dJ2_indexOfSupplementary_4cfef_70 : decode cJ2_indexOfSupplementary_4cfef 70 = .ok (.ireturn, 1) := by decide +kernel
theorem dJ2_checkBoundsBeginEnd_d044e_0 : decode cJ2_checkBoundsBeginEnd_d044e 0 = .ok (.iload_n 0, 1) := by decide +kernel
theorem dJ2_checkBoundsBeginEnd_d044e_1 : decode cJ2_checkBoundsBeginEnd_d044e 1 = .ok (.iload_n 1, 1) := by decide +kernel
theorem dJ2_checkBoundsBeginEnd_d044e_2 : decode cJ2_checkBoundsBeginEnd_d044e 2 = .ok (.aload_n 2, 1) := by decide +kernel
theorem dJ2_checkBoundsBeginEnd_d044e_3 : decode cJ2_checkBoundsBeginEnd_d044e 3 = .ok (.invokestatic 48, 3) := by decide +kernel
theorem dJ2_checkBoundsBeginEnd_d044e_6 : decode cJ2_checkBoundsBeginEnd_d044e 6 = .ok (.invokestatic 241, 3) := by decide +kernel
theorem dJ2_checkBoundsBeginEnd_d044e_9 : decode cJ2_checkBoundsBeginEnd_d044e 9 = .ok (.return_, 1) := by decide +kernel
theorem dJ7_fill_d0a16_0 : decode cJ7_fill_d0a16 0 = .ok (.iconst 0, 1) := by decide +kernel
theorem dJ7_fill_d0a16_1 : decode cJ7_fill_d0a16 1 = .ok (.istore_n 3, 1) := by decide +kernel
theorem dJ7_fill_d0a16_2 : decode cJ7_fill_d0a16 2 = .ok (.aload_n 0, 1) := by decide +kernel
theorem dJ7_fill_d0a16_3 : decode cJ7_fill_d0a16 3 = .ok (.arraylength, 1) := by decide +kernel
theorem dJ7_fill_d0a16_4 : decode cJ7_fill_d0a16 4 = .ok (.istore 4, 2) := by decide +kernel
theorem dJ7_fill_d0a16_6 : decode cJ7_fill_d0a16 6 = .ok (.iload_n 3, 1) := by decide +kernel
theorem dJ7_fill_d0a16_7 : decode cJ7_fill_d0a16 7 = .ok (.iload 4, 2) := by decide +kernel
theorem dJ7_fill_d0a16_9 : decode cJ7_fill_d0a16 9 = .ok (.if_icmp .ge 13, 3) := by decide +kernel
theorem dJ7_fill_d0a16_12 : decode cJ7_fill_d0a16 12 = .ok (.aload_n 0, 1) := by decide +kernel
theorem dJ7_fill_d0a16_13 : decode cJ7_fill_d0a16 13 = .ok (.iload_n 3, 1) := by decide +kernel
theorem dJ7_fill_d0a16_14 : decode cJ7_fill_d0a16 14 = .ok (.lload_n 1, 1) := by decide +kernel
theorem dJ7_fill_d0a16_15 : decode cJ7_fill_d0a16 15 = .ok (.lastore, 1) := by decide +kernel
theorem dJ7_fill_d0a16_16 : decode cJ7_fill_d0a16 16 = .ok (.iinc 3 1, 3) := by decide +kernel
theorem dJ7_fill_d0a16_19 : decode cJ7_fill_d0a16 19 = .ok (.goto (-13), 3) := by decide +kernel
theorem dJ7_fill_d0a16_22 : decode cJ7_fill_d0a16 22 = .ok (.return_, 1) := by decide +kernel
theorem dJ7_fill_53178_0 : decode cJ7_fill_53178 0 = .ok (.iconst 0, 1) := by decide +kernel
theorem dJ7_fill_53178_1 : decode cJ7_fill_53178 1 = .ok (.istore_n 2, 1) := by decide +kernel
theorem dJ7_fill_53178_2 : decode cJ7_fill_53178 2 = .ok (.aload_n 0, 1) := by decide +kernel
theorem dJ7_fill_53178_3 : decode cJ7_fill_53178 3 = .ok (.arraylength, 1) := by decide +kernel
theorem dJ7_fill_53178_4 : decode cJ7_fill_53178 4 = .ok (.istore_n 3, 1) := by decide +kernel
theorem dJ7_fill_53178_5 : decode cJ7_fill_53178 5 = .ok (.iload_n 2, 1) := by decide +kernel
theorem dJ7_fill_53178_6 : decode cJ7_fill_53178 6 = .ok (.iload_n 3, 1) := by decide +kernel
theorem dJ7_fill_53178_7 : decode cJ7_fill_53178 7 = .ok (.if_icmp .ge 13, 3) := by decide +kernel
theorem dJ7_fill_53178_10 : decode cJ7_fill_53178 10 = .ok (.aload_n 0, 1) := by decide +kernel
theorem dJ7_fill_53178_11 : decode cJ7_fill_53178 11 = .ok (.iload_n 2, 1) := by decide +kernel
theorem dJ7_fill_53178_12 : decode cJ7_fill_53178 12 = .ok (.iload_n 1, 1) := by decide +kernel
theorem dJ7_fill_53178_13 : decode cJ7_fill_53178 13 = .ok (.iastore, 1) := by decide +kernel
theorem dJ7_fill_53178_14 : decode cJ7_fill_53178 14 = .ok (.iinc 2 1, 3) := by decide +kernel
theorem dJ7_fill_53178_17 : decode cJ7_fill_53178 17 = .ok (.goto (-12), 3) := by decide +kernel
theorem dJ7_fill_53178_20 : decode cJ7_fill_53178 20 = .ok (.return_, 1) := by decide +kernel
theorem dJ3_checkFromToIndex_8c36e_0 : decode cJ3_checkFromToIndex_8c36e 0 = .ok (.iload_n 0, 1) := by decide +kernel
theorem dJ3_checkFromToIndex_8c36e_1 : decode cJ3_checkFromToIndex_8c36e 1 = .ok (.ifCond .lt 13, 3) := by decide +kernel
theorem dJ3_checkFromToIndex_8c36e_4 : decode cJ3_checkFromToIndex_8c36e 4 = .ok (.iload_n 0, 1) := by decide +kernel
theorem dJ3_checkFromToIndex_8c36e_5 : decode cJ3_checkFromToIndex_8c36e 5 = .ok (.iload_n 1, 1) := by decide +kernel
theorem dJ3_checkFromToIndex_8c36e_6 : decode cJ3_checkFromToIndex_8c36e 6 = .ok (.if_icmp .gt 8, 3) := by decide +kernel
theorem dJ3_checkFromToIndex_8c36e_9 : decode cJ3_checkFromToIndex_8c36e 9 = .ok (.iload_n 1, 1) := by decide +kernel
theorem dJ3_checkFromToIndex_8c36e_10 : decode cJ3_checkFromToIndex_8c36e 10 = .ok (.iload_n 2, 1) := by decide +kernel
theorem dJ3_checkFromToIndex_8c36e_11 : decode cJ3_checkFromToIndex_8c36e 11 = .ok (.if_icmp .le 11, 3) := by decide +kernel
theorem dJ3_checkFromToIndex_8c36e_14 : decode cJ3_checkFromToIndex_8c36e 14 = .ok (.aload_n 3, 1) := by decide +kernel
theorem dJ3_checkFromToIndex_8c36e_15 : decode cJ3_checkFromToIndex_8c36e 15 = .ok (.iload_n 0, 1) := by decide +kernel
theorem dJ3_checkFromToIndex_8c36e_16 : decode cJ3_checkFromToIndex_8c36e 16 = .ok (.iload_n 1, 1) := by decide +kernel
theorem dJ3_checkFromToIndex_8c36e_17 : decode cJ3_checkFromToIndex_8c36e 17 = .ok (.iload_n 2, 1) := by decide +kernel
theorem dJ3_checkFromToIndex_8c36e_18 : decode cJ3_checkFromToIndex_8c36e 18 = .ok (.invokestatic 99, 3) := by decide +kernel
theorem dJ3_checkFromToIndex_8c36e_21 : decode cJ3_checkFromToIndex_8c36e 21 = .ok (.athrow, 1) := by decide +kernel
theorem dJ3_checkFromToIndex_8c36e_22 : decode cJ3_checkFromToIndex_8c36e 22 = .ok (.iload_n 0, 1) := by decide +kernel
theorem dJ3_checkFromToIndex_8c36e_23 : decode cJ3_checkFromToIndex_8c36e 23 = .ok (.ireturn, 1) := by decide +kernel
