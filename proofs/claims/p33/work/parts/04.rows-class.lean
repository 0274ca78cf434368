theorem dX0_init_0 : decode cX0_init 0 = .ok (.aload_n 0, 1) := by decide +kernel
theorem dX0_init_1 : decode cX0_init 1 = .ok (.invokespecial 3, 3) := by decide +kernel
theorem dX0_init_4 : decode cX0_init 4 = .ok (.aload_n 0, 1) := by decide +kernel
theorem dX0_init_5 : decode cX0_init 5 = .ok (.iconst 0, 1) := by decide +kernel
theorem dX0_init_6 : decode cX0_init 6 = .ok (.putfield 9, 3) := by decide +kernel
theorem dX0_init_9 : decode cX0_init 9 = .ok (.aload_n 0, 1) := by decide +kernel
theorem dX0_init_10 : decode cX0_init 10 = .ok (.iconst (-1), 1) := by decide +kernel
theorem dX0_init_11 : decode cX0_init 11 = .ok (.putfield 15, 3) := by decide +kernel
theorem dX0_init_14 : decode cX0_init 14 = .ok (.aload_n 0, 1) := by decide +kernel
theorem dX0_init_15 : decode cX0_init 15 = .ok (.iconst 0, 1) := by decide +kernel
theorem dX0_init_16 : decode cX0_init 16 = .ok (.putfield 19, 3) := by decide +kernel
theorem dX0_init_19 : decode cX0_init 19 = .ok (.aload_n 0, 1) := by decide +kernel
theorem dX0_init_20 : decode cX0_init 20 = .ok (.iconst 0, 1) := by decide +kernel
theorem dX0_init_21 : decode cX0_init 21 = .ok (.putfield 22, 3) := by decide +kernel
theorem dX0_init_24 : decode cX0_init 24 = .ok (.aload_n 0, 1) := by decide +kernel
theorem dX0_init_25 : decode cX0_init 25 = .ok (.iconst (-1), 1) := by decide +kernel
theorem dX0_init_26 : decode cX0_init 26 = .ok (.putfield 25, 3) := by decide +kernel
theorem dX0_init_29 : decode cX0_init 29 = .ok (.aload_n 0, 1) := by decide +kernel
theorem dX0_init_30 : decode cX0_init 30 = .ok (.bipush 15, 2) := by decide +kernel
theorem dX0_init_32 : decode cX0_init 32 = .ok (.newarray .int, 2) := by decide +kernel
theorem dX0_init_34 : decode cX0_init 34 = .ok (.putfield 28, 3) := by decide +kernel
theorem dX0_init_37 : decode cX0_init 37 = .ok (.aload_n 0, 1) := by decide +kernel
theorem dX0_init_38 : decode cX0_init 38 = .ok (.bipush 15, 2) := by decide +kernel
theorem dX0_init_40 : decode cX0_init 40 = .ok (.newarray .int, 2) := by decide +kernel
theorem dX0_init_42 : decode cX0_init 42 = .ok (.putfield 32, 3) := by decide +kernel
theorem dX0_init_45 : decode cX0_init 45 = .ok (.return_, 1) := by decide +kernel
theorem dX0_read_0 : decode cX0_read 0 = .ok (.aload_n 0, 1) := by decide +kernel
theorem dX0_read_1 : decode cX0_read 1 = .ok (.iconst 0, 1) := by decide +kernel
theorem dX0_read_2 : decode cX0_read 2 = .ok (.putfield 9, 3) := by decide +kernel
theorem dX0_read_5 : decode cX0_read 5 = .ok (.aload_n 0, 1) := by decide +kernel
theorem dX0_read_6 : decode cX0_read 6 = .ok (.iconst (-1), 1) := by decide +kernel
theorem dX0_read_7 : decode cX0_read 7 = .ok (.putfield 15, 3) := by decide +kernel
theorem dX0_read_10 : decode cX0_read 10 = .ok (.aload_n 0, 1) := by decide +kernel
theorem dX0_read_11 : decode cX0_read 11 = .ok (.iconst 0, 1) := by decide +kernel
theorem dX0_read_12 : decode cX0_read 12 = .ok (.putfield 19, 3) := by decide +kernel
theorem dX0_read_15 : decode cX0_read 15 = .ok (.aload_n 0, 1) := by decide +kernel
theorem dX0_read_16 : decode cX0_read 16 = .ok (.iconst 0, 1) := by decide +kernel
theorem dX0_read_17 : decode cX0_read 17 = .ok (.putfield 22, 3) := by decide +kernel
theorem dX0_read_20 : decode cX0_read 20 = .ok (.aload_n 0, 1) := by decide +kernel
theorem dX0_read_21 : decode cX0_read 21 = .ok (.iconst (-1), 1) := by decide +kernel
theorem dX0_read_22 : decode cX0_read 22 = .ok (.putfield 25, 3) := by decide +kernel
theorem dX0_read_25 : decode cX0_read 25 = .ok (.iconst 0, 1) := by decide +kernel
theorem dX0_read_26 : decode cX0_read 26 = .ok (.istore_n 3, 1) := by decide +kernel
theorem dX0_read_27 : decode cX0_read 27 = .ok (.iload_n 3, 1) := by decide +kernel
theorem dX0_read_28 : decode cX0_read 28 = .ok (.iload_n 2, 1) := by decide +kernel
theorem dX0_read_29 : decode cX0_read 29 = .ok (.if_icmp .ge 23, 3) := by decide +kernel
theorem dX0_read_32 : decode cX0_read 32 = .ok (.aload_n 0, 1) := by decide +kernel
theorem dX0_read_33 : decode cX0_read 33 = .ok (.aload_n 1, 1) := by decide +kernel
theorem dX0_read_34 : decode cX0_read 34 = .ok (.iload_n 3, 1) := by decide +kernel
theorem dX0_read_35 : decode cX0_read 35 = .ok (.invokestatic 35, 3) := by decide +kernel
theorem dX0_read_38 : decode cX0_read 38 = .ok (.invokevirtual 41, 3) := by decide +kernel
theorem dX0_read_41 : decode cX0_read 41 = .ok (.ifCond .ne 5, 3) := by decide +kernel
theorem dX0_read_44 : decode cX0_read 44 = .ok (.iload_n 3, 1) := by decide +kernel
theorem dX0_read_45 : decode cX0_read 45 = .ok (.ireturn, 1) := by decide +kernel
theorem dX0_read_46 : decode cX0_read 46 = .ok (.iinc 3 1, 3) := by decide +kernel
theorem dX0_read_49 : decode cX0_read 49 = .ok (.goto (-22), 3) := by decide +kernel
theorem dX0_read_52 : decode cX0_read 52 = .ok (.aload_n 0, 1) := by decide +kernel
theorem dX0_read_53 : decode cX0_read 53 = .ok (.aload_n 0, 1) := by decide +kernel
theorem dX0_read_54 : decode cX0_read 54 = .ok (.getfield 22, 3) := by decide +kernel
theorem dX0_read_57 : decode cX0_read 57 = .ok (.iconst 1, 1) := by decide +kernel
theorem dX0_read_58 : decode cX0_read 58 = .ok (.if_icmp .eq 18, 3) := by decide +kernel
theorem dX0_read_61 : decode cX0_read 61 = .ok (.aload_n 0, 1) := by decide +kernel
theorem dX0_read_62 : decode cX0_read 62 = .ok (.aload_n 0, 1) := by decide +kernel
theorem dX0_read_63 : decode cX0_read 63 = .ok (.getfield 25, 3) := by decide +kernel
theorem dX0_read_66 : decode cX0_read 66 = .ok (.invokevirtual 45, 3) := by decide +kernel
theorem dX0_read_69 : decode cX0_read 69 = .ok (.ifCond .eq 7, 3) := by decide +kernel
theorem dX0_read_72 : decode cX0_read 72 = .ok (.iconst 1, 1) := by decide +kernel
theorem dX0_read_73 : decode cX0_read 73 = .ok (.goto 4, 3) := by decide +kernel
theorem dX0_read_76 : decode cX0_read 76 = .ok (.iconst 0, 1) := by decide +kernel
theorem dX0_read_77 : decode cX0_read 77 = .ok (.putfield 9, 3) := by decide +kernel
theorem dX0_read_80 : decode cX0_read 80 = .ok (.aload_n 0, 1) := by decide +kernel
theorem dX0_read_81 : decode cX0_read 81 = .ok (.getfield 9, 3) := by decide +kernel
theorem dX0_read_84 : decode cX0_read 84 = .ok (.ifCond .eq 7, 3) := by decide +kernel
theorem dX0_read_87 : decode cX0_read 87 = .ok (.aload_n 0, 1) := by decide +kernel
theorem dX0_read_88 : decode cX0_read 88 = .ok (.invokevirtual 48, 3) := by decide +kernel
theorem dX0_read_91 : decode cX0_read 91 = .ok (.iload_n 2, 1) := by decide +kernel
theorem dX0_read_92 : decode cX0_read 92 = .ok (.ireturn, 1) := by decide +kernel
theorem dX0_take_0 : decode cX0_take 0 = .ok (.iload_n 1, 1) := by decide +kernel
theorem dX0_take_1 : decode cX0_take 1 = .ok (.bipush 48, 2) := by decide +kernel
theorem dX0_take_3 : decode cX0_take 3 = .ok (.if_icmp .lt 18, 3) := by decide +kernel
theorem dX0_take_6 : decode cX0_take 6 = .ok (.iload_n 1, 1) := by decide +kernel
theorem dX0_take_7 : decode cX0_take 7 = .ok (.bipush 57, 2) := by decide +kernel
theorem dX0_take_9 : decode cX0_take 9 = .ok (.if_icmp .gt 12, 3) := by decide +kernel
theorem dX0_take_12 : decode cX0_take 12 = .ok (.aload_n 0, 1) := by decide +kernel
theorem dX0_take_13 : decode cX0_take 13 = .ok (.iload_n 1, 1) := by decide +kernel
theorem dX0_take_14 : decode cX0_take 14 = .ok (.bipush 48, 2) := by decide +kernel
theorem dX0_take_16 : decode cX0_take 16 = .ok (.isub, 1) := by decide +kernel
theorem dX0_take_17 : decode cX0_take 17 = .ok (.invokevirtual 51, 3) := by decide +kernel
theorem dX0_take_20 : decode cX0_take 20 = .ok (.ireturn, 1) := by decide +kernel
theorem dX0_take_21 : decode cX0_take 21 = .ok (.iload_n 1, 1) := by decide +kernel
theorem dX0_take_22 : decode cX0_take 22 = .ok (.aload_n 0, 1) := by decide +kernel
theorem dX0_take_23 : decode cX0_take 23 = .ok (.invokevirtual 54, 3) := by decide +kernel
theorem dX0_take_26 : decode cX0_take 26 = .ok (.if_icmp .ne 14, 3) := by decide +kernel
theorem dX0_take_29 : decode cX0_take 29 = .ok (.aload_n 0, 1) := by decide +kernel
theorem dX0_take_30 : decode cX0_take 30 = .ok (.aload_n 0, 1) := by decide +kernel
theorem dX0_take_31 : decode cX0_take 31 = .ok (.getfield 25, 3) := by decide +kernel
theorem dX0_take_34 : decode cX0_take 34 = .ok (.invokevirtual 45, 3) := by decide +kernel
theorem dX0_take_37 : decode cX0_take 37 = .ok (.ifCond .ne 5, 3) := by decide +kernel
theorem dX0_take_40 : decode cX0_take 40 = .ok (.iconst 0, 1) := by decide +kernel
theorem dX0_take_41 : decode cX0_take 41 = .ok (.ireturn, 1) := by decide +kernel
theorem dX0_take_42 : decode cX0_take 42 = .ok (.aload_n 0, 1) := by decide +kernel
theorem dX0_take_43 : decode cX0_take 43 = .ok (.invokevirtual 48, 3) := by decide +kernel
theorem dX0_take_46 : decode cX0_take 46 = .ok (.iconst 1, 1) := by decide +kernel
theorem dX0_take_47 : decode cX0_take 47 = .ok (.ireturn, 1) := by decide +kernel
theorem dX0_takeDigit_0 : decode cX0_takeDigit 0 = .ok (.aload_n 0, 1) := by decide +kernel
theorem dX0_takeDigit_1 : decode cX0_takeDigit 1 = .ok (.getfield 25, 3) := by decide +kernel
theorem dX0_takeDigit_4 : decode cX0_takeDigit 4 = .ok (.ifCond .ne 5, 3) := by decide +kernel
theorem dX0_takeDigit_7 : decode cX0_takeDigit 7 = .ok (.iconst 0, 1) := by decide +kernel
theorem dX0_takeDigit_8 : decode cX0_takeDigit 8 = .ok (.ireturn, 1) := by decide +kernel
theorem dX0_takeDigit_9 : decode cX0_takeDigit 9 = .ok (.aload_n 0, 1) := by decide +kernel
theorem dX0_takeDigit_10 : decode cX0_takeDigit 10 = .ok (.aload_n 0, 1) := by decide +kernel
theorem dX0_takeDigit_11 : decode cX0_takeDigit 11 = .ok (.getfield 25, 3) := by decide +kernel
theorem dX0_takeDigit_14 : decode cX0_takeDigit 14 = .ok (.iconst (-1), 1) := by decide +kernel
theorem dX0_takeDigit_15 : decode cX0_takeDigit 15 = .ok (.if_icmp .ne 7, 3) := by decide +kernel
theorem dX0_takeDigit_18 : decode cX0_takeDigit 18 = .ok (.iload_n 1, 1) := by decide +kernel
theorem dX0_takeDigit_19 : decode cX0_takeDigit 19 = .ok (.goto 12, 3) := by decide +kernel
theorem dX0_takeDigit_22 : decode cX0_takeDigit 22 = .ok (.aload_n 0, 1) := by decide +kernel
theorem dX0_takeDigit_23 : decode cX0_takeDigit 23 = .ok (.getfield 25, 3) := by decide +kernel
theorem dX0_takeDigit_26 : decode cX0_takeDigit 26 = .ok (.bipush 10, 2) := by decide +kernel
theorem dX0_takeDigit_28 : decode cX0_takeDigit 28 = .ok (.imul, 1) := by decide +kernel
theorem dX0_takeDigit_29 : decode cX0_takeDigit 29 = .ok (.iload_n 1, 1) := by decide +kernel
theorem dX0_takeDigit_30 : decode cX0_takeDigit 30 = .ok (.iadd, 1) := by decide +kernel
theorem dX0_takeDigit_31 : decode cX0_takeDigit 31 = .ok (.putfield 25, 3) := by decide +kernel
theorem dX0_takeDigit_34 : decode cX0_takeDigit 34 = .ok (.aload_n 0, 1) := by decide +kernel
theorem dX0_takeDigit_35 : decode cX0_takeDigit 35 = .ok (.aload_n 0, 1) := by decide +kernel
theorem dX0_takeDigit_36 : decode cX0_takeDigit 36 = .ok (.getfield 25, 3) := by decide +kernel
theorem dX0_takeDigit_39 : decode cX0_takeDigit 39 = .ok (.invokevirtual 45, 3) := by decide +kernel
theorem dX0_takeDigit_42 : decode cX0_takeDigit 42 = .ok (.ifCond .ne 14, 3) := by decide +kernel
theorem dX0_takeDigit_45 : decode cX0_takeDigit 45 = .ok (.aload_n 0, 1) := by decide +kernel
theorem dX0_takeDigit_46 : decode cX0_takeDigit 46 = .ok (.aload_n 0, 1) := by decide +kernel
theorem dX0_takeDigit_47 : decode cX0_takeDigit 47 = .ok (.getfield 25, 3) := by decide +kernel
theorem dX0_takeDigit_50 : decode cX0_takeDigit 50 = .ok (.invokevirtual 58, 3) := by decide +kernel
theorem dX0_takeDigit_53 : decode cX0_takeDigit 53 = .ok (.ifCond .eq 7, 3) := by decide +kernel
theorem dX0_takeDigit_56 : decode cX0_takeDigit 56 = .ok (.iconst 1, 1) := by decide +kernel
theorem dX0_takeDigit_57 : decode cX0_takeDigit 57 = .ok (.goto 4, 3) := by decide +kernel
theorem dX0_takeDigit_60 : decode cX0_takeDigit 60 = .ok (.iconst 0, 1) := by decide +kernel
theorem dX0_takeDigit_61 : decode cX0_takeDigit 61 = .ok (.ireturn, 1) := by decide +kernel
theorem dX0_least_0 : decode cX0_least 0 = .ok (.aload_n 0, 1) := by decide +kernel
theorem dX0_least_1 : decode cX0_least 1 = .ok (.getfield 22, 3) := by decide +kernel
theorem dX0_least_4 : decode cX0_least 4 = .ok (.ifCond .ne 8, 3) := by decide +kernel
theorem dX0_least_7 : decode cX0_least 7 = .ok (.bipush 8, 2) := by decide +kernel
theorem dX0_least_9 : decode cX0_least 9 = .ok (.goto 4, 3) := by decide +kernel
theorem dX0_least_12 : decode cX0_least 12 = .ok (.iconst 0, 1) := by decide +kernel
theorem dX0_least_13 : decode cX0_least 13 = .ok (.ireturn, 1) := by decide +kernel
theorem dX0_isWhole_0 : decode cX0_isWhole 0 = .ok (.iload_n 1, 1) := by decide +kernel
theorem dX0_isWhole_1 : decode cX0_isWhole 1 = .ok (.aload_n 0, 1) := by decide +kernel
theorem dX0_isWhole_2 : decode cX0_isWhole 2 = .ok (.invokevirtual 61, 3) := by decide +kernel
theorem dX0_isWhole_5 : decode cX0_isWhole 5 = .ok (.if_icmp .lt 13, 3) := by decide +kernel
theorem dX0_isWhole_8 : decode cX0_isWhole 8 = .ok (.iload_n 1, 1) := by decide +kernel
theorem dX0_isWhole_9 : decode cX0_isWhole 9 = .ok (.bipush 40, 2) := by decide +kernel
theorem dX0_isWhole_11 : decode cX0_isWhole 11 = .ok (.if_icmp .gt 7, 3) := by decide +kernel
theorem dX0_isWhole_14 : decode cX0_isWhole 14 = .ok (.iconst 1, 1) := by decide +kernel
theorem dX0_isWhole_15 : decode cX0_isWhole 15 = .ok (.goto 4, 3) := by decide +kernel
theorem dX0_isWhole_18 : decode cX0_isWhole 18 = .ok (.iconst 0, 1) := by decide +kernel
theorem dX0_isWhole_19 : decode cX0_isWhole 19 = .ok (.ireturn, 1) := by decide +kernel
theorem dX0_canGrow_0 : decode cX0_canGrow 0 = .ok (.iload_n 1, 1) := by decide +kernel
theorem dX0_canGrow_1 : decode cX0_canGrow 1 = .ok (.ifCond .le 30, 3) := by decide +kernel
theorem dX0_canGrow_4 : decode cX0_canGrow 4 = .ok (.iload_n 1, 1) := by decide +kernel
theorem dX0_canGrow_5 : decode cX0_canGrow 5 = .ok (.bipush 10, 2) := by decide +kernel
theorem dX0_canGrow_7 : decode cX0_canGrow 7 = .ok (.imul, 1) := by decide +kernel
theorem dX0_canGrow_8 : decode cX0_canGrow 8 = .ok (.bipush 9, 2) := by decide +kernel
theorem dX0_canGrow_10 : decode cX0_canGrow 10 = .ok (.iadd, 1) := by decide +kernel
theorem dX0_canGrow_11 : decode cX0_canGrow 11 = .ok (.aload_n 0, 1) := by decide +kernel
theorem dX0_canGrow_12 : decode cX0_canGrow 12 = .ok (.invokevirtual 61, 3) := by decide +kernel
theorem dX0_canGrow_15 : decode cX0_canGrow 15 = .ok (.if_icmp .lt 16, 3) := by decide +kernel
theorem dX0_canGrow_18 : decode cX0_canGrow 18 = .ok (.iload_n 1, 1) := by decide +kernel
theorem dX0_canGrow_19 : decode cX0_canGrow 19 = .ok (.bipush 10, 2) := by decide +kernel
theorem dX0_canGrow_21 : decode cX0_canGrow 21 = .ok (.imul, 1) := by decide +kernel
theorem dX0_canGrow_22 : decode cX0_canGrow 22 = .ok (.bipush 40, 2) := by decide +kernel
theorem dX0_canGrow_24 : decode cX0_canGrow 24 = .ok (.if_icmp .gt 7, 3) := by decide +kernel
theorem dX0_canGrow_27 : decode cX0_canGrow 27 = .ok (.iconst 1, 1) := by decide +kernel
theorem dX0_canGrow_28 : decode cX0_canGrow 28 = .ok (.goto 4, 3) := by decide +kernel
theorem dX0_canGrow_31 : decode cX0_canGrow 31 = .ok (.iconst 0, 1) := by decide +kernel
theorem dX0_canGrow_32 : decode cX0_canGrow 32 = .ok (.ireturn, 1) := by decide +kernel
theorem dX0_separator_0 : decode cX0_separator 0 = .ok (.aload_n 0, 1) := by decide +kernel
theorem dX0_separator_1 : decode cX0_separator 1 = .ok (.getfield 22, 3) := by decide +kernel
theorem dX0_separator_4 : decode cX0_separator 4 = .ok (.lookupswitch 34 #[(0, 28), (1, 31)], 28) := by decide +kernel
theorem dX0_separator_32 : decode cX0_separator 32 = .ok (.bipush 58, 2) := by decide +kernel
theorem dX0_separator_34 : decode cX0_separator 34 = .ok (.ireturn, 1) := by decide +kernel
theorem dX0_separator_35 : decode cX0_separator 35 = .ok (.bipush 62, 2) := by decide +kernel
theorem dX0_separator_37 : decode cX0_separator 37 = .ok (.ireturn, 1) := by decide +kernel
theorem dX0_separator_38 : decode cX0_separator 38 = .ok (.bipush 44, 2) := by decide +kernel
theorem dX0_separator_40 : decode cX0_separator 40 = .ok (.ireturn, 1) := by decide +kernel
theorem dX0_finishNumber_0 : decode cX0_finishNumber 0 = .ok (.aload_n 0, 1) := by decide +kernel
theorem dX0_finishNumber_1 : decode cX0_finishNumber 1 = .ok (.getfield 22, 3) := by decide +kernel
theorem dX0_finishNumber_4 : decode cX0_finishNumber 4 = .ok (.lookupswitch 67 #[(0, 28), (1, 44)], 28) := by decide +kernel
theorem dX0_finishNumber_32 : decode cX0_finishNumber 32 = .ok (.aload_n 0, 1) := by decide +kernel
theorem dX0_finishNumber_33 : decode cX0_finishNumber 33 = .ok (.aload_n 0, 1) := by decide +kernel
theorem dX0_finishNumber_34 : decode cX0_finishNumber 34 = .ok (.getfield 25, 3) := by decide +kernel
theorem dX0_finishNumber_37 : decode cX0_finishNumber 37 = .ok (.putfield 15, 3) := by decide +kernel
theorem dX0_finishNumber_40 : decode cX0_finishNumber 40 = .ok (.aload_n 0, 1) := by decide +kernel
theorem dX0_finishNumber_41 : decode cX0_finishNumber 41 = .ok (.iconst 1, 1) := by decide +kernel
theorem dX0_finishNumber_42 : decode cX0_finishNumber 42 = .ok (.putfield 22, 3) := by decide +kernel
theorem dX0_finishNumber_45 : decode cX0_finishNumber 45 = .ok (.goto 56, 3) := by decide +kernel
theorem dX0_finishNumber_48 : decode cX0_finishNumber 48 = .ok (.aload_n 0, 1) := by decide +kernel
theorem dX0_finishNumber_49 : decode cX0_finishNumber 49 = .ok (.getfield 28, 3) := by decide +kernel
theorem dX0_finishNumber_52 : decode cX0_finishNumber 52 = .ok (.aload_n 0, 1) := by decide +kernel
theorem dX0_finishNumber_53 : decode cX0_finishNumber 53 = .ok (.getfield 19, 3) := by decide +kernel
theorem dX0_finishNumber_56 : decode cX0_finishNumber 56 = .ok (.aload_n 0, 1) := by decide +kernel
theorem dX0_finishNumber_57 : decode cX0_finishNumber 57 = .ok (.getfield 25, 3) := by decide +kernel
theorem dX0_finishNumber_60 : decode cX0_finishNumber 60 = .ok (.invokestatic 64, 3) := by decide +kernel
theorem dX0_finishNumber_63 : decode cX0_finishNumber 63 = .ok (.aload_n 0, 1) := by decide +kernel
theorem dX0_finishNumber_64 : decode cX0_finishNumber 64 = .ok (.iconst 2, 1) := by decide +kernel
theorem dX0_finishNumber_65 : decode cX0_finishNumber 65 = .ok (.putfield 22, 3) := by decide +kernel
theorem dX0_finishNumber_68 : decode cX0_finishNumber 68 = .ok (.goto 33, 3) := by decide +kernel
theorem dX0_finishNumber_71 : decode cX0_finishNumber 71 = .ok (.aload_n 0, 1) := by decide +kernel
theorem dX0_finishNumber_72 : decode cX0_finishNumber 72 = .ok (.getfield 32, 3) := by decide +kernel
theorem dX0_finishNumber_75 : decode cX0_finishNumber 75 = .ok (.aload_n 0, 1) := by decide +kernel
theorem dX0_finishNumber_76 : decode cX0_finishNumber 76 = .ok (.getfield 19, 3) := by decide +kernel
theorem dX0_finishNumber_79 : decode cX0_finishNumber 79 = .ok (.aload_n 0, 1) := by decide +kernel
theorem dX0_finishNumber_80 : decode cX0_finishNumber 80 = .ok (.getfield 25, 3) := by decide +kernel
theorem dX0_finishNumber_83 : decode cX0_finishNumber 83 = .ok (.invokestatic 64, 3) := by decide +kernel
theorem dX0_finishNumber_86 : decode cX0_finishNumber 86 = .ok (.aload_n 0, 1) := by decide +kernel
theorem dX0_finishNumber_87 : decode cX0_finishNumber 87 = .ok (.dup, 1) := by decide +kernel
theorem dX0_finishNumber_88 : decode cX0_finishNumber 88 = .ok (.getfield 19, 3) := by decide +kernel
theorem dX0_finishNumber_91 : decode cX0_finishNumber 91 = .ok (.iconst 1, 1) := by decide +kernel
theorem dX0_finishNumber_92 : decode cX0_finishNumber 92 = .ok (.iadd, 1) := by decide +kernel
theorem dX0_finishNumber_93 : decode cX0_finishNumber 93 = .ok (.putfield 19, 3) := by decide +kernel
theorem dX0_finishNumber_96 : decode cX0_finishNumber 96 = .ok (.aload_n 0, 1) := by decide +kernel
theorem dX0_finishNumber_97 : decode cX0_finishNumber 97 = .ok (.iconst 1, 1) := by decide +kernel
theorem dX0_finishNumber_98 : decode cX0_finishNumber 98 = .ok (.putfield 22, 3) := by decide +kernel
theorem dX0_finishNumber_101 : decode cX0_finishNumber 101 = .ok (.aload_n 0, 1) := by decide +kernel
theorem dX0_finishNumber_102 : decode cX0_finishNumber 102 = .ok (.iconst (-1), 1) := by decide +kernel
theorem dX0_finishNumber_103 : decode cX0_finishNumber 103 = .ok (.putfield 25, 3) := by decide +kernel
theorem dX0_finishNumber_106 : decode cX0_finishNumber 106 = .ok (.return_, 1) := by decide +kernel
theorem dX1_commonDivisor_0 : decode cX1_commonDivisor 0 = .ok (.lload_n 0, 1) := by decide +kernel
theorem dX1_commonDivisor_1 : decode cX1_commonDivisor 1 = .ok (.lstore 4, 2) := by decide +kernel
theorem dX1_commonDivisor_3 : decode cX1_commonDivisor 3 = .ok (.lload_n 2, 1) := by decide +kernel
theorem dX1_commonDivisor_4 : decode cX1_commonDivisor 4 = .ok (.lstore 6, 2) := by decide +kernel
theorem dX1_commonDivisor_6 : decode cX1_commonDivisor 6 = .ok (.iconst 0, 1) := by decide +kernel
theorem dX1_commonDivisor_7 : decode cX1_commonDivisor 7 = .ok (.istore 8, 2) := by decide +kernel
theorem dX1_commonDivisor_9 : decode cX1_commonDivisor 9 = .ok (.iload 8, 2) := by decide +kernel
theorem dX1_commonDivisor_11 : decode cX1_commonDivisor 11 = .ok (.bipush 100, 2) := by decide +kernel
theorem dX1_commonDivisor_13 : decode cX1_commonDivisor 13 = .ok (.if_icmp .ge 31, 3) := by decide +kernel
theorem dX1_commonDivisor_16 : decode cX1_commonDivisor 16 = .ok (.lload 6, 2) := by decide +kernel
theorem dX1_commonDivisor_18 : decode cX1_commonDivisor 18 = .ok (.lconst 0, 1) := by decide +kernel
theorem dX1_commonDivisor_19 : decode cX1_commonDivisor 19 = .ok (.lcmp, 1) := by decide +kernel
theorem dX1_commonDivisor_20 : decode cX1_commonDivisor 20 = .ok (.ifCond .eq 24, 3) := by decide +kernel
theorem dX1_commonDivisor_23 : decode cX1_commonDivisor 23 = .ok (.lload 4, 2) := by decide +kernel
theorem dX1_commonDivisor_25 : decode cX1_commonDivisor 25 = .ok (.lload 6, 2) := by decide +kernel
theorem dX1_commonDivisor_27 : decode cX1_commonDivisor 27 = .ok (.lrem, 1) := by decide +kernel
theorem dX1_commonDivisor_28 : decode cX1_commonDivisor 28 = .ok (.lstore 9, 2) := by decide +kernel
theorem dX1_commonDivisor_30 : decode cX1_commonDivisor 30 = .ok (.lload 6, 2) := by decide +kernel
theorem dX1_commonDivisor_32 : decode cX1_commonDivisor 32 = .ok (.lstore 4, 2) := by decide +kernel
theorem dX1_commonDivisor_34 : decode cX1_commonDivisor 34 = .ok (.lload 9, 2) := by decide +kernel
theorem dX1_commonDivisor_36 : decode cX1_commonDivisor 36 = .ok (.lstore 6, 2) := by decide +kernel
theorem dX1_commonDivisor_38 : decode cX1_commonDivisor 38 = .ok (.iinc 8 1, 3) := by decide +kernel
theorem dX1_commonDivisor_41 : decode cX1_commonDivisor 41 = .ok (.goto (-32), 3) := by decide +kernel
theorem dX1_commonDivisor_44 : decode cX1_commonDivisor 44 = .ok (.lload 4, 2) := by decide +kernel
theorem dX1_commonDivisor_46 : decode cX1_commonDivisor 46 = .ok (.lreturn, 1) := by decide +kernel
theorem dX1_lowest_0 : decode cX1_lowest 0 = .ok (.lload_n 0, 1) := by decide +kernel
theorem dX1_lowest_1 : decode cX1_lowest 1 = .ok (.lload_n 2, 1) := by decide +kernel
theorem dX1_lowest_2 : decode cX1_lowest 2 = .ok (.invokestatic 7, 3) := by decide +kernel
theorem dX1_lowest_5 : decode cX1_lowest 5 = .ok (.lstore 5, 2) := by decide +kernel
theorem dX1_lowest_7 : decode cX1_lowest 7 = .ok (.lload 5, 2) := by decide +kernel
theorem dX1_lowest_9 : decode cX1_lowest 9 = .ok (.lconst 0, 1) := by decide +kernel
theorem dX1_lowest_10 : decode cX1_lowest 10 = .ok (.lcmp, 1) := by decide +kernel
theorem dX1_lowest_11 : decode cX1_lowest 11 = .ok (.ifCond .ne 7, 3) := by decide +kernel
theorem dX1_lowest_14 : decode cX1_lowest 14 = .ok (.iload 4, 2) := by decide +kernel
theorem dX1_lowest_16 : decode cX1_lowest 16 = .ok (.i2l, 1) := by decide +kernel
theorem dX1_lowest_17 : decode cX1_lowest 17 = .ok (.lreturn, 1) := by decide +kernel
theorem dX1_lowest_18 : decode cX1_lowest 18 = .ok (.iload 4, 2) := by decide +kernel
theorem dX1_lowest_20 : decode cX1_lowest 20 = .ok (.ifCond .ne 10, 3) := by decide +kernel
theorem dX1_lowest_23 : decode cX1_lowest 23 = .ok (.lload_n 0, 1) := by decide +kernel
theorem dX1_lowest_24 : decode cX1_lowest 24 = .ok (.lload 5, 2) := by decide +kernel
theorem dX1_lowest_26 : decode cX1_lowest 26 = .ok (.ldiv, 1) := by decide +kernel
theorem dX1_lowest_27 : decode cX1_lowest 27 = .ok (.goto 7, 3) := by decide +kernel
theorem dX1_lowest_30 : decode cX1_lowest 30 = .ok (.lload_n 2, 1) := by decide +kernel
theorem dX1_lowest_31 : decode cX1_lowest 31 = .ok (.lload 5, 2) := by decide +kernel
theorem dX1_lowest_33 : decode cX1_lowest 33 = .ok (.ldiv, 1) := by decide +kernel
theorem dX1_lowest_34 : decode cX1_lowest 34 = .ok (.lreturn, 1) := by decide +kernel
theorem dX2_init_0 : decode cX2_init 0 = .ok (.aload_n 0, 1) := by decide +kernel
theorem dX2_init_1 : decode cX2_init 1 = .ok (.invokespecial 3, 3) := by decide +kernel
theorem dX2_init_4 : decode cX2_init 4 = .ok (.aload_n 0, 1) := by decide +kernel
theorem dX2_init_5 : decode cX2_init 5 = .ok (.iconst 0, 1) := by decide +kernel
theorem dX2_init_6 : decode cX2_init 6 = .ok (.putfield 9, 3) := by decide +kernel
theorem dX2_init_9 : decode cX2_init 9 = .ok (.aload_n 0, 1) := by decide +kernel
theorem dX2_init_10 : decode cX2_init 10 = .ok (.iconst 0, 1) := by decide +kernel
theorem dX2_init_11 : decode cX2_init 11 = .ok (.putfield 15, 3) := by decide +kernel
theorem dX2_init_14 : decode cX2_init 14 = .ok (.aload_n 0, 1) := by decide +kernel
theorem dX2_init_15 : decode cX2_init 15 = .ok (.bipush 6, 2) := by decide +kernel
theorem dX2_init_17 : decode cX2_init 17 = .ok (.anewarray 18, 3) := by decide +kernel
theorem dX2_init_20 : decode cX2_init 20 = .ok (.putfield 20, 3) := by decide +kernel
theorem dX2_init_23 : decode cX2_init 23 = .ok (.iconst 0, 1) := by decide +kernel
theorem dX2_init_24 : decode cX2_init 24 = .ok (.istore_n 1, 1) := by decide +kernel
theorem dX2_init_25 : decode cX2_init 25 = .ok (.iload_n 1, 1) := by decide +kernel
theorem dX2_init_26 : decode cX2_init 26 = .ok (.aload_n 0, 1) := by decide +kernel
theorem dX2_init_27 : decode cX2_init 27 = .ok (.getfield 20, 3) := by decide +kernel
theorem dX2_init_30 : decode cX2_init 30 = .ok (.arraylength, 1) := by decide +kernel
theorem dX2_init_31 : decode cX2_init 31 = .ok (.if_icmp .ge 22, 3) := by decide +kernel
theorem dX2_init_34 : decode cX2_init 34 = .ok (.aload_n 0, 1) := by decide +kernel
theorem dX2_init_35 : decode cX2_init 35 = .ok (.getfield 20, 3) := by decide +kernel
theorem dX2_init_38 : decode cX2_init 38 = .ok (.iload_n 1, 1) := by decide +kernel
theorem dX2_init_39 : decode cX2_init 39 = .ok (.new 18, 3) := by decide +kernel
theorem dX2_init_42 : decode cX2_init 42 = .ok (.dup, 1) := by decide +kernel
theorem dX2_init_43 : decode cX2_init 43 = .ok (.invokespecial 24, 3) := by decide +kernel
theorem dX2_init_46 : decode cX2_init 46 = .ok (.aastore, 1) := by decide +kernel
theorem dX2_init_47 : decode cX2_init 47 = .ok (.iinc 1 1, 3) := by decide +kernel
theorem dX2_init_50 : decode cX2_init 50 = .ok (.goto (-25), 3) := by decide +kernel
theorem dX2_init_53 : decode cX2_init 53 = .ok (.return_, 1) := by decide +kernel
theorem dX2_placeOf_0 : decode cX2_placeOf 0 = .ok (.aload_n 0, 1) := by decide +kernel
theorem dX2_placeOf_1 : decode cX2_placeOf 1 = .ok (.getfield 15, 3) := by decide +kernel
theorem dX2_placeOf_4 : decode cX2_placeOf 4 = .ok (.iload_n 1, 1) := by decide +kernel
theorem dX2_placeOf_5 : decode cX2_placeOf 5 = .ok (.iadd, 1) := by decide +kernel
theorem dX2_placeOf_6 : decode cX2_placeOf 6 = .ok (.bipush 6, 2) := by decide +kernel
theorem dX2_placeOf_8 : decode cX2_placeOf 8 = .ok (.irem, 1) := by decide +kernel
theorem dX2_placeOf_9 : decode cX2_placeOf 9 = .ok (.istore_n 2, 1) := by decide +kernel
theorem dX2_placeOf_10 : decode cX2_placeOf 10 = .ok (.iload_n 2, 1) := by decide +kernel
theorem dX2_placeOf_11 : decode cX2_placeOf 11 = .ok (.ifCond .lt 21, 3) := by decide +kernel
theorem dX2_placeOf_14 : decode cX2_placeOf 14 = .ok (.iload_n 2, 1) := by decide +kernel
theorem dX2_placeOf_15 : decode cX2_placeOf 15 = .ok (.aload_n 0, 1) := by decide +kernel
theorem dX2_placeOf_16 : decode cX2_placeOf 16 = .ok (.getfield 20, 3) := by decide +kernel
theorem dX2_placeOf_19 : decode cX2_placeOf 19 = .ok (.arraylength, 1) := by decide +kernel
theorem dX2_placeOf_20 : decode cX2_placeOf 20 = .ok (.if_icmp .ge 12, 3) := by decide +kernel
theorem dX2_placeOf_23 : decode cX2_placeOf 23 = .ok (.aload_n 0, 1) := by decide +kernel
theorem dX2_placeOf_24 : decode cX2_placeOf 24 = .ok (.getfield 20, 3) := by decide +kernel
theorem dX2_placeOf_27 : decode cX2_placeOf 27 = .ok (.iload_n 2, 1) := by decide +kernel
theorem dX2_placeOf_28 : decode cX2_placeOf 28 = .ok (.aaload, 1) := by decide +kernel
theorem dX2_placeOf_29 : decode cX2_placeOf 29 = .ok (.goto 4, 3) := by decide +kernel
theorem dX2_placeOf_32 : decode cX2_placeOf 32 = .ok (.aconst_null, 1) := by decide +kernel
theorem dX2_placeOf_33 : decode cX2_placeOf 33 = .ok (.areturn, 1) := by decide +kernel
theorem dX2_save_0 : decode cX2_save 0 = .ok (.aload_n 0, 1) := by decide +kernel
theorem dX2_save_1 : decode cX2_save 1 = .ok (.getfield 9, 3) := by decide +kernel
theorem dX2_save_4 : decode cX2_save 4 = .ok (.bipush 6, 2) := by decide +kernel
theorem dX2_save_6 : decode cX2_save 6 = .ok (.if_icmp .ne 26, 3) := by decide +kernel
theorem dX2_save_9 : decode cX2_save 9 = .ok (.aload_n 0, 1) := by decide +kernel
theorem dX2_save_10 : decode cX2_save 10 = .ok (.aload_n 0, 1) := by decide +kernel
theorem dX2_save_11 : decode cX2_save 11 = .ok (.getfield 15, 3) := by decide +kernel
theorem dX2_save_14 : decode cX2_save 14 = .ok (.iconst 1, 1) := by decide +kernel
theorem dX2_save_15 : decode cX2_save 15 = .ok (.iadd, 1) := by decide +kernel
theorem dX2_save_16 : decode cX2_save 16 = .ok (.bipush 6, 2) := by decide +kernel
theorem dX2_save_18 : decode cX2_save 18 = .ok (.irem, 1) := by decide +kernel
theorem dX2_save_19 : decode cX2_save 19 = .ok (.putfield 15, 3) := by decide +kernel
theorem dX2_save_22 : decode cX2_save 22 = .ok (.aload_n 0, 1) := by decide +kernel
theorem dX2_save_23 : decode cX2_save 23 = .ok (.dup, 1) := by decide +kernel
theorem dX2_save_24 : decode cX2_save 24 = .ok (.getfield 9, 3) := by decide +kernel
theorem dX2_save_27 : decode cX2_save 27 = .ok (.iconst 1, 1) := by decide +kernel
theorem dX2_save_28 : decode cX2_save 28 = .ok (.isub, 1) := by decide +kernel
theorem dX2_save_29 : decode cX2_save 29 = .ok (.putfield 9, 3) := by decide +kernel
theorem dX2_save_32 : decode cX2_save 32 = .ok (.aload_n 0, 1) := by decide +kernel
theorem dX2_save_33 : decode cX2_save 33 = .ok (.aload_n 0, 1) := by decide +kernel
theorem dX2_save_34 : decode cX2_save 34 = .ok (.getfield 9, 3) := by decide +kernel
theorem dX2_save_37 : decode cX2_save 37 = .ok (.invokevirtual 25, 3) := by decide +kernel
theorem dX2_save_40 : decode cX2_save 40 = .ok (.astore_n 2, 1) := by decide +kernel
theorem dX2_save_41 : decode cX2_save 41 = .ok (.aload_n 2, 1) := by decide +kernel
theorem dX2_save_42 : decode cX2_save 42 = .ok (.ifnull 8, 3) := by decide +kernel
theorem dX2_save_45 : decode cX2_save 45 = .ok (.aload_n 2, 1) := by decide +kernel
theorem dX2_save_46 : decode cX2_save 46 = .ok (.aload_n 1, 1) := by decide +kernel
theorem dX2_save_47 : decode cX2_save 47 = .ok (.invokevirtual 29, 3) := by decide +kernel
theorem dX2_save_50 : decode cX2_save 50 = .ok (.aload_n 0, 1) := by decide +kernel
theorem dX2_save_51 : decode cX2_save 51 = .ok (.dup, 1) := by decide +kernel
theorem dX2_save_52 : decode cX2_save 52 = .ok (.getfield 9, 3) := by decide +kernel
theorem dX2_save_55 : decode cX2_save 55 = .ok (.iconst 1, 1) := by decide +kernel
theorem dX2_save_56 : decode cX2_save 56 = .ok (.iadd, 1) := by decide +kernel
theorem dX2_save_57 : decode cX2_save 57 = .ok (.putfield 9, 3) := by decide +kernel
theorem dX2_save_60 : decode cX2_save 60 = .ok (.return_, 1) := by decide +kernel
theorem dX3_init_0 : decode cX3_init 0 = .ok (.aload_n 0, 1) := by decide +kernel
theorem dX3_init_1 : decode cX3_init 1 = .ok (.invokespecial 3, 3) := by decide +kernel
theorem dX3_init_4 : decode cX3_init 4 = .ok (.aload_n 0, 1) := by decide +kernel
theorem dX3_init_5 : decode cX3_init 5 = .ok (.iconst (-1), 1) := by decide +kernel
theorem dX3_init_6 : decode cX3_init 6 = .ok (.putfield 9, 3) := by decide +kernel
theorem dX3_init_9 : decode cX3_init 9 = .ok (.aload_n 0, 1) := by decide +kernel
theorem dX3_init_10 : decode cX3_init 10 = .ok (.iconst (-1), 1) := by decide +kernel
theorem dX3_init_11 : decode cX3_init 11 = .ok (.putfield 15, 3) := by decide +kernel
theorem dX3_init_14 : decode cX3_init 14 = .ok (.aload_n 0, 1) := by decide +kernel
theorem dX3_init_15 : decode cX3_init 15 = .ok (.lconst 0, 1) := by decide +kernel
theorem dX3_init_16 : decode cX3_init 16 = .ok (.putfield 18, 3) := by decide +kernel
theorem dX3_init_19 : decode cX3_init 19 = .ok (.aload_n 0, 1) := by decide +kernel
theorem dX3_init_20 : decode cX3_init 20 = .ok (.sipush 1312, 3) := by decide +kernel
theorem dX3_init_23 : decode cX3_init 23 = .ok (.newarray .long, 2) := by decide +kernel
theorem dX3_init_25 : decode cX3_init 25 = .ok (.putfield 22, 3) := by decide +kernel
theorem dX3_init_28 : decode cX3_init 28 = .ok (.aload_n 0, 1) := by decide +kernel
theorem dX3_init_29 : decode cX3_init 29 = .ok (.bipush 9, 2) := by decide +kernel
theorem dX3_init_31 : decode cX3_init 31 = .ok (.newarray .long, 2) := by decide +kernel
theorem dX3_init_33 : decode cX3_init 33 = .ok (.putfield 26, 3) := by decide +kernel
theorem dX3_init_36 : decode cX3_init 36 = .ok (.return_, 1) := by decide +kernel
theorem dX4_init_0 : decode cX4_init 0 = .ok (.aload_n 0, 1) := by decide +kernel
theorem dX4_init_1 : decode cX4_init 1 = .ok (.invokespecial 3, 3) := by decide +kernel
theorem dX4_init_4 : decode cX4_init 4 = .ok (.aload_n 0, 1) := by decide +kernel
theorem dX4_init_5 : decode cX4_init 5 = .ok (.iconst 0, 1) := by decide +kernel
theorem dX4_init_6 : decode cX4_init 6 = .ok (.putfield 9, 3) := by decide +kernel
theorem dX4_init_9 : decode cX4_init 9 = .ok (.aload_n 0, 1) := by decide +kernel
theorem dX4_init_10 : decode cX4_init 10 = .ok (.iconst 1, 1) := by decide +kernel
theorem dX4_init_11 : decode cX4_init 11 = .ok (.putfield 15, 3) := by decide +kernel
theorem dX4_init_14 : decode cX4_init 14 = .ok (.aload_n 0, 1) := by decide +kernel
theorem dX4_init_15 : decode cX4_init 15 = .ok (.iconst 4, 1) := by decide +kernel
theorem dX4_init_16 : decode cX4_init 16 = .ok (.newarray .int, 2) := by decide +kernel
theorem dX4_init_18 : decode cX4_init 18 = .ok (.putfield 18, 3) := by decide +kernel
theorem dX4_init_21 : decode cX4_init 21 = .ok (.aload_n 0, 1) := by decide +kernel
theorem dX4_init_22 : decode cX4_init 22 = .ok (.bipush 24, 2) := by decide +kernel
theorem dX4_init_24 : decode cX4_init 24 = .ok (.newarray .int, 2) := by decide +kernel
theorem dX4_init_26 : decode cX4_init 26 = .ok (.putfield 22, 3) := by decide +kernel
theorem dX4_init_29 : decode cX4_init 29 = .ok (.aload_n 0, 1) := by decide +kernel
theorem dX4_init_30 : decode cX4_init 30 = .ok (.sipush 984, 3) := by decide +kernel
theorem dX4_init_33 : decode cX4_init 33 = .ok (.newarray .int, 2) := by decide +kernel
theorem dX4_init_35 : decode cX4_init 35 = .ok (.putfield 25, 3) := by decide +kernel
theorem dX4_init_38 : decode cX4_init 38 = .ok (.return_, 1) := by decide +kernel
theorem dX4_build_0 : decode cX4_build 0 = .ok (.aload_n 0, 1) := by decide +kernel
theorem dX4_build_1 : decode cX4_build 1 = .ok (.aload_n 1, 1) := by decide +kernel
theorem dX4_build_2 : decode cX4_build 2 = .ok (.getfield 28, 3) := by decide +kernel
theorem dX4_build_5 : decode cX4_build 5 = .ok (.putfield 9, 3) := by decide +kernel
theorem dX4_build_8 : decode cX4_build 8 = .ok (.aload_n 0, 1) := by decide +kernel
theorem dX4_build_9 : decode cX4_build 9 = .ok (.aload_n 1, 1) := by decide +kernel
theorem dX4_build_10 : decode cX4_build 10 = .ok (.getfield 31, 3) := by decide +kernel
theorem dX4_build_13 : decode cX4_build 13 = .ok (.putfield 15, 3) := by decide +kernel
theorem dX4_build_16 : decode cX4_build 16 = .ok (.iconst 0, 1) := by decide +kernel
theorem dX4_build_17 : decode cX4_build 17 = .ok (.istore_n 2, 1) := by decide +kernel
theorem dX4_build_18 : decode cX4_build 18 = .ok (.iload_n 2, 1) := by decide +kernel
theorem dX4_build_19 : decode cX4_build 19 = .ok (.aload_n 0, 1) := by decide +kernel
theorem dX4_build_20 : decode cX4_build 20 = .ok (.getfield 15, 3) := by decide +kernel
theorem dX4_build_23 : decode cX4_build 23 = .ok (.if_icmp .ge 63, 3) := by decide +kernel
theorem dX4_build_26 : decode cX4_build 26 = .ok (.aload_n 1, 1) := by decide +kernel
theorem dX4_build_27 : decode cX4_build 27 = .ok (.iload_n 2, 1) := by decide +kernel
theorem dX4_build_28 : decode cX4_build 28 = .ok (.invokevirtual 34, 3) := by decide +kernel
theorem dX4_build_31 : decode cX4_build 31 = .ok (.istore_n 3, 1) := by decide +kernel
theorem dX4_build_32 : decode cX4_build 32 = .ok (.aload_n 1, 1) := by decide +kernel
theorem dX4_build_33 : decode cX4_build 33 = .ok (.iload_n 3, 1) := by decide +kernel
theorem dX4_build_34 : decode cX4_build 34 = .ok (.invokevirtual 38, 3) := by decide +kernel
theorem dX4_build_37 : decode cX4_build 37 = .ok (.istore 4, 2) := by decide +kernel
theorem dX4_build_39 : decode cX4_build 39 = .ok (.aload_n 0, 1) := by decide +kernel
theorem dX4_build_40 : decode cX4_build 40 = .ok (.getfield 18, 3) := by decide +kernel
theorem dX4_build_43 : decode cX4_build 43 = .ok (.iload_n 2, 1) := by decide +kernel
theorem dX4_build_44 : decode cX4_build 44 = .ok (.iload 4, 2) := by decide +kernel
theorem dX4_build_46 : decode cX4_build 46 = .ok (.invokestatic 41, 3) := by decide +kernel
theorem dX4_build_49 : decode cX4_build 49 = .ok (.iconst 0, 1) := by decide +kernel
theorem dX4_build_50 : decode cX4_build 50 = .ok (.istore 5, 2) := by decide +kernel
theorem dX4_build_52 : decode cX4_build 52 = .ok (.iload 5, 2) := by decide +kernel
theorem dX4_build_54 : decode cX4_build 54 = .ok (.iload 4, 2) := by decide +kernel
theorem dX4_build_56 : decode cX4_build 56 = .ok (.if_icmp .ge 24, 3) := by decide +kernel
theorem dX4_build_59 : decode cX4_build 59 = .ok (.aload_n 0, 1) := by decide +kernel
theorem dX4_build_60 : decode cX4_build 60 = .ok (.aload_n 1, 1) := by decide +kernel
theorem dX4_build_61 : decode cX4_build 61 = .ok (.iload_n 2, 1) := by decide +kernel
theorem dX4_build_62 : decode cX4_build 62 = .ok (.iload 5, 2) := by decide +kernel
theorem dX4_build_64 : decode cX4_build 64 = .ok (.aload_n 1, 1) := by decide +kernel
theorem dX4_build_65 : decode cX4_build 65 = .ok (.iload_n 3, 1) := by decide +kernel
theorem dX4_build_66 : decode cX4_build 66 = .ok (.iload 5, 2) := by decide +kernel
theorem dX4_build_68 : decode cX4_build 68 = .ok (.invokevirtual 47, 3) := by decide +kernel
theorem dX4_build_71 : decode cX4_build 71 = .ok (.invokevirtual 51, 3) := by decide +kernel
theorem dX4_build_74 : decode cX4_build 74 = .ok (.iinc 5 1, 3) := by decide +kernel
theorem dX4_build_77 : decode cX4_build 77 = .ok (.goto (-25), 3) := by decide +kernel
theorem dX4_build_80 : decode cX4_build 80 = .ok (.iinc 2 1, 3) := by decide +kernel
theorem dX4_build_83 : decode cX4_build 83 = .ok (.goto (-65), 3) := by decide +kernel
theorem dX4_build_86 : decode cX4_build 86 = .ok (.return_, 1) := by decide +kernel
theorem dX4_buildSide_0 : decode cX4_buildSide 0 = .ok (.aload_n 0, 1) := by decide +kernel
theorem dX4_buildSide_1 : decode cX4_buildSide 1 = .ok (.getfield 22, 3) := by decide +kernel
theorem dX4_buildSide_4 : decode cX4_buildSide 4 = .ok (.iload_n 2, 1) := by decide +kernel
theorem dX4_buildSide_5 : decode cX4_buildSide 5 = .ok (.bipush 6, 2) := by decide +kernel
theorem dX4_buildSide_7 : decode cX4_buildSide 7 = .ok (.imul, 1) := by decide +kernel
theorem dX4_buildSide_8 : decode cX4_buildSide 8 = .ok (.iload_n 3, 1) := by decide +kernel
theorem dX4_buildSide_9 : decode cX4_buildSide 9 = .ok (.iadd, 1) := by decide +kernel
theorem dX4_buildSide_10 : decode cX4_buildSide 10 = .ok (.iload 4, 2) := by decide +kernel
theorem dX4_buildSide_12 : decode cX4_buildSide 12 = .ok (.invokestatic 41, 3) := by decide +kernel
theorem dX4_buildSide_15 : decode cX4_buildSide 15 = .ok (.iconst 0, 1) := by decide +kernel
theorem dX4_buildSide_16 : decode cX4_buildSide 16 = .ok (.istore 5, 2) := by decide +kernel
theorem dX4_buildSide_18 : decode cX4_buildSide 18 = .ok (.iload 5, 2) := by decide +kernel
theorem dX4_buildSide_20 : decode cX4_buildSide 20 = .ok (.aload_n 0, 1) := by decide +kernel
theorem dX4_buildSide_21 : decode cX4_buildSide 21 = .ok (.getfield 9, 3) := by decide +kernel
theorem dX4_buildSide_24 : decode cX4_buildSide 24 = .ok (.if_icmp .ge 40, 3) := by decide +kernel
theorem dX4_buildSide_27 : decode cX4_buildSide 27 = .ok (.iload_n 2, 1) := by decide +kernel
theorem dX4_buildSide_28 : decode cX4_buildSide 28 = .ok (.bipush 41, 2) := by decide +kernel
theorem dX4_buildSide_30 : decode cX4_buildSide 30 = .ok (.imul, 1) := by decide +kernel
theorem dX4_buildSide_31 : decode cX4_buildSide 31 = .ok (.iload 5, 2) := by decide +kernel
theorem dX4_buildSide_33 : decode cX4_buildSide 33 = .ok (.iadd, 1) := by decide +kernel
theorem dX4_buildSide_34 : decode cX4_buildSide 34 = .ok (.bipush 6, 2) := by decide +kernel
theorem dX4_buildSide_36 : decode cX4_buildSide 36 = .ok (.imul, 1) := by decide +kernel
theorem dX4_buildSide_37 : decode cX4_buildSide 37 = .ok (.iload_n 3, 1) := by decide +kernel
theorem dX4_buildSide_38 : decode cX4_buildSide 38 = .ok (.iadd, 1) := by decide +kernel
theorem dX4_buildSide_39 : decode cX4_buildSide 39 = .ok (.istore 6, 2) := by decide +kernel
theorem dX4_buildSide_41 : decode cX4_buildSide 41 = .ok (.aload_n 0, 1) := by decide +kernel
theorem dX4_buildSide_42 : decode cX4_buildSide 42 = .ok (.getfield 25, 3) := by decide +kernel
theorem dX4_buildSide_45 : decode cX4_buildSide 45 = .ok (.iload 6, 2) := by decide +kernel
theorem dX4_buildSide_47 : decode cX4_buildSide 47 = .ok (.aload_n 1, 1) := by decide +kernel
theorem dX4_buildSide_48 : decode cX4_buildSide 48 = .ok (.iload 5, 2) := by decide +kernel
theorem dX4_buildSide_50 : decode cX4_buildSide 50 = .ok (.iload 4, 2) := by decide +kernel
theorem dX4_buildSide_52 : decode cX4_buildSide 52 = .ok (.invokevirtual 55, 3) := by decide +kernel
theorem dX4_buildSide_55 : decode cX4_buildSide 55 = .ok (.invokestatic 41, 3) := by decide +kernel
theorem dX4_buildSide_58 : decode cX4_buildSide 58 = .ok (.iinc 5 1, 3) := by decide +kernel
theorem dX4_buildSide_61 : decode cX4_buildSide 61 = .ok (.goto (-43), 3) := by decide +kernel
theorem dX4_buildSide_64 : decode cX4_buildSide 64 = .ok (.return_, 1) := by decide +kernel
theorem dX4_placeOf_0 : decode cX4_placeOf 0 = .ok (.aload_n 0, 1) := by decide +kernel
theorem dX4_placeOf_1 : decode cX4_placeOf 1 = .ok (.getfield 15, 3) := by decide +kernel
theorem dX4_placeOf_4 : decode cX4_placeOf 4 = .ok (.ifCond .le 12, 3) := by decide +kernel
theorem dX4_placeOf_7 : decode cX4_placeOf 7 = .ok (.iload_n 1, 1) := by decide +kernel
theorem dX4_placeOf_8 : decode cX4_placeOf 8 = .ok (.aload_n 0, 1) := by decide +kernel
theorem dX4_placeOf_9 : decode cX4_placeOf 9 = .ok (.getfield 15, 3) := by decide +kernel
theorem dX4_placeOf_12 : decode cX4_placeOf 12 = .ok (.irem, 1) := by decide +kernel
theorem dX4_placeOf_13 : decode cX4_placeOf 13 = .ok (.goto 4, 3) := by decide +kernel
theorem dX4_placeOf_16 : decode cX4_placeOf 16 = .ok (.iconst 0, 1) := by decide +kernel
theorem dX4_placeOf_17 : decode cX4_placeOf 17 = .ok (.ireturn, 1) := by decide +kernel
theorem dX4_sidesAt_0 : decode cX4_sidesAt 0 = .ok (.aload_n 0, 1) := by decide +kernel
theorem dX4_sidesAt_1 : decode cX4_sidesAt 1 = .ok (.getfield 18, 3) := by decide +kernel
theorem dX4_sidesAt_4 : decode cX4_sidesAt 4 = .ok (.iload_n 1, 1) := by decide +kernel
theorem dX4_sidesAt_5 : decode cX4_sidesAt 5 = .ok (.invokestatic 58, 3) := by decide +kernel
theorem dX4_sidesAt_8 : decode cX4_sidesAt 8 = .ok (.ireturn, 1) := by decide +kernel
theorem dX4_sumOverSides_0 : decode cX4_sumOverSides 0 = .ok (.iload_n 1, 1) := by decide +kernel
theorem dX4_sumOverSides_1 : decode cX4_sumOverSides 1 = .ok (.bipush 41, 2) := by decide +kernel
theorem dX4_sumOverSides_3 : decode cX4_sumOverSides 3 = .ok (.imul, 1) := by decide +kernel
theorem dX4_sumOverSides_4 : decode cX4_sumOverSides 4 = .ok (.iload_n 2, 1) := by decide +kernel
theorem dX4_sumOverSides_5 : decode cX4_sumOverSides 5 = .ok (.iadd, 1) := by decide +kernel
theorem dX4_sumOverSides_6 : decode cX4_sumOverSides 6 = .ok (.bipush 6, 2) := by decide +kernel
theorem dX4_sumOverSides_8 : decode cX4_sumOverSides 8 = .ok (.imul, 1) := by decide +kernel
theorem dX4_sumOverSides_9 : decode cX4_sumOverSides 9 = .ok (.istore 5, 2) := by decide +kernel
theorem dX4_sumOverSides_11 : decode cX4_sumOverSides 11 = .ok (.iload 5, 2) := by decide +kernel
theorem dX4_sumOverSides_13 : decode cX4_sumOverSides 13 = .ok (.aload_n 0, 1) := by decide +kernel
theorem dX4_sumOverSides_14 : decode cX4_sumOverSides 14 = .ok (.getfield 18, 3) := by decide +kernel
theorem dX4_sumOverSides_17 : decode cX4_sumOverSides 17 = .ok (.iload_n 1, 1) := by decide +kernel
theorem dX4_sumOverSides_18 : decode cX4_sumOverSides 18 = .ok (.invokestatic 58, 3) := by decide +kernel
theorem dX4_sumOverSides_21 : decode cX4_sumOverSides 21 = .ok (.iadd, 1) := by decide +kernel
theorem dX4_sumOverSides_22 : decode cX4_sumOverSides 22 = .ok (.istore 6, 2) := by decide +kernel
theorem dX4_sumOverSides_24 : decode cX4_sumOverSides 24 = .ok (.lconst 0, 1) := by decide +kernel
theorem dX4_sumOverSides_25 : decode cX4_sumOverSides 25 = .ok (.lstore 7, 2) := by decide +kernel
theorem dX4_sumOverSides_27 : decode cX4_sumOverSides 27 = .ok (.iload 5, 2) := by decide +kernel
theorem dX4_sumOverSides_29 : decode cX4_sumOverSides 29 = .ok (.istore 9, 2) := by decide +kernel
theorem dX4_sumOverSides_31 : decode cX4_sumOverSides 31 = .ok (.iload 9, 2) := by decide +kernel
theorem dX4_sumOverSides_33 : decode cX4_sumOverSides 33 = .ok (.iload 6, 2) := by decide +kernel
theorem dX4_sumOverSides_35 : decode cX4_sumOverSides 35 = .ok (.if_icmp .ge 30, 3) := by decide +kernel
theorem dX4_sumOverSides_38 : decode cX4_sumOverSides 38 = .ok (.lload 7, 2) := by decide +kernel
theorem dX4_sumOverSides_40 : decode cX4_sumOverSides 40 = .ok (.aload_n 3, 1) := by decide +kernel
theorem dX4_sumOverSides_41 : decode cX4_sumOverSides 41 = .ok (.iload 4, 2) := by decide +kernel
theorem dX4_sumOverSides_43 : decode cX4_sumOverSides 43 = .ok (.aload_n 0, 1) := by decide +kernel
theorem dX4_sumOverSides_44 : decode cX4_sumOverSides 44 = .ok (.getfield 25, 3) := by decide +kernel
theorem dX4_sumOverSides_47 : decode cX4_sumOverSides 47 = .ok (.iload 9, 2) := by decide +kernel
theorem dX4_sumOverSides_49 : decode cX4_sumOverSides 49 = .ok (.invokestatic 58, 3) := by decide +kernel
theorem dX4_sumOverSides_52 : decode cX4_sumOverSides 52 = .ok (.iadd, 1) := by decide +kernel
theorem dX4_sumOverSides_53 : decode cX4_sumOverSides 53 = .ok (.invokestatic 62, 3) := by decide +kernel
theorem dX4_sumOverSides_56 : decode cX4_sumOverSides 56 = .ok (.ladd, 1) := by decide +kernel
theorem dX4_sumOverSides_57 : decode cX4_sumOverSides 57 = .ok (.lstore 7, 2) := by decide +kernel
theorem dX4_sumOverSides_59 : decode cX4_sumOverSides 59 = .ok (.iinc 9 1, 3) := by decide +kernel
theorem dX4_sumOverSides_62 : decode cX4_sumOverSides 62 = .ok (.goto (-31), 3) := by decide +kernel
theorem dX4_sumOverSides_65 : decode cX4_sumOverSides 65 = .ok (.lload 7, 2) := by decide +kernel
theorem dX4_sumOverSides_67 : decode cX4_sumOverSides 67 = .ok (.lreturn, 1) := by decide +kernel
theorem dX5_init_0 : decode cX5_init 0 = .ok (.aload_n 0, 1) := by decide +kernel
theorem dX5_init_1 : decode cX5_init 1 = .ok (.invokespecial 3, 3) := by decide +kernel
theorem dX5_init_4 : decode cX5_init 4 = .ok (.aload_n 0, 1) := by decide +kernel
theorem dX5_init_5 : decode cX5_init 5 = .ok (.new 9, 3) := by decide +kernel
theorem dX5_init_8 : decode cX5_init 8 = .ok (.dup, 1) := by decide +kernel
theorem dX5_init_9 : decode cX5_init 9 = .ok (.invokespecial 11, 3) := by decide +kernel
theorem dX5_init_12 : decode cX5_init 12 = .ok (.putfield 12, 3) := by decide +kernel
theorem dX5_init_15 : decode cX5_init 15 = .ok (.aload_n 0, 1) := by decide +kernel
theorem dX5_init_16 : decode cX5_init 16 = .ok (.new 18, 3) := by decide +kernel
theorem dX5_init_19 : decode cX5_init 19 = .ok (.dup, 1) := by decide +kernel
theorem dX5_init_20 : decode cX5_init 20 = .ok (.invokespecial 20, 3) := by decide +kernel
theorem dX5_init_23 : decode cX5_init 23 = .ok (.putfield 21, 3) := by decide +kernel
theorem dX5_init_26 : decode cX5_init 26 = .ok (.aload_n 0, 1) := by decide +kernel
theorem dX5_init_27 : decode cX5_init 27 = .ok (.new 18, 3) := by decide +kernel
theorem dX5_init_30 : decode cX5_init 30 = .ok (.dup, 1) := by decide +kernel
theorem dX5_init_31 : decode cX5_init 31 = .ok (.invokespecial 20, 3) := by decide +kernel
theorem dX5_init_34 : decode cX5_init 34 = .ok (.putfield 25, 3) := by decide +kernel
theorem dX5_init_37 : decode cX5_init 37 = .ok (.aload_n 0, 1) := by decide +kernel
theorem dX5_init_38 : decode cX5_init 38 = .ok (.new 28, 3) := by decide +kernel
theorem dX5_init_41 : decode cX5_init 41 = .ok (.dup, 1) := by decide +kernel
theorem dX5_init_42 : decode cX5_init 42 = .ok (.invokespecial 30, 3) := by decide +kernel
theorem dX5_init_45 : decode cX5_init 45 = .ok (.putfield 31, 3) := by decide +kernel
theorem dX5_init_48 : decode cX5_init 48 = .ok (.aload_n 0, 1) := by decide +kernel
theorem dX5_init_49 : decode cX5_init 49 = .ok (.new 35, 3) := by decide +kernel
theorem dX5_init_52 : decode cX5_init 52 = .ok (.dup, 1) := by decide +kernel
theorem dX5_init_53 : decode cX5_init 53 = .ok (.invokespecial 37, 3) := by decide +kernel
theorem dX5_init_56 : decode cX5_init 56 = .ok (.putfield 38, 3) := by decide +kernel
theorem dX5_init_59 : decode cX5_init 59 = .ok (.aload_n 0, 1) := by decide +kernel
theorem dX5_init_60 : decode cX5_init 60 = .ok (.iconst 0, 1) := by decide +kernel
theorem dX5_init_61 : decode cX5_init 61 = .ok (.putfield 42, 3) := by decide +kernel
theorem dX5_init_64 : decode cX5_init 64 = .ok (.aload_n 0, 1) := by decide +kernel
theorem dX5_init_65 : decode cX5_init 65 = .ok (.iconst 0, 1) := by decide +kernel
theorem dX5_init_66 : decode cX5_init 66 = .ok (.putfield 46, 3) := by decide +kernel
theorem dX5_init_69 : decode cX5_init 69 = .ok (.aload_n 0, 1) := by decide +kernel
theorem dX5_init_70 : decode cX5_init 70 = .ok (.iconst (-1), 1) := by decide +kernel
theorem dX5_init_71 : decode cX5_init 71 = .ok (.putfield 49, 3) := by decide +kernel
theorem dX5_init_74 : decode cX5_init 74 = .ok (.aload_n 0, 1) := by decide +kernel
theorem dX5_init_75 : decode cX5_init 75 = .ok (.iconst (-1), 1) := by decide +kernel
theorem dX5_init_76 : decode cX5_init 76 = .ok (.putfield 53, 3) := by decide +kernel
theorem dX5_init_79 : decode cX5_init 79 = .ok (.return_, 1) := by decide +kernel
theorem dX5_takeBoard_0 : decode cX5_takeBoard 0 = .ok (.aload_n 0, 1) := by decide +kernel
theorem dX5_takeBoard_1 : decode cX5_takeBoard 1 = .ok (.getfield 12, 3) := by decide +kernel
theorem dX5_takeBoard_4 : decode cX5_takeBoard 4 = .ok (.aload_n 1, 1) := by decide +kernel
theorem dX5_takeBoard_5 : decode cX5_takeBoard 5 = .ok (.invokevirtual 56, 3) := by decide +kernel
theorem dX5_takeBoard_8 : decode cX5_takeBoard 8 = .ok (.aload_n 0, 1) := by decide +kernel
theorem dX5_takeBoard_9 : decode cX5_takeBoard 9 = .ok (.iconst 0, 1) := by decide +kernel
theorem dX5_takeBoard_10 : decode cX5_takeBoard 10 = .ok (.putfield 42, 3) := by decide +kernel
theorem dX5_takeBoard_13 : decode cX5_takeBoard 13 = .ok (.aload_n 0, 1) := by decide +kernel
theorem dX5_takeBoard_14 : decode cX5_takeBoard 14 = .ok (.iconst 0, 1) := by decide +kernel
theorem dX5_takeBoard_15 : decode cX5_takeBoard 15 = .ok (.putfield 46, 3) := by decide +kernel
theorem dX5_takeBoard_18 : decode cX5_takeBoard 18 = .ok (.aload_n 0, 1) := by decide +kernel
theorem dX5_takeBoard_19 : decode cX5_takeBoard 19 = .ok (.iconst (-1), 1) := by decide +kernel
theorem dX5_takeBoard_20 : decode cX5_takeBoard 20 = .ok (.putfield 49, 3) := by decide +kernel
theorem dX5_takeBoard_23 : decode cX5_takeBoard 23 = .ok (.aload_n 0, 1) := by decide +kernel
theorem dX5_takeBoard_24 : decode cX5_takeBoard 24 = .ok (.iconst (-1), 1) := by decide +kernel
theorem dX5_takeBoard_25 : decode cX5_takeBoard 25 = .ok (.putfield 53, 3) := by decide +kernel
theorem dX5_takeBoard_28 : decode cX5_takeBoard 28 = .ok (.return_, 1) := by decide +kernel
theorem dX5_knownMeans_0 : decode cX5_knownMeans 0 = .ok (.aload_n 0, 1) := by decide +kernel
theorem dX5_knownMeans_1 : decode cX5_knownMeans 1 = .ok (.getfield 42, 3) := by decide +kernel
theorem dX5_knownMeans_4 : decode cX5_knownMeans 4 = .ok (.ifCond .ne 26, 3) := by decide +kernel
theorem dX5_knownMeans_7 : decode cX5_knownMeans 7 = .ok (.aload_n 0, 1) := by decide +kernel
theorem dX5_knownMeans_8 : decode cX5_knownMeans 8 = .ok (.getfield 21, 3) := by decide +kernel
theorem dX5_knownMeans_11 : decode cX5_knownMeans 11 = .ok (.aload_n 0, 1) := by decide +kernel
theorem dX5_knownMeans_12 : decode cX5_knownMeans 12 = .ok (.getfield 12, 3) := by decide +kernel
theorem dX5_knownMeans_15 : decode cX5_knownMeans 15 = .ok (.aload_n 1, 1) := by decide +kernel
theorem dX5_knownMeans_16 : decode cX5_knownMeans 16 = .ok (.iconst 1, 1) := by decide +kernel
theorem dX5_knownMeans_17 : decode cX5_knownMeans 17 = .ok (.invokevirtual 60, 3) := by decide +kernel
theorem dX5_knownMeans_20 : decode cX5_knownMeans 20 = .ok (.lconst 0, 1) := by decide +kernel
theorem dX5_knownMeans_21 : decode cX5_knownMeans 21 = .ok (.lconst 1, 1) := by decide +kernel
theorem dX5_knownMeans_22 : decode cX5_knownMeans 22 = .ok (.invokevirtual 66, 3) := by decide +kernel
theorem dX5_knownMeans_25 : decode cX5_knownMeans 25 = .ok (.aload_n 0, 1) := by decide +kernel
theorem dX5_knownMeans_26 : decode cX5_knownMeans 26 = .ok (.iconst 1, 1) := by decide +kernel
theorem dX5_knownMeans_27 : decode cX5_knownMeans 27 = .ok (.putfield 42, 3) := by decide +kernel
theorem dX5_knownMeans_30 : decode cX5_knownMeans 30 = .ok (.aload_n 0, 1) := by decide +kernel
theorem dX5_knownMeans_31 : decode cX5_knownMeans 31 = .ok (.getfield 21, 3) := by decide +kernel
theorem dX5_knownMeans_34 : decode cX5_knownMeans 34 = .ok (.areturn, 1) := by decide +kernel
theorem dX6_init_0 : decode cX6_init 0 = .ok (.aload_n 0, 1) := by decide +kernel
theorem dX6_init_1 : decode cX6_init 1 = .ok (.invokespecial 3, 3) := by decide +kernel
theorem dX6_init_4 : decode cX6_init 4 = .ok (.aload_n 0, 1) := by decide +kernel
theorem dX6_init_5 : decode cX6_init 5 = .ok (.sipush 164, 3) := by decide +kernel
theorem dX6_init_8 : decode cX6_init 8 = .ok (.newarray .int, 2) := by decide +kernel
theorem dX6_init_10 : decode cX6_init 10 = .ok (.putfield 9, 3) := by decide +kernel
theorem dX6_init_13 : decode cX6_init 13 = .ok (.return_, 1) := by decide +kernel
theorem dX7_at_0 : decode cX7_at 0 = .ok (.iload_n 1, 1) := by decide +kernel
theorem dX7_at_1 : decode cX7_at 1 = .ok (.ifCond .lt 15, 3) := by decide +kernel
theorem dX7_at_4 : decode cX7_at 4 = .ok (.iload_n 1, 1) := by decide +kernel
theorem dX7_at_5 : decode cX7_at 5 = .ok (.aload_n 0, 1) := by decide +kernel
theorem dX7_at_6 : decode cX7_at 6 = .ok (.arraylength, 1) := by decide +kernel
theorem dX7_at_7 : decode cX7_at 7 = .ok (.if_icmp .ge 9, 3) := by decide +kernel
theorem dX7_at_10 : decode cX7_at 10 = .ok (.aload_n 0, 1) := by decide +kernel
theorem dX7_at_11 : decode cX7_at 11 = .ok (.iload_n 1, 1) := by decide +kernel
theorem dX7_at_12 : decode cX7_at 12 = .ok (.iaload, 1) := by decide +kernel
theorem dX7_at_13 : decode cX7_at 13 = .ok (.goto 4, 3) := by decide +kernel
theorem dX7_at_16 : decode cX7_at 16 = .ok (.iconst 0, 1) := by decide +kernel
theorem dX7_at_17 : decode cX7_at 17 = .ok (.ireturn, 1) := by decide +kernel
theorem dX7_at__0 : decode cX7_at_ 0 = .ok (.iload_n 1, 1) := by decide +kernel
theorem dX7_at__1 : decode cX7_at_ 1 = .ok (.ifCond .lt 15, 3) := by decide +kernel
theorem dX7_at__4 : decode cX7_at_ 4 = .ok (.iload_n 1, 1) := by decide +kernel
theorem dX7_at__5 : decode cX7_at_ 5 = .ok (.aload_n 0, 1) := by decide +kernel
theorem dX7_at__6 : decode cX7_at_ 6 = .ok (.arraylength, 1) := by decide +kernel
theorem dX7_at__7 : decode cX7_at_ 7 = .ok (.if_icmp .ge 9, 3) := by decide +kernel
theorem dX7_at__10 : decode cX7_at_ 10 = .ok (.aload_n 0, 1) := by decide +kernel
theorem dX7_at__11 : decode cX7_at_ 11 = .ok (.iload_n 1, 1) := by decide +kernel
theorem dX7_at__12 : decode cX7_at_ 12 = .ok (.laload, 1) := by decide +kernel
theorem dX7_at__13 : decode cX7_at_ 13 = .ok (.goto 4, 3) := by decide +kernel
theorem dX7_at__16 : decode cX7_at_ 16 = .ok (.lconst 0, 1) := by decide +kernel
theorem dX7_at__17 : decode cX7_at_ 17 = .ok (.lreturn, 1) := by decide +kernel
theorem dX7_put_0 : decode cX7_put 0 = .ok (.iload_n 1, 1) := by decide +kernel
theorem dX7_put_1 : decode cX7_put 1 = .ok (.ifCond .lt 13, 3) := by decide +kernel
theorem dX7_put_4 : decode cX7_put 4 = .ok (.iload_n 1, 1) := by decide +kernel
theorem dX7_put_5 : decode cX7_put 5 = .ok (.aload_n 0, 1) := by decide +kernel
theorem dX7_put_6 : decode cX7_put 6 = .ok (.arraylength, 1) := by decide +kernel
theorem dX7_put_7 : decode cX7_put 7 = .ok (.if_icmp .ge 7, 3) := by decide +kernel
theorem dX7_put_10 : decode cX7_put 10 = .ok (.aload_n 0, 1) := by decide +kernel
theorem dX7_put_11 : decode cX7_put 11 = .ok (.iload_n 1, 1) := by decide +kernel
theorem dX7_put_12 : decode cX7_put 12 = .ok (.iload_n 2, 1) := by decide +kernel
theorem dX7_put_13 : decode cX7_put 13 = .ok (.iastore, 1) := by decide +kernel
theorem dX7_put_14 : decode cX7_put 14 = .ok (.return_, 1) := by decide +kernel
theorem dX7_put__0 : decode cX7_put_ 0 = .ok (.iload_n 1, 1) := by decide +kernel
theorem dX7_put__1 : decode cX7_put_ 1 = .ok (.ifCond .lt 13, 3) := by decide +kernel
theorem dX7_put__4 : decode cX7_put_ 4 = .ok (.iload_n 1, 1) := by decide +kernel
theorem dX7_put__5 : decode cX7_put_ 5 = .ok (.aload_n 0, 1) := by decide +kernel
theorem dX7_put__6 : decode cX7_put_ 6 = .ok (.arraylength, 1) := by decide +kernel
theorem dX7_put__7 : decode cX7_put_ 7 = .ok (.if_icmp .ge 7, 3) := by decide +kernel
theorem dX7_put__10 : decode cX7_put_ 10 = .ok (.aload_n 0, 1) := by decide +kernel
theorem dX7_put__11 : decode cX7_put_ 11 = .ok (.iload_n 1, 1) := by decide +kernel
theorem dX7_put__12 : decode cX7_put_ 12 = .ok (.lload_n 2, 1) := by decide +kernel
theorem dX7_put__13 : decode cX7_put_ 13 = .ok (.lastore, 1) := by decide +kernel
theorem dX7_put__14 : decode cX7_put_ 14 = .ok (.return_, 1) := by decide +kernel
theorem dX7_copy_0 : decode cX7_copy 0 = .ok (.iconst 0, 1) := by decide +kernel
theorem dX7_copy_1 : decode cX7_copy 1 = .ok (.istore_n 2, 1) := by decide +kernel
theorem dX7_copy_2 : decode cX7_copy 2 = .ok (.iload_n 2, 1) := by decide +kernel
theorem dX7_copy_3 : decode cX7_copy 3 = .ok (.aload_n 0, 1) := by decide +kernel
theorem dX7_copy_4 : decode cX7_copy 4 = .ok (.arraylength, 1) := by decide +kernel
theorem dX7_copy_5 : decode cX7_copy 5 = .ok (.if_icmp .ge 21, 3) := by decide +kernel
theorem dX7_copy_8 : decode cX7_copy 8 = .ok (.iload_n 2, 1) := by decide +kernel
theorem dX7_copy_9 : decode cX7_copy 9 = .ok (.aload_n 1, 1) := by decide +kernel
theorem dX7_copy_10 : decode cX7_copy 10 = .ok (.arraylength, 1) := by decide +kernel
theorem dX7_copy_11 : decode cX7_copy 11 = .ok (.if_icmp .ge 15, 3) := by decide +kernel
theorem dX7_copy_14 : decode cX7_copy 14 = .ok (.aload_n 1, 1) := by decide +kernel
theorem dX7_copy_15 : decode cX7_copy 15 = .ok (.iload_n 2, 1) := by decide +kernel
theorem dX7_copy_16 : decode cX7_copy 16 = .ok (.aload_n 0, 1) := by decide +kernel
theorem dX7_copy_17 : decode cX7_copy 17 = .ok (.iload_n 2, 1) := by decide +kernel
theorem dX7_copy_18 : decode cX7_copy 18 = .ok (.iaload, 1) := by decide +kernel
theorem dX7_copy_19 : decode cX7_copy 19 = .ok (.iastore, 1) := by decide +kernel
theorem dX7_copy_20 : decode cX7_copy 20 = .ok (.iinc 2 1, 3) := by decide +kernel
theorem dX7_copy_23 : decode cX7_copy 23 = .ok (.goto (-21), 3) := by decide +kernel
theorem dX7_copy_26 : decode cX7_copy 26 = .ok (.return_, 1) := by decide +kernel
theorem dX8_init_0 : decode cX8_init 0 = .ok (.aload_n 0, 1) := by decide +kernel
theorem dX8_init_1 : decode cX8_init 1 = .ok (.invokespecial 3, 3) := by decide +kernel
theorem dX8_init_4 : decode cX8_init 4 = .ok (.aload_n 0, 1) := by decide +kernel
theorem dX8_init_5 : decode cX8_init 5 = .ok (.bipush 20, 2) := by decide +kernel
theorem dX8_init_7 : decode cX8_init 7 = .ok (.putfield 9, 3) := by decide +kernel
theorem dX8_init_10 : decode cX8_init 10 = .ok (.aload_n 0, 1) := by decide +kernel
theorem dX8_init_11 : decode cX8_init 11 = .ok (.iconst 0, 1) := by decide +kernel
theorem dX8_init_12 : decode cX8_init 12 = .ok (.putfield 15, 3) := by decide +kernel
theorem dX8_init_15 : decode cX8_init 15 = .ok (.aload_n 0, 1) := by decide +kernel
theorem dX8_init_16 : decode cX8_init 16 = .ok (.iconst 1, 1) := by decide +kernel
theorem dX8_init_17 : decode cX8_init 17 = .ok (.putfield 18, 3) := by decide +kernel
theorem dX8_init_20 : decode cX8_init 20 = .ok (.aload_n 0, 1) := by decide +kernel
theorem dX8_init_21 : decode cX8_init 21 = .ok (.iconst 0, 1) := by decide +kernel
theorem dX8_init_22 : decode cX8_init 22 = .ok (.putfield 21, 3) := by decide +kernel
theorem dX8_init_25 : decode cX8_init 25 = .ok (.aload_n 0, 1) := by decide +kernel
theorem dX8_init_26 : decode cX8_init 26 = .ok (.iconst 0, 1) := by decide +kernel
theorem dX8_init_27 : decode cX8_init 27 = .ok (.putfield 24, 3) := by decide +kernel
theorem dX8_init_30 : decode cX8_init 30 = .ok (.aload_n 0, 1) := by decide +kernel
theorem dX8_init_31 : decode cX8_init 31 = .ok (.lconst 0, 1) := by decide +kernel
theorem dX8_init_32 : decode cX8_init 32 = .ok (.putfield 28, 3) := by decide +kernel
theorem dX8_init_35 : decode cX8_init 35 = .ok (.aload_n 0, 1) := by decide +kernel
theorem dX8_init_36 : decode cX8_init 36 = .ok (.lconst 1, 1) := by decide +kernel
theorem dX8_init_37 : decode cX8_init 37 = .ok (.putfield 32, 3) := by decide +kernel
theorem dX8_init_40 : decode cX8_init 40 = .ok (.aload_n 0, 1) := by decide +kernel
theorem dX8_init_41 : decode cX8_init 41 = .ok (.bipush 11, 2) := by decide +kernel
theorem dX8_init_43 : decode cX8_init 43 = .ok (.newarray .int, 2) := by decide +kernel
theorem dX8_init_45 : decode cX8_init 45 = .ok (.putfield 35, 3) := by decide +kernel
theorem dX8_init_48 : decode cX8_init 48 = .ok (.aload_n 0, 1) := by decide +kernel
theorem dX8_init_49 : decode cX8_init 49 = .ok (.bipush 11, 2) := by decide +kernel
theorem dX8_init_51 : decode cX8_init 51 = .ok (.newarray .int, 2) := by decide +kernel
theorem dX8_init_53 : decode cX8_init 53 = .ok (.putfield 39, 3) := by decide +kernel
theorem dX8_init_56 : decode cX8_init 56 = .ok (.aload_n 0, 1) := by decide +kernel
theorem dX8_init_57 : decode cX8_init 57 = .ok (.bipush 18, 2) := by decide +kernel
theorem dX8_init_59 : decode cX8_init 59 = .ok (.newarray .int, 2) := by decide +kernel
theorem dX8_init_61 : decode cX8_init 61 = .ok (.putfield 42, 3) := by decide +kernel
theorem dX8_init_64 : decode cX8_init 64 = .ok (.aload_n 0, 1) := by decide +kernel
theorem dX8_init_65 : decode cX8_init 65 = .ok (.iconst 3, 1) := by decide +kernel
theorem dX8_init_66 : decode cX8_init 66 = .ok (.newarray .int, 2) := by decide +kernel
theorem dX8_init_68 : decode cX8_init 68 = .ok (.putfield 45, 3) := by decide +kernel
theorem dX8_init_71 : decode cX8_init 71 = .ok (.aload_n 0, 1) := by decide +kernel
theorem dX8_init_72 : decode cX8_init 72 = .ok (.iconst 4, 1) := by decide +kernel
theorem dX8_init_73 : decode cX8_init 73 = .ok (.newarray .int, 2) := by decide +kernel
theorem dX8_init_75 : decode cX8_init 75 = .ok (.putfield 48, 3) := by decide +kernel
theorem dX8_init_78 : decode cX8_init 78 = .ok (.aload_n 0, 1) := by decide +kernel
theorem dX8_init_79 : decode cX8_init 79 = .ok (.iconst 3, 1) := by decide +kernel
theorem dX8_init_80 : decode cX8_init 80 = .ok (.newarray .int, 2) := by decide +kernel
theorem dX8_init_82 : decode cX8_init 82 = .ok (.putfield 51, 3) := by decide +kernel
theorem dX8_init_85 : decode cX8_init 85 = .ok (.aload_n 0, 1) := by decide +kernel
theorem dX8_init_86 : decode cX8_init 86 = .ok (.iconst 4, 1) := by decide +kernel
theorem dX8_init_87 : decode cX8_init 87 = .ok (.newarray .int, 2) := by decide +kernel
theorem dX8_init_89 : decode cX8_init 89 = .ok (.putfield 54, 3) := by decide +kernel
theorem dX8_init_92 : decode cX8_init 92 = .ok (.aload_n 0, 1) := by decide +kernel
theorem dX8_init_93 : decode cX8_init 93 = .ok (.iconst 4, 1) := by decide +kernel
theorem dX8_init_94 : decode cX8_init 94 = .ok (.newarray .int, 2) := by decide +kernel
theorem dX8_init_96 : decode cX8_init 96 = .ok (.putfield 57, 3) := by decide +kernel
theorem dX8_init_99 : decode cX8_init 99 = .ok (.iconst 0, 1) := by decide +kernel
theorem dX8_init_100 : decode cX8_init 100 = .ok (.istore_n 1, 1) := by decide +kernel
theorem dX8_init_101 : decode cX8_init 101 = .ok (.iload_n 1, 1) := by decide +kernel
theorem dX8_init_102 : decode cX8_init 102 = .ok (.aload_n 0, 1) := by decide +kernel
theorem dX8_init_103 : decode cX8_init 103 = .ok (.getfield 42, 3) := by decide +kernel
theorem dX8_init_106 : decode cX8_init 106 = .ok (.arraylength, 1) := by decide +kernel
theorem dX8_init_107 : decode cX8_init 107 = .ok (.if_icmp .ge 21, 3) := by decide +kernel
theorem dX8_init_110 : decode cX8_init 110 = .ok (.aload_n 0, 1) := by decide +kernel
theorem dX8_init_111 : decode cX8_init 111 = .ok (.getfield 42, 3) := by decide +kernel
theorem dX8_init_114 : decode cX8_init 114 = .ok (.iload_n 1, 1) := by decide +kernel
theorem dX8_init_115 : decode cX8_init 115 = .ok (.iload_n 1, 1) := by decide +kernel
theorem dX8_init_116 : decode cX8_init 116 = .ok (.bipush 6, 2) := by decide +kernel
theorem dX8_init_118 : decode cX8_init 118 = .ok (.irem, 1) := by decide +kernel
theorem dX8_init_119 : decode cX8_init 119 = .ok (.iconst 1, 1) := by decide +kernel
theorem dX8_init_120 : decode cX8_init 120 = .ok (.iadd, 1) := by decide +kernel
theorem dX8_init_121 : decode cX8_init 121 = .ok (.iastore, 1) := by decide +kernel
theorem dX8_init_122 : decode cX8_init 122 = .ok (.iinc 1 1, 3) := by decide +kernel
theorem dX8_init_125 : decode cX8_init 125 = .ok (.goto (-24), 3) := by decide +kernel
theorem dX8_init_128 : decode cX8_init 128 = .ok (.iconst 0, 1) := by decide +kernel
theorem dX8_init_129 : decode cX8_init 129 = .ok (.istore_n 1, 1) := by decide +kernel
theorem dX8_init_130 : decode cX8_init 130 = .ok (.iload_n 1, 1) := by decide +kernel
theorem dX8_init_131 : decode cX8_init 131 = .ok (.aload_n 0, 1) := by decide +kernel
theorem dX8_init_132 : decode cX8_init 132 = .ok (.getfield 45, 3) := by decide +kernel
theorem dX8_init_135 : decode cX8_init 135 = .ok (.arraylength, 1) := by decide +kernel
theorem dX8_init_136 : decode cX8_init 136 = .ok (.if_icmp .ge 17, 3) := by decide +kernel
theorem dX8_init_139 : decode cX8_init 139 = .ok (.aload_n 0, 1) := by decide +kernel
theorem dX8_init_140 : decode cX8_init 140 = .ok (.getfield 45, 3) := by decide +kernel
theorem dX8_init_143 : decode cX8_init 143 = .ok (.iload_n 1, 1) := by decide +kernel
theorem dX8_init_144 : decode cX8_init 144 = .ok (.bipush 6, 2) := by decide +kernel
theorem dX8_init_146 : decode cX8_init 146 = .ok (.iastore, 1) := by decide +kernel
theorem dX8_init_147 : decode cX8_init 147 = .ok (.iinc 1 1, 3) := by decide +kernel
theorem dX8_init_150 : decode cX8_init 150 = .ok (.goto (-20), 3) := by decide +kernel
theorem dX8_init_153 : decode cX8_init 153 = .ok (.aload_n 0, 1) := by decide +kernel
theorem dX8_init_154 : decode cX8_init 154 = .ok (.getfield 51, 3) := by decide +kernel
theorem dX8_init_157 : decode cX8_init 157 = .ok (.iconst 1, 1) := by decide +kernel
theorem dX8_init_158 : decode cX8_init 158 = .ok (.bipush 6, 2) := by decide +kernel
theorem dX8_init_160 : decode cX8_init 160 = .ok (.invokestatic 60, 3) := by decide +kernel
theorem dX8_init_163 : decode cX8_init 163 = .ok (.aload_n 0, 1) := by decide +kernel
theorem dX8_init_164 : decode cX8_init 164 = .ok (.getfield 51, 3) := by decide +kernel
theorem dX8_init_167 : decode cX8_init 167 = .ok (.iconst 2, 1) := by decide +kernel
theorem dX8_init_168 : decode cX8_init 168 = .ok (.bipush 100, 2) := by decide +kernel
theorem dX8_init_170 : decode cX8_init 170 = .ok (.invokestatic 60, 3) := by decide +kernel
theorem dX8_init_173 : decode cX8_init 173 = .ok (.return_, 1) := by decide +kernel
theorem dX8_copyFrom_0 : decode cX8_copyFrom 0 = .ok (.aload_n 0, 1) := by decide +kernel
theorem dX8_copyFrom_1 : decode cX8_copyFrom 1 = .ok (.aload_n 1, 1) := by decide +kernel
theorem dX8_copyFrom_2 : decode cX8_copyFrom 2 = .ok (.getfield 9, 3) := by decide +kernel
theorem dX8_copyFrom_5 : decode cX8_copyFrom 5 = .ok (.putfield 9, 3) := by decide +kernel
theorem dX8_copyFrom_8 : decode cX8_copyFrom 8 = .ok (.aload_n 0, 1) := by decide +kernel
theorem dX8_copyFrom_9 : decode cX8_copyFrom 9 = .ok (.aload_n 1, 1) := by decide +kernel
theorem dX8_copyFrom_10 : decode cX8_copyFrom 10 = .ok (.getfield 15, 3) := by decide +kernel
theorem dX8_copyFrom_13 : decode cX8_copyFrom 13 = .ok (.putfield 15, 3) := by decide +kernel
theorem dX8_copyFrom_16 : decode cX8_copyFrom 16 = .ok (.aload_n 0, 1) := by decide +kernel
theorem dX8_copyFrom_17 : decode cX8_copyFrom 17 = .ok (.aload_n 1, 1) := by decide +kernel
theorem dX8_copyFrom_18 : decode cX8_copyFrom 18 = .ok (.getfield 18, 3) := by decide +kernel
theorem dX8_copyFrom_21 : decode cX8_copyFrom 21 = .ok (.putfield 18, 3) := by decide +kernel
theorem dX8_copyFrom_24 : decode cX8_copyFrom 24 = .ok (.aload_n 0, 1) := by decide +kernel
theorem dX8_copyFrom_25 : decode cX8_copyFrom 25 = .ok (.aload_n 1, 1) := by decide +kernel
theorem dX8_copyFrom_26 : decode cX8_copyFrom 26 = .ok (.getfield 21, 3) := by decide +kernel
theorem dX8_copyFrom_29 : decode cX8_copyFrom 29 = .ok (.putfield 21, 3) := by decide +kernel
theorem dX8_copyFrom_32 : decode cX8_copyFrom 32 = .ok (.aload_n 0, 1) := by decide +kernel
theorem dX8_copyFrom_33 : decode cX8_copyFrom 33 = .ok (.aload_n 1, 1) := by decide +kernel
theorem dX8_copyFrom_34 : decode cX8_copyFrom 34 = .ok (.getfield 24, 3) := by decide +kernel
theorem dX8_copyFrom_37 : decode cX8_copyFrom 37 = .ok (.putfield 24, 3) := by decide +kernel
theorem dX8_copyFrom_40 : decode cX8_copyFrom 40 = .ok (.aload_n 0, 1) := by decide +kernel
theorem dX8_copyFrom_41 : decode cX8_copyFrom 41 = .ok (.aload_n 1, 1) := by decide +kernel
theorem dX8_copyFrom_42 : decode cX8_copyFrom 42 = .ok (.getfield 28, 3) := by decide +kernel
theorem dX8_copyFrom_45 : decode cX8_copyFrom 45 = .ok (.putfield 28, 3) := by decide +kernel
theorem dX8_copyFrom_48 : decode cX8_copyFrom 48 = .ok (.aload_n 0, 1) := by decide +kernel
theorem dX8_copyFrom_49 : decode cX8_copyFrom 49 = .ok (.aload_n 1, 1) := by decide +kernel
theorem dX8_copyFrom_50 : decode cX8_copyFrom 50 = .ok (.getfield 32, 3) := by decide +kernel
theorem dX8_copyFrom_53 : decode cX8_copyFrom 53 = .ok (.putfield 32, 3) := by decide +kernel
theorem dX8_copyFrom_56 : decode cX8_copyFrom 56 = .ok (.aload_n 1, 1) := by decide +kernel
theorem dX8_copyFrom_57 : decode cX8_copyFrom 57 = .ok (.getfield 35, 3) := by decide +kernel
theorem dX8_copyFrom_60 : decode cX8_copyFrom 60 = .ok (.aload_n 0, 1) := by decide +kernel
theorem dX8_copyFrom_61 : decode cX8_copyFrom 61 = .ok (.getfield 35, 3) := by decide +kernel
theorem dX8_copyFrom_64 : decode cX8_copyFrom 64 = .ok (.invokestatic 66, 3) := by decide +kernel
theorem dX8_copyFrom_67 : decode cX8_copyFrom 67 = .ok (.aload_n 1, 1) := by decide +kernel
theorem dX8_copyFrom_68 : decode cX8_copyFrom 68 = .ok (.getfield 39, 3) := by decide +kernel
theorem dX8_copyFrom_71 : decode cX8_copyFrom 71 = .ok (.aload_n 0, 1) := by decide +kernel
theorem dX8_copyFrom_72 : decode cX8_copyFrom 72 = .ok (.getfield 39, 3) := by decide +kernel
theorem dX8_copyFrom_75 : decode cX8_copyFrom 75 = .ok (.invokestatic 66, 3) := by decide +kernel
theorem dX8_copyFrom_78 : decode cX8_copyFrom 78 = .ok (.aload_n 1, 1) := by decide +kernel
theorem dX8_copyFrom_79 : decode cX8_copyFrom 79 = .ok (.getfield 42, 3) := by decide +kernel
theorem dX8_copyFrom_82 : decode cX8_copyFrom 82 = .ok (.aload_n 0, 1) := by decide +kernel
theorem dX8_copyFrom_83 : decode cX8_copyFrom 83 = .ok (.getfield 42, 3) := by decide +kernel
theorem dX8_copyFrom_86 : decode cX8_copyFrom 86 = .ok (.invokestatic 66, 3) := by decide +kernel
theorem dX8_copyFrom_89 : decode cX8_copyFrom 89 = .ok (.aload_n 1, 1) := by decide +kernel
theorem dX8_copyFrom_90 : decode cX8_copyFrom 90 = .ok (.getfield 45, 3) := by decide +kernel
theorem dX8_copyFrom_93 : decode cX8_copyFrom 93 = .ok (.aload_n 0, 1) := by decide +kernel
theorem dX8_copyFrom_94 : decode cX8_copyFrom 94 = .ok (.getfield 45, 3) := by decide +kernel
theorem dX8_copyFrom_97 : decode cX8_copyFrom 97 = .ok (.invokestatic 66, 3) := by decide +kernel
theorem dX8_copyFrom_100 : decode cX8_copyFrom 100 = .ok (.aload_n 1, 1) := by decide +kernel
theorem dX8_copyFrom_101 : decode cX8_copyFrom 101 = .ok (.getfield 48, 3) := by decide +kernel
theorem dX8_copyFrom_104 : decode cX8_copyFrom 104 = .ok (.aload_n 0, 1) := by decide +kernel
theorem dX8_copyFrom_105 : decode cX8_copyFrom 105 = .ok (.getfield 48, 3) := by decide +kernel
theorem dX8_copyFrom_108 : decode cX8_copyFrom 108 = .ok (.invokestatic 66, 3) := by decide +kernel
theorem dX8_copyFrom_111 : decode cX8_copyFrom 111 = .ok (.aload_n 1, 1) := by decide +kernel
theorem dX8_copyFrom_112 : decode cX8_copyFrom 112 = .ok (.getfield 51, 3) := by decide +kernel
theorem dX8_copyFrom_115 : decode cX8_copyFrom 115 = .ok (.aload_n 0, 1) := by decide +kernel
theorem dX8_copyFrom_116 : decode cX8_copyFrom 116 = .ok (.getfield 51, 3) := by decide +kernel
theorem dX8_copyFrom_119 : decode cX8_copyFrom 119 = .ok (.invokestatic 66, 3) := by decide +kernel
theorem dX8_copyFrom_122 : decode cX8_copyFrom 122 = .ok (.aload_n 1, 1) := by decide +kernel
theorem dX8_copyFrom_123 : decode cX8_copyFrom 123 = .ok (.getfield 54, 3) := by decide +kernel
theorem dX8_copyFrom_126 : decode cX8_copyFrom 126 = .ok (.aload_n 0, 1) := by decide +kernel
theorem dX8_copyFrom_127 : decode cX8_copyFrom 127 = .ok (.getfield 54, 3) := by decide +kernel
theorem dX8_copyFrom_130 : decode cX8_copyFrom 130 = .ok (.invokestatic 66, 3) := by decide +kernel
theorem dX8_copyFrom_133 : decode cX8_copyFrom 133 = .ok (.aload_n 1, 1) := by decide +kernel
theorem dX8_copyFrom_134 : decode cX8_copyFrom 134 = .ok (.getfield 57, 3) := by decide +kernel
theorem dX8_copyFrom_137 : decode cX8_copyFrom 137 = .ok (.aload_n 0, 1) := by decide +kernel
theorem dX8_copyFrom_138 : decode cX8_copyFrom 138 = .ok (.getfield 57, 3) := by decide +kernel
theorem dX8_copyFrom_141 : decode cX8_copyFrom 141 = .ok (.invokestatic 66, 3) := by decide +kernel
theorem dX8_copyFrom_144 : decode cX8_copyFrom 144 = .ok (.return_, 1) := by decide +kernel
theorem dX8_hasSquare_0 : decode cX8_hasSquare 0 = .ok (.iload_n 1, 1) := by decide +kernel
theorem dX8_hasSquare_1 : decode cX8_hasSquare 1 = .ok (.ifCond .lt 15, 3) := by decide +kernel
theorem dX8_hasSquare_4 : decode cX8_hasSquare 4 = .ok (.iload_n 1, 1) := by decide +kernel
theorem dX8_hasSquare_5 : decode cX8_hasSquare 5 = .ok (.aload_n 0, 1) := by decide +kernel
theorem dX8_hasSquare_6 : decode cX8_hasSquare 6 = .ok (.getfield 9, 3) := by decide +kernel
theorem dX8_hasSquare_9 : decode cX8_hasSquare 9 = .ok (.if_icmp .gt 7, 3) := by decide +kernel
theorem dX8_hasSquare_12 : decode cX8_hasSquare 12 = .ok (.iconst 1, 1) := by decide +kernel
theorem dX8_hasSquare_13 : decode cX8_hasSquare 13 = .ok (.goto 4, 3) := by decide +kernel
theorem dX8_hasSquare_16 : decode cX8_hasSquare 16 = .ok (.iconst 0, 1) := by decide +kernel
theorem dX8_hasSquare_17 : decode cX8_hasSquare 17 = .ok (.ireturn, 1) := by decide +kernel
theorem dX8_hasLink_0 : decode cX8_hasLink 0 = .ok (.iload_n 1, 1) := by decide +kernel
theorem dX8_hasLink_1 : decode cX8_hasLink 1 = .ok (.ifCond .lt 15, 3) := by decide +kernel
theorem dX8_hasLink_4 : decode cX8_hasLink 4 = .ok (.iload_n 1, 1) := by decide +kernel
theorem dX8_hasLink_5 : decode cX8_hasLink 5 = .ok (.aload_n 0, 1) := by decide +kernel
theorem dX8_hasLink_6 : decode cX8_hasLink 6 = .ok (.getfield 15, 3) := by decide +kernel
theorem dX8_hasLink_9 : decode cX8_hasLink 9 = .ok (.if_icmp .ge 7, 3) := by decide +kernel
theorem dX8_hasLink_12 : decode cX8_hasLink 12 = .ok (.iconst 1, 1) := by decide +kernel
theorem dX8_hasLink_13 : decode cX8_hasLink 13 = .ok (.goto 4, 3) := by decide +kernel
theorem dX8_hasLink_16 : decode cX8_hasLink 16 = .ok (.iconst 0, 1) := by decide +kernel
theorem dX8_hasLink_17 : decode cX8_hasLink 17 = .ok (.ireturn, 1) := by decide +kernel
theorem dX8_hasPlayer_0 : decode cX8_hasPlayer 0 = .ok (.iload_n 1, 1) := by decide +kernel
theorem dX8_hasPlayer_1 : decode cX8_hasPlayer 1 = .ok (.ifCond .lt 15, 3) := by decide +kernel
theorem dX8_hasPlayer_4 : decode cX8_hasPlayer 4 = .ok (.iload_n 1, 1) := by decide +kernel
theorem dX8_hasPlayer_5 : decode cX8_hasPlayer 5 = .ok (.aload_n 0, 1) := by decide +kernel
theorem dX8_hasPlayer_6 : decode cX8_hasPlayer 6 = .ok (.getfield 21, 3) := by decide +kernel
theorem dX8_hasPlayer_9 : decode cX8_hasPlayer 9 = .ok (.if_icmp .ge 7, 3) := by decide +kernel
theorem dX8_hasPlayer_12 : decode cX8_hasPlayer 12 = .ok (.iconst 1, 1) := by decide +kernel
theorem dX8_hasPlayer_13 : decode cX8_hasPlayer 13 = .ok (.goto 4, 3) := by decide +kernel
theorem dX8_hasPlayer_16 : decode cX8_hasPlayer 16 = .ok (.iconst 0, 1) := by decide +kernel
theorem dX8_hasPlayer_17 : decode cX8_hasPlayer 17 = .ok (.ireturn, 1) := by decide +kernel
theorem dX8_beginOf_0 : decode cX8_beginOf 0 = .ok (.aload_n 0, 1) := by decide +kernel
theorem dX8_beginOf_1 : decode cX8_beginOf 1 = .ok (.getfield 35, 3) := by decide +kernel
theorem dX8_beginOf_4 : decode cX8_beginOf 4 = .ok (.iload_n 1, 1) := by decide +kernel
theorem dX8_beginOf_5 : decode cX8_beginOf 5 = .ok (.invokestatic 70, 3) := by decide +kernel
theorem dX8_beginOf_8 : decode cX8_beginOf 8 = .ok (.ireturn, 1) := by decide +kernel
theorem dX8_endOf_0 : decode cX8_endOf 0 = .ok (.aload_n 0, 1) := by decide +kernel
theorem dX8_endOf_1 : decode cX8_endOf 1 = .ok (.getfield 39, 3) := by decide +kernel
theorem dX8_endOf_4 : decode cX8_endOf 4 = .ok (.iload_n 1, 1) := by decide +kernel
theorem dX8_endOf_5 : decode cX8_endOf 5 = .ok (.invokestatic 70, 3) := by decide +kernel
theorem dX8_endOf_8 : decode cX8_endOf 8 = .ok (.ireturn, 1) := by decide +kernel
theorem dX8_sidesOf_0 : decode cX8_sidesOf 0 = .ok (.aload_n 0, 1) := by decide +kernel
theorem dX8_sidesOf_1 : decode cX8_sidesOf 1 = .ok (.getfield 45, 3) := by decide +kernel
theorem dX8_sidesOf_4 : decode cX8_sidesOf 4 = .ok (.iload_n 1, 1) := by decide +kernel
theorem dX8_sidesOf_5 : decode cX8_sidesOf 5 = .ok (.invokestatic 70, 3) := by decide +kernel
theorem dX8_sidesOf_8 : decode cX8_sidesOf 8 = .ok (.ireturn, 1) := by decide +kernel
theorem dX8_faceOf_0 : decode cX8_faceOf 0 = .ok (.aload_n 0, 1) := by decide +kernel
theorem dX8_faceOf_1 : decode cX8_faceOf 1 = .ok (.getfield 42, 3) := by decide +kernel
theorem dX8_faceOf_4 : decode cX8_faceOf 4 = .ok (.iload_n 1, 1) := by decide +kernel
theorem dX8_faceOf_5 : decode cX8_faceOf 5 = .ok (.bipush 6, 2) := by decide +kernel
theorem dX8_faceOf_7 : decode cX8_faceOf 7 = .ok (.imul, 1) := by decide +kernel
theorem dX8_faceOf_8 : decode cX8_faceOf 8 = .ok (.iload_n 2, 1) := by decide +kernel
theorem dX8_faceOf_9 : decode cX8_faceOf 9 = .ok (.iadd, 1) := by decide +kernel
theorem dX8_faceOf_10 : decode cX8_faceOf 10 = .ok (.invokestatic 70, 3) := by decide +kernel
theorem dX8_faceOf_13 : decode cX8_faceOf 13 = .ok (.ireturn, 1) := by decide +kernel
theorem dX8_valueOf_0 : decode cX8_valueOf 0 = .ok (.aload_n 0, 1) := by decide +kernel
theorem dX8_valueOf_1 : decode cX8_valueOf 1 = .ok (.getfield 51, 3) := by decide +kernel
theorem dX8_valueOf_4 : decode cX8_valueOf 4 = .ok (.iload_n 1, 1) := by decide +kernel
theorem dX8_valueOf_5 : decode cX8_valueOf 5 = .ok (.invokestatic 70, 3) := by decide +kernel
theorem dX8_valueOf_8 : decode cX8_valueOf 8 = .ok (.ireturn, 1) := by decide +kernel
theorem dX8_squareOf_0 : decode cX8_squareOf 0 = .ok (.aload_n 0, 1) := by decide +kernel
theorem dX8_squareOf_1 : decode cX8_squareOf 1 = .ok (.getfield 54, 3) := by decide +kernel
theorem dX8_squareOf_4 : decode cX8_squareOf 4 = .ok (.iload_n 1, 1) := by decide +kernel
theorem dX8_squareOf_5 : decode cX8_squareOf 5 = .ok (.invokestatic 70, 3) := by decide +kernel
theorem dX8_squareOf_8 : decode cX8_squareOf 8 = .ok (.ireturn, 1) := by decide +kernel
theorem dX8_turnsOf_0 : decode cX8_turnsOf 0 = .ok (.aload_n 0, 1) := by decide +kernel
theorem dX8_turnsOf_1 : decode cX8_turnsOf 1 = .ok (.getfield 57, 3) := by decide +kernel
theorem dX8_turnsOf_4 : decode cX8_turnsOf 4 = .ok (.iload_n 1, 1) := by decide +kernel
theorem dX8_turnsOf_5 : decode cX8_turnsOf 5 = .ok (.invokestatic 70, 3) := by decide +kernel
theorem dX8_turnsOf_8 : decode cX8_turnsOf 8 = .ok (.ireturn, 1) := by decide +kernel
theorem dX8_isOnGoal_0 : decode cX8_isOnGoal 0 = .ok (.aload_n 0, 1) := by decide +kernel
theorem dX8_isOnGoal_1 : decode cX8_isOnGoal 1 = .ok (.getfield 54, 3) := by decide +kernel
theorem dX8_isOnGoal_4 : decode cX8_isOnGoal 4 = .ok (.iload_n 1, 1) := by decide +kernel
theorem dX8_isOnGoal_5 : decode cX8_isOnGoal 5 = .ok (.invokestatic 70, 3) := by decide +kernel
theorem dX8_isOnGoal_8 : decode cX8_isOnGoal 8 = .ok (.aload_n 0, 1) := by decide +kernel
theorem dX8_isOnGoal_9 : decode cX8_isOnGoal 9 = .ok (.getfield 9, 3) := by decide +kernel
theorem dX8_isOnGoal_12 : decode cX8_isOnGoal 12 = .ok (.if_icmp .ne 7, 3) := by decide +kernel
theorem dX8_isOnGoal_15 : decode cX8_isOnGoal 15 = .ok (.iconst 1, 1) := by decide +kernel
theorem dX8_isOnGoal_16 : decode cX8_isOnGoal 16 = .ok (.goto 4, 3) := by decide +kernel
theorem dX8_isOnGoal_19 : decode cX8_isOnGoal 19 = .ok (.iconst 0, 1) := by decide +kernel
theorem dX8_isOnGoal_20 : decode cX8_isOnGoal 20 = .ok (.ireturn, 1) := by decide +kernel
theorem dX8_dieOfOrder_0 : decode cX8_dieOfOrder 0 = .ok (.iload_n 1, 1) := by decide +kernel
theorem dX8_dieOfOrder_1 : decode cX8_dieOfOrder 1 = .ok (.ifCond .lt 22, 3) := by decide +kernel
theorem dX8_dieOfOrder_4 : decode cX8_dieOfOrder 4 = .ok (.iload_n 1, 1) := by decide +kernel
theorem dX8_dieOfOrder_5 : decode cX8_dieOfOrder 5 = .ok (.aload_n 0, 1) := by decide +kernel
theorem dX8_dieOfOrder_6 : decode cX8_dieOfOrder 6 = .ok (.getfield 18, 3) := by decide +kernel
theorem dX8_dieOfOrder_9 : decode cX8_dieOfOrder 9 = .ok (.if_icmp .ge 14, 3) := by decide +kernel
theorem dX8_dieOfOrder_12 : decode cX8_dieOfOrder 12 = .ok (.aload_n 0, 1) := by decide +kernel
theorem dX8_dieOfOrder_13 : decode cX8_dieOfOrder 13 = .ok (.getfield 48, 3) := by decide +kernel
theorem dX8_dieOfOrder_16 : decode cX8_dieOfOrder 16 = .ok (.iload_n 1, 1) := by decide +kernel
theorem dX8_dieOfOrder_17 : decode cX8_dieOfOrder 17 = .ok (.invokestatic 70, 3) := by decide +kernel
theorem dX8_dieOfOrder_20 : decode cX8_dieOfOrder 20 = .ok (.goto 4, 3) := by decide +kernel
theorem dX8_dieOfOrder_23 : decode cX8_dieOfOrder 23 = .ok (.iconst (-1), 1) := by decide +kernel
theorem dX8_dieOfOrder_24 : decode cX8_dieOfOrder 24 = .ok (.ireturn, 1) := by decide +kernel
theorem dX8_dieOfTurn_0 : decode cX8_dieOfTurn 0 = .ok (.aload_n 0, 1) := by decide +kernel
theorem dX8_dieOfTurn_1 : decode cX8_dieOfTurn 1 = .ok (.getfield 18, 3) := by decide +kernel
theorem dX8_dieOfTurn_4 : decode cX8_dieOfTurn 4 = .ok (.ifCond .le 19, 3) := by decide +kernel
theorem dX8_dieOfTurn_7 : decode cX8_dieOfTurn 7 = .ok (.aload_n 0, 1) := by decide +kernel
theorem dX8_dieOfTurn_8 : decode cX8_dieOfTurn 8 = .ok (.getfield 48, 3) := by decide +kernel
theorem dX8_dieOfTurn_11 : decode cX8_dieOfTurn 11 = .ok (.iload_n 1, 1) := by decide +kernel
theorem dX8_dieOfTurn_12 : decode cX8_dieOfTurn 12 = .ok (.aload_n 0, 1) := by decide +kernel
theorem dX8_dieOfTurn_13 : decode cX8_dieOfTurn 13 = .ok (.getfield 18, 3) := by decide +kernel
theorem dX8_dieOfTurn_16 : decode cX8_dieOfTurn 16 = .ok (.irem, 1) := by decide +kernel
theorem dX8_dieOfTurn_17 : decode cX8_dieOfTurn 17 = .ok (.invokestatic 70, 3) := by decide +kernel
theorem dX8_dieOfTurn_20 : decode cX8_dieOfTurn 20 = .ok (.goto 4, 3) := by decide +kernel
theorem dX8_dieOfTurn_23 : decode cX8_dieOfTurn 23 = .ok (.iconst 0, 1) := by decide +kernel
theorem dX8_dieOfTurn_24 : decode cX8_dieOfTurn 24 = .ok (.ireturn, 1) := by decide +kernel
theorem dX8_linksFrom_0 : decode cX8_linksFrom 0 = .ok (.iconst 0, 1) := by decide +kernel
theorem dX8_linksFrom_1 : decode cX8_linksFrom 1 = .ok (.istore_n 3, 1) := by decide +kernel
theorem dX8_linksFrom_2 : decode cX8_linksFrom 2 = .ok (.iconst 0, 1) := by decide +kernel
theorem dX8_linksFrom_3 : decode cX8_linksFrom 3 = .ok (.istore 4, 2) := by decide +kernel
theorem dX8_linksFrom_5 : decode cX8_linksFrom 5 = .ok (.iload 4, 2) := by decide +kernel
theorem dX8_linksFrom_7 : decode cX8_linksFrom 7 = .ok (.aload_n 0, 1) := by decide +kernel
theorem dX8_linksFrom_8 : decode cX8_linksFrom 8 = .ok (.getfield 15, 3) := by decide +kernel
theorem dX8_linksFrom_11 : decode cX8_linksFrom 11 = .ok (.if_icmp .ge 31, 3) := by decide +kernel
theorem dX8_linksFrom_14 : decode cX8_linksFrom 14 = .ok (.iload 4, 2) := by decide +kernel
theorem dX8_linksFrom_16 : decode cX8_linksFrom 16 = .ok (.iload_n 2, 1) := by decide +kernel
theorem dX8_linksFrom_17 : decode cX8_linksFrom 17 = .ok (.if_icmp .eq 19, 3) := by decide +kernel
theorem dX8_linksFrom_20 : decode cX8_linksFrom 20 = .ok (.aload_n 0, 1) := by decide +kernel
theorem dX8_linksFrom_21 : decode cX8_linksFrom 21 = .ok (.getfield 35, 3) := by decide +kernel
theorem dX8_linksFrom_24 : decode cX8_linksFrom 24 = .ok (.iload 4, 2) := by decide +kernel
theorem dX8_linksFrom_26 : decode cX8_linksFrom 26 = .ok (.invokestatic 70, 3) := by decide +kernel
theorem dX8_linksFrom_29 : decode cX8_linksFrom 29 = .ok (.iload_n 1, 1) := by decide +kernel
theorem dX8_linksFrom_30 : decode cX8_linksFrom 30 = .ok (.if_icmp .ne 6, 3) := by decide +kernel
theorem dX8_linksFrom_33 : decode cX8_linksFrom 33 = .ok (.iinc 3 1, 3) := by decide +kernel
theorem dX8_linksFrom_36 : decode cX8_linksFrom 36 = .ok (.iinc 4 1, 3) := by decide +kernel
theorem dX8_linksFrom_39 : decode cX8_linksFrom 39 = .ok (.goto (-34), 3) := by decide +kernel
theorem dX8_linksFrom_42 : decode cX8_linksFrom 42 = .ok (.iload_n 3, 1) := by decide +kernel
theorem dX8_linksFrom_43 : decode cX8_linksFrom 43 = .ok (.ireturn, 1) := by decide +kernel
theorem dX8_linksTo_0 : decode cX8_linksTo 0 = .ok (.iconst 0, 1) := by decide +kernel
theorem dX8_linksTo_1 : decode cX8_linksTo 1 = .ok (.istore_n 3, 1) := by decide +kernel
theorem dX8_linksTo_2 : decode cX8_linksTo 2 = .ok (.iconst 0, 1) := by decide +kernel
theorem dX8_linksTo_3 : decode cX8_linksTo 3 = .ok (.istore 4, 2) := by decide +kernel
theorem dX8_linksTo_5 : decode cX8_linksTo 5 = .ok (.iload 4, 2) := by decide +kernel
theorem dX8_linksTo_7 : decode cX8_linksTo 7 = .ok (.aload_n 0, 1) := by decide +kernel
theorem dX8_linksTo_8 : decode cX8_linksTo 8 = .ok (.getfield 15, 3) := by decide +kernel
theorem dX8_linksTo_11 : decode cX8_linksTo 11 = .ok (.if_icmp .ge 31, 3) := by decide +kernel
theorem dX8_linksTo_14 : decode cX8_linksTo 14 = .ok (.iload 4, 2) := by decide +kernel
theorem dX8_linksTo_16 : decode cX8_linksTo 16 = .ok (.iload_n 2, 1) := by decide +kernel
theorem dX8_linksTo_17 : decode cX8_linksTo 17 = .ok (.if_icmp .eq 19, 3) := by decide +kernel
theorem dX8_linksTo_20 : decode cX8_linksTo 20 = .ok (.aload_n 0, 1) := by decide +kernel
theorem dX8_linksTo_21 : decode cX8_linksTo 21 = .ok (.getfield 39, 3) := by decide +kernel
theorem dX8_linksTo_24 : decode cX8_linksTo 24 = .ok (.iload 4, 2) := by decide +kernel
theorem dX8_linksTo_26 : decode cX8_linksTo 26 = .ok (.invokestatic 70, 3) := by decide +kernel
theorem dX8_linksTo_29 : decode cX8_linksTo 29 = .ok (.iload_n 1, 1) := by decide +kernel
theorem dX8_linksTo_30 : decode cX8_linksTo 30 = .ok (.if_icmp .ne 6, 3) := by decide +kernel
theorem dX8_linksTo_33 : decode cX8_linksTo 33 = .ok (.iinc 3 1, 3) := by decide +kernel
theorem dX8_linksTo_36 : decode cX8_linksTo 36 = .ok (.iinc 4 1, 3) := by decide +kernel
theorem dX8_linksTo_39 : decode cX8_linksTo 39 = .ok (.goto (-34), 3) := by decide +kernel
theorem dX8_linksTo_42 : decode cX8_linksTo 42 = .ok (.iload_n 3, 1) := by decide +kernel
theorem dX8_linksTo_43 : decode cX8_linksTo 43 = .ok (.ireturn, 1) := by decide +kernel
theorem dX8_targetFrom_0 : decode cX8_targetFrom 0 = .ok (.iconst 0, 1) := by decide +kernel
theorem dX8_targetFrom_1 : decode cX8_targetFrom 1 = .ok (.istore_n 2, 1) := by decide +kernel
theorem dX8_targetFrom_2 : decode cX8_targetFrom 2 = .ok (.iload_n 2, 1) := by decide +kernel
theorem dX8_targetFrom_3 : decode cX8_targetFrom 3 = .ok (.aload_n 0, 1) := by decide +kernel
theorem dX8_targetFrom_4 : decode cX8_targetFrom 4 = .ok (.getfield 15, 3) := by decide +kernel
theorem dX8_targetFrom_7 : decode cX8_targetFrom 7 = .ok (.if_icmp .ge 30, 3) := by decide +kernel
theorem dX8_targetFrom_10 : decode cX8_targetFrom 10 = .ok (.aload_n 0, 1) := by decide +kernel
theorem dX8_targetFrom_11 : decode cX8_targetFrom 11 = .ok (.getfield 35, 3) := by decide +kernel
theorem dX8_targetFrom_14 : decode cX8_targetFrom 14 = .ok (.iload_n 2, 1) := by decide +kernel
theorem dX8_targetFrom_15 : decode cX8_targetFrom 15 = .ok (.invokestatic 70, 3) := by decide +kernel
theorem dX8_targetFrom_18 : decode cX8_targetFrom 18 = .ok (.iload_n 1, 1) := by decide +kernel
theorem dX8_targetFrom_19 : decode cX8_targetFrom 19 = .ok (.if_icmp .ne 12, 3) := by decide +kernel
theorem dX8_targetFrom_22 : decode cX8_targetFrom 22 = .ok (.aload_n 0, 1) := by decide +kernel
theorem dX8_targetFrom_23 : decode cX8_targetFrom 23 = .ok (.getfield 39, 3) := by decide +kernel
theorem dX8_targetFrom_26 : decode cX8_targetFrom 26 = .ok (.iload_n 2, 1) := by decide +kernel
theorem dX8_targetFrom_27 : decode cX8_targetFrom 27 = .ok (.invokestatic 70, 3) := by decide +kernel
theorem dX8_targetFrom_30 : decode cX8_targetFrom 30 = .ok (.ireturn, 1) := by decide +kernel
theorem dX8_targetFrom_31 : decode cX8_targetFrom 31 = .ok (.iinc 2 1, 3) := by decide +kernel
theorem dX8_targetFrom_34 : decode cX8_targetFrom 34 = .ok (.goto (-32), 3) := by decide +kernel
theorem dX8_targetFrom_37 : decode cX8_targetFrom 37 = .ok (.iconst (-1), 1) := by decide +kernel
theorem dX8_targetFrom_38 : decode cX8_targetFrom 38 = .ok (.ireturn, 1) := by decide +kernel
theorem dX8_allows_0 : decode cX8_allows 0 = .ok (.iload_n 1, 1) := by decide +kernel
theorem dX8_allows_1 : decode cX8_allows 1 = .ok (.iload_n 2, 1) := by decide +kernel
theorem dX8_allows_2 : decode cX8_allows 2 = .ok (.if_icmp .eq 54, 3) := by decide +kernel
theorem dX8_allows_5 : decode cX8_allows 5 = .ok (.iload_n 1, 1) := by decide +kernel
theorem dX8_allows_6 : decode cX8_allows 6 = .ok (.ifCond .le 50, 3) := by decide +kernel
theorem dX8_allows_9 : decode cX8_allows 9 = .ok (.iload_n 1, 1) := by decide +kernel
theorem dX8_allows_10 : decode cX8_allows 10 = .ok (.aload_n 0, 1) := by decide +kernel
theorem dX8_allows_11 : decode cX8_allows 11 = .ok (.getfield 9, 3) := by decide +kernel
theorem dX8_allows_14 : decode cX8_allows 14 = .ok (.if_icmp .ge 42, 3) := by decide +kernel
theorem dX8_allows_17 : decode cX8_allows 17 = .ok (.aload_n 0, 1) := by decide +kernel
theorem dX8_allows_18 : decode cX8_allows 18 = .ok (.iload_n 2, 1) := by decide +kernel
theorem dX8_allows_19 : decode cX8_allows 19 = .ok (.invokevirtual 74, 3) := by decide +kernel
theorem dX8_allows_22 : decode cX8_allows 22 = .ok (.ifCond .eq 34, 3) := by decide +kernel
theorem dX8_allows_25 : decode cX8_allows 25 = .ok (.aload_n 0, 1) := by decide +kernel
theorem dX8_allows_26 : decode cX8_allows 26 = .ok (.iload_n 1, 1) := by decide +kernel
theorem dX8_allows_27 : decode cX8_allows 27 = .ok (.iload_n 3, 1) := by decide +kernel
theorem dX8_allows_28 : decode cX8_allows 28 = .ok (.invokevirtual 78, 3) := by decide +kernel
theorem dX8_allows_31 : decode cX8_allows 31 = .ok (.ifCond .ne 25, 3) := by decide +kernel
theorem dX8_allows_34 : decode cX8_allows 34 = .ok (.aload_n 0, 1) := by decide +kernel
theorem dX8_allows_35 : decode cX8_allows 35 = .ok (.iload_n 1, 1) := by decide +kernel
theorem dX8_allows_36 : decode cX8_allows 36 = .ok (.iload_n 3, 1) := by decide +kernel
theorem dX8_allows_37 : decode cX8_allows 37 = .ok (.invokevirtual 82, 3) := by decide +kernel
theorem dX8_allows_40 : decode cX8_allows 40 = .ok (.ifCond .ne 16, 3) := by decide +kernel
theorem dX8_allows_43 : decode cX8_allows 43 = .ok (.aload_n 0, 1) := by decide +kernel
theorem dX8_allows_44 : decode cX8_allows 44 = .ok (.iload_n 2, 1) := by decide +kernel
theorem dX8_allows_45 : decode cX8_allows 45 = .ok (.iload_n 3, 1) := by decide +kernel
theorem dX8_allows_46 : decode cX8_allows 46 = .ok (.invokevirtual 78, 3) := by decide +kernel
theorem dX8_allows_49 : decode cX8_allows 49 = .ok (.ifCond .ne 7, 3) := by decide +kernel
theorem dX8_allows_52 : decode cX8_allows 52 = .ok (.iconst 1, 1) := by decide +kernel
theorem dX8_allows_53 : decode cX8_allows 53 = .ok (.goto 4, 3) := by decide +kernel
theorem dX8_allows_56 : decode cX8_allows 56 = .ok (.iconst 0, 1) := by decide +kernel
theorem dX8_allows_57 : decode cX8_allows 57 = .ok (.ireturn, 1) := by decide +kernel
theorem dX8_ladders_0 : decode cX8_ladders 0 = .ok (.iconst 0, 1) := by decide +kernel
theorem dX8_ladders_1 : decode cX8_ladders 1 = .ok (.istore_n 1, 1) := by decide +kernel
theorem dX8_ladders_2 : decode cX8_ladders 2 = .ok (.iconst 0, 1) := by decide +kernel
theorem dX8_ladders_3 : decode cX8_ladders 3 = .ok (.istore_n 2, 1) := by decide +kernel
theorem dX8_ladders_4 : decode cX8_ladders 4 = .ok (.iload_n 2, 1) := by decide +kernel
theorem dX8_ladders_5 : decode cX8_ladders 5 = .ok (.aload_n 0, 1) := by decide +kernel
theorem dX8_ladders_6 : decode cX8_ladders 6 = .ok (.getfield 15, 3) := by decide +kernel
theorem dX8_ladders_9 : decode cX8_ladders 9 = .ok (.if_icmp .ge 25, 3) := by decide +kernel
theorem dX8_ladders_12 : decode cX8_ladders 12 = .ok (.aload_n 0, 1) := by decide +kernel
theorem dX8_ladders_13 : decode cX8_ladders 13 = .ok (.iload_n 2, 1) := by decide +kernel
theorem dX8_ladders_14 : decode cX8_ladders 14 = .ok (.invokevirtual 85, 3) := by decide +kernel
theorem dX8_ladders_17 : decode cX8_ladders 17 = .ok (.aload_n 0, 1) := by decide +kernel
theorem dX8_ladders_18 : decode cX8_ladders 18 = .ok (.iload_n 2, 1) := by decide +kernel
theorem dX8_ladders_19 : decode cX8_ladders 19 = .ok (.invokevirtual 89, 3) := by decide +kernel
theorem dX8_ladders_22 : decode cX8_ladders 22 = .ok (.if_icmp .le 6, 3) := by decide +kernel
theorem dX8_ladders_25 : decode cX8_ladders 25 = .ok (.iinc 1 1, 3) := by decide +kernel
theorem dX8_ladders_28 : decode cX8_ladders 28 = .ok (.iinc 2 1, 3) := by decide +kernel
theorem dX8_ladders_31 : decode cX8_ladders 31 = .ok (.goto (-27), 3) := by decide +kernel
theorem dX8_ladders_34 : decode cX8_ladders 34 = .ok (.iload_n 1, 1) := by decide +kernel
theorem dX8_ladders_35 : decode cX8_ladders 35 = .ok (.ireturn, 1) := by decide +kernel
theorem dX8_playersOn_0 : decode cX8_playersOn 0 = .ok (.iconst 0, 1) := by decide +kernel
theorem dX8_playersOn_1 : decode cX8_playersOn 1 = .ok (.istore_n 2, 1) := by decide +kernel
theorem dX8_playersOn_2 : decode cX8_playersOn 2 = .ok (.iconst 0, 1) := by decide +kernel
theorem dX8_playersOn_3 : decode cX8_playersOn 3 = .ok (.istore_n 3, 1) := by decide +kernel
theorem dX8_playersOn_4 : decode cX8_playersOn 4 = .ok (.iload_n 3, 1) := by decide +kernel
theorem dX8_playersOn_5 : decode cX8_playersOn 5 = .ok (.aload_n 0, 1) := by decide +kernel
theorem dX8_playersOn_6 : decode cX8_playersOn 6 = .ok (.getfield 21, 3) := by decide +kernel
theorem dX8_playersOn_9 : decode cX8_playersOn 9 = .ok (.if_icmp .ge 21, 3) := by decide +kernel
theorem dX8_playersOn_12 : decode cX8_playersOn 12 = .ok (.aload_n 0, 1) := by decide +kernel
theorem dX8_playersOn_13 : decode cX8_playersOn 13 = .ok (.iload_n 3, 1) := by decide +kernel
theorem dX8_playersOn_14 : decode cX8_playersOn 14 = .ok (.invokevirtual 92, 3) := by decide +kernel
theorem dX8_playersOn_17 : decode cX8_playersOn 17 = .ok (.iload_n 1, 1) := by decide +kernel
theorem dX8_playersOn_18 : decode cX8_playersOn 18 = .ok (.if_icmp .ne 6, 3) := by decide +kernel
theorem dX8_playersOn_21 : decode cX8_playersOn 21 = .ok (.iinc 2 1, 3) := by decide +kernel
theorem dX8_playersOn_24 : decode cX8_playersOn 24 = .ok (.iinc 3 1, 3) := by decide +kernel
theorem dX8_playersOn_27 : decode cX8_playersOn 27 = .ok (.goto (-23), 3) := by decide +kernel
theorem dX8_playersOn_30 : decode cX8_playersOn 30 = .ok (.iload_n 2, 1) := by decide +kernel
theorem dX8_playersOn_31 : decode cX8_playersOn 31 = .ok (.ireturn, 1) := by decide +kernel
theorem dX8_rankOf_0 : decode cX8_rankOf 0 = .ok (.iconst 1, 1) := by decide +kernel
theorem dX8_rankOf_1 : decode cX8_rankOf 1 = .ok (.istore_n 2, 1) := by decide +kernel
theorem dX8_rankOf_2 : decode cX8_rankOf 2 = .ok (.iconst 0, 1) := by decide +kernel
theorem dX8_rankOf_3 : decode cX8_rankOf 3 = .ok (.istore_n 3, 1) := by decide +kernel
theorem dX8_rankOf_4 : decode cX8_rankOf 4 = .ok (.iload_n 3, 1) := by decide +kernel
theorem dX8_rankOf_5 : decode cX8_rankOf 5 = .ok (.aload_n 0, 1) := by decide +kernel
theorem dX8_rankOf_6 : decode cX8_rankOf 6 = .ok (.getfield 21, 3) := by decide +kernel
theorem dX8_rankOf_9 : decode cX8_rankOf 9 = .ok (.if_icmp .ge 75, 3) := by decide +kernel
theorem dX8_rankOf_12 : decode cX8_rankOf 12 = .ok (.aload_n 0, 1) := by decide +kernel
theorem dX8_rankOf_13 : decode cX8_rankOf 13 = .ok (.iload_n 3, 1) := by decide +kernel
theorem dX8_rankOf_14 : decode cX8_rankOf 14 = .ok (.invokevirtual 92, 3) := by decide +kernel
theorem dX8_rankOf_17 : decode cX8_rankOf 17 = .ok (.aload_n 0, 1) := by decide +kernel
theorem dX8_rankOf_18 : decode cX8_rankOf 18 = .ok (.iload_n 1, 1) := by decide +kernel
theorem dX8_rankOf_19 : decode cX8_rankOf 19 = .ok (.invokevirtual 92, 3) := by decide +kernel
theorem dX8_rankOf_22 : decode cX8_rankOf 22 = .ok (.if_icmp .le 7, 3) := by decide +kernel
theorem dX8_rankOf_25 : decode cX8_rankOf 25 = .ok (.iconst 1, 1) := by decide +kernel
theorem dX8_rankOf_26 : decode cX8_rankOf 26 = .ok (.goto 4, 3) := by decide +kernel
theorem dX8_rankOf_29 : decode cX8_rankOf 29 = .ok (.iconst 0, 1) := by decide +kernel
theorem dX8_rankOf_30 : decode cX8_rankOf 30 = .ok (.istore 4, 2) := by decide +kernel
theorem dX8_rankOf_32 : decode cX8_rankOf 32 = .ok (.aload_n 0, 1) := by decide +kernel
theorem dX8_rankOf_33 : decode cX8_rankOf 33 = .ok (.iload_n 3, 1) := by decide +kernel
theorem dX8_rankOf_34 : decode cX8_rankOf 34 = .ok (.invokevirtual 92, 3) := by decide +kernel
theorem dX8_rankOf_37 : decode cX8_rankOf 37 = .ok (.aload_n 0, 1) := by decide +kernel
theorem dX8_rankOf_38 : decode cX8_rankOf 38 = .ok (.iload_n 1, 1) := by decide +kernel
theorem dX8_rankOf_39 : decode cX8_rankOf 39 = .ok (.invokevirtual 92, 3) := by decide +kernel
theorem dX8_rankOf_42 : decode cX8_rankOf 42 = .ok (.if_icmp .ne 20, 3) := by decide +kernel
theorem dX8_rankOf_45 : decode cX8_rankOf 45 = .ok (.aload_n 0, 1) := by decide +kernel
theorem dX8_rankOf_46 : decode cX8_rankOf 46 = .ok (.iload_n 3, 1) := by decide +kernel
theorem dX8_rankOf_47 : decode cX8_rankOf 47 = .ok (.invokevirtual 95, 3) := by decide +kernel
theorem dX8_rankOf_50 : decode cX8_rankOf 50 = .ok (.aload_n 0, 1) := by decide +kernel
theorem dX8_rankOf_51 : decode cX8_rankOf 51 = .ok (.iload_n 1, 1) := by decide +kernel
theorem dX8_rankOf_52 : decode cX8_rankOf 52 = .ok (.invokevirtual 95, 3) := by decide +kernel
theorem dX8_rankOf_55 : decode cX8_rankOf 55 = .ok (.if_icmp .ge 7, 3) := by decide +kernel
theorem dX8_rankOf_58 : decode cX8_rankOf 58 = .ok (.iconst 1, 1) := by decide +kernel
theorem dX8_rankOf_59 : decode cX8_rankOf 59 = .ok (.goto 4, 3) := by decide +kernel
theorem dX8_rankOf_62 : decode cX8_rankOf 62 = .ok (.iconst 0, 1) := by decide +kernel
theorem dX8_rankOf_63 : decode cX8_rankOf 63 = .ok (.istore 5, 2) := by decide +kernel
theorem dX8_rankOf_65 : decode cX8_rankOf 65 = .ok (.iload 4, 2) := by decide +kernel
theorem dX8_rankOf_67 : decode cX8_rankOf 67 = .ok (.ifCond .ne 8, 3) := by decide +kernel
theorem dX8_rankOf_70 : decode cX8_rankOf 70 = .ok (.iload 5, 2) := by decide +kernel
theorem dX8_rankOf_72 : decode cX8_rankOf 72 = .ok (.ifCond .eq 6, 3) := by decide +kernel
theorem dX8_rankOf_75 : decode cX8_rankOf 75 = .ok (.iinc 2 1, 3) := by decide +kernel
theorem dX8_rankOf_78 : decode cX8_rankOf 78 = .ok (.iinc 3 1, 3) := by decide +kernel
theorem dX8_rankOf_81 : decode cX8_rankOf 81 = .ok (.goto (-77), 3) := by decide +kernel
theorem dX8_rankOf_84 : decode cX8_rankOf 84 = .ok (.iload_n 2, 1) := by decide +kernel
theorem dX8_rankOf_85 : decode cX8_rankOf 85 = .ok (.ireturn, 1) := by decide +kernel
theorem dX8_landing_0 : decode cX8_landing 0 = .ok (.iload_n 1, 1) := by decide +kernel
theorem dX8_landing_1 : decode cX8_landing 1 = .ok (.iload_n 2, 1) := by decide +kernel
theorem dX8_landing_2 : decode cX8_landing 2 = .ok (.iadd, 1) := by decide +kernel
theorem dX8_landing_3 : decode cX8_landing 3 = .ok (.istore_n 3, 1) := by decide +kernel
theorem dX8_landing_4 : decode cX8_landing 4 = .ok (.iload_n 3, 1) := by decide +kernel
theorem dX8_landing_5 : decode cX8_landing 5 = .ok (.aload_n 0, 1) := by decide +kernel
theorem dX8_landing_6 : decode cX8_landing 6 = .ok (.getfield 9, 3) := by decide +kernel
theorem dX8_landing_9 : decode cX8_landing 9 = .ok (.if_icmp .le 45, 3) := by decide +kernel
theorem dX8_landing_12 : decode cX8_landing 12 = .ok (.aload_n 0, 1) := by decide +kernel
theorem dX8_landing_13 : decode cX8_landing 13 = .ok (.getfield 51, 3) := by decide +kernel
theorem dX8_landing_16 : decode cX8_landing 16 = .ok (.iconst 0, 1) := by decide +kernel
theorem dX8_landing_17 : decode cX8_landing 17 = .ok (.invokestatic 70, 3) := by decide +kernel
theorem dX8_landing_20 : decode cX8_landing 20 = .ok (.istore 4, 2) := by decide +kernel
theorem dX8_landing_22 : decode cX8_landing 22 = .ok (.iload 4, 2) := by decide +kernel
theorem dX8_landing_24 : decode cX8_landing 24 = .ok (.ifCond .ne 5, 3) := by decide +kernel
theorem dX8_landing_27 : decode cX8_landing 27 = .ok (.iload_n 1, 1) := by decide +kernel
theorem dX8_landing_28 : decode cX8_landing 28 = .ok (.ireturn, 1) := by decide +kernel
theorem dX8_landing_29 : decode cX8_landing 29 = .ok (.iload 4, 2) := by decide +kernel
theorem dX8_landing_31 : decode cX8_landing 31 = .ok (.iconst 1, 1) := by decide +kernel
theorem dX8_landing_32 : decode cX8_landing 32 = .ok (.if_icmp .ne 17, 3) := by decide +kernel
theorem dX8_landing_35 : decode cX8_landing 35 = .ok (.aload_n 0, 1) := by decide +kernel
theorem dX8_landing_36 : decode cX8_landing 36 = .ok (.getfield 9, 3) := by decide +kernel
theorem dX8_landing_39 : decode cX8_landing 39 = .ok (.iload_n 3, 1) := by decide +kernel
theorem dX8_landing_40 : decode cX8_landing 40 = .ok (.aload_n 0, 1) := by decide +kernel
theorem dX8_landing_41 : decode cX8_landing 41 = .ok (.getfield 9, 3) := by decide +kernel
theorem dX8_landing_44 : decode cX8_landing 44 = .ok (.isub, 1) := by decide +kernel
theorem dX8_landing_45 : decode cX8_landing 45 = .ok (.isub, 1) := by decide +kernel
theorem dX8_landing_46 : decode cX8_landing 46 = .ok (.goto 7, 3) := by decide +kernel
theorem dX8_landing_49 : decode cX8_landing 49 = .ok (.aload_n 0, 1) := by decide +kernel
theorem dX8_landing_50 : decode cX8_landing 50 = .ok (.getfield 9, 3) := by decide +kernel
theorem dX8_landing_53 : decode cX8_landing 53 = .ok (.istore_n 3, 1) := by decide +kernel
theorem dX8_landing_54 : decode cX8_landing 54 = .ok (.aload_n 0, 1) := by decide +kernel
theorem dX8_landing_55 : decode cX8_landing 55 = .ok (.iload_n 3, 1) := by decide +kernel
theorem dX8_landing_56 : decode cX8_landing 56 = .ok (.invokevirtual 98, 3) := by decide +kernel
theorem dX8_landing_59 : decode cX8_landing 59 = .ok (.istore 4, 2) := by decide +kernel
theorem dX8_landing_61 : decode cX8_landing 61 = .ok (.iload 4, 2) := by decide +kernel
theorem dX8_landing_63 : decode cX8_landing 63 = .ok (.iconst (-1), 1) := by decide +kernel
theorem dX8_landing_64 : decode cX8_landing 64 = .ok (.if_icmp .ne 7, 3) := by decide +kernel
theorem dX8_landing_67 : decode cX8_landing 67 = .ok (.iload_n 3, 1) := by decide +kernel
theorem dX8_landing_68 : decode cX8_landing 68 = .ok (.goto 5, 3) := by decide +kernel
theorem dX8_landing_71 : decode cX8_landing 71 = .ok (.iload 4, 2) := by decide +kernel
theorem dX8_landing_73 : decode cX8_landing 73 = .ok (.ireturn, 1) := by decide +kernel
theorem dX8_takeDie_0 : decode cX8_takeDie 0 = .ok (.aload_n 0, 1) := by decide +kernel
theorem dX8_takeDie_1 : decode cX8_takeDie 1 = .ok (.getfield 45, 3) := by decide +kernel
theorem dX8_takeDie_4 : decode cX8_takeDie 4 = .ok (.iload_n 1, 1) := by decide +kernel
theorem dX8_takeDie_5 : decode cX8_takeDie 5 = .ok (.iload_n 3, 1) := by decide +kernel
theorem dX8_takeDie_6 : decode cX8_takeDie 6 = .ok (.invokestatic 60, 3) := by decide +kernel
theorem dX8_takeDie_9 : decode cX8_takeDie 9 = .ok (.iconst 0, 1) := by decide +kernel
theorem dX8_takeDie_10 : decode cX8_takeDie 10 = .ok (.istore 4, 2) := by decide +kernel
theorem dX8_takeDie_12 : decode cX8_takeDie 12 = .ok (.iload 4, 2) := by decide +kernel
theorem dX8_takeDie_14 : decode cX8_takeDie 14 = .ok (.iload_n 3, 1) := by decide +kernel
theorem dX8_takeDie_15 : decode cX8_takeDie 15 = .ok (.if_icmp .ge 39, 3) := by decide +kernel
theorem dX8_takeDie_18 : decode cX8_takeDie 18 = .ok (.iload 4, 2) := by decide +kernel
theorem dX8_takeDie_20 : decode cX8_takeDie 20 = .ok (.bipush 6, 2) := by decide +kernel
theorem dX8_takeDie_22 : decode cX8_takeDie 22 = .ok (.if_icmp .ge 32, 3) := by decide +kernel
theorem dX8_takeDie_25 : decode cX8_takeDie 25 = .ok (.aload_n 0, 1) := by decide +kernel
theorem dX8_takeDie_26 : decode cX8_takeDie 26 = .ok (.getfield 42, 3) := by decide +kernel
theorem dX8_takeDie_29 : decode cX8_takeDie 29 = .ok (.iload_n 1, 1) := by decide +kernel
theorem dX8_takeDie_30 : decode cX8_takeDie 30 = .ok (.bipush 6, 2) := by decide +kernel
theorem dX8_takeDie_32 : decode cX8_takeDie 32 = .ok (.imul, 1) := by decide +kernel
theorem dX8_takeDie_33 : decode cX8_takeDie 33 = .ok (.iload 4, 2) := by decide +kernel
theorem dX8_takeDie_35 : decode cX8_takeDie 35 = .ok (.iadd, 1) := by decide +kernel
theorem dX8_takeDie_36 : decode cX8_takeDie 36 = .ok (.aload_n 2, 1) := by decide +kernel
theorem dX8_takeDie_37 : decode cX8_takeDie 37 = .ok (.iload 4, 2) := by decide +kernel
theorem dX8_takeDie_39 : decode cX8_takeDie 39 = .ok (.invokestatic 70, 3) := by decide +kernel
theorem dX8_takeDie_42 : decode cX8_takeDie 42 = .ok (.bipush 48, 2) := by decide +kernel
theorem dX8_takeDie_44 : decode cX8_takeDie 44 = .ok (.isub, 1) := by decide +kernel
theorem dX8_takeDie_45 : decode cX8_takeDie 45 = .ok (.invokestatic 60, 3) := by decide +kernel
theorem dX8_takeDie_48 : decode cX8_takeDie 48 = .ok (.iinc 4 1, 3) := by decide +kernel
theorem dX8_takeDie_51 : decode cX8_takeDie 51 = .ok (.goto (-39), 3) := by decide +kernel
theorem dX8_takeDie_54 : decode cX8_takeDie 54 = .ok (.return_, 1) := by decide +kernel
theorem dX8_takeOrder_0 : decode cX8_takeOrder 0 = .ok (.aload_n 0, 1) := by decide +kernel
theorem dX8_takeOrder_1 : decode cX8_takeOrder 1 = .ok (.iconst 0, 1) := by decide +kernel
theorem dX8_takeOrder_2 : decode cX8_takeOrder 2 = .ok (.putfield 18, 3) := by decide +kernel
theorem dX8_takeOrder_5 : decode cX8_takeOrder 5 = .ok (.aload_n 0, 1) := by decide +kernel
theorem dX8_takeOrder_6 : decode cX8_takeOrder 6 = .ok (.iload_n 1, 1) := by decide +kernel
theorem dX8_takeOrder_7 : decode cX8_takeOrder 7 = .ok (.invokevirtual 115, 3) := by decide +kernel
theorem dX8_takeOrder_10 : decode cX8_takeOrder 10 = .ok (.aload_n 0, 1) := by decide +kernel
theorem dX8_takeOrder_11 : decode cX8_takeOrder 11 = .ok (.iload_n 2, 1) := by decide +kernel
theorem dX8_takeOrder_12 : decode cX8_takeOrder 12 = .ok (.invokevirtual 115, 3) := by decide +kernel
theorem dX8_takeOrder_15 : decode cX8_takeOrder 15 = .ok (.aload_n 0, 1) := by decide +kernel
theorem dX8_takeOrder_16 : decode cX8_takeOrder 16 = .ok (.iload_n 3, 1) := by decide +kernel
theorem dX8_takeOrder_17 : decode cX8_takeOrder 17 = .ok (.invokevirtual 115, 3) := by decide +kernel
theorem dX8_takeOrder_20 : decode cX8_takeOrder 20 = .ok (.aload_n 0, 1) := by decide +kernel
theorem dX8_takeOrder_21 : decode cX8_takeOrder 21 = .ok (.iload 4, 2) := by decide +kernel
theorem dX8_takeOrder_23 : decode cX8_takeOrder 23 = .ok (.invokevirtual 115, 3) := by decide +kernel
theorem dX8_takeOrder_26 : decode cX8_takeOrder 26 = .ok (.return_, 1) := by decide +kernel
theorem dX8_appendToOrder_0 : decode cX8_appendToOrder 0 = .ok (.iload_n 1, 1) := by decide +kernel
theorem dX8_appendToOrder_1 : decode cX8_appendToOrder 1 = .ok (.iconst (-1), 1) := by decide +kernel
theorem dX8_appendToOrder_2 : decode cX8_appendToOrder 2 = .ok (.if_icmp .eq 25, 3) := by decide +kernel
theorem dX8_appendToOrder_5 : decode cX8_appendToOrder 5 = .ok (.aload_n 0, 1) := by decide +kernel
theorem dX8_appendToOrder_6 : decode cX8_appendToOrder 6 = .ok (.getfield 48, 3) := by decide +kernel
theorem dX8_appendToOrder_9 : decode cX8_appendToOrder 9 = .ok (.aload_n 0, 1) := by decide +kernel
theorem dX8_appendToOrder_10 : decode cX8_appendToOrder 10 = .ok (.getfield 18, 3) := by decide +kernel
theorem dX8_appendToOrder_13 : decode cX8_appendToOrder 13 = .ok (.iload_n 1, 1) := by decide +kernel
theorem dX8_appendToOrder_14 : decode cX8_appendToOrder 14 = .ok (.invokestatic 60, 3) := by decide +kernel
theorem dX8_appendToOrder_17 : decode cX8_appendToOrder 17 = .ok (.aload_n 0, 1) := by decide +kernel
theorem dX8_appendToOrder_18 : decode cX8_appendToOrder 18 = .ok (.dup, 1) := by decide +kernel
theorem dX8_appendToOrder_19 : decode cX8_appendToOrder 19 = .ok (.getfield 18, 3) := by decide +kernel
theorem dX8_appendToOrder_22 : decode cX8_appendToOrder 22 = .ok (.iconst 1, 1) := by decide +kernel
theorem dX8_appendToOrder_23 : decode cX8_appendToOrder 23 = .ok (.iadd, 1) := by decide +kernel
theorem dX8_appendToOrder_24 : decode cX8_appendToOrder 24 = .ok (.putfield 18, 3) := by decide +kernel
theorem dX8_appendToOrder_27 : decode cX8_appendToOrder 27 = .ok (.return_, 1) := by decide +kernel
theorem dX8_addLink_0 : decode cX8_addLink 0 = .ok (.aload_n 0, 1) := by decide +kernel
theorem dX8_addLink_1 : decode cX8_addLink 1 = .ok (.getfield 35, 3) := by decide +kernel
theorem dX8_addLink_4 : decode cX8_addLink 4 = .ok (.aload_n 0, 1) := by decide +kernel
theorem dX8_addLink_5 : decode cX8_addLink 5 = .ok (.getfield 15, 3) := by decide +kernel
theorem dX8_addLink_8 : decode cX8_addLink 8 = .ok (.iload_n 1, 1) := by decide +kernel
theorem dX8_addLink_9 : decode cX8_addLink 9 = .ok (.invokestatic 60, 3) := by decide +kernel
theorem dX8_addLink_12 : decode cX8_addLink 12 = .ok (.aload_n 0, 1) := by decide +kernel
theorem dX8_addLink_13 : decode cX8_addLink 13 = .ok (.getfield 39, 3) := by decide +kernel
theorem dX8_addLink_16 : decode cX8_addLink 16 = .ok (.aload_n 0, 1) := by decide +kernel
theorem dX8_addLink_17 : decode cX8_addLink 17 = .ok (.getfield 15, 3) := by decide +kernel
theorem dX8_addLink_20 : decode cX8_addLink 20 = .ok (.iload_n 2, 1) := by decide +kernel
theorem dX8_addLink_21 : decode cX8_addLink 21 = .ok (.invokestatic 60, 3) := by decide +kernel
theorem dX8_addLink_24 : decode cX8_addLink 24 = .ok (.aload_n 0, 1) := by decide +kernel
theorem dX8_addLink_25 : decode cX8_addLink 25 = .ok (.dup, 1) := by decide +kernel
theorem dX8_addLink_26 : decode cX8_addLink 26 = .ok (.getfield 15, 3) := by decide +kernel
theorem dX8_addLink_29 : decode cX8_addLink 29 = .ok (.iconst 1, 1) := by decide +kernel
theorem dX8_addLink_30 : decode cX8_addLink 30 = .ok (.iadd, 1) := by decide +kernel
theorem dX8_addLink_31 : decode cX8_addLink 31 = .ok (.putfield 15, 3) := by decide +kernel
theorem dX8_addLink_34 : decode cX8_addLink 34 = .ok (.return_, 1) := by decide +kernel
theorem dX8_dropLink_0 : decode cX8_dropLink 0 = .ok (.iload_n 1, 1) := by decide +kernel
theorem dX8_dropLink_1 : decode cX8_dropLink 1 = .ok (.istore_n 2, 1) := by decide +kernel
theorem dX8_dropLink_2 : decode cX8_dropLink 2 = .ok (.iload_n 2, 1) := by decide +kernel
theorem dX8_dropLink_3 : decode cX8_dropLink 3 = .ok (.aload_n 0, 1) := by decide +kernel
theorem dX8_dropLink_4 : decode cX8_dropLink 4 = .ok (.getfield 15, 3) := by decide +kernel
theorem dX8_dropLink_7 : decode cX8_dropLink 7 = .ok (.iconst 1, 1) := by decide +kernel
theorem dX8_dropLink_8 : decode cX8_dropLink 8 = .ok (.isub, 1) := by decide +kernel
theorem dX8_dropLink_9 : decode cX8_dropLink 9 = .ok (.if_icmp .ge 39, 3) := by decide +kernel
theorem dX8_dropLink_12 : decode cX8_dropLink 12 = .ok (.aload_n 0, 1) := by decide +kernel
theorem dX8_dropLink_13 : decode cX8_dropLink 13 = .ok (.getfield 35, 3) := by decide +kernel
theorem dX8_dropLink_16 : decode cX8_dropLink 16 = .ok (.iload_n 2, 1) := by decide +kernel
theorem dX8_dropLink_17 : decode cX8_dropLink 17 = .ok (.aload_n 0, 1) := by decide +kernel
theorem dX8_dropLink_18 : decode cX8_dropLink 18 = .ok (.iload_n 2, 1) := by decide +kernel
theorem dX8_dropLink_19 : decode cX8_dropLink 19 = .ok (.iconst 1, 1) := by decide +kernel
theorem dX8_dropLink_20 : decode cX8_dropLink 20 = .ok (.iadd, 1) := by decide +kernel
theorem dX8_dropLink_21 : decode cX8_dropLink 21 = .ok (.invokevirtual 89, 3) := by decide +kernel
theorem dX8_dropLink_24 : decode cX8_dropLink 24 = .ok (.invokestatic 60, 3) := by decide +kernel
theorem dX8_dropLink_27 : decode cX8_dropLink 27 = .ok (.aload_n 0, 1) := by decide +kernel
theorem dX8_dropLink_28 : decode cX8_dropLink 28 = .ok (.getfield 39, 3) := by decide +kernel
theorem dX8_dropLink_31 : decode cX8_dropLink 31 = .ok (.iload_n 2, 1) := by decide +kernel
theorem dX8_dropLink_32 : decode cX8_dropLink 32 = .ok (.aload_n 0, 1) := by decide +kernel
theorem dX8_dropLink_33 : decode cX8_dropLink 33 = .ok (.iload_n 2, 1) := by decide +kernel
theorem dX8_dropLink_34 : decode cX8_dropLink 34 = .ok (.iconst 1, 1) := by decide +kernel
theorem dX8_dropLink_35 : decode cX8_dropLink 35 = .ok (.iadd, 1) := by decide +kernel
theorem dX8_dropLink_36 : decode cX8_dropLink 36 = .ok (.invokevirtual 85, 3) := by decide +kernel
theorem dX8_dropLink_39 : decode cX8_dropLink 39 = .ok (.invokestatic 60, 3) := by decide +kernel
theorem dX8_dropLink_42 : decode cX8_dropLink 42 = .ok (.iinc 2 1, 3) := by decide +kernel
theorem dX8_dropLink_45 : decode cX8_dropLink 45 = .ok (.goto (-43), 3) := by decide +kernel
theorem dX8_dropLink_48 : decode cX8_dropLink 48 = .ok (.aload_n 0, 1) := by decide +kernel
theorem dX8_dropLink_49 : decode cX8_dropLink 49 = .ok (.dup, 1) := by decide +kernel
theorem dX8_dropLink_50 : decode cX8_dropLink 50 = .ok (.getfield 15, 3) := by decide +kernel
theorem dX8_dropLink_53 : decode cX8_dropLink 53 = .ok (.iconst 1, 1) := by decide +kernel
theorem dX8_dropLink_54 : decode cX8_dropLink 54 = .ok (.isub, 1) := by decide +kernel
theorem dX8_dropLink_55 : decode cX8_dropLink 55 = .ok (.putfield 15, 3) := by decide +kernel
theorem dX8_dropLink_58 : decode cX8_dropLink 58 = .ok (.return_, 1) := by decide +kernel
theorem dX8_moveBegin_0 : decode cX8_moveBegin 0 = .ok (.aload_n 0, 1) := by decide +kernel
theorem dX8_moveBegin_1 : decode cX8_moveBegin 1 = .ok (.getfield 35, 3) := by decide +kernel
theorem dX8_moveBegin_4 : decode cX8_moveBegin 4 = .ok (.iload_n 1, 1) := by decide +kernel
theorem dX8_moveBegin_5 : decode cX8_moveBegin 5 = .ok (.iload_n 2, 1) := by decide +kernel
theorem dX8_moveBegin_6 : decode cX8_moveBegin 6 = .ok (.invokestatic 60, 3) := by decide +kernel
theorem dX8_moveBegin_9 : decode cX8_moveBegin 9 = .ok (.return_, 1) := by decide +kernel
theorem dX8_takeSetting_0 : decode cX8_takeSetting 0 = .ok (.aload_n 0, 1) := by decide +kernel
theorem dX8_takeSetting_1 : decode cX8_takeSetting 1 = .ok (.getfield 51, 3) := by decide +kernel
theorem dX8_takeSetting_4 : decode cX8_takeSetting 4 = .ok (.iload_n 1, 1) := by decide +kernel
theorem dX8_takeSetting_5 : decode cX8_takeSetting 5 = .ok (.iload_n 2, 1) := by decide +kernel
theorem dX8_takeSetting_6 : decode cX8_takeSetting 6 = .ok (.invokestatic 60, 3) := by decide +kernel
theorem dX8_takeSetting_9 : decode cX8_takeSetting 9 = .ok (.return_, 1) := by decide +kernel
theorem dX8_promisedThousandths_0 : decode cX8_promisedThousandths 0 = .ok (.aload_n 0, 1) := by decide +kernel
theorem dX8_promisedThousandths_1 : decode cX8_promisedThousandths 1 = .ok (.getfield 24, 3) := by decide +kernel
theorem dX8_promisedThousandths_4 : decode cX8_promisedThousandths 4 = .ok (.ifCond .eq 12, 3) := by decide +kernel
theorem dX8_promisedThousandths_7 : decode cX8_promisedThousandths 7 = .ok (.aload_n 0, 1) := by decide +kernel
theorem dX8_promisedThousandths_8 : decode cX8_promisedThousandths 8 = .ok (.getfield 32, 3) := by decide +kernel
theorem dX8_promisedThousandths_11 : decode cX8_promisedThousandths 11 = .ok (.lconst 0, 1) := by decide +kernel
theorem dX8_promisedThousandths_12 : decode cX8_promisedThousandths 12 = .ok (.lcmp, 1) := by decide +kernel
theorem dX8_promisedThousandths_13 : decode cX8_promisedThousandths 13 = .ok (.ifCond .ne 5, 3) := by decide +kernel
theorem dX8_promisedThousandths_16 : decode cX8_promisedThousandths 16 = .ok (.iconst (-1), 1) := by decide +kernel
theorem dX8_promisedThousandths_17 : decode cX8_promisedThousandths 17 = .ok (.ireturn, 1) := by decide +kernel
theorem dX8_promisedThousandths_18 : decode cX8_promisedThousandths 18 = .ok (.aload_n 0, 1) := by decide +kernel
theorem dX8_promisedThousandths_19 : decode cX8_promisedThousandths 19 = .ok (.getfield 28, 3) := by decide +kernel
theorem dX8_promisedThousandths_22 : decode cX8_promisedThousandths 22 = .ok (.ldc2_w 119, 3) := by decide +kernel
theorem dX8_promisedThousandths_25 : decode cX8_promisedThousandths 25 = .ok (.lmul, 1) := by decide +kernel
theorem dX8_promisedThousandths_26 : decode cX8_promisedThousandths 26 = .ok (.aload_n 0, 1) := by decide +kernel
theorem dX8_promisedThousandths_27 : decode cX8_promisedThousandths 27 = .ok (.getfield 32, 3) := by decide +kernel
theorem dX8_promisedThousandths_30 : decode cX8_promisedThousandths 30 = .ok (.ldiv, 1) := by decide +kernel
theorem dX8_promisedThousandths_31 : decode cX8_promisedThousandths 31 = .ok (.l2i, 1) := by decide +kernel
theorem dX8_promisedThousandths_32 : decode cX8_promisedThousandths 32 = .ok (.ireturn, 1) := by decide +kernel
theorem dX8_isNearPromise_0 : decode cX8_isNearPromise 0 = .ok (.lload_n 1, 1) := by decide +kernel
theorem dX8_isNearPromise_1 : decode cX8_isNearPromise 1 = .ok (.aload_n 0, 1) := by decide +kernel
theorem dX8_isNearPromise_2 : decode cX8_isNearPromise 2 = .ok (.getfield 32, 3) := by decide +kernel
theorem dX8_isNearPromise_5 : decode cX8_isNearPromise 5 = .ok (.lmul, 1) := by decide +kernel
theorem dX8_isNearPromise_6 : decode cX8_isNearPromise 6 = .ok (.aload_n 0, 1) := by decide +kernel
theorem dX8_isNearPromise_7 : decode cX8_isNearPromise 7 = .ok (.getfield 28, 3) := by decide +kernel
theorem dX8_isNearPromise_10 : decode cX8_isNearPromise 10 = .ok (.lload_n 3, 1) := by decide +kernel
theorem dX8_isNearPromise_11 : decode cX8_isNearPromise 11 = .ok (.lmul, 1) := by decide +kernel
theorem dX8_isNearPromise_12 : decode cX8_isNearPromise 12 = .ok (.lsub, 1) := by decide +kernel
theorem dX8_isNearPromise_13 : decode cX8_isNearPromise 13 = .ok (.invokestatic 121, 3) := by decide +kernel
theorem dX8_isNearPromise_16 : decode cX8_isNearPromise 16 = .ok (.lstore 5, 2) := by decide +kernel
theorem dX8_isNearPromise_18 : decode cX8_isNearPromise 18 = .ok (.lload 5, 2) := by decide +kernel
theorem dX8_isNearPromise_20 : decode cX8_isNearPromise 20 = .ok (.ldc2_w 119, 3) := by decide +kernel
theorem dX8_isNearPromise_23 : decode cX8_isNearPromise 23 = .ok (.lmul, 1) := by decide +kernel
theorem dX8_isNearPromise_24 : decode cX8_isNearPromise 24 = .ok (.aload_n 0, 1) := by decide +kernel
theorem dX8_isNearPromise_25 : decode cX8_isNearPromise 25 = .ok (.iconst 2, 1) := by decide +kernel
theorem dX8_isNearPromise_26 : decode cX8_isNearPromise 26 = .ok (.invokevirtual 127, 3) := by decide +kernel
theorem dX8_isNearPromise_29 : decode cX8_isNearPromise 29 = .ok (.i2l, 1) := by decide +kernel
theorem dX8_isNearPromise_30 : decode cX8_isNearPromise 30 = .ok (.lload_n 3, 1) := by decide +kernel
theorem dX8_isNearPromise_31 : decode cX8_isNearPromise 31 = .ok (.lmul, 1) := by decide +kernel
theorem dX8_isNearPromise_32 : decode cX8_isNearPromise 32 = .ok (.aload_n 0, 1) := by decide +kernel
theorem dX8_isNearPromise_33 : decode cX8_isNearPromise 33 = .ok (.getfield 32, 3) := by decide +kernel
theorem dX8_isNearPromise_36 : decode cX8_isNearPromise 36 = .ok (.lmul, 1) := by decide +kernel
theorem dX8_isNearPromise_37 : decode cX8_isNearPromise 37 = .ok (.lcmp, 1) := by decide +kernel
theorem dX8_isNearPromise_38 : decode cX8_isNearPromise 38 = .ok (.ifCond .gt 7, 3) := by decide +kernel
theorem dX8_isNearPromise_41 : decode cX8_isNearPromise 41 = .ok (.iconst 1, 1) := by decide +kernel
theorem dX8_isNearPromise_42 : decode cX8_isNearPromise 42 = .ok (.goto 4, 3) := by decide +kernel
theorem dX8_isNearPromise_45 : decode cX8_isNearPromise 45 = .ok (.iconst 0, 1) := by decide +kernel
theorem dX8_isNearPromise_46 : decode cX8_isNearPromise 46 = .ok (.ireturn, 1) := by decide +kernel
theorem dX8_addPlayerOnStart_0 : decode cX8_addPlayerOnStart 0 = .ok (.aload_n 0, 1) := by decide +kernel
theorem dX8_addPlayerOnStart_1 : decode cX8_addPlayerOnStart 1 = .ok (.getfield 54, 3) := by decide +kernel
theorem dX8_addPlayerOnStart_4 : decode cX8_addPlayerOnStart 4 = .ok (.aload_n 0, 1) := by decide +kernel
theorem dX8_addPlayerOnStart_5 : decode cX8_addPlayerOnStart 5 = .ok (.getfield 21, 3) := by decide +kernel
theorem dX8_addPlayerOnStart_8 : decode cX8_addPlayerOnStart 8 = .ok (.iconst 0, 1) := by decide +kernel
theorem dX8_addPlayerOnStart_9 : decode cX8_addPlayerOnStart 9 = .ok (.invokestatic 60, 3) := by decide +kernel
theorem dX8_addPlayerOnStart_12 : decode cX8_addPlayerOnStart 12 = .ok (.aload_n 0, 1) := by decide +kernel
theorem dX8_addPlayerOnStart_13 : decode cX8_addPlayerOnStart 13 = .ok (.getfield 57, 3) := by decide +kernel
theorem dX8_addPlayerOnStart_16 : decode cX8_addPlayerOnStart 16 = .ok (.aload_n 0, 1) := by decide +kernel
theorem dX8_addPlayerOnStart_17 : decode cX8_addPlayerOnStart 17 = .ok (.getfield 21, 3) := by decide +kernel
theorem dX8_addPlayerOnStart_20 : decode cX8_addPlayerOnStart 20 = .ok (.iconst 0, 1) := by decide +kernel
theorem dX8_addPlayerOnStart_21 : decode cX8_addPlayerOnStart 21 = .ok (.invokestatic 60, 3) := by decide +kernel
theorem dX8_addPlayerOnStart_24 : decode cX8_addPlayerOnStart 24 = .ok (.aload_n 0, 1) := by decide +kernel
theorem dX8_addPlayerOnStart_25 : decode cX8_addPlayerOnStart 25 = .ok (.dup, 1) := by decide +kernel
theorem dX8_addPlayerOnStart_26 : decode cX8_addPlayerOnStart 26 = .ok (.getfield 21, 3) := by decide +kernel
theorem dX8_addPlayerOnStart_29 : decode cX8_addPlayerOnStart 29 = .ok (.iconst 1, 1) := by decide +kernel
theorem dX8_addPlayerOnStart_30 : decode cX8_addPlayerOnStart 30 = .ok (.iadd, 1) := by decide +kernel
theorem dX8_addPlayerOnStart_31 : decode cX8_addPlayerOnStart 31 = .ok (.putfield 21, 3) := by decide +kernel
theorem dX8_addPlayerOnStart_34 : decode cX8_addPlayerOnStart 34 = .ok (.return_, 1) := by decide +kernel
theorem dX8_movePlayer_0 : decode cX8_movePlayer 0 = .ok (.aload_n 0, 1) := by decide +kernel
theorem dX8_movePlayer_1 : decode cX8_movePlayer 1 = .ok (.getfield 54, 3) := by decide +kernel
theorem dX8_movePlayer_4 : decode cX8_movePlayer 4 = .ok (.iload_n 1, 1) := by decide +kernel
theorem dX8_movePlayer_5 : decode cX8_movePlayer 5 = .ok (.iload_n 2, 1) := by decide +kernel
theorem dX8_movePlayer_6 : decode cX8_movePlayer 6 = .ok (.invokestatic 60, 3) := by decide +kernel
theorem dX8_movePlayer_9 : decode cX8_movePlayer 9 = .ok (.aload_n 0, 1) := by decide +kernel
theorem dX8_movePlayer_10 : decode cX8_movePlayer 10 = .ok (.getfield 57, 3) := by decide +kernel
theorem dX8_movePlayer_13 : decode cX8_movePlayer 13 = .ok (.iload_n 1, 1) := by decide +kernel
theorem dX8_movePlayer_14 : decode cX8_movePlayer 14 = .ok (.aload_n 0, 1) := by decide +kernel
theorem dX8_movePlayer_15 : decode cX8_movePlayer 15 = .ok (.iload_n 1, 1) := by decide +kernel
theorem dX8_movePlayer_16 : decode cX8_movePlayer 16 = .ok (.invokevirtual 95, 3) := by decide +kernel
theorem dX8_movePlayer_19 : decode cX8_movePlayer 19 = .ok (.iconst 1, 1) := by decide +kernel
theorem dX8_movePlayer_20 : decode cX8_movePlayer 20 = .ok (.iadd, 1) := by decide +kernel
theorem dX8_movePlayer_21 : decode cX8_movePlayer 21 = .ok (.invokestatic 60, 3) := by decide +kernel
theorem dX8_movePlayer_24 : decode cX8_movePlayer 24 = .ok (.return_, 1) := by decide +kernel
theorem dX9_init_0 : decode cX9_init 0 = .ok (.aload_n 0, 1) := by decide +kernel
theorem dX9_init_1 : decode cX9_init 1 = .ok (.invokespecial 3, 3) := by decide +kernel
theorem dX9_init_4 : decode cX9_init 4 = .ok (.aload_n 0, 1) := by decide +kernel
theorem dX9_init_5 : decode cX9_init 5 = .ok (.bipush 9, 2) := by decide +kernel
theorem dX9_init_7 : decode cX9_init 7 = .ok (.newarray .long, 2) := by decide +kernel
theorem dX9_init_9 : decode cX9_init 9 = .ok (.putfield 9, 3) := by decide +kernel
theorem dX9_init_12 : decode cX9_init 12 = .ok (.aload_n 0, 1) := by decide +kernel
theorem dX9_init_13 : decode cX9_init 13 = .ok (.sipush 369, 3) := by decide +kernel
theorem dX9_init_16 : decode cX9_init 16 = .ok (.newarray .long, 2) := by decide +kernel
theorem dX9_init_18 : decode cX9_init 18 = .ok (.putfield 15, 3) := by decide +kernel
theorem dX9_init_21 : decode cX9_init 21 = .ok (.return_, 1) := by decide +kernel
theorem dX9_build_0 : decode cX9_build 0 = .ok (.aload_n 0, 1) := by decide +kernel
theorem dX9_build_1 : decode cX9_build 1 = .ok (.getfield 9, 3) := by decide +kernel
theorem dX9_build_4 : decode cX9_build 4 = .ok (.iload_n 2, 1) := by decide +kernel
theorem dX9_build_5 : decode cX9_build 5 = .ok (.lconst 1, 1) := by decide +kernel
theorem dX9_build_6 : decode cX9_build 6 = .ok (.invokestatic 18, 3) := by decide +kernel
theorem dX9_build_9 : decode cX9_build 9 = .ok (.iconst 0, 1) := by decide +kernel
theorem dX9_build_10 : decode cX9_build 10 = .ok (.istore 7, 2) := by decide +kernel
theorem dX9_build_12 : decode cX9_build 12 = .ok (.iload 7, 2) := by decide +kernel
theorem dX9_build_14 : decode cX9_build 14 = .ok (.aload_n 1, 1) := by decide +kernel
theorem dX9_build_15 : decode cX9_build 15 = .ok (.getfield 24, 3) := by decide +kernel
theorem dX9_build_18 : decode cX9_build 18 = .ok (.if_icmp .ge 24, 3) := by decide +kernel
theorem dX9_build_21 : decode cX9_build 21 = .ok (.aload_n 0, 1) := by decide +kernel
theorem dX9_build_22 : decode cX9_build 22 = .ok (.getfield 15, 3) := by decide +kernel
theorem dX9_build_25 : decode cX9_build 25 = .ok (.iload_n 2, 1) := by decide +kernel
theorem dX9_build_26 : decode cX9_build 26 = .ok (.bipush 41, 2) := by decide +kernel
theorem dX9_build_28 : decode cX9_build 28 = .ok (.imul, 1) := by decide +kernel
theorem dX9_build_29 : decode cX9_build 29 = .ok (.iload 7, 2) := by decide +kernel
theorem dX9_build_31 : decode cX9_build 31 = .ok (.iadd, 1) := by decide +kernel
theorem dX9_build_32 : decode cX9_build 32 = .ok (.lload_n 3, 1) := by decide +kernel
theorem dX9_build_33 : decode cX9_build 33 = .ok (.invokestatic 18, 3) := by decide +kernel
theorem dX9_build_36 : decode cX9_build 36 = .ok (.iinc 7 1, 3) := by decide +kernel
theorem dX9_build_39 : decode cX9_build 39 = .ok (.goto (-27), 3) := by decide +kernel
theorem dX9_build_42 : decode cX9_build 42 = .ok (.aload_n 0, 1) := by decide +kernel
theorem dX9_build_43 : decode cX9_build 43 = .ok (.getfield 15, 3) := by decide +kernel
theorem dX9_build_46 : decode cX9_build 46 = .ok (.iload_n 2, 1) := by decide +kernel
theorem dX9_build_47 : decode cX9_build 47 = .ok (.bipush 41, 2) := by decide +kernel
theorem dX9_build_49 : decode cX9_build 49 = .ok (.imul, 1) := by decide +kernel
theorem dX9_build_50 : decode cX9_build 50 = .ok (.aload_n 1, 1) := by decide +kernel
theorem dX9_build_51 : decode cX9_build 51 = .ok (.getfield 24, 3) := by decide +kernel
theorem dX9_build_54 : decode cX9_build 54 = .ok (.iadd, 1) := by decide +kernel
theorem dX9_build_55 : decode cX9_build 55 = .ok (.lconst 0, 1) := by decide +kernel
theorem dX9_build_56 : decode cX9_build 56 = .ok (.invokestatic 18, 3) := by decide +kernel
theorem dX9_build_59 : decode cX9_build 59 = .ok (.iload_n 2, 1) := by decide +kernel
theorem dX9_build_60 : decode cX9_build 60 = .ok (.iconst 1, 1) := by decide +kernel
theorem dX9_build_61 : decode cX9_build 61 = .ok (.isub, 1) := by decide +kernel
theorem dX9_build_62 : decode cX9_build 62 = .ok (.istore 7, 2) := by decide +kernel
theorem dX9_build_64 : decode cX9_build 64 = .ok (.iload 7, 2) := by decide +kernel
theorem dX9_build_66 : decode cX9_build 66 = .ok (.ifCond .lt 18, 3) := by decide +kernel
theorem dX9_build_69 : decode cX9_build 69 = .ok (.aload_n 0, 1) := by decide +kernel
theorem dX9_build_70 : decode cX9_build 70 = .ok (.aload_n 1, 1) := by decide +kernel
theorem dX9_build_71 : decode cX9_build 71 = .ok (.iload 7, 2) := by decide +kernel
theorem dX9_build_73 : decode cX9_build 73 = .ok (.lload 5, 2) := by decide +kernel
theorem dX9_build_75 : decode cX9_build 75 = .ok (.invokevirtual 30, 3) := by decide +kernel
theorem dX9_build_78 : decode cX9_build 78 = .ok (.iinc 7 (-1), 3) := by decide +kernel
theorem dX9_build_81 : decode cX9_build 81 = .ok (.goto (-17), 3) := by decide +kernel
theorem dX9_build_84 : decode cX9_build 84 = .ok (.return_, 1) := by decide +kernel
theorem dX9_buildTurn_0 : decode cX9_buildTurn 0 = .ok (.aload_n 1, 1) := by decide +kernel
theorem dX9_buildTurn_1 : decode cX9_buildTurn 1 = .ok (.iload_n 2, 1) := by decide +kernel
theorem dX9_buildTurn_2 : decode cX9_buildTurn 2 = .ok (.invokevirtual 34, 3) := by decide +kernel
theorem dX9_buildTurn_5 : decode cX9_buildTurn 5 = .ok (.istore 5, 2) := by decide +kernel
theorem dX9_buildTurn_7 : decode cX9_buildTurn 7 = .ok (.aload_n 0, 1) := by decide +kernel
theorem dX9_buildTurn_8 : decode cX9_buildTurn 8 = .ok (.iload_n 2, 1) := by decide +kernel
theorem dX9_buildTurn_9 : decode cX9_buildTurn 9 = .ok (.iconst 1, 1) := by decide +kernel
theorem dX9_buildTurn_10 : decode cX9_buildTurn 10 = .ok (.iadd, 1) := by decide +kernel
theorem dX9_buildTurn_11 : decode cX9_buildTurn 11 = .ok (.invokevirtual 38, 3) := by decide +kernel
theorem dX9_buildTurn_14 : decode cX9_buildTurn 14 = .ok (.aload_n 1, 1) := by decide +kernel
theorem dX9_buildTurn_15 : decode cX9_buildTurn 15 = .ok (.iload 5, 2) := by decide +kernel
theorem dX9_buildTurn_17 : decode cX9_buildTurn 17 = .ok (.invokevirtual 42, 3) := by decide +kernel
theorem dX9_buildTurn_20 : decode cX9_buildTurn 20 = .ok (.i2l, 1) := by decide +kernel
theorem dX9_buildTurn_21 : decode cX9_buildTurn 21 = .ok (.lmul, 1) := by decide +kernel
theorem dX9_buildTurn_22 : decode cX9_buildTurn 22 = .ok (.lstore 6, 2) := by decide +kernel
theorem dX9_buildTurn_24 : decode cX9_buildTurn 24 = .ok (.iload_n 2, 1) := by decide +kernel
theorem dX9_buildTurn_25 : decode cX9_buildTurn 25 = .ok (.iconst 1, 1) := by decide +kernel
theorem dX9_buildTurn_26 : decode cX9_buildTurn 26 = .ok (.iadd, 1) := by decide +kernel
theorem dX9_buildTurn_27 : decode cX9_buildTurn 27 = .ok (.bipush 41, 2) := by decide +kernel
theorem dX9_buildTurn_29 : decode cX9_buildTurn 29 = .ok (.imul, 1) := by decide +kernel
theorem dX9_buildTurn_30 : decode cX9_buildTurn 30 = .ok (.istore 8, 2) := by decide +kernel
theorem dX9_buildTurn_32 : decode cX9_buildTurn 32 = .ok (.aload_n 0, 1) := by decide +kernel
theorem dX9_buildTurn_33 : decode cX9_buildTurn 33 = .ok (.getfield 9, 3) := by decide +kernel
theorem dX9_buildTurn_36 : decode cX9_buildTurn 36 = .ok (.iload_n 2, 1) := by decide +kernel
theorem dX9_buildTurn_37 : decode cX9_buildTurn 37 = .ok (.lload 6, 2) := by decide +kernel
theorem dX9_buildTurn_39 : decode cX9_buildTurn 39 = .ok (.invokestatic 18, 3) := by decide +kernel
theorem dX9_buildTurn_42 : decode cX9_buildTurn 42 = .ok (.iconst 0, 1) := by decide +kernel
theorem dX9_buildTurn_43 : decode cX9_buildTurn 43 = .ok (.istore 9, 2) := by decide +kernel
theorem dX9_buildTurn_45 : decode cX9_buildTurn 45 = .ok (.iload 9, 2) := by decide +kernel
theorem dX9_buildTurn_47 : decode cX9_buildTurn 47 = .ok (.aload_n 1, 1) := by decide +kernel
theorem dX9_buildTurn_48 : decode cX9_buildTurn 48 = .ok (.getfield 24, 3) := by decide +kernel
theorem dX9_buildTurn_51 : decode cX9_buildTurn 51 = .ok (.if_icmp .ge 46, 3) := by decide +kernel
theorem dX9_buildTurn_54 : decode cX9_buildTurn 54 = .ok (.aload_n 1, 1) := by decide +kernel
theorem dX9_buildTurn_55 : decode cX9_buildTurn 55 = .ok (.iload 5, 2) := by decide +kernel
theorem dX9_buildTurn_57 : decode cX9_buildTurn 57 = .ok (.iload 9, 2) := by decide +kernel
theorem dX9_buildTurn_59 : decode cX9_buildTurn 59 = .ok (.aload_n 0, 1) := by decide +kernel
theorem dX9_buildTurn_60 : decode cX9_buildTurn 60 = .ok (.getfield 15, 3) := by decide +kernel
theorem dX9_buildTurn_63 : decode cX9_buildTurn 63 = .ok (.iload 8, 2) := by decide +kernel
theorem dX9_buildTurn_65 : decode cX9_buildTurn 65 = .ok (.invokevirtual 45, 3) := by decide +kernel
theorem dX9_buildTurn_68 : decode cX9_buildTurn 68 = .ok (.lstore 10, 2) := by decide +kernel
theorem dX9_buildTurn_70 : decode cX9_buildTurn 70 = .ok (.aload_n 0, 1) := by decide +kernel
theorem dX9_buildTurn_71 : decode cX9_buildTurn 71 = .ok (.getfield 15, 3) := by decide +kernel
theorem dX9_buildTurn_74 : decode cX9_buildTurn 74 = .ok (.iload_n 2, 1) := by decide +kernel
theorem dX9_buildTurn_75 : decode cX9_buildTurn 75 = .ok (.bipush 41, 2) := by decide +kernel
theorem dX9_buildTurn_77 : decode cX9_buildTurn 77 = .ok (.imul, 1) := by decide +kernel
theorem dX9_buildTurn_78 : decode cX9_buildTurn 78 = .ok (.iload 9, 2) := by decide +kernel
theorem dX9_buildTurn_80 : decode cX9_buildTurn 80 = .ok (.iadd, 1) := by decide +kernel
theorem dX9_buildTurn_81 : decode cX9_buildTurn 81 = .ok (.lload_n 3, 1) := by decide +kernel
theorem dX9_buildTurn_82 : decode cX9_buildTurn 82 = .ok (.lload 6, 2) := by decide +kernel
theorem dX9_buildTurn_84 : decode cX9_buildTurn 84 = .ok (.lmul, 1) := by decide +kernel
theorem dX9_buildTurn_85 : decode cX9_buildTurn 85 = .ok (.lload 10, 2) := by decide +kernel
theorem dX9_buildTurn_87 : decode cX9_buildTurn 87 = .ok (.ladd, 1) := by decide +kernel
theorem dX9_buildTurn_88 : decode cX9_buildTurn 88 = .ok (.invokestatic 18, 3) := by decide +kernel
theorem dX9_buildTurn_91 : decode cX9_buildTurn 91 = .ok (.iinc 9 1, 3) := by decide +kernel
theorem dX9_buildTurn_94 : decode cX9_buildTurn 94 = .ok (.goto (-49), 3) := by decide +kernel
theorem dX9_buildTurn_97 : decode cX9_buildTurn 97 = .ok (.aload_n 0, 1) := by decide +kernel
theorem dX9_buildTurn_98 : decode cX9_buildTurn 98 = .ok (.getfield 15, 3) := by decide +kernel
theorem dX9_buildTurn_101 : decode cX9_buildTurn 101 = .ok (.iload_n 2, 1) := by decide +kernel
theorem dX9_buildTurn_102 : decode cX9_buildTurn 102 = .ok (.bipush 41, 2) := by decide +kernel
theorem dX9_buildTurn_104 : decode cX9_buildTurn 104 = .ok (.imul, 1) := by decide +kernel
theorem dX9_buildTurn_105 : decode cX9_buildTurn 105 = .ok (.aload_n 1, 1) := by decide +kernel
theorem dX9_buildTurn_106 : decode cX9_buildTurn 106 = .ok (.getfield 24, 3) := by decide +kernel
theorem dX9_buildTurn_109 : decode cX9_buildTurn 109 = .ok (.iadd, 1) := by decide +kernel
theorem dX9_buildTurn_110 : decode cX9_buildTurn 110 = .ok (.lconst 0, 1) := by decide +kernel
theorem dX9_buildTurn_111 : decode cX9_buildTurn 111 = .ok (.invokestatic 18, 3) := by decide +kernel
theorem dX9_buildTurn_114 : decode cX9_buildTurn 114 = .ok (.return_, 1) := by decide +kernel
theorem dX9_rollsFrom_0 : decode cX9_rollsFrom 0 = .ok (.aload_n 0, 1) := by decide +kernel
theorem dX9_rollsFrom_1 : decode cX9_rollsFrom 1 = .ok (.getfield 9, 3) := by decide +kernel
theorem dX9_rollsFrom_4 : decode cX9_rollsFrom 4 = .ok (.iload_n 1, 1) := by decide +kernel
theorem dX9_rollsFrom_5 : decode cX9_rollsFrom 5 = .ok (.invokestatic 49, 3) := by decide +kernel
theorem dX9_rollsFrom_8 : decode cX9_rollsFrom 8 = .ok (.lreturn, 1) := by decide +kernel
theorem dX9_sumAt_0 : decode cX9_sumAt 0 = .ok (.aload_n 0, 1) := by decide +kernel
theorem dX9_sumAt_1 : decode cX9_sumAt 1 = .ok (.getfield 15, 3) := by decide +kernel
theorem dX9_sumAt_4 : decode cX9_sumAt 4 = .ok (.iload_n 1, 1) := by decide +kernel
theorem dX9_sumAt_5 : decode cX9_sumAt 5 = .ok (.bipush 41, 2) := by decide +kernel
theorem dX9_sumAt_7 : decode cX9_sumAt 7 = .ok (.imul, 1) := by decide +kernel
theorem dX9_sumAt_8 : decode cX9_sumAt 8 = .ok (.iload_n 2, 1) := by decide +kernel
theorem dX9_sumAt_9 : decode cX9_sumAt 9 = .ok (.iadd, 1) := by decide +kernel
theorem dX9_sumAt_10 : decode cX9_sumAt 10 = .ok (.invokestatic 49, 3) := by decide +kernel
theorem dX9_sumAt_13 : decode cX9_sumAt 13 = .ok (.lreturn, 1) := by decide +kernel
theorem dX10_init_0 : decode cX10_init 0 = .ok (.aload_n 0, 1) := by decide +kernel
theorem dX10_init_1 : decode cX10_init 1 = .ok (.invokespecial 3, 3) := by decide +kernel
theorem dX10_init_4 : decode cX10_init 4 = .ok (.aload_n 0, 1) := by decide +kernel
theorem dX10_init_5 : decode cX10_init 5 = .ok (.new 9, 3) := by decide +kernel
theorem dX10_init_8 : decode cX10_init 8 = .ok (.dup, 1) := by decide +kernel
theorem dX10_init_9 : decode cX10_init 9 = .ok (.invokespecial 11, 3) := by decide +kernel
theorem dX10_init_12 : decode cX10_init 12 = .ok (.putfield 12, 3) := by decide +kernel
theorem dX10_init_15 : decode cX10_init 15 = .ok (.aload_n 0, 1) := by decide +kernel
theorem dX10_init_16 : decode cX10_init 16 = .ok (.new 9, 3) := by decide +kernel
theorem dX10_init_19 : decode cX10_init 19 = .ok (.dup, 1) := by decide +kernel
theorem dX10_init_20 : decode cX10_init 20 = .ok (.invokespecial 11, 3) := by decide +kernel
theorem dX10_init_23 : decode cX10_init 23 = .ok (.putfield 16, 3) := by decide +kernel
theorem dX10_init_26 : decode cX10_init 26 = .ok (.aload_n 0, 1) := by decide +kernel
theorem dX10_init_27 : decode cX10_init 27 = .ok (.new 19, 3) := by decide +kernel
theorem dX10_init_30 : decode cX10_init 30 = .ok (.dup, 1) := by decide +kernel
theorem dX10_init_31 : decode cX10_init 31 = .ok (.invokespecial 21, 3) := by decide +kernel
theorem dX10_init_34 : decode cX10_init 34 = .ok (.putfield 22, 3) := by decide +kernel
theorem dX10_init_37 : decode cX10_init 37 = .ok (.aload_n 0, 1) := by decide +kernel
theorem dX10_init_38 : decode cX10_init 38 = .ok (.bipush 60, 2) := by decide +kernel
theorem dX10_init_40 : decode cX10_init 40 = .ok (.newarray .int, 2) := by decide +kernel
theorem dX10_init_42 : decode cX10_init 42 = .ok (.putfield 26, 3) := by decide +kernel
theorem dX10_init_45 : decode cX10_init 45 = .ok (.aload_n 0, 1) := by decide +kernel
theorem dX10_init_46 : decode cX10_init 46 = .ok (.iconst 0, 1) := by decide +kernel
theorem dX10_init_47 : decode cX10_init 47 = .ok (.putfield 30, 3) := by decide +kernel
theorem dX10_init_50 : decode cX10_init 50 = .ok (.aload_n 0, 1) := by decide +kernel
theorem dX10_init_51 : decode cX10_init 51 = .ok (.new 34, 3) := by decide +kernel
theorem dX10_init_54 : decode cX10_init 54 = .ok (.dup, 1) := by decide +kernel
theorem dX10_init_55 : decode cX10_init 55 = .ok (.invokespecial 36, 3) := by decide +kernel
theorem dX10_init_58 : decode cX10_init 58 = .ok (.putfield 37, 3) := by decide +kernel
theorem dX10_init_61 : decode cX10_init 61 = .ok (.aload_n 0, 1) := by decide +kernel
theorem dX10_init_62 : decode cX10_init 62 = .ok (.new 41, 3) := by decide +kernel
theorem dX10_init_65 : decode cX10_init 65 = .ok (.dup, 1) := by decide +kernel
theorem dX10_init_66 : decode cX10_init 66 = .ok (.invokespecial 43, 3) := by decide +kernel
theorem dX10_init_69 : decode cX10_init 69 = .ok (.putfield 44, 3) := by decide +kernel
theorem dX10_init_72 : decode cX10_init 72 = .ok (.aload_n 0, 1) := by decide +kernel
theorem dX10_init_73 : decode cX10_init 73 = .ok (.new 48, 3) := by decide +kernel
theorem dX10_init_76 : decode cX10_init 76 = .ok (.dup, 1) := by decide +kernel
theorem dX10_init_77 : decode cX10_init 77 = .ok (.invokespecial 50, 3) := by decide +kernel
theorem dX10_init_80 : decode cX10_init 80 = .ok (.putfield 51, 3) := by decide +kernel
theorem dX10_init_83 : decode cX10_init 83 = .ok (.aload_n 0, 1) := by decide +kernel
theorem dX10_init_84 : decode cX10_init 84 = .ok (.new 55, 3) := by decide +kernel
theorem dX10_init_87 : decode cX10_init 87 = .ok (.dup, 1) := by decide +kernel
theorem dX10_init_88 : decode cX10_init 88 = .ok (.invokespecial 57, 3) := by decide +kernel
theorem dX10_init_91 : decode cX10_init 91 = .ok (.putfield 58, 3) := by decide +kernel
theorem dX10_init_94 : decode cX10_init 94 = .ok (.aload_n 0, 1) := by decide +kernel
theorem dX10_init_95 : decode cX10_init 95 = .ok (.getfield 44, 3) := by decide +kernel
theorem dX10_init_98 : decode cX10_init 98 = .ok (.aload_n 0, 1) := by decide +kernel
theorem dX10_init_99 : decode cX10_init 99 = .ok (.getfield 12, 3) := by decide +kernel
theorem dX10_init_102 : decode cX10_init 102 = .ok (.invokevirtual 62, 3) := by decide +kernel
theorem dX10_init_105 : decode cX10_init 105 = .ok (.return_, 1) := by decide +kernel
theorem dX10_die_0 : decode cX10_die 0 = .ok (.iload_n 1, 1) := by decide +kernel
theorem dX10_die_1 : decode cX10_die 1 = .ok (.ifCond .lt 8, 3) := by decide +kernel
theorem dX10_die_4 : decode cX10_die 4 = .ok (.iload_n 1, 1) := by decide +kernel
theorem dX10_die_5 : decode cX10_die 5 = .ok (.iconst 3, 1) := by decide +kernel
theorem dX10_die_6 : decode cX10_die 6 = .ok (.if_icmp .lt 13, 3) := by decide +kernel
theorem dX10_die_9 : decode cX10_die 9 = .ok (.new 104, 3) := by decide +kernel
theorem dX10_die_12 : decode cX10_die 12 = .ok (.dup, 1) := by decide +kernel
theorem dX10_die_13 : decode cX10_die 13 = .ok (.ldc 106, 2) := by decide +kernel
theorem dX10_die_15 : decode cX10_die 15 = .ok (.invokespecial 108, 3) := by decide +kernel
theorem dX10_die_18 : decode cX10_die 18 = .ok (.athrow, 1) := by decide +kernel
theorem dX10_die_19 : decode cX10_die 19 = .ok (.aload_n 0, 1) := by decide +kernel
theorem dX10_die_20 : decode cX10_die 20 = .ok (.getfield 30, 3) := by decide +kernel
theorem dX10_die_23 : decode cX10_die 23 = .ok (.ifCond .eq 14, 3) := by decide +kernel
theorem dX10_die_26 : decode cX10_die 26 = .ok (.aload_n 0, 1) := by decide +kernel
theorem dX10_die_27 : decode cX10_die 27 = .ok (.invokevirtual 109, 3) := by decide +kernel
theorem dX10_die_30 : decode cX10_die 30 = .ok (.aload_n 0, 1) := by decide +kernel
theorem dX10_die_31 : decode cX10_die 31 = .ok (.getfield 30, 3) := by decide +kernel
theorem dX10_die_34 : decode cX10_die 34 = .ok (.if_icmp .ge 13, 3) := by decide +kernel
theorem dX10_die_37 : decode cX10_die 37 = .ok (.new 74, 3) := by decide +kernel
theorem dX10_die_40 : decode cX10_die 40 = .ok (.dup, 1) := by decide +kernel
theorem dX10_die_41 : decode cX10_die 41 = .ok (.ldc 113, 2) := by decide +kernel
theorem dX10_die_43 : decode cX10_die 43 = .ok (.invokespecial 78, 3) := by decide +kernel
theorem dX10_die_46 : decode cX10_die 46 = .ok (.athrow, 1) := by decide +kernel
theorem dX10_die_47 : decode cX10_die 47 = .ok (.aload_n 0, 1) := by decide +kernel
theorem dX10_die_48 : decode cX10_die 48 = .ok (.invokevirtual 92, 3) := by decide +kernel
theorem dX10_die_51 : decode cX10_die 51 = .ok (.aload_n 0, 1) := by decide +kernel
theorem dX10_die_52 : decode cX10_die 52 = .ok (.getfield 16, 3) := by decide +kernel
theorem dX10_die_55 : decode cX10_die 55 = .ok (.iload_n 1, 1) := by decide +kernel
theorem dX10_die_56 : decode cX10_die 56 = .ok (.aload_n 0, 1) := by decide +kernel
theorem dX10_die_57 : decode cX10_die 57 = .ok (.getfield 26, 3) := by decide +kernel
theorem dX10_die_60 : decode cX10_die 60 = .ok (.aload_n 0, 1) := by decide +kernel
theorem dX10_die_61 : decode cX10_die 61 = .ok (.getfield 30, 3) := by decide +kernel
theorem dX10_die_64 : decode cX10_die 64 = .ok (.invokevirtual 115, 3) := by decide +kernel
theorem dX10_die_67 : decode cX10_die 67 = .ok (.aload_n 0, 1) := by decide +kernel
theorem dX10_die_68 : decode cX10_die 68 = .ok (.invokevirtual 119, 3) := by decide +kernel
theorem dX10_die_71 : decode cX10_die 71 = .ok (.ifCond .ne 13, 3) := by decide +kernel
theorem dX10_die_74 : decode cX10_die 74 = .ok (.new 87, 3) := by decide +kernel
theorem dX10_die_77 : decode cX10_die 77 = .ok (.dup, 1) := by decide +kernel
theorem dX10_die_78 : decode cX10_die 78 = .ok (.ldc 123, 2) := by decide +kernel
theorem dX10_die_80 : decode cX10_die 80 = .ok (.invokespecial 91, 3) := by decide +kernel
theorem dX10_die_83 : decode cX10_die 83 = .ok (.athrow, 1) := by decide +kernel
theorem dX10_die_84 : decode cX10_die 84 = .ok (.aload_n 0, 1) := by decide +kernel
theorem dX10_die_85 : decode cX10_die 85 = .ok (.invokevirtual 100, 3) := by decide +kernel
theorem dX10_die_88 : decode cX10_die 88 = .ok (.aload_n 0, 1) := by decide +kernel
theorem dX10_die_89 : decode cX10_die 89 = .ok (.iconst 0, 1) := by decide +kernel
theorem dX10_die_90 : decode cX10_die 90 = .ok (.putfield 30, 3) := by decide +kernel
theorem dX10_die_93 : decode cX10_die 93 = .ok (.aload_n 0, 1) := by decide +kernel
theorem dX10_die_94 : decode cX10_die 94 = .ok (.getfield 12, 3) := by decide +kernel
theorem dX10_die_97 : decode cX10_die 97 = .ok (.iload_n 1, 1) := by decide +kernel
theorem dX10_die_98 : decode cX10_die 98 = .ok (.invokevirtual 125, 3) := by decide +kernel
theorem dX10_die_101 : decode cX10_die 101 = .ok (.ireturn, 1) := by decide +kernel
theorem dX10_order_0 : decode cX10_order 0 = .ok (.iload_n 1, 1) := by decide +kernel
theorem dX10_order_1 : decode cX10_order 1 = .ok (.invokestatic 129, 3) := by decide +kernel
theorem dX10_order_4 : decode cX10_order 4 = .ok (.ifCond .eq 29, 3) := by decide +kernel
theorem dX10_order_7 : decode cX10_order 7 = .ok (.iload_n 2, 1) := by decide +kernel
theorem dX10_order_8 : decode cX10_order 8 = .ok (.invokestatic 133, 3) := by decide +kernel
theorem dX10_order_11 : decode cX10_order 11 = .ok (.ifCond .eq 22, 3) := by decide +kernel
theorem dX10_order_14 : decode cX10_order 14 = .ok (.iload_n 3, 1) := by decide +kernel
theorem dX10_order_15 : decode cX10_order 15 = .ok (.invokestatic 133, 3) := by decide +kernel
theorem dX10_order_18 : decode cX10_order 18 = .ok (.ifCond .eq 15, 3) := by decide +kernel
theorem dX10_order_21 : decode cX10_order 21 = .ok (.iload 4, 2) := by decide +kernel
theorem dX10_order_23 : decode cX10_order 23 = .ok (.invokestatic 133, 3) := by decide +kernel
theorem dX10_order_26 : decode cX10_order 26 = .ok (.ifCond .eq 7, 3) := by decide +kernel
theorem dX10_order_29 : decode cX10_order 29 = .ok (.iconst 1, 1) := by decide +kernel
theorem dX10_order_30 : decode cX10_order 30 = .ok (.goto 4, 3) := by decide +kernel
theorem dX10_order_33 : decode cX10_order 33 = .ok (.iconst 0, 1) := by decide +kernel
theorem dX10_order_34 : decode cX10_order 34 = .ok (.istore 5, 2) := by decide +kernel
theorem dX10_order_36 : decode cX10_order 36 = .ok (.iload_n 2, 1) := by decide +kernel
theorem dX10_order_37 : decode cX10_order 37 = .ok (.iconst (-1), 1) := by decide +kernel
theorem dX10_order_38 : decode cX10_order 38 = .ok (.if_icmp .ne 8, 3) := by decide +kernel
theorem dX10_order_41 : decode cX10_order 41 = .ok (.iload_n 3, 1) := by decide +kernel
theorem dX10_order_42 : decode cX10_order 42 = .ok (.iconst (-1), 1) := by decide +kernel
theorem dX10_order_43 : decode cX10_order 43 = .ok (.if_icmp .ne 14, 3) := by decide +kernel
theorem dX10_order_46 : decode cX10_order 46 = .ok (.iload_n 3, 1) := by decide +kernel
theorem dX10_order_47 : decode cX10_order 47 = .ok (.iconst (-1), 1) := by decide +kernel
theorem dX10_order_48 : decode cX10_order 48 = .ok (.if_icmp .ne 13, 3) := by decide +kernel
theorem dX10_order_51 : decode cX10_order 51 = .ok (.iload 4, 2) := by decide +kernel
theorem dX10_order_53 : decode cX10_order 53 = .ok (.iconst (-1), 1) := by decide +kernel
theorem dX10_order_54 : decode cX10_order 54 = .ok (.if_icmp .eq 7, 3) := by decide +kernel
theorem dX10_order_57 : decode cX10_order 57 = .ok (.iconst 1, 1) := by decide +kernel
theorem dX10_order_58 : decode cX10_order 58 = .ok (.goto 4, 3) := by decide +kernel
theorem dX10_order_61 : decode cX10_order 61 = .ok (.iconst 0, 1) := by decide +kernel
theorem dX10_order_62 : decode cX10_order 62 = .ok (.istore 6, 2) := by decide +kernel
theorem dX10_order_64 : decode cX10_order 64 = .ok (.iload 5, 2) := by decide +kernel
theorem dX10_order_66 : decode cX10_order 66 = .ok (.ifCond .eq 8, 3) := by decide +kernel
theorem dX10_order_69 : decode cX10_order 69 = .ok (.iload 6, 2) := by decide +kernel
theorem dX10_order_71 : decode cX10_order 71 = .ok (.ifCond .eq 13, 3) := by decide +kernel
theorem dX10_order_74 : decode cX10_order 74 = .ok (.new 74, 3) := by decide +kernel
theorem dX10_order_77 : decode cX10_order 77 = .ok (.dup, 1) := by decide +kernel
theorem dX10_order_78 : decode cX10_order 78 = .ok (.ldc 136, 2) := by decide +kernel
theorem dX10_order_80 : decode cX10_order 80 = .ok (.invokespecial 78, 3) := by decide +kernel
theorem dX10_order_83 : decode cX10_order 83 = .ok (.athrow, 1) := by decide +kernel
theorem dX10_order_84 : decode cX10_order 84 = .ok (.aload_n 0, 1) := by decide +kernel
theorem dX10_order_85 : decode cX10_order 85 = .ok (.getfield 12, 3) := by decide +kernel
theorem dX10_order_88 : decode cX10_order 88 = .ok (.getfield 81, 3) := by decide +kernel
theorem dX10_order_91 : decode cX10_order 91 = .ok (.ifCond .eq 13, 3) := by decide +kernel
theorem dX10_order_94 : decode cX10_order 94 = .ok (.new 87, 3) := by decide +kernel
theorem dX10_order_97 : decode cX10_order 97 = .ok (.dup, 1) := by decide +kernel
theorem dX10_order_98 : decode cX10_order 98 = .ok (.ldc 138, 2) := by decide +kernel
theorem dX10_order_100 : decode cX10_order 100 = .ok (.invokespecial 91, 3) := by decide +kernel
theorem dX10_order_103 : decode cX10_order 103 = .ok (.athrow, 1) := by decide +kernel
theorem dX10_order_104 : decode cX10_order 104 = .ok (.aload_n 0, 1) := by decide +kernel
theorem dX10_order_105 : decode cX10_order 105 = .ok (.invokevirtual 92, 3) := by decide +kernel
theorem dX10_order_108 : decode cX10_order 108 = .ok (.aload_n 0, 1) := by decide +kernel
theorem dX10_order_109 : decode cX10_order 109 = .ok (.getfield 16, 3) := by decide +kernel
theorem dX10_order_112 : decode cX10_order 112 = .ok (.iload_n 1, 1) := by decide +kernel
theorem dX10_order_113 : decode cX10_order 113 = .ok (.iload_n 2, 1) := by decide +kernel
theorem dX10_order_114 : decode cX10_order 114 = .ok (.iload_n 3, 1) := by decide +kernel
theorem dX10_order_115 : decode cX10_order 115 = .ok (.iload 4, 2) := by decide +kernel
theorem dX10_order_117 : decode cX10_order 117 = .ok (.invokevirtual 140, 3) := by decide +kernel
theorem dX10_order_120 : decode cX10_order 120 = .ok (.aload_n 0, 1) := by decide +kernel
theorem dX10_order_121 : decode cX10_order 121 = .ok (.invokevirtual 100, 3) := by decide +kernel
theorem dX10_order_124 : decode cX10_order 124 = .ok (.aload_n 0, 1) := by decide +kernel
theorem dX10_order_125 : decode cX10_order 125 = .ok (.getfield 12, 3) := by decide +kernel
theorem dX10_order_128 : decode cX10_order 128 = .ok (.getfield 144, 3) := by decide +kernel
theorem dX10_order_131 : decode cX10_order 131 = .ok (.ireturn, 1) := by decide +kernel
theorem dX10_link_0 : decode cX10_link 0 = .ok (.aload_n 0, 1) := by decide +kernel
theorem dX10_link_1 : decode cX10_link 1 = .ok (.getfield 12, 3) := by decide +kernel
theorem dX10_link_4 : decode cX10_link 4 = .ok (.iload_n 1, 1) := by decide +kernel
theorem dX10_link_5 : decode cX10_link 5 = .ok (.invokevirtual 147, 3) := by decide +kernel
theorem dX10_link_8 : decode cX10_link 8 = .ok (.ifCond .eq 14, 3) := by decide +kernel
theorem dX10_link_11 : decode cX10_link 11 = .ok (.aload_n 0, 1) := by decide +kernel
theorem dX10_link_12 : decode cX10_link 12 = .ok (.getfield 12, 3) := by decide +kernel
theorem dX10_link_15 : decode cX10_link 15 = .ok (.iload_n 2, 1) := by decide +kernel
theorem dX10_link_16 : decode cX10_link 16 = .ok (.invokevirtual 147, 3) := by decide +kernel
theorem dX10_link_19 : decode cX10_link 19 = .ok (.ifCond .ne 13, 3) := by decide +kernel
theorem dX10_link_22 : decode cX10_link 22 = .ok (.new 104, 3) := by decide +kernel
theorem dX10_link_25 : decode cX10_link 25 = .ok (.dup, 1) := by decide +kernel
theorem dX10_link_26 : decode cX10_link 26 = .ok (.ldc 150, 2) := by decide +kernel
theorem dX10_link_28 : decode cX10_link 28 = .ok (.invokespecial 108, 3) := by decide +kernel
theorem dX10_link_31 : decode cX10_link 31 = .ok (.athrow, 1) := by decide +kernel
theorem dX10_link_32 : decode cX10_link 32 = .ok (.aload_n 0, 1) := by decide +kernel
theorem dX10_link_33 : decode cX10_link 33 = .ok (.getfield 12, 3) := by decide +kernel
theorem dX10_link_36 : decode cX10_link 36 = .ok (.iload_n 1, 1) := by decide +kernel
theorem dX10_link_37 : decode cX10_link 37 = .ok (.iload_n 2, 1) := by decide +kernel
theorem dX10_link_38 : decode cX10_link 38 = .ok (.iconst (-1), 1) := by decide +kernel
theorem dX10_link_39 : decode cX10_link 39 = .ok (.invokevirtual 152, 3) := by decide +kernel
theorem dX10_link_42 : decode cX10_link 42 = .ok (.ifCond .ne 13, 3) := by decide +kernel
theorem dX10_link_45 : decode cX10_link 45 = .ok (.new 74, 3) := by decide +kernel
theorem dX10_link_48 : decode cX10_link 48 = .ok (.dup, 1) := by decide +kernel
theorem dX10_link_49 : decode cX10_link 49 = .ok (.ldc 156, 2) := by decide +kernel
theorem dX10_link_51 : decode cX10_link 51 = .ok (.invokespecial 78, 3) := by decide +kernel
theorem dX10_link_54 : decode cX10_link 54 = .ok (.athrow, 1) := by decide +kernel
theorem dX10_link_55 : decode cX10_link 55 = .ok (.aload_n 0, 1) := by decide +kernel
theorem dX10_link_56 : decode cX10_link 56 = .ok (.invokevirtual 92, 3) := by decide +kernel
theorem dX10_link_59 : decode cX10_link 59 = .ok (.aload_n 0, 1) := by decide +kernel
theorem dX10_link_60 : decode cX10_link 60 = .ok (.getfield 16, 3) := by decide +kernel
theorem dX10_link_63 : decode cX10_link 63 = .ok (.iload_n 1, 1) := by decide +kernel
theorem dX10_link_64 : decode cX10_link 64 = .ok (.iload_n 2, 1) := by decide +kernel
theorem dX10_link_65 : decode cX10_link 65 = .ok (.invokevirtual 158, 3) := by decide +kernel
theorem dX10_link_68 : decode cX10_link 68 = .ok (.aload_n 0, 1) := by decide +kernel
theorem dX10_link_69 : decode cX10_link 69 = .ok (.getfield 16, 3) := by decide +kernel
theorem dX10_link_72 : decode cX10_link 72 = .ok (.getfield 103, 3) := by decide +kernel
theorem dX10_link_75 : decode cX10_link 75 = .ok (.bipush 10, 2) := by decide +kernel
theorem dX10_link_77 : decode cX10_link 77 = .ok (.if_icmp .gt 10, 3) := by decide +kernel
theorem dX10_link_80 : decode cX10_link 80 = .ok (.aload_n 0, 1) := by decide +kernel
theorem dX10_link_81 : decode cX10_link 81 = .ok (.invokevirtual 119, 3) := by decide +kernel
theorem dX10_link_84 : decode cX10_link 84 = .ok (.ifCond .ne 13, 3) := by decide +kernel
theorem dX10_link_87 : decode cX10_link 87 = .ok (.new 87, 3) := by decide +kernel
theorem dX10_link_90 : decode cX10_link 90 = .ok (.dup, 1) := by decide +kernel
theorem dX10_link_91 : decode cX10_link 91 = .ok (.ldc 162, 2) := by decide +kernel
theorem dX10_link_93 : decode cX10_link 93 = .ok (.invokespecial 91, 3) := by decide +kernel
theorem dX10_link_96 : decode cX10_link 96 = .ok (.athrow, 1) := by decide +kernel
theorem dX10_link_97 : decode cX10_link 97 = .ok (.aload_n 0, 1) := by decide +kernel
theorem dX10_link_98 : decode cX10_link 98 = .ok (.invokevirtual 100, 3) := by decide +kernel
theorem dX10_link_101 : decode cX10_link 101 = .ok (.aload_n 0, 1) := by decide +kernel
theorem dX10_link_102 : decode cX10_link 102 = .ok (.getfield 12, 3) := by decide +kernel
theorem dX10_link_105 : decode cX10_link 105 = .ok (.getfield 103, 3) := by decide +kernel
theorem dX10_link_108 : decode cX10_link 108 = .ok (.iconst 1, 1) := by decide +kernel
theorem dX10_link_109 : decode cX10_link 109 = .ok (.isub, 1) := by decide +kernel
theorem dX10_link_110 : decode cX10_link 110 = .ok (.ireturn, 1) := by decide +kernel
theorem dX10_unlink_0 : decode cX10_unlink 0 = .ok (.aload_n 0, 1) := by decide +kernel
theorem dX10_unlink_1 : decode cX10_unlink 1 = .ok (.getfield 12, 3) := by decide +kernel
theorem dX10_unlink_4 : decode cX10_unlink 4 = .ok (.iload_n 1, 1) := by decide +kernel
theorem dX10_unlink_5 : decode cX10_unlink 5 = .ok (.invokevirtual 164, 3) := by decide +kernel
theorem dX10_unlink_8 : decode cX10_unlink 8 = .ok (.ifCond .ne 13, 3) := by decide +kernel
theorem dX10_unlink_11 : decode cX10_unlink 11 = .ok (.new 104, 3) := by decide +kernel
theorem dX10_unlink_14 : decode cX10_unlink 14 = .ok (.dup, 1) := by decide +kernel
theorem dX10_unlink_15 : decode cX10_unlink 15 = .ok (.ldc 167, 2) := by decide +kernel
theorem dX10_unlink_17 : decode cX10_unlink 17 = .ok (.invokespecial 108, 3) := by decide +kernel
theorem dX10_unlink_20 : decode cX10_unlink 20 = .ok (.athrow, 1) := by decide +kernel
theorem dX10_unlink_21 : decode cX10_unlink 21 = .ok (.aload_n 0, 1) := by decide +kernel
theorem dX10_unlink_22 : decode cX10_unlink 22 = .ok (.invokevirtual 92, 3) := by decide +kernel
theorem dX10_unlink_25 : decode cX10_unlink 25 = .ok (.aload_n 0, 1) := by decide +kernel
theorem dX10_unlink_26 : decode cX10_unlink 26 = .ok (.getfield 16, 3) := by decide +kernel
theorem dX10_unlink_29 : decode cX10_unlink 29 = .ok (.iload_n 1, 1) := by decide +kernel
theorem dX10_unlink_30 : decode cX10_unlink 30 = .ok (.invokevirtual 169, 3) := by decide +kernel
theorem dX10_unlink_33 : decode cX10_unlink 33 = .ok (.aload_n 0, 1) := by decide +kernel
theorem dX10_unlink_34 : decode cX10_unlink 34 = .ok (.invokevirtual 119, 3) := by decide +kernel
theorem dX10_unlink_37 : decode cX10_unlink 37 = .ok (.ifCond .ne 13, 3) := by decide +kernel
theorem dX10_unlink_40 : decode cX10_unlink 40 = .ok (.new 87, 3) := by decide +kernel
theorem dX10_unlink_43 : decode cX10_unlink 43 = .ok (.dup, 1) := by decide +kernel
theorem dX10_unlink_44 : decode cX10_unlink 44 = .ok (.ldc 123, 2) := by decide +kernel
theorem dX10_unlink_46 : decode cX10_unlink 46 = .ok (.invokespecial 91, 3) := by decide +kernel
theorem dX10_unlink_49 : decode cX10_unlink 49 = .ok (.athrow, 1) := by decide +kernel
theorem dX10_unlink_50 : decode cX10_unlink 50 = .ok (.aload_n 0, 1) := by decide +kernel
theorem dX10_unlink_51 : decode cX10_unlink 51 = .ok (.invokevirtual 100, 3) := by decide +kernel
theorem dX10_unlink_54 : decode cX10_unlink 54 = .ok (.aload_n 0, 1) := by decide +kernel
theorem dX10_unlink_55 : decode cX10_unlink 55 = .ok (.getfield 12, 3) := by decide +kernel
theorem dX10_unlink_58 : decode cX10_unlink 58 = .ok (.getfield 103, 3) := by decide +kernel
theorem dX10_unlink_61 : decode cX10_unlink 61 = .ok (.ireturn, 1) := by decide +kernel
theorem dX10_shift_0 : decode cX10_shift 0 = .ok (.aload_n 0, 1) := by decide +kernel
theorem dX10_shift_1 : decode cX10_shift 1 = .ok (.getfield 12, 3) := by decide +kernel
theorem dX10_shift_4 : decode cX10_shift 4 = .ok (.iload_n 1, 1) := by decide +kernel
theorem dX10_shift_5 : decode cX10_shift 5 = .ok (.invokevirtual 164, 3) := by decide +kernel
theorem dX10_shift_8 : decode cX10_shift 8 = .ok (.ifCond .eq 14, 3) := by decide +kernel
theorem dX10_shift_11 : decode cX10_shift 11 = .ok (.aload_n 0, 1) := by decide +kernel
theorem dX10_shift_12 : decode cX10_shift 12 = .ok (.getfield 12, 3) := by decide +kernel
theorem dX10_shift_15 : decode cX10_shift 15 = .ok (.iload_n 2, 1) := by decide +kernel
theorem dX10_shift_16 : decode cX10_shift 16 = .ok (.invokevirtual 147, 3) := by decide +kernel
theorem dX10_shift_19 : decode cX10_shift 19 = .ok (.ifCond .ne 13, 3) := by decide +kernel
theorem dX10_shift_22 : decode cX10_shift 22 = .ok (.new 104, 3) := by decide +kernel
theorem dX10_shift_25 : decode cX10_shift 25 = .ok (.dup, 1) := by decide +kernel
theorem dX10_shift_26 : decode cX10_shift 26 = .ok (.ldc 173, 2) := by decide +kernel
theorem dX10_shift_28 : decode cX10_shift 28 = .ok (.invokespecial 108, 3) := by decide +kernel
theorem dX10_shift_31 : decode cX10_shift 31 = .ok (.athrow, 1) := by decide +kernel
theorem dX10_shift_32 : decode cX10_shift 32 = .ok (.aload_n 0, 1) := by decide +kernel
theorem dX10_shift_33 : decode cX10_shift 33 = .ok (.getfield 12, 3) := by decide +kernel
theorem dX10_shift_36 : decode cX10_shift 36 = .ok (.iload_n 2, 1) := by decide +kernel
theorem dX10_shift_37 : decode cX10_shift 37 = .ok (.aload_n 0, 1) := by decide +kernel
theorem dX10_shift_38 : decode cX10_shift 38 = .ok (.getfield 12, 3) := by decide +kernel
theorem dX10_shift_41 : decode cX10_shift 41 = .ok (.iload_n 1, 1) := by decide +kernel
theorem dX10_shift_42 : decode cX10_shift 42 = .ok (.invokevirtual 175, 3) := by decide +kernel
theorem dX10_shift_45 : decode cX10_shift 45 = .ok (.iload_n 1, 1) := by decide +kernel
theorem dX10_shift_46 : decode cX10_shift 46 = .ok (.invokevirtual 152, 3) := by decide +kernel
theorem dX10_shift_49 : decode cX10_shift 49 = .ok (.ifCond .ne 13, 3) := by decide +kernel
theorem dX10_shift_52 : decode cX10_shift 52 = .ok (.new 74, 3) := by decide +kernel
theorem dX10_shift_55 : decode cX10_shift 55 = .ok (.dup, 1) := by decide +kernel
theorem dX10_shift_56 : decode cX10_shift 56 = .ok (.ldc 178, 2) := by decide +kernel
theorem dX10_shift_58 : decode cX10_shift 58 = .ok (.invokespecial 78, 3) := by decide +kernel
theorem dX10_shift_61 : decode cX10_shift 61 = .ok (.athrow, 1) := by decide +kernel
theorem dX10_shift_62 : decode cX10_shift 62 = .ok (.aload_n 0, 1) := by decide +kernel
theorem dX10_shift_63 : decode cX10_shift 63 = .ok (.getfield 12, 3) := by decide +kernel
theorem dX10_shift_66 : decode cX10_shift 66 = .ok (.iload_n 1, 1) := by decide +kernel
theorem dX10_shift_67 : decode cX10_shift 67 = .ok (.invokevirtual 180, 3) := by decide +kernel
theorem dX10_shift_70 : decode cX10_shift 70 = .ok (.istore_n 3, 1) := by decide +kernel
theorem dX10_shift_71 : decode cX10_shift 71 = .ok (.aload_n 0, 1) := by decide +kernel
theorem dX10_shift_72 : decode cX10_shift 72 = .ok (.invokevirtual 92, 3) := by decide +kernel
theorem dX10_shift_75 : decode cX10_shift 75 = .ok (.aload_n 0, 1) := by decide +kernel
theorem dX10_shift_76 : decode cX10_shift 76 = .ok (.getfield 16, 3) := by decide +kernel
theorem dX10_shift_79 : decode cX10_shift 79 = .ok (.iload_n 1, 1) := by decide +kernel
theorem dX10_shift_80 : decode cX10_shift 80 = .ok (.iload_n 2, 1) := by decide +kernel
theorem dX10_shift_81 : decode cX10_shift 81 = .ok (.invokevirtual 183, 3) := by decide +kernel
theorem dX10_shift_84 : decode cX10_shift 84 = .ok (.aload_n 0, 1) := by decide +kernel
theorem dX10_shift_85 : decode cX10_shift 85 = .ok (.invokevirtual 119, 3) := by decide +kernel
theorem dX10_shift_88 : decode cX10_shift 88 = .ok (.ifCond .ne 13, 3) := by decide +kernel
theorem dX10_shift_91 : decode cX10_shift 91 = .ok (.new 87, 3) := by decide +kernel
theorem dX10_shift_94 : decode cX10_shift 94 = .ok (.dup, 1) := by decide +kernel
theorem dX10_shift_95 : decode cX10_shift 95 = .ok (.ldc 123, 2) := by decide +kernel
theorem dX10_shift_97 : decode cX10_shift 97 = .ok (.invokespecial 91, 3) := by decide +kernel
theorem dX10_shift_100 : decode cX10_shift 100 = .ok (.athrow, 1) := by decide +kernel
theorem dX10_shift_101 : decode cX10_shift 101 = .ok (.aload_n 0, 1) := by decide +kernel
theorem dX10_shift_102 : decode cX10_shift 102 = .ok (.invokevirtual 100, 3) := by decide +kernel
theorem dX10_shift_105 : decode cX10_shift 105 = .ok (.iload_n 3, 1) := by decide +kernel
theorem dX10_shift_106 : decode cX10_shift 106 = .ok (.ireturn, 1) := by decide +kernel
theorem dX10_set_0 : decode cX10_set 0 = .ok (.iload_n 1, 1) := by decide +kernel
theorem dX10_set_1 : decode cX10_set 1 = .ok (.ifCond .lt 8, 3) := by decide +kernel
theorem dX10_set_4 : decode cX10_set 4 = .ok (.iload_n 1, 1) := by decide +kernel
theorem dX10_set_5 : decode cX10_set 5 = .ok (.iconst 3, 1) := by decide +kernel
theorem dX10_set_6 : decode cX10_set 6 = .ok (.if_icmp .lt 13, 3) := by decide +kernel
theorem dX10_set_9 : decode cX10_set 9 = .ok (.new 104, 3) := by decide +kernel
theorem dX10_set_12 : decode cX10_set 12 = .ok (.dup, 1) := by decide +kernel
theorem dX10_set_13 : decode cX10_set 13 = .ok (.ldc 186, 2) := by decide +kernel
theorem dX10_set_15 : decode cX10_set 15 = .ok (.invokespecial 108, 3) := by decide +kernel
theorem dX10_set_18 : decode cX10_set 18 = .ok (.athrow, 1) := by decide +kernel
theorem dX10_set_19 : decode cX10_set 19 = .ok (.iload_n 2, 1) := by decide +kernel
theorem dX10_set_20 : decode cX10_set 20 = .ok (.iload_n 1, 1) := by decide +kernel
theorem dX10_set_21 : decode cX10_set 21 = .ok (.invokestatic 188, 3) := by decide +kernel
theorem dX10_set_24 : decode cX10_set 24 = .ok (.if_icmp .lt 11, 3) := by decide +kernel
theorem dX10_set_27 : decode cX10_set 27 = .ok (.iload_n 2, 1) := by decide +kernel
theorem dX10_set_28 : decode cX10_set 28 = .ok (.iload_n 1, 1) := by decide +kernel
theorem dX10_set_29 : decode cX10_set 29 = .ok (.invokestatic 191, 3) := by decide +kernel
theorem dX10_set_32 : decode cX10_set 32 = .ok (.if_icmp .le 13, 3) := by decide +kernel
theorem dX10_set_35 : decode cX10_set 35 = .ok (.new 74, 3) := by decide +kernel
theorem dX10_set_38 : decode cX10_set 38 = .ok (.dup, 1) := by decide +kernel
theorem dX10_set_39 : decode cX10_set 39 = .ok (.ldc 194, 2) := by decide +kernel
theorem dX10_set_41 : decode cX10_set 41 = .ok (.invokespecial 78, 3) := by decide +kernel
theorem dX10_set_44 : decode cX10_set 44 = .ok (.athrow, 1) := by decide +kernel
theorem dX10_set_45 : decode cX10_set 45 = .ok (.aload_n 0, 1) := by decide +kernel
theorem dX10_set_46 : decode cX10_set 46 = .ok (.getfield 12, 3) := by decide +kernel
theorem dX10_set_49 : decode cX10_set 49 = .ok (.getfield 81, 3) := by decide +kernel
theorem dX10_set_52 : decode cX10_set 52 = .ok (.ifCond .eq 13, 3) := by decide +kernel
theorem dX10_set_55 : decode cX10_set 55 = .ok (.new 87, 3) := by decide +kernel
theorem dX10_set_58 : decode cX10_set 58 = .ok (.dup, 1) := by decide +kernel
theorem dX10_set_59 : decode cX10_set 59 = .ok (.ldc 138, 2) := by decide +kernel
theorem dX10_set_61 : decode cX10_set 61 = .ok (.invokespecial 91, 3) := by decide +kernel
theorem dX10_set_64 : decode cX10_set 64 = .ok (.athrow, 1) := by decide +kernel
theorem dX10_set_65 : decode cX10_set 65 = .ok (.aload_n 0, 1) := by decide +kernel
theorem dX10_set_66 : decode cX10_set 66 = .ok (.getfield 12, 3) := by decide +kernel
theorem dX10_set_69 : decode cX10_set 69 = .ok (.iload_n 1, 1) := by decide +kernel
theorem dX10_set_70 : decode cX10_set 70 = .ok (.invokevirtual 196, 3) := by decide +kernel
theorem dX10_set_73 : decode cX10_set 73 = .ok (.istore_n 3, 1) := by decide +kernel
theorem dX10_set_74 : decode cX10_set 74 = .ok (.aload_n 0, 1) := by decide +kernel
theorem dX10_set_75 : decode cX10_set 75 = .ok (.invokevirtual 92, 3) := by decide +kernel
theorem dX10_set_78 : decode cX10_set 78 = .ok (.aload_n 0, 1) := by decide +kernel
theorem dX10_set_79 : decode cX10_set 79 = .ok (.getfield 16, 3) := by decide +kernel
theorem dX10_set_82 : decode cX10_set 82 = .ok (.iload_n 1, 1) := by decide +kernel
theorem dX10_set_83 : decode cX10_set 83 = .ok (.iload_n 2, 1) := by decide +kernel
theorem dX10_set_84 : decode cX10_set 84 = .ok (.invokevirtual 199, 3) := by decide +kernel
theorem dX10_set_87 : decode cX10_set 87 = .ok (.aload_n 0, 1) := by decide +kernel
theorem dX10_set_88 : decode cX10_set 88 = .ok (.invokevirtual 100, 3) := by decide +kernel
theorem dX10_set_91 : decode cX10_set 91 = .ok (.iload_n 3, 1) := by decide +kernel
theorem dX10_set_92 : decode cX10_set 92 = .ok (.ireturn, 1) := by decide +kernel
theorem dX10_addPlayer_0 : decode cX10_addPlayer 0 = .ok (.aload_n 0, 1) := by decide +kernel
theorem dX10_addPlayer_1 : decode cX10_addPlayer 1 = .ok (.getfield 12, 3) := by decide +kernel
theorem dX10_addPlayer_4 : decode cX10_addPlayer 4 = .ok (.getfield 227, 3) := by decide +kernel
theorem dX10_addPlayer_7 : decode cX10_addPlayer 7 = .ok (.iconst 4, 1) := by decide +kernel
theorem dX10_addPlayer_8 : decode cX10_addPlayer 8 = .ok (.if_icmp .lt 13, 3) := by decide +kernel
theorem dX10_addPlayer_11 : decode cX10_addPlayer 11 = .ok (.new 87, 3) := by decide +kernel
theorem dX10_addPlayer_14 : decode cX10_addPlayer 14 = .ok (.dup, 1) := by decide +kernel
theorem dX10_addPlayer_15 : decode cX10_addPlayer 15 = .ok (.ldc 230, 2) := by decide +kernel
theorem dX10_addPlayer_17 : decode cX10_addPlayer 17 = .ok (.invokespecial 91, 3) := by decide +kernel
theorem dX10_addPlayer_20 : decode cX10_addPlayer 20 = .ok (.athrow, 1) := by decide +kernel
theorem dX10_addPlayer_21 : decode cX10_addPlayer 21 = .ok (.aload_n 0, 1) := by decide +kernel
theorem dX10_addPlayer_22 : decode cX10_addPlayer 22 = .ok (.invokevirtual 92, 3) := by decide +kernel
theorem dX10_addPlayer_25 : decode cX10_addPlayer 25 = .ok (.aload_n 0, 1) := by decide +kernel
theorem dX10_addPlayer_26 : decode cX10_addPlayer 26 = .ok (.getfield 16, 3) := by decide +kernel
theorem dX10_addPlayer_29 : decode cX10_addPlayer 29 = .ok (.invokevirtual 232, 3) := by decide +kernel
theorem dX10_addPlayer_32 : decode cX10_addPlayer 32 = .ok (.aload_n 0, 1) := by decide +kernel
theorem dX10_addPlayer_33 : decode cX10_addPlayer 33 = .ok (.invokevirtual 218, 3) := by decide +kernel
theorem dX10_addPlayer_36 : decode cX10_addPlayer 36 = .ok (.aload_n 0, 1) := by decide +kernel
theorem dX10_addPlayer_37 : decode cX10_addPlayer 37 = .ok (.getfield 12, 3) := by decide +kernel
theorem dX10_addPlayer_40 : decode cX10_addPlayer 40 = .ok (.getfield 227, 3) := by decide +kernel
theorem dX10_addPlayer_43 : decode cX10_addPlayer 43 = .ok (.iconst 1, 1) := by decide +kernel
theorem dX10_addPlayer_44 : decode cX10_addPlayer 44 = .ok (.isub, 1) := by decide +kernel
theorem dX10_addPlayer_45 : decode cX10_addPlayer 45 = .ok (.ireturn, 1) := by decide +kernel
theorem dX10_roll_0 : decode cX10_roll 0 = .ok (.aload_n 0, 1) := by decide +kernel
theorem dX10_roll_1 : decode cX10_roll 1 = .ok (.getfield 12, 3) := by decide +kernel
theorem dX10_roll_4 : decode cX10_roll 4 = .ok (.iload_n 1, 1) := by decide +kernel
theorem dX10_roll_5 : decode cX10_roll 5 = .ok (.invokevirtual 235, 3) := by decide +kernel
theorem dX10_roll_8 : decode cX10_roll 8 = .ok (.ifCond .ne 13, 3) := by decide +kernel
theorem dX10_roll_11 : decode cX10_roll 11 = .ok (.new 104, 3) := by decide +kernel
theorem dX10_roll_14 : decode cX10_roll 14 = .ok (.dup, 1) := by decide +kernel
theorem dX10_roll_15 : decode cX10_roll 15 = .ok (.ldc 238, 2) := by decide +kernel
theorem dX10_roll_17 : decode cX10_roll 17 = .ok (.invokespecial 108, 3) := by decide +kernel
theorem dX10_roll_20 : decode cX10_roll 20 = .ok (.athrow, 1) := by decide +kernel
theorem dX10_roll_21 : decode cX10_roll 21 = .ok (.aload_n 0, 1) := by decide +kernel
theorem dX10_roll_22 : decode cX10_roll 22 = .ok (.getfield 12, 3) := by decide +kernel
theorem dX10_roll_25 : decode cX10_roll 25 = .ok (.iload_n 1, 1) := by decide +kernel
theorem dX10_roll_26 : decode cX10_roll 26 = .ok (.invokevirtual 240, 3) := by decide +kernel
theorem dX10_roll_29 : decode cX10_roll 29 = .ok (.istore_n 3, 1) := by decide +kernel
theorem dX10_roll_30 : decode cX10_roll 30 = .ok (.aload_n 0, 1) := by decide +kernel
theorem dX10_roll_31 : decode cX10_roll 31 = .ok (.getfield 12, 3) := by decide +kernel
theorem dX10_roll_34 : decode cX10_roll 34 = .ok (.iload_n 3, 1) := by decide +kernel
theorem dX10_roll_35 : decode cX10_roll 35 = .ok (.invokevirtual 243, 3) := by decide +kernel
theorem dX10_roll_38 : decode cX10_roll 38 = .ok (.istore 4, 2) := by decide +kernel
theorem dX10_roll_40 : decode cX10_roll 40 = .ok (.iload_n 2, 1) := by decide +kernel
theorem dX10_roll_41 : decode cX10_roll 41 = .ok (.ifCond .lt 16, 3) := by decide +kernel
theorem dX10_roll_44 : decode cX10_roll 44 = .ok (.iload_n 2, 1) := by decide +kernel
theorem dX10_roll_45 : decode cX10_roll 45 = .ok (.aload_n 0, 1) := by decide +kernel
theorem dX10_roll_46 : decode cX10_roll 46 = .ok (.getfield 12, 3) := by decide +kernel
theorem dX10_roll_49 : decode cX10_roll 49 = .ok (.iload 4, 2) := by decide +kernel
theorem dX10_roll_51 : decode cX10_roll 51 = .ok (.invokevirtual 125, 3) := by decide +kernel
theorem dX10_roll_54 : decode cX10_roll 54 = .ok (.if_icmp .lt 13, 3) := by decide +kernel
theorem dX10_roll_57 : decode cX10_roll 57 = .ok (.new 74, 3) := by decide +kernel
theorem dX10_roll_60 : decode cX10_roll 60 = .ok (.dup, 1) := by decide +kernel
theorem dX10_roll_61 : decode cX10_roll 61 = .ok (.ldc 246, 2) := by decide +kernel
theorem dX10_roll_63 : decode cX10_roll 63 = .ok (.invokespecial 78, 3) := by decide +kernel
theorem dX10_roll_66 : decode cX10_roll 66 = .ok (.athrow, 1) := by decide +kernel
theorem dX10_roll_67 : decode cX10_roll 67 = .ok (.aload_n 0, 1) := by decide +kernel
theorem dX10_roll_68 : decode cX10_roll 68 = .ok (.getfield 12, 3) := by decide +kernel
theorem dX10_roll_71 : decode cX10_roll 71 = .ok (.iload_n 1, 1) := by decide +kernel
theorem dX10_roll_72 : decode cX10_roll 72 = .ok (.invokevirtual 248, 3) := by decide +kernel
theorem dX10_roll_75 : decode cX10_roll 75 = .ok (.ifCond .ne 10, 3) := by decide +kernel
theorem dX10_roll_78 : decode cX10_roll 78 = .ok (.iload_n 3, 1) := by decide +kernel
theorem dX10_roll_79 : decode cX10_roll 79 = .ok (.sipush 1000, 3) := by decide +kernel
theorem dX10_roll_82 : decode cX10_roll 82 = .ok (.if_icmp .lt 13, 3) := by decide +kernel
theorem dX10_roll_85 : decode cX10_roll 85 = .ok (.new 87, 3) := by decide +kernel
theorem dX10_roll_88 : decode cX10_roll 88 = .ok (.dup, 1) := by decide +kernel
theorem dX10_roll_89 : decode cX10_roll 89 = .ok (.ldc 251, 2) := by decide +kernel
theorem dX10_roll_91 : decode cX10_roll 91 = .ok (.invokespecial 91, 3) := by decide +kernel
theorem dX10_roll_94 : decode cX10_roll 94 = .ok (.athrow, 1) := by decide +kernel
theorem dX10_roll_95 : decode cX10_roll 95 = .ok (.aload_n 0, 1) := by decide +kernel
theorem dX10_roll_96 : decode cX10_roll 96 = .ok (.getfield 12, 3) := by decide +kernel
theorem dX10_roll_99 : decode cX10_roll 99 = .ok (.aload_n 0, 1) := by decide +kernel
theorem dX10_roll_100 : decode cX10_roll 100 = .ok (.getfield 12, 3) := by decide +kernel
theorem dX10_roll_103 : decode cX10_roll 103 = .ok (.iload_n 1, 1) := by decide +kernel
theorem dX10_roll_104 : decode cX10_roll 104 = .ok (.invokevirtual 253, 3) := by decide +kernel
theorem dX10_roll_107 : decode cX10_roll 107 = .ok (.aload_n 0, 1) := by decide +kernel
theorem dX10_roll_108 : decode cX10_roll 108 = .ok (.getfield 12, 3) := by decide +kernel
theorem dX10_roll_111 : decode cX10_roll 111 = .ok (.iload 4, 2) := by decide +kernel
theorem dX10_roll_113 : decode cX10_roll 113 = .ok (.iload_n 2, 1) := by decide +kernel
theorem dX10_roll_114 : decode cX10_roll 114 = .ok (.invokevirtual 256, 3) := by decide +kernel
theorem dX10_roll_117 : decode cX10_roll 117 = .ok (.invokevirtual 260, 3) := by decide +kernel
theorem dX10_roll_120 : decode cX10_roll 120 = .ok (.istore 5, 2) := by decide +kernel
theorem dX10_roll_122 : decode cX10_roll 122 = .ok (.aload_n 0, 1) := by decide +kernel
theorem dX10_roll_123 : decode cX10_roll 123 = .ok (.invokevirtual 92, 3) := by decide +kernel
theorem dX10_roll_126 : decode cX10_roll 126 = .ok (.aload_n 0, 1) := by decide +kernel
theorem dX10_roll_127 : decode cX10_roll 127 = .ok (.getfield 16, 3) := by decide +kernel
theorem dX10_roll_130 : decode cX10_roll 130 = .ok (.iload_n 1, 1) := by decide +kernel
theorem dX10_roll_131 : decode cX10_roll 131 = .ok (.iload 5, 2) := by decide +kernel
theorem dX10_roll_133 : decode cX10_roll 133 = .ok (.invokevirtual 263, 3) := by decide +kernel
theorem dX10_roll_136 : decode cX10_roll 136 = .ok (.aload_n 0, 1) := by decide +kernel
theorem dX10_roll_137 : decode cX10_roll 137 = .ok (.invokevirtual 218, 3) := by decide +kernel
theorem dX10_roll_140 : decode cX10_roll 140 = .ok (.iload 5, 2) := by decide +kernel
theorem dX10_roll_142 : decode cX10_roll 142 = .ok (.ireturn, 1) := by decide +kernel
theorem dX10_append_0 : decode cX10_append 0 = .ok (.iload_n 1, 1) := by decide +kernel
theorem dX10_append_1 : decode cX10_append 1 = .ok (.bipush 33, 2) := by decide +kernel
theorem dX10_append_3 : decode cX10_append 3 = .ok (.if_icmp .lt 9, 3) := by decide +kernel
theorem dX10_append_6 : decode cX10_append 6 = .ok (.iload_n 1, 1) := by decide +kernel
theorem dX10_append_7 : decode cX10_append 7 = .ok (.bipush 126, 2) := by decide +kernel
theorem dX10_append_9 : decode cX10_append 9 = .ok (.if_icmp .le 14, 3) := by decide +kernel
theorem dX10_append_12 : decode cX10_append 12 = .ok (.new 74, 3) := by decide +kernel
theorem dX10_append_15 : decode cX10_append 15 = .ok (.dup, 1) := by decide +kernel
theorem dX10_append_16 : decode cX10_append 16 = .ok (.ldc_w 266, 3) := by decide +kernel
theorem dX10_append_19 : decode cX10_append 19 = .ok (.invokespecial 78, 3) := by decide +kernel
theorem dX10_append_22 : decode cX10_append 22 = .ok (.athrow, 1) := by decide +kernel
theorem dX10_append_23 : decode cX10_append 23 = .ok (.aload_n 0, 1) := by decide +kernel
theorem dX10_append_24 : decode cX10_append 24 = .ok (.getfield 30, 3) := by decide +kernel
theorem dX10_append_27 : decode cX10_append 27 = .ok (.bipush 60, 2) := by decide +kernel
theorem dX10_append_29 : decode cX10_append 29 = .ok (.if_icmp .lt 14, 3) := by decide +kernel
theorem dX10_append_32 : decode cX10_append 32 = .ok (.new 87, 3) := by decide +kernel
theorem dX10_append_35 : decode cX10_append 35 = .ok (.dup, 1) := by decide +kernel
theorem dX10_append_36 : decode cX10_append 36 = .ok (.ldc_w 268, 3) := by decide +kernel
theorem dX10_append_39 : decode cX10_append 39 = .ok (.invokespecial 91, 3) := by decide +kernel
theorem dX10_append_42 : decode cX10_append 42 = .ok (.athrow, 1) := by decide +kernel
theorem dX10_append_43 : decode cX10_append 43 = .ok (.aload_n 0, 1) := by decide +kernel
theorem dX10_append_44 : decode cX10_append 44 = .ok (.getfield 26, 3) := by decide +kernel
theorem dX10_append_47 : decode cX10_append 47 = .ok (.aload_n 0, 1) := by decide +kernel
theorem dX10_append_48 : decode cX10_append 48 = .ok (.getfield 30, 3) := by decide +kernel
theorem dX10_append_51 : decode cX10_append 51 = .ok (.iload_n 1, 1) := by decide +kernel
theorem dX10_append_52 : decode cX10_append 52 = .ok (.invokestatic 270, 3) := by decide +kernel
theorem dX10_append_55 : decode cX10_append 55 = .ok (.aload_n 0, 1) := by decide +kernel
theorem dX10_append_56 : decode cX10_append 56 = .ok (.dup, 1) := by decide +kernel
theorem dX10_append_57 : decode cX10_append 57 = .ok (.getfield 30, 3) := by decide +kernel
theorem dX10_append_60 : decode cX10_append 60 = .ok (.iconst 1, 1) := by decide +kernel
theorem dX10_append_61 : decode cX10_append 61 = .ok (.iadd, 1) := by decide +kernel
theorem dX10_append_62 : decode cX10_append 62 = .ok (.putfield 30, 3) := by decide +kernel
theorem dX10_append_65 : decode cX10_append 65 = .ok (.aload_n 0, 1) := by decide +kernel
theorem dX10_append_66 : decode cX10_append 66 = .ok (.getfield 30, 3) := by decide +kernel
theorem dX10_append_69 : decode cX10_append 69 = .ok (.ireturn, 1) := by decide +kernel
theorem dX10_clearBuffer_0 : decode cX10_clearBuffer 0 = .ok (.aload_n 0, 1) := by decide +kernel
theorem dX10_clearBuffer_1 : decode cX10_clearBuffer 1 = .ok (.getfield 30, 3) := by decide +kernel
theorem dX10_clearBuffer_4 : decode cX10_clearBuffer 4 = .ok (.istore_n 1, 1) := by decide +kernel
theorem dX10_clearBuffer_5 : decode cX10_clearBuffer 5 = .ok (.aload_n 0, 1) := by decide +kernel
theorem dX10_clearBuffer_6 : decode cX10_clearBuffer 6 = .ok (.iconst 0, 1) := by decide +kernel
theorem dX10_clearBuffer_7 : decode cX10_clearBuffer 7 = .ok (.putfield 30, 3) := by decide +kernel
theorem dX10_clearBuffer_10 : decode cX10_clearBuffer 10 = .ok (.iload_n 1, 1) := by decide +kernel
theorem dX10_clearBuffer_11 : decode cX10_clearBuffer 11 = .ok (.ireturn, 1) := by decide +kernel
theorem dX10_firstError_0 : decode cX10_firstError 0 = .ok (.iload_n 1, 1) := by decide +kernel
theorem dX10_firstError_1 : decode cX10_firstError 1 = .ok (.ifCond .eq 21, 3) := by decide +kernel
theorem dX10_firstError_4 : decode cX10_firstError 4 = .ok (.aload_n 0, 1) := by decide +kernel
theorem dX10_firstError_5 : decode cX10_firstError 5 = .ok (.getfield 37, 3) := by decide +kernel
theorem dX10_firstError_8 : decode cX10_firstError 8 = .ok (.aload_n 0, 1) := by decide +kernel
theorem dX10_firstError_9 : decode cX10_firstError 9 = .ok (.getfield 26, 3) := by decide +kernel
theorem dX10_firstError_12 : decode cX10_firstError 12 = .ok (.aload_n 0, 1) := by decide +kernel
theorem dX10_firstError_13 : decode cX10_firstError 13 = .ok (.getfield 30, 3) := by decide +kernel
theorem dX10_firstError_16 : decode cX10_firstError 16 = .ok (.invokevirtual 66, 3) := by decide +kernel
theorem dX10_firstError_19 : decode cX10_firstError 19 = .ok (.goto 7, 3) := by decide +kernel
theorem dX10_firstError_22 : decode cX10_firstError 22 = .ok (.aload_n 0, 1) := by decide +kernel
theorem dX10_firstError_23 : decode cX10_firstError 23 = .ok (.invokevirtual 109, 3) := by decide +kernel
theorem dX10_firstError_26 : decode cX10_firstError 26 = .ok (.ireturn, 1) := by decide +kernel
theorem dX10_square_0 : decode cX10_square 0 = .ok (.aload_n 0, 1) := by decide +kernel
theorem dX10_square_1 : decode cX10_square 1 = .ok (.getfield 12, 3) := by decide +kernel
theorem dX10_square_4 : decode cX10_square 4 = .ok (.iload_n 1, 1) := by decide +kernel
theorem dX10_square_5 : decode cX10_square 5 = .ok (.invokevirtual 147, 3) := by decide +kernel
theorem dX10_square_8 : decode cX10_square 8 = .ok (.ifCond .ne 13, 3) := by decide +kernel
theorem dX10_square_11 : decode cX10_square 11 = .ok (.new 104, 3) := by decide +kernel
theorem dX10_square_14 : decode cX10_square 14 = .ok (.dup, 1) := by decide +kernel
theorem dX10_square_15 : decode cX10_square 15 = .ok (.ldc 150, 2) := by decide +kernel
theorem dX10_square_17 : decode cX10_square 17 = .ok (.invokespecial 108, 3) := by decide +kernel
theorem dX10_square_20 : decode cX10_square 20 = .ok (.athrow, 1) := by decide +kernel
theorem dX10_square_21 : decode cX10_square 21 = .ok (.iload_n 2, 1) := by decide +kernel
theorem dX10_square_22 : decode cX10_square 22 = .ok (.tableswitch 77 0 3 #[30, 39, 49, 58], 30) := by decide +kernel
theorem dX10_square_52 : decode cX10_square 52 = .ok (.aload_n 0, 1) := by decide +kernel
theorem dX10_square_53 : decode cX10_square 53 = .ok (.getfield 12, 3) := by decide +kernel
theorem dX10_square_56 : decode cX10_square 56 = .ok (.iload_n 1, 1) := by decide +kernel
theorem dX10_square_57 : decode cX10_square 57 = .ok (.invokevirtual 284, 3) := by decide +kernel
theorem dX10_square_60 : decode cX10_square 60 = .ok (.ireturn, 1) := by decide +kernel
theorem dX10_square_61 : decode cX10_square 61 = .ok (.aload_n 0, 1) := by decide +kernel
theorem dX10_square_62 : decode cX10_square 62 = .ok (.getfield 12, 3) := by decide +kernel
theorem dX10_square_65 : decode cX10_square 65 = .ok (.iload_n 1, 1) := by decide +kernel
theorem dX10_square_66 : decode cX10_square 66 = .ok (.iconst (-1), 1) := by decide +kernel
theorem dX10_square_67 : decode cX10_square 67 = .ok (.invokevirtual 287, 3) := by decide +kernel
theorem dX10_square_70 : decode cX10_square 70 = .ok (.ireturn, 1) := by decide +kernel
theorem dX10_square_71 : decode cX10_square 71 = .ok (.aload_n 0, 1) := by decide +kernel
theorem dX10_square_72 : decode cX10_square 72 = .ok (.getfield 12, 3) := by decide +kernel
theorem dX10_square_75 : decode cX10_square 75 = .ok (.iload_n 1, 1) := by decide +kernel
theorem dX10_square_76 : decode cX10_square 76 = .ok (.invokevirtual 290, 3) := by decide +kernel
theorem dX10_square_79 : decode cX10_square 79 = .ok (.ireturn, 1) := by decide +kernel
theorem dX10_square_80 : decode cX10_square 80 = .ok (.aload_n 0, 1) := by decide +kernel
theorem dX10_square_81 : decode cX10_square 81 = .ok (.getfield 12, 3) := by decide +kernel
theorem dX10_square_84 : decode cX10_square 84 = .ok (.iload_n 1, 1) := by decide +kernel
theorem dX10_square_85 : decode cX10_square 85 = .ok (.iconst 0, 1) := by decide +kernel
theorem dX10_square_86 : decode cX10_square 86 = .ok (.iconst (-1), 1) := by decide +kernel
theorem dX10_square_87 : decode cX10_square 87 = .ok (.invokevirtual 152, 3) := by decide +kernel
theorem dX10_square_90 : decode cX10_square 90 = .ok (.ifCond .eq 7, 3) := by decide +kernel
theorem dX10_square_93 : decode cX10_square 93 = .ok (.iconst 1, 1) := by decide +kernel
theorem dX10_square_94 : decode cX10_square 94 = .ok (.goto 4, 3) := by decide +kernel
theorem dX10_square_97 : decode cX10_square 97 = .ok (.iconst 0, 1) := by decide +kernel
theorem dX10_square_98 : decode cX10_square 98 = .ok (.ireturn, 1) := by decide +kernel
theorem dX10_square_99 : decode cX10_square 99 = .ok (.new 74, 3) := by decide +kernel
theorem dX10_square_102 : decode cX10_square 102 = .ok (.dup, 1) := by decide +kernel
theorem dX10_square_103 : decode cX10_square 103 = .ok (.ldc_w 293, 3) := by decide +kernel
theorem dX10_square_106 : decode cX10_square 106 = .ok (.invokespecial 78, 3) := by decide +kernel
theorem dX10_square_109 : decode cX10_square 109 = .ok (.athrow, 1) := by decide +kernel
theorem dX10_linkOf_0 : decode cX10_linkOf 0 = .ok (.aload_n 0, 1) := by decide +kernel
theorem dX10_linkOf_1 : decode cX10_linkOf 1 = .ok (.getfield 12, 3) := by decide +kernel
theorem dX10_linkOf_4 : decode cX10_linkOf 4 = .ok (.iload_n 1, 1) := by decide +kernel
theorem dX10_linkOf_5 : decode cX10_linkOf 5 = .ok (.invokevirtual 164, 3) := by decide +kernel
theorem dX10_linkOf_8 : decode cX10_linkOf 8 = .ok (.ifCond .ne 13, 3) := by decide +kernel
theorem dX10_linkOf_11 : decode cX10_linkOf 11 = .ok (.new 104, 3) := by decide +kernel
theorem dX10_linkOf_14 : decode cX10_linkOf 14 = .ok (.dup, 1) := by decide +kernel
theorem dX10_linkOf_15 : decode cX10_linkOf 15 = .ok (.ldc 167, 2) := by decide +kernel
theorem dX10_linkOf_17 : decode cX10_linkOf 17 = .ok (.invokespecial 108, 3) := by decide +kernel
theorem dX10_linkOf_20 : decode cX10_linkOf 20 = .ok (.athrow, 1) := by decide +kernel
theorem dX10_linkOf_21 : decode cX10_linkOf 21 = .ok (.iload_n 2, 1) := by decide +kernel
theorem dX10_linkOf_22 : decode cX10_linkOf 22 = .ok (.tableswitch 62 0 2 #[26, 35, 44], 26) := by decide +kernel
theorem dX10_linkOf_48 : decode cX10_linkOf 48 = .ok (.aload_n 0, 1) := by decide +kernel
theorem dX10_linkOf_49 : decode cX10_linkOf 49 = .ok (.getfield 12, 3) := by decide +kernel
theorem dX10_linkOf_52 : decode cX10_linkOf 52 = .ok (.iload_n 1, 1) := by decide +kernel
theorem dX10_linkOf_53 : decode cX10_linkOf 53 = .ok (.invokevirtual 180, 3) := by decide +kernel
theorem dX10_linkOf_56 : decode cX10_linkOf 56 = .ok (.ireturn, 1) := by decide +kernel
theorem dX10_linkOf_57 : decode cX10_linkOf 57 = .ok (.aload_n 0, 1) := by decide +kernel
theorem dX10_linkOf_58 : decode cX10_linkOf 58 = .ok (.getfield 12, 3) := by decide +kernel
theorem dX10_linkOf_61 : decode cX10_linkOf 61 = .ok (.iload_n 1, 1) := by decide +kernel
theorem dX10_linkOf_62 : decode cX10_linkOf 62 = .ok (.invokevirtual 175, 3) := by decide +kernel
theorem dX10_linkOf_65 : decode cX10_linkOf 65 = .ok (.ireturn, 1) := by decide +kernel
theorem dX10_linkOf_66 : decode cX10_linkOf 66 = .ok (.aload_n 0, 1) := by decide +kernel
theorem dX10_linkOf_67 : decode cX10_linkOf 67 = .ok (.getfield 12, 3) := by decide +kernel
theorem dX10_linkOf_70 : decode cX10_linkOf 70 = .ok (.iload_n 1, 1) := by decide +kernel
theorem dX10_linkOf_71 : decode cX10_linkOf 71 = .ok (.invokevirtual 175, 3) := by decide +kernel
theorem dX10_linkOf_74 : decode cX10_linkOf 74 = .ok (.aload_n 0, 1) := by decide +kernel
theorem dX10_linkOf_75 : decode cX10_linkOf 75 = .ok (.getfield 12, 3) := by decide +kernel
theorem dX10_linkOf_78 : decode cX10_linkOf 78 = .ok (.iload_n 1, 1) := by decide +kernel
theorem dX10_linkOf_79 : decode cX10_linkOf 79 = .ok (.invokevirtual 180, 3) := by decide +kernel
theorem dX10_linkOf_82 : decode cX10_linkOf 82 = .ok (.isub, 1) := by decide +kernel
theorem dX10_linkOf_83 : decode cX10_linkOf 83 = .ok (.ireturn, 1) := by decide +kernel
theorem dX10_linkOf_84 : decode cX10_linkOf 84 = .ok (.new 74, 3) := by decide +kernel
theorem dX10_linkOf_87 : decode cX10_linkOf 87 = .ok (.dup, 1) := by decide +kernel
theorem dX10_linkOf_88 : decode cX10_linkOf 88 = .ok (.ldc_w 295, 3) := by decide +kernel
theorem dX10_linkOf_91 : decode cX10_linkOf 91 = .ok (.invokespecial 78, 3) := by decide +kernel
theorem dX10_linkOf_94 : decode cX10_linkOf 94 = .ok (.athrow, 1) := by decide +kernel
theorem dX10_face_0 : decode cX10_face 0 = .ok (.iload_n 1, 1) := by decide +kernel
theorem dX10_face_1 : decode cX10_face 1 = .ok (.ifCond .lt 8, 3) := by decide +kernel
theorem dX10_face_4 : decode cX10_face 4 = .ok (.iload_n 1, 1) := by decide +kernel
theorem dX10_face_5 : decode cX10_face 5 = .ok (.iconst 3, 1) := by decide +kernel
theorem dX10_face_6 : decode cX10_face 6 = .ok (.if_icmp .lt 13, 3) := by decide +kernel
theorem dX10_face_9 : decode cX10_face 9 = .ok (.new 104, 3) := by decide +kernel
theorem dX10_face_12 : decode cX10_face 12 = .ok (.dup, 1) := by decide +kernel
theorem dX10_face_13 : decode cX10_face 13 = .ok (.ldc 106, 2) := by decide +kernel
theorem dX10_face_15 : decode cX10_face 15 = .ok (.invokespecial 108, 3) := by decide +kernel
theorem dX10_face_18 : decode cX10_face 18 = .ok (.athrow, 1) := by decide +kernel
theorem dX10_face_19 : decode cX10_face 19 = .ok (.iload_n 2, 1) := by decide +kernel
theorem dX10_face_20 : decode cX10_face 20 = .ok (.ifCond .lt 9, 3) := by decide +kernel
theorem dX10_face_23 : decode cX10_face 23 = .ok (.iload_n 2, 1) := by decide +kernel
theorem dX10_face_24 : decode cX10_face 24 = .ok (.bipush 6, 2) := by decide +kernel
theorem dX10_face_26 : decode cX10_face 26 = .ok (.if_icmp .lt 14, 3) := by decide +kernel
theorem dX10_face_29 : decode cX10_face 29 = .ok (.new 74, 3) := by decide +kernel
theorem dX10_face_32 : decode cX10_face 32 = .ok (.dup, 1) := by decide +kernel
theorem dX10_face_33 : decode cX10_face 33 = .ok (.ldc_w 297, 3) := by decide +kernel
theorem dX10_face_36 : decode cX10_face 36 = .ok (.invokespecial 78, 3) := by decide +kernel
theorem dX10_face_39 : decode cX10_face 39 = .ok (.athrow, 1) := by decide +kernel
theorem dX10_face_40 : decode cX10_face 40 = .ok (.iload_n 2, 1) := by decide +kernel
theorem dX10_face_41 : decode cX10_face 41 = .ok (.aload_n 0, 1) := by decide +kernel
theorem dX10_face_42 : decode cX10_face 42 = .ok (.getfield 12, 3) := by decide +kernel
theorem dX10_face_45 : decode cX10_face 45 = .ok (.iload_n 1, 1) := by decide +kernel
theorem dX10_face_46 : decode cX10_face 46 = .ok (.invokevirtual 125, 3) := by decide +kernel
theorem dX10_face_49 : decode cX10_face 49 = .ok (.if_icmp .ge 15, 3) := by decide +kernel
theorem dX10_face_52 : decode cX10_face 52 = .ok (.aload_n 0, 1) := by decide +kernel
theorem dX10_face_53 : decode cX10_face 53 = .ok (.getfield 12, 3) := by decide +kernel
theorem dX10_face_56 : decode cX10_face 56 = .ok (.iload_n 1, 1) := by decide +kernel
theorem dX10_face_57 : decode cX10_face 57 = .ok (.iload_n 2, 1) := by decide +kernel
theorem dX10_face_58 : decode cX10_face 58 = .ok (.invokevirtual 256, 3) := by decide +kernel
theorem dX10_face_61 : decode cX10_face 61 = .ok (.goto 4, 3) := by decide +kernel
theorem dX10_face_64 : decode cX10_face 64 = .ok (.iconst (-1), 1) := by decide +kernel
theorem dX10_face_65 : decode cX10_face 65 = .ok (.ireturn, 1) := by decide +kernel
theorem dX10_player_0 : decode cX10_player 0 = .ok (.aload_n 0, 1) := by decide +kernel
theorem dX10_player_1 : decode cX10_player 1 = .ok (.getfield 12, 3) := by decide +kernel
theorem dX10_player_4 : decode cX10_player 4 = .ok (.iload_n 1, 1) := by decide +kernel
theorem dX10_player_5 : decode cX10_player 5 = .ok (.invokevirtual 235, 3) := by decide +kernel
theorem dX10_player_8 : decode cX10_player 8 = .ok (.ifCond .ne 13, 3) := by decide +kernel
theorem dX10_player_11 : decode cX10_player 11 = .ok (.new 104, 3) := by decide +kernel
theorem dX10_player_14 : decode cX10_player 14 = .ok (.dup, 1) := by decide +kernel
theorem dX10_player_15 : decode cX10_player 15 = .ok (.ldc 238, 2) := by decide +kernel
theorem dX10_player_17 : decode cX10_player 17 = .ok (.invokespecial 108, 3) := by decide +kernel
theorem dX10_player_20 : decode cX10_player 20 = .ok (.athrow, 1) := by decide +kernel
theorem dX10_player_21 : decode cX10_player 21 = .ok (.iload_n 2, 1) := by decide +kernel
theorem dX10_player_22 : decode cX10_player 22 = .ok (.tableswitch 94 0 4 #[34, 43, 52, 69, 85], 34) := by decide +kernel
theorem dX10_player_56 : decode cX10_player 56 = .ok (.aload_n 0, 1) := by decide +kernel
theorem dX10_player_57 : decode cX10_player 57 = .ok (.getfield 12, 3) := by decide +kernel
theorem dX10_player_60 : decode cX10_player 60 = .ok (.iload_n 1, 1) := by decide +kernel
theorem dX10_player_61 : decode cX10_player 61 = .ok (.invokevirtual 253, 3) := by decide +kernel
theorem dX10_player_64 : decode cX10_player 64 = .ok (.ireturn, 1) := by decide +kernel
theorem dX10_player_65 : decode cX10_player 65 = .ok (.aload_n 0, 1) := by decide +kernel
theorem dX10_player_66 : decode cX10_player 66 = .ok (.getfield 12, 3) := by decide +kernel
theorem dX10_player_69 : decode cX10_player 69 = .ok (.iload_n 1, 1) := by decide +kernel
theorem dX10_player_70 : decode cX10_player 70 = .ok (.invokevirtual 240, 3) := by decide +kernel
theorem dX10_player_73 : decode cX10_player 73 = .ok (.ireturn, 1) := by decide +kernel
theorem dX10_player_74 : decode cX10_player 74 = .ok (.aload_n 0, 1) := by decide +kernel
theorem dX10_player_75 : decode cX10_player 75 = .ok (.getfield 12, 3) := by decide +kernel
theorem dX10_player_78 : decode cX10_player 78 = .ok (.iload_n 1, 1) := by decide +kernel
theorem dX10_player_79 : decode cX10_player 79 = .ok (.invokevirtual 248, 3) := by decide +kernel
theorem dX10_player_82 : decode cX10_player 82 = .ok (.ifCond .eq 7, 3) := by decide +kernel
theorem dX10_player_85 : decode cX10_player 85 = .ok (.iconst 1, 1) := by decide +kernel
theorem dX10_player_86 : decode cX10_player 86 = .ok (.goto 4, 3) := by decide +kernel
theorem dX10_player_89 : decode cX10_player 89 = .ok (.iconst 0, 1) := by decide +kernel
theorem dX10_player_90 : decode cX10_player 90 = .ok (.ireturn, 1) := by decide +kernel
theorem dX10_player_91 : decode cX10_player 91 = .ok (.aload_n 0, 1) := by decide +kernel
theorem dX10_player_92 : decode cX10_player 92 = .ok (.getfield 12, 3) := by decide +kernel
theorem dX10_player_95 : decode cX10_player 95 = .ok (.aload_n 0, 1) := by decide +kernel
theorem dX10_player_96 : decode cX10_player 96 = .ok (.getfield 12, 3) := by decide +kernel
theorem dX10_player_99 : decode cX10_player 99 = .ok (.iload_n 1, 1) := by decide +kernel
theorem dX10_player_100 : decode cX10_player 100 = .ok (.invokevirtual 240, 3) := by decide +kernel
theorem dX10_player_103 : decode cX10_player 103 = .ok (.invokevirtual 243, 3) := by decide +kernel
theorem dX10_player_106 : decode cX10_player 106 = .ok (.ireturn, 1) := by decide +kernel
theorem dX10_player_107 : decode cX10_player 107 = .ok (.aload_n 0, 1) := by decide +kernel
theorem dX10_player_108 : decode cX10_player 108 = .ok (.getfield 12, 3) := by decide +kernel
theorem dX10_player_111 : decode cX10_player 111 = .ok (.iload_n 1, 1) := by decide +kernel
theorem dX10_player_112 : decode cX10_player 112 = .ok (.invokevirtual 299, 3) := by decide +kernel
theorem dX10_player_115 : decode cX10_player 115 = .ok (.ireturn, 1) := by decide +kernel
theorem dX10_player_116 : decode cX10_player 116 = .ok (.new 74, 3) := by decide +kernel
theorem dX10_player_119 : decode cX10_player 119 = .ok (.dup, 1) := by decide +kernel
theorem dX10_player_120 : decode cX10_player 120 = .ok (.ldc_w 302, 3) := by decide +kernel
theorem dX10_player_123 : decode cX10_player 123 = .ok (.invokespecial 78, 3) := by decide +kernel
theorem dX10_player_126 : decode cX10_player 126 = .ok (.athrow, 1) := by decide +kernel
theorem dX10_count_0 : decode cX10_count 0 = .ok (.iload_n 1, 1) := by decide +kernel
theorem dX10_count_1 : decode cX10_count 1 = .ok (.ifCond .lt 9, 3) := by decide +kernel
theorem dX10_count_4 : decode cX10_count 4 = .ok (.iload_n 1, 1) := by decide +kernel
theorem dX10_count_5 : decode cX10_count 5 = .ok (.bipush 14, 2) := by decide +kernel
theorem dX10_count_7 : decode cX10_count 7 = .ok (.if_icmp .lt 14, 3) := by decide +kernel
theorem dX10_count_10 : decode cX10_count 10 = .ok (.new 74, 3) := by decide +kernel
theorem dX10_count_13 : decode cX10_count 13 = .ok (.dup, 1) := by decide +kernel
theorem dX10_count_14 : decode cX10_count 14 = .ok (.ldc_w 304, 3) := by decide +kernel
theorem dX10_count_17 : decode cX10_count 17 = .ok (.invokespecial 78, 3) := by decide +kernel
theorem dX10_count_20 : decode cX10_count 20 = .ok (.athrow, 1) := by decide +kernel
theorem dX10_count_21 : decode cX10_count 21 = .ok (.iload_n 1, 1) := by decide +kernel
theorem dX10_count_22 : decode cX10_count 22 = .ok (.tableswitch 157 0 9 #[54, 62, 70, 78, 94, 102, 117, 125, 141, 149], 54) := by decide +kernel
theorem dX10_count_76 : decode cX10_count 76 = .ok (.aload_n 0, 1) := by decide +kernel
theorem dX10_count_77 : decode cX10_count 77 = .ok (.getfield 12, 3) := by decide +kernel
theorem dX10_count_80 : decode cX10_count 80 = .ok (.getfield 306, 3) := by decide +kernel
theorem dX10_count_83 : decode cX10_count 83 = .ok (.ireturn, 1) := by decide +kernel
theorem dX10_count_84 : decode cX10_count 84 = .ok (.aload_n 0, 1) := by decide +kernel
theorem dX10_count_85 : decode cX10_count 85 = .ok (.getfield 12, 3) := by decide +kernel
theorem dX10_count_88 : decode cX10_count 88 = .ok (.getfield 103, 3) := by decide +kernel
theorem dX10_count_91 : decode cX10_count 91 = .ok (.ireturn, 1) := by decide +kernel
theorem dX10_count_92 : decode cX10_count 92 = .ok (.aload_n 0, 1) := by decide +kernel
theorem dX10_count_93 : decode cX10_count 93 = .ok (.getfield 12, 3) := by decide +kernel
theorem dX10_count_96 : decode cX10_count 96 = .ok (.invokevirtual 309, 3) := by decide +kernel
theorem dX10_count_99 : decode cX10_count 99 = .ok (.ireturn, 1) := by decide +kernel
theorem dX10_count_100 : decode cX10_count 100 = .ok (.aload_n 0, 1) := by decide +kernel
theorem dX10_count_101 : decode cX10_count 101 = .ok (.getfield 12, 3) := by decide +kernel
theorem dX10_count_104 : decode cX10_count 104 = .ok (.getfield 103, 3) := by decide +kernel
theorem dX10_count_107 : decode cX10_count 107 = .ok (.aload_n 0, 1) := by decide +kernel
theorem dX10_count_108 : decode cX10_count 108 = .ok (.getfield 12, 3) := by decide +kernel
theorem dX10_count_111 : decode cX10_count 111 = .ok (.invokevirtual 309, 3) := by decide +kernel
theorem dX10_count_114 : decode cX10_count 114 = .ok (.isub, 1) := by decide +kernel
theorem dX10_count_115 : decode cX10_count 115 = .ok (.ireturn, 1) := by decide +kernel
theorem dX10_count_116 : decode cX10_count 116 = .ok (.aload_n 0, 1) := by decide +kernel
theorem dX10_count_117 : decode cX10_count 117 = .ok (.getfield 12, 3) := by decide +kernel
theorem dX10_count_120 : decode cX10_count 120 = .ok (.getfield 227, 3) := by decide +kernel
theorem dX10_count_123 : decode cX10_count 123 = .ok (.ireturn, 1) := by decide +kernel
theorem dX10_count_124 : decode cX10_count 124 = .ok (.aload_n 0, 1) := by decide +kernel
theorem dX10_count_125 : decode cX10_count 125 = .ok (.getfield 12, 3) := by decide +kernel
theorem dX10_count_128 : decode cX10_count 128 = .ok (.aload_n 0, 1) := by decide +kernel
theorem dX10_count_129 : decode cX10_count 129 = .ok (.getfield 12, 3) := by decide +kernel
theorem dX10_count_132 : decode cX10_count 132 = .ok (.getfield 306, 3) := by decide +kernel
theorem dX10_count_135 : decode cX10_count 135 = .ok (.invokevirtual 290, 3) := by decide +kernel
theorem dX10_count_138 : decode cX10_count 138 = .ok (.ireturn, 1) := by decide +kernel
theorem dX10_count_139 : decode cX10_count 139 = .ok (.aload_n 0, 1) := by decide +kernel
theorem dX10_count_140 : decode cX10_count 140 = .ok (.getfield 12, 3) := by decide +kernel
theorem dX10_count_143 : decode cX10_count 143 = .ok (.getfield 144, 3) := by decide +kernel
theorem dX10_count_146 : decode cX10_count 146 = .ok (.ireturn, 1) := by decide +kernel
theorem dX10_count_147 : decode cX10_count 147 = .ok (.aload_n 0, 1) := by decide +kernel
theorem dX10_count_148 : decode cX10_count 148 = .ok (.getfield 12, 3) := by decide +kernel
theorem dX10_count_151 : decode cX10_count 151 = .ok (.getfield 81, 3) := by decide +kernel
theorem dX10_count_154 : decode cX10_count 154 = .ok (.ifCond .eq 7, 3) := by decide +kernel
theorem dX10_count_157 : decode cX10_count 157 = .ok (.iconst 1, 1) := by decide +kernel
theorem dX10_count_158 : decode cX10_count 158 = .ok (.goto 4, 3) := by decide +kernel
theorem dX10_count_161 : decode cX10_count 161 = .ok (.iconst 0, 1) := by decide +kernel
theorem dX10_count_162 : decode cX10_count 162 = .ok (.ireturn, 1) := by decide +kernel
theorem dX10_count_163 : decode cX10_count 163 = .ok (.aload_n 0, 1) := by decide +kernel
theorem dX10_count_164 : decode cX10_count 164 = .ok (.getfield 12, 3) := by decide +kernel
theorem dX10_count_167 : decode cX10_count 167 = .ok (.invokevirtual 221, 3) := by decide +kernel
theorem dX10_count_170 : decode cX10_count 170 = .ok (.ireturn, 1) := by decide +kernel
theorem dX10_count_171 : decode cX10_count 171 = .ok (.aload_n 0, 1) := by decide +kernel
theorem dX10_count_172 : decode cX10_count 172 = .ok (.getfield 22, 3) := by decide +kernel
theorem dX10_count_175 : decode cX10_count 175 = .ok (.getfield 276, 3) := by decide +kernel
theorem dX10_count_178 : decode cX10_count 178 = .ok (.ireturn, 1) := by decide +kernel
theorem dX10_count_179 : decode cX10_count 179 = .ok (.aload_n 0, 1) := by decide +kernel
theorem dX10_count_180 : decode cX10_count 180 = .ok (.getfield 12, 3) := by decide +kernel
theorem dX10_count_183 : decode cX10_count 183 = .ok (.iload_n 1, 1) := by decide +kernel
theorem dX10_count_184 : decode cX10_count 184 = .ok (.bipush 10, 2) := by decide +kernel
theorem dX10_count_186 : decode cX10_count 186 = .ok (.isub, 1) := by decide +kernel
theorem dX10_count_187 : decode cX10_count 187 = .ok (.invokevirtual 312, 3) := by decide +kernel
theorem dX10_count_190 : decode cX10_count 190 = .ok (.ireturn, 1) := by decide +kernel
theorem dX10_after_0 : decode cX10_after 0 = .ok (.aload_n 0, 1) := by decide +kernel
theorem dX10_after_1 : decode cX10_after 1 = .ok (.getfield 12, 3) := by decide +kernel
theorem dX10_after_4 : decode cX10_after 4 = .ok (.iload_n 1, 1) := by decide +kernel
theorem dX10_after_5 : decode cX10_after 5 = .ok (.invokevirtual 147, 3) := by decide +kernel
theorem dX10_after_8 : decode cX10_after 8 = .ok (.ifCond .eq 14, 3) := by decide +kernel
theorem dX10_after_11 : decode cX10_after 11 = .ok (.iload_n 1, 1) := by decide +kernel
theorem dX10_after_12 : decode cX10_after 12 = .ok (.aload_n 0, 1) := by decide +kernel
theorem dX10_after_13 : decode cX10_after 13 = .ok (.getfield 12, 3) := by decide +kernel
theorem dX10_after_16 : decode cX10_after 16 = .ok (.getfield 306, 3) := by decide +kernel
theorem dX10_after_19 : decode cX10_after 19 = .ok (.if_icmp .ne 14, 3) := by decide +kernel
theorem dX10_after_22 : decode cX10_after 22 = .ok (.new 104, 3) := by decide +kernel
theorem dX10_after_25 : decode cX10_after 25 = .ok (.dup, 1) := by decide +kernel
theorem dX10_after_26 : decode cX10_after 26 = .ok (.ldc_w 315, 3) := by decide +kernel
theorem dX10_after_29 : decode cX10_after 29 = .ok (.invokespecial 108, 3) := by decide +kernel
theorem dX10_after_32 : decode cX10_after 32 = .ok (.athrow, 1) := by decide +kernel
theorem dX10_after_33 : decode cX10_after 33 = .ok (.iload_n 2, 1) := by decide +kernel
theorem dX10_after_34 : decode cX10_after 34 = .ok (.iconst 1, 1) := by decide +kernel
theorem dX10_after_35 : decode cX10_after 35 = .ok (.if_icmp .lt 9, 3) := by decide +kernel
theorem dX10_after_38 : decode cX10_after 38 = .ok (.iload_n 2, 1) := by decide +kernel
theorem dX10_after_39 : decode cX10_after 39 = .ok (.bipush 9, 2) := by decide +kernel
theorem dX10_after_41 : decode cX10_after 41 = .ok (.if_icmp .le 14, 3) := by decide +kernel
theorem dX10_after_44 : decode cX10_after 44 = .ok (.new 74, 3) := by decide +kernel
theorem dX10_after_47 : decode cX10_after 47 = .ok (.dup, 1) := by decide +kernel
theorem dX10_after_48 : decode cX10_after 48 = .ok (.ldc_w 317, 3) := by decide +kernel
theorem dX10_after_51 : decode cX10_after 51 = .ok (.invokespecial 78, 3) := by decide +kernel
theorem dX10_after_54 : decode cX10_after 54 = .ok (.athrow, 1) := by decide +kernel
theorem dX10_after_55 : decode cX10_after 55 = .ok (.aload_n 0, 1) := by decide +kernel
theorem dX10_after_56 : decode cX10_after 56 = .ok (.getfield 12, 3) := by decide +kernel
theorem dX10_after_59 : decode cX10_after 59 = .ok (.iload_n 1, 1) := by decide +kernel
theorem dX10_after_60 : decode cX10_after 60 = .ok (.iload_n 2, 1) := by decide +kernel
theorem dX10_after_61 : decode cX10_after 61 = .ok (.invokevirtual 260, 3) := by decide +kernel
theorem dX10_after_64 : decode cX10_after 64 = .ok (.ireturn, 1) := by decide +kernel
theorem dX10_mean_0 : decode cX10_mean 0 = .ok (.aload_n 0, 1) := by decide +kernel
theorem dX10_mean_1 : decode cX10_mean 1 = .ok (.getfield 12, 3) := by decide +kernel
theorem dX10_mean_4 : decode cX10_mean 4 = .ok (.iload_n 1, 1) := by decide +kernel
theorem dX10_mean_5 : decode cX10_mean 5 = .ok (.invokevirtual 147, 3) := by decide +kernel
theorem dX10_mean_8 : decode cX10_mean 8 = .ok (.ifCond .ne 13, 3) := by decide +kernel
theorem dX10_mean_11 : decode cX10_mean 11 = .ok (.new 104, 3) := by decide +kernel
theorem dX10_mean_14 : decode cX10_mean 14 = .ok (.dup, 1) := by decide +kernel
theorem dX10_mean_15 : decode cX10_mean 15 = .ok (.ldc 150, 2) := by decide +kernel
theorem dX10_mean_17 : decode cX10_mean 17 = .ok (.invokespecial 108, 3) := by decide +kernel
theorem dX10_mean_20 : decode cX10_mean 20 = .ok (.athrow, 1) := by decide +kernel
theorem dX10_mean_21 : decode cX10_mean 21 = .ok (.iload_n 2, 1) := by decide +kernel
theorem dX10_mean_22 : decode cX10_mean 22 = .ok (.ifCond .lt 8, 3) := by decide +kernel
theorem dX10_mean_25 : decode cX10_mean 25 = .ok (.iload_n 2, 1) := by decide +kernel
theorem dX10_mean_26 : decode cX10_mean 26 = .ok (.iconst 1, 1) := by decide +kernel
theorem dX10_mean_27 : decode cX10_mean 27 = .ok (.if_icmp .le 14, 3) := by decide +kernel
theorem dX10_mean_30 : decode cX10_mean 30 = .ok (.new 74, 3) := by decide +kernel
theorem dX10_mean_33 : decode cX10_mean 33 = .ok (.dup, 1) := by decide +kernel
theorem dX10_mean_34 : decode cX10_mean 34 = .ok (.ldc_w 319, 3) := by decide +kernel
theorem dX10_mean_37 : decode cX10_mean 37 = .ok (.invokespecial 78, 3) := by decide +kernel
theorem dX10_mean_40 : decode cX10_mean 40 = .ok (.athrow, 1) := by decide +kernel
theorem dX10_mean_41 : decode cX10_mean 41 = .ok (.aload_n 0, 1) := by decide +kernel
theorem dX10_mean_42 : decode cX10_mean 42 = .ok (.getfield 44, 3) := by decide +kernel
theorem dX10_mean_45 : decode cX10_mean 45 = .ok (.aload_n 0, 1) := by decide +kernel
theorem dX10_mean_46 : decode cX10_mean 46 = .ok (.getfield 12, 3) := by decide +kernel
theorem dX10_mean_49 : decode cX10_mean 49 = .ok (.invokevirtual 202, 3) := by decide +kernel
theorem dX10_mean_52 : decode cX10_mean 52 = .ok (.astore_n 3, 1) := by decide +kernel
theorem dX10_mean_53 : decode cX10_mean 53 = .ok (.aload_n 3, 1) := by decide +kernel
theorem dX10_mean_54 : decode cX10_mean 54 = .ok (.iconst 0, 1) := by decide +kernel
theorem dX10_mean_55 : decode cX10_mean 55 = .ok (.iload_n 1, 1) := by decide +kernel
theorem dX10_mean_56 : decode cX10_mean 56 = .ok (.invokevirtual 206, 3) := by decide +kernel
theorem dX10_mean_59 : decode cX10_mean 59 = .ok (.aload_n 3, 1) := by decide +kernel
theorem dX10_mean_60 : decode cX10_mean 60 = .ok (.iconst 0, 1) := by decide +kernel
theorem dX10_mean_61 : decode cX10_mean 61 = .ok (.invokevirtual 210, 3) := by decide +kernel
theorem dX10_mean_64 : decode cX10_mean 64 = .ok (.iload_n 2, 1) := by decide +kernel
theorem dX10_mean_65 : decode cX10_mean 65 = .ok (.invokestatic 321, 3) := by decide +kernel
theorem dX10_mean_68 : decode cX10_mean 68 = .ok (.lreturn, 1) := by decide +kernel
theorem dX10_bestSide_0 : decode cX10_bestSide 0 = .ok (.aload_n 0, 1) := by decide +kernel
theorem dX10_bestSide_1 : decode cX10_bestSide 1 = .ok (.getfield 12, 3) := by decide +kernel
theorem dX10_bestSide_4 : decode cX10_bestSide 4 = .ok (.iload_n 1, 1) := by decide +kernel
theorem dX10_bestSide_5 : decode cX10_bestSide 5 = .ok (.invokevirtual 235, 3) := by decide +kernel
theorem dX10_bestSide_8 : decode cX10_bestSide 8 = .ok (.ifCond .ne 13, 3) := by decide +kernel
theorem dX10_bestSide_11 : decode cX10_bestSide 11 = .ok (.new 104, 3) := by decide +kernel
theorem dX10_bestSide_14 : decode cX10_bestSide 14 = .ok (.dup, 1) := by decide +kernel
theorem dX10_bestSide_15 : decode cX10_bestSide 15 = .ok (.ldc 238, 2) := by decide +kernel
theorem dX10_bestSide_17 : decode cX10_bestSide 17 = .ok (.invokespecial 108, 3) := by decide +kernel
theorem dX10_bestSide_20 : decode cX10_bestSide 20 = .ok (.athrow, 1) := by decide +kernel
theorem dX10_bestSide_21 : decode cX10_bestSide 21 = .ok (.aload_n 0, 1) := by decide +kernel
theorem dX10_bestSide_22 : decode cX10_bestSide 22 = .ok (.getfield 12, 3) := by decide +kernel
theorem dX10_bestSide_25 : decode cX10_bestSide 25 = .ok (.iload_n 1, 1) := by decide +kernel
theorem dX10_bestSide_26 : decode cX10_bestSide 26 = .ok (.invokevirtual 248, 3) := by decide +kernel
theorem dX10_bestSide_29 : decode cX10_bestSide 29 = .ok (.ifCond .eq 5, 3) := by decide +kernel
theorem dX10_bestSide_32 : decode cX10_bestSide 32 = .ok (.iconst (-1), 1) := by decide +kernel
theorem dX10_bestSide_33 : decode cX10_bestSide 33 = .ok (.ireturn, 1) := by decide +kernel
theorem dX10_bestSide_34 : decode cX10_bestSide 34 = .ok (.aload_n 0, 1) := by decide +kernel
theorem dX10_bestSide_35 : decode cX10_bestSide 35 = .ok (.getfield 44, 3) := by decide +kernel
theorem dX10_bestSide_38 : decode cX10_bestSide 38 = .ok (.aload_n 0, 1) := by decide +kernel
theorem dX10_bestSide_39 : decode cX10_bestSide 39 = .ok (.getfield 12, 3) := by decide +kernel
theorem dX10_bestSide_42 : decode cX10_bestSide 42 = .ok (.invokevirtual 202, 3) := by decide +kernel
theorem dX10_bestSide_45 : decode cX10_bestSide 45 = .ok (.astore_n 2, 1) := by decide +kernel
theorem dX10_bestSide_46 : decode cX10_bestSide 46 = .ok (.aload_n 0, 1) := by decide +kernel
theorem dX10_bestSide_47 : decode cX10_bestSide 47 = .ok (.getfield 12, 3) := by decide +kernel
theorem dX10_bestSide_50 : decode cX10_bestSide 50 = .ok (.aload_n 0, 1) := by decide +kernel
theorem dX10_bestSide_51 : decode cX10_bestSide 51 = .ok (.getfield 12, 3) := by decide +kernel
theorem dX10_bestSide_54 : decode cX10_bestSide 54 = .ok (.iload_n 1, 1) := by decide +kernel
theorem dX10_bestSide_55 : decode cX10_bestSide 55 = .ok (.invokevirtual 240, 3) := by decide +kernel
theorem dX10_bestSide_58 : decode cX10_bestSide 58 = .ok (.invokevirtual 243, 3) := by decide +kernel
theorem dX10_bestSide_61 : decode cX10_bestSide 61 = .ok (.istore_n 3, 1) := by decide +kernel
theorem dX10_bestSide_62 : decode cX10_bestSide 62 = .ok (.iconst (-1), 1) := by decide +kernel
theorem dX10_bestSide_63 : decode cX10_bestSide 63 = .ok (.istore 4, 2) := by decide +kernel
theorem dX10_bestSide_65 : decode cX10_bestSide 65 = .ok (.lconst 0, 1) := by decide +kernel
theorem dX10_bestSide_66 : decode cX10_bestSide 66 = .ok (.lstore 5, 2) := by decide +kernel
theorem dX10_bestSide_68 : decode cX10_bestSide 68 = .ok (.iconst 0, 1) := by decide +kernel
theorem dX10_bestSide_69 : decode cX10_bestSide 69 = .ok (.istore 7, 2) := by decide +kernel
theorem dX10_bestSide_71 : decode cX10_bestSide 71 = .ok (.iload 7, 2) := by decide +kernel
theorem dX10_bestSide_73 : decode cX10_bestSide 73 = .ok (.aload_n 0, 1) := by decide +kernel
theorem dX10_bestSide_74 : decode cX10_bestSide 74 = .ok (.getfield 12, 3) := by decide +kernel
theorem dX10_bestSide_77 : decode cX10_bestSide 77 = .ok (.iload_n 3, 1) := by decide +kernel
theorem dX10_bestSide_78 : decode cX10_bestSide 78 = .ok (.invokevirtual 125, 3) := by decide +kernel
theorem dX10_bestSide_81 : decode cX10_bestSide 81 = .ok (.if_icmp .ge 67, 3) := by decide +kernel
theorem dX10_bestSide_84 : decode cX10_bestSide 84 = .ok (.aload_n 0, 1) := by decide +kernel
theorem dX10_bestSide_85 : decode cX10_bestSide 85 = .ok (.getfield 12, 3) := by decide +kernel
theorem dX10_bestSide_88 : decode cX10_bestSide 88 = .ok (.aload_n 0, 1) := by decide +kernel
theorem dX10_bestSide_89 : decode cX10_bestSide 89 = .ok (.getfield 12, 3) := by decide +kernel
theorem dX10_bestSide_92 : decode cX10_bestSide 92 = .ok (.iload_n 1, 1) := by decide +kernel
theorem dX10_bestSide_93 : decode cX10_bestSide 93 = .ok (.invokevirtual 253, 3) := by decide +kernel
theorem dX10_bestSide_96 : decode cX10_bestSide 96 = .ok (.aload_n 0, 1) := by decide +kernel
theorem dX10_bestSide_97 : decode cX10_bestSide 97 = .ok (.getfield 12, 3) := by decide +kernel
theorem dX10_bestSide_100 : decode cX10_bestSide 100 = .ok (.iload_n 3, 1) := by decide +kernel
theorem dX10_bestSide_101 : decode cX10_bestSide 101 = .ok (.iload 7, 2) := by decide +kernel
theorem dX10_bestSide_103 : decode cX10_bestSide 103 = .ok (.invokevirtual 256, 3) := by decide +kernel
theorem dX10_bestSide_106 : decode cX10_bestSide 106 = .ok (.invokevirtual 260, 3) := by decide +kernel
theorem dX10_bestSide_109 : decode cX10_bestSide 109 = .ok (.istore 8, 2) := by decide +kernel
theorem dX10_bestSide_111 : decode cX10_bestSide 111 = .ok (.aload_n 2, 1) := by decide +kernel
theorem dX10_bestSide_112 : decode cX10_bestSide 112 = .ok (.iconst 0, 1) := by decide +kernel
theorem dX10_bestSide_113 : decode cX10_bestSide 113 = .ok (.iload 8, 2) := by decide +kernel
theorem dX10_bestSide_115 : decode cX10_bestSide 115 = .ok (.invokevirtual 206, 3) := by decide +kernel
theorem dX10_bestSide_118 : decode cX10_bestSide 118 = .ok (.lstore 9, 2) := by decide +kernel
theorem dX10_bestSide_120 : decode cX10_bestSide 120 = .ok (.iload 4, 2) := by decide +kernel
theorem dX10_bestSide_122 : decode cX10_bestSide 122 = .ok (.iconst (-1), 1) := by decide +kernel
theorem dX10_bestSide_123 : decode cX10_bestSide 123 = .ok (.if_icmp .eq 11, 3) := by decide +kernel
theorem dX10_bestSide_126 : decode cX10_bestSide 126 = .ok (.lload 9, 2) := by decide +kernel
theorem dX10_bestSide_128 : decode cX10_bestSide 128 = .ok (.lload 5, 2) := by decide +kernel
theorem dX10_bestSide_130 : decode cX10_bestSide 130 = .ok (.lcmp, 1) := by decide +kernel
theorem dX10_bestSide_131 : decode cX10_bestSide 131 = .ok (.ifCond .ge 11, 3) := by decide +kernel
theorem dX10_bestSide_134 : decode cX10_bestSide 134 = .ok (.iload 7, 2) := by decide +kernel
theorem dX10_bestSide_136 : decode cX10_bestSide 136 = .ok (.istore 4, 2) := by decide +kernel
theorem dX10_bestSide_138 : decode cX10_bestSide 138 = .ok (.lload 9, 2) := by decide +kernel
theorem dX10_bestSide_140 : decode cX10_bestSide 140 = .ok (.lstore 5, 2) := by decide +kernel
theorem dX10_bestSide_142 : decode cX10_bestSide 142 = .ok (.iinc 7 1, 3) := by decide +kernel
theorem dX10_bestSide_145 : decode cX10_bestSide 145 = .ok (.goto (-74), 3) := by decide +kernel
theorem dX10_bestSide_148 : decode cX10_bestSide 148 = .ok (.iload 4, 2) := by decide +kernel
theorem dX10_bestSide_150 : decode cX10_bestSide 150 = .ok (.ireturn, 1) := by decide +kernel
theorem dX10_firstErrorOfDie_0 : decode cX10_firstErrorOfDie 0 = .ok (.iconst 0, 1) := by decide +kernel
theorem dX10_firstErrorOfDie_1 : decode cX10_firstErrorOfDie 1 = .ok (.istore_n 1, 1) := by decide +kernel
theorem dX10_firstErrorOfDie_2 : decode cX10_firstErrorOfDie 2 = .ok (.iload_n 1, 1) := by decide +kernel
theorem dX10_firstErrorOfDie_3 : decode cX10_firstErrorOfDie 3 = .ok (.aload_n 0, 1) := by decide +kernel
theorem dX10_firstErrorOfDie_4 : decode cX10_firstErrorOfDie 4 = .ok (.getfield 30, 3) := by decide +kernel
theorem dX10_firstErrorOfDie_7 : decode cX10_firstErrorOfDie 7 = .ok (.if_icmp .ge 38, 3) := by decide +kernel
theorem dX10_firstErrorOfDie_10 : decode cX10_firstErrorOfDie 10 = .ok (.aload_n 0, 1) := by decide +kernel
theorem dX10_firstErrorOfDie_11 : decode cX10_firstErrorOfDie 11 = .ok (.getfield 26, 3) := by decide +kernel
theorem dX10_firstErrorOfDie_14 : decode cX10_firstErrorOfDie 14 = .ok (.iload_n 1, 1) := by decide +kernel
theorem dX10_firstErrorOfDie_15 : decode cX10_firstErrorOfDie 15 = .ok (.invokestatic 436, 3) := by decide +kernel
theorem dX10_firstErrorOfDie_18 : decode cX10_firstErrorOfDie 18 = .ok (.istore_n 2, 1) := by decide +kernel
theorem dX10_firstErrorOfDie_19 : decode cX10_firstErrorOfDie 19 = .ok (.iload_n 1, 1) := by decide +kernel
theorem dX10_firstErrorOfDie_20 : decode cX10_firstErrorOfDie 20 = .ok (.bipush 6, 2) := by decide +kernel
theorem dX10_firstErrorOfDie_22 : decode cX10_firstErrorOfDie 22 = .ok (.if_icmp .ge 15, 3) := by decide +kernel
theorem dX10_firstErrorOfDie_25 : decode cX10_firstErrorOfDie 25 = .ok (.iload_n 2, 1) := by decide +kernel
theorem dX10_firstErrorOfDie_26 : decode cX10_firstErrorOfDie 26 = .ok (.bipush 49, 2) := by decide +kernel
theorem dX10_firstErrorOfDie_28 : decode cX10_firstErrorOfDie 28 = .ok (.if_icmp .lt 9, 3) := by decide +kernel
theorem dX10_firstErrorOfDie_31 : decode cX10_firstErrorOfDie 31 = .ok (.iload_n 2, 1) := by decide +kernel
theorem dX10_firstErrorOfDie_32 : decode cX10_firstErrorOfDie 32 = .ok (.bipush 57, 2) := by decide +kernel
theorem dX10_firstErrorOfDie_34 : decode cX10_firstErrorOfDie 34 = .ok (.if_icmp .le 5, 3) := by decide +kernel
theorem dX10_firstErrorOfDie_37 : decode cX10_firstErrorOfDie 37 = .ok (.iload_n 1, 1) := by decide +kernel
theorem dX10_firstErrorOfDie_38 : decode cX10_firstErrorOfDie 38 = .ok (.ireturn, 1) := by decide +kernel
theorem dX10_firstErrorOfDie_39 : decode cX10_firstErrorOfDie 39 = .ok (.iinc 1 1, 3) := by decide +kernel
theorem dX10_firstErrorOfDie_42 : decode cX10_firstErrorOfDie 42 = .ok (.goto (-40), 3) := by decide +kernel
theorem dX10_firstErrorOfDie_45 : decode cX10_firstErrorOfDie 45 = .ok (.aload_n 0, 1) := by decide +kernel
theorem dX10_firstErrorOfDie_46 : decode cX10_firstErrorOfDie 46 = .ok (.getfield 30, 3) := by decide +kernel
theorem dX10_firstErrorOfDie_49 : decode cX10_firstErrorOfDie 49 = .ok (.ireturn, 1) := by decide +kernel
theorem dX10_isDie_0 : decode cX10_isDie 0 = .ok (.iload_n 0, 1) := by decide +kernel
theorem dX10_isDie_1 : decode cX10_isDie 1 = .ok (.ifCond .lt 12, 3) := by decide +kernel
theorem dX10_isDie_4 : decode cX10_isDie 4 = .ok (.iload_n 0, 1) := by decide +kernel
theorem dX10_isDie_5 : decode cX10_isDie 5 = .ok (.iconst 3, 1) := by decide +kernel
theorem dX10_isDie_6 : decode cX10_isDie 6 = .ok (.if_icmp .ge 7, 3) := by decide +kernel
theorem dX10_isDie_9 : decode cX10_isDie 9 = .ok (.iconst 1, 1) := by decide +kernel
theorem dX10_isDie_10 : decode cX10_isDie 10 = .ok (.goto 4, 3) := by decide +kernel
theorem dX10_isDie_13 : decode cX10_isDie 13 = .ok (.iconst 0, 1) := by decide +kernel
theorem dX10_isDie_14 : decode cX10_isDie 14 = .ok (.ireturn, 1) := by decide +kernel
theorem dX10_isDieOrNone_0 : decode cX10_isDieOrNone 0 = .ok (.iload_n 0, 1) := by decide +kernel
theorem dX10_isDieOrNone_1 : decode cX10_isDieOrNone 1 = .ok (.iconst (-1), 1) := by decide +kernel
theorem dX10_isDieOrNone_2 : decode cX10_isDieOrNone 2 = .ok (.if_icmp .eq 10, 3) := by decide +kernel
theorem dX10_isDieOrNone_5 : decode cX10_isDieOrNone 5 = .ok (.iload_n 0, 1) := by decide +kernel
theorem dX10_isDieOrNone_6 : decode cX10_isDieOrNone 6 = .ok (.invokestatic 129, 3) := by decide +kernel
theorem dX10_isDieOrNone_9 : decode cX10_isDieOrNone 9 = .ok (.ifCond .eq 7, 3) := by decide +kernel
theorem dX10_isDieOrNone_12 : decode cX10_isDieOrNone 12 = .ok (.iconst 1, 1) := by decide +kernel
theorem dX10_isDieOrNone_13 : decode cX10_isDieOrNone 13 = .ok (.goto 4, 3) := by decide +kernel
theorem dX10_isDieOrNone_16 : decode cX10_isDieOrNone 16 = .ok (.iconst 0, 1) := by decide +kernel
theorem dX10_isDieOrNone_17 : decode cX10_isDieOrNone 17 = .ok (.ireturn, 1) := by decide +kernel
theorem dX10_leastValue_0 : decode cX10_leastValue 0 = .ok (.iload_n 0, 1) := by decide +kernel
theorem dX10_leastValue_1 : decode cX10_leastValue 1 = .ok (.iconst 1, 1) := by decide +kernel
theorem dX10_leastValue_2 : decode cX10_leastValue 2 = .ok (.if_icmp .ne 7, 3) := by decide +kernel
theorem dX10_leastValue_5 : decode cX10_leastValue 5 = .ok (.iconst 1, 1) := by decide +kernel
theorem dX10_leastValue_6 : decode cX10_leastValue 6 = .ok (.goto 4, 3) := by decide +kernel
theorem dX10_leastValue_9 : decode cX10_leastValue 9 = .ok (.iconst 0, 1) := by decide +kernel
theorem dX10_leastValue_10 : decode cX10_leastValue 10 = .ok (.ireturn, 1) := by decide +kernel
theorem dX10_mostValue_0 : decode cX10_mostValue 0 = .ok (.iload_n 0, 1) := by decide +kernel
theorem dX10_mostValue_1 : decode cX10_mostValue 1 = .ok (.ifCond .ne 5, 3) := by decide +kernel
theorem dX10_mostValue_4 : decode cX10_mostValue 4 = .ok (.iconst 2, 1) := by decide +kernel
theorem dX10_mostValue_5 : decode cX10_mostValue 5 = .ok (.ireturn, 1) := by decide +kernel
theorem dX10_mostValue_6 : decode cX10_mostValue 6 = .ok (.iload_n 0, 1) := by decide +kernel
theorem dX10_mostValue_7 : decode cX10_mostValue 7 = .ok (.iconst 1, 1) := by decide +kernel
theorem dX10_mostValue_8 : decode cX10_mostValue 8 = .ok (.if_icmp .ne 8, 3) := by decide +kernel
theorem dX10_mostValue_11 : decode cX10_mostValue 11 = .ok (.bipush 8, 2) := by decide +kernel
theorem dX10_mostValue_13 : decode cX10_mostValue 13 = .ok (.goto 6, 3) := by decide +kernel
theorem dX10_mostValue_16 : decode cX10_mostValue 16 = .ok (.sipush 5000, 3) := by decide +kernel
theorem dX10_mostValue_19 : decode cX10_mostValue 19 = .ok (.ireturn, 1) := by decide +kernel
theorem dX10_startChange_0 : decode cX10_startChange 0 = .ok (.aload_n 0, 1) := by decide +kernel
theorem dX10_startChange_1 : decode cX10_startChange 1 = .ok (.getfield 16, 3) := by decide +kernel
theorem dX10_startChange_4 : decode cX10_startChange 4 = .ok (.aload_n 0, 1) := by decide +kernel
theorem dX10_startChange_5 : decode cX10_startChange 5 = .ok (.getfield 12, 3) := by decide +kernel
theorem dX10_startChange_8 : decode cX10_startChange 8 = .ok (.invokevirtual 439, 3) := by decide +kernel
theorem dX10_startChange_11 : decode cX10_startChange 11 = .ok (.return_, 1) := by decide +kernel
theorem dX10_finishChange_0 : decode cX10_finishChange 0 = .ok (.aload_n 0, 1) := by decide +kernel
theorem dX10_finishChange_1 : decode cX10_finishChange 1 = .ok (.getfield 22, 3) := by decide +kernel
theorem dX10_finishChange_4 : decode cX10_finishChange 4 = .ok (.aload_n 0, 1) := by decide +kernel
theorem dX10_finishChange_5 : decode cX10_finishChange 5 = .ok (.getfield 12, 3) := by decide +kernel
theorem dX10_finishChange_8 : decode cX10_finishChange 8 = .ok (.invokevirtual 442, 3) := by decide +kernel
theorem dX10_finishChange_11 : decode cX10_finishChange 11 = .ok (.aload_n 0, 1) := by decide +kernel
theorem dX10_finishChange_12 : decode cX10_finishChange 12 = .ok (.getfield 12, 3) := by decide +kernel
theorem dX10_finishChange_15 : decode cX10_finishChange 15 = .ok (.astore_n 1, 1) := by decide +kernel
theorem dX10_finishChange_16 : decode cX10_finishChange 16 = .ok (.aload_n 0, 1) := by decide +kernel
theorem dX10_finishChange_17 : decode cX10_finishChange 17 = .ok (.aload_n 0, 1) := by decide +kernel
theorem dX10_finishChange_18 : decode cX10_finishChange 18 = .ok (.getfield 16, 3) := by decide +kernel
theorem dX10_finishChange_21 : decode cX10_finishChange 21 = .ok (.putfield 12, 3) := by decide +kernel
theorem dX10_finishChange_24 : decode cX10_finishChange 24 = .ok (.aload_n 0, 1) := by decide +kernel
theorem dX10_finishChange_25 : decode cX10_finishChange 25 = .ok (.aload_n 1, 1) := by decide +kernel
theorem dX10_finishChange_26 : decode cX10_finishChange 26 = .ok (.putfield 16, 3) := by decide +kernel
theorem dX10_finishChange_29 : decode cX10_finishChange 29 = .ok (.return_, 1) := by decide +kernel
theorem dX10_finishBoardChange_0 : decode cX10_finishBoardChange 0 = .ok (.aload_n 0, 1) := by decide +kernel
theorem dX10_finishBoardChange_1 : decode cX10_finishBoardChange 1 = .ok (.invokevirtual 218, 3) := by decide +kernel
theorem dX10_finishBoardChange_4 : decode cX10_finishBoardChange 4 = .ok (.aload_n 0, 1) := by decide +kernel
theorem dX10_finishBoardChange_5 : decode cX10_finishBoardChange 5 = .ok (.getfield 44, 3) := by decide +kernel
theorem dX10_finishBoardChange_8 : decode cX10_finishBoardChange 8 = .ok (.aload_n 0, 1) := by decide +kernel
theorem dX10_finishBoardChange_9 : decode cX10_finishBoardChange 9 = .ok (.getfield 12, 3) := by decide +kernel
theorem dX10_finishBoardChange_12 : decode cX10_finishBoardChange 12 = .ok (.invokevirtual 62, 3) := by decide +kernel
theorem dX10_finishBoardChange_15 : decode cX10_finishBoardChange 15 = .ok (.return_, 1) := by decide +kernel
theorem dX10_tryMeans_0 : decode cX10_tryMeans 0 = .ok (.aload_n 0, 1) := by decide +kernel
theorem dX10_tryMeans_1 : decode cX10_tryMeans 1 = .ok (.getfield 51, 3) := by decide +kernel
theorem dX10_tryMeans_4 : decode cX10_tryMeans 4 = .ok (.aload_n 0, 1) := by decide +kernel
theorem dX10_tryMeans_5 : decode cX10_tryMeans 5 = .ok (.getfield 16, 3) := by decide +kernel
theorem dX10_tryMeans_8 : decode cX10_tryMeans 8 = .ok (.invokevirtual 445, 3) := by decide +kernel
theorem dX10_tryMeans_11 : decode cX10_tryMeans 11 = .ok (.aload_n 0, 1) := by decide +kernel
theorem dX10_tryMeans_12 : decode cX10_tryMeans 12 = .ok (.getfield 58, 3) := by decide +kernel
theorem dX10_tryMeans_15 : decode cX10_tryMeans 15 = .ok (.aload_n 0, 1) := by decide +kernel
theorem dX10_tryMeans_16 : decode cX10_tryMeans 16 = .ok (.getfield 51, 3) := by decide +kernel
theorem dX10_tryMeans_19 : decode cX10_tryMeans 19 = .ok (.aload_n 0, 1) := by decide +kernel
theorem dX10_tryMeans_20 : decode cX10_tryMeans 20 = .ok (.getfield 16, 3) := by decide +kernel
theorem dX10_tryMeans_23 : decode cX10_tryMeans 23 = .ok (.iconst 1, 1) := by decide +kernel
theorem dX10_tryMeans_24 : decode cX10_tryMeans 24 = .ok (.invokevirtual 196, 3) := by decide +kernel
theorem dX10_tryMeans_27 : decode cX10_tryMeans 27 = .ok (.lconst 0, 1) := by decide +kernel
theorem dX10_tryMeans_28 : decode cX10_tryMeans 28 = .ok (.lconst 1, 1) := by decide +kernel
theorem dX10_tryMeans_29 : decode cX10_tryMeans 29 = .ok (.invokevirtual 448, 3) := by decide +kernel
theorem dX10_tryMeans_32 : decode cX10_tryMeans 32 = .ok (.return_, 1) := by decide +kernel
theorem dX10_keepsPromise_0 : decode cX10_keepsPromise 0 = .ok (.aload_n 0, 1) := by decide +kernel
theorem dX10_keepsPromise_1 : decode cX10_keepsPromise 1 = .ok (.getfield 16, 3) := by decide +kernel
theorem dX10_keepsPromise_4 : decode cX10_keepsPromise 4 = .ok (.getfield 81, 3) := by decide +kernel
theorem dX10_keepsPromise_7 : decode cX10_keepsPromise 7 = .ok (.ifCond .ne 5, 3) := by decide +kernel
theorem dX10_keepsPromise_10 : decode cX10_keepsPromise 10 = .ok (.iconst 1, 1) := by decide +kernel
theorem dX10_keepsPromise_11 : decode cX10_keepsPromise 11 = .ok (.ireturn, 1) := by decide +kernel
theorem dX10_keepsPromise_12 : decode cX10_keepsPromise 12 = .ok (.aload_n 0, 1) := by decide +kernel
theorem dX10_keepsPromise_13 : decode cX10_keepsPromise 13 = .ok (.invokevirtual 353, 3) := by decide +kernel
theorem dX10_keepsPromise_16 : decode cX10_keepsPromise 16 = .ok (.aload_n 0, 1) := by decide +kernel
theorem dX10_keepsPromise_17 : decode cX10_keepsPromise 17 = .ok (.getfield 16, 3) := by decide +kernel
theorem dX10_keepsPromise_20 : decode cX10_keepsPromise 20 = .ok (.aload_n 0, 1) := by decide +kernel
theorem dX10_keepsPromise_21 : decode cX10_keepsPromise 21 = .ok (.getfield 58, 3) := by decide +kernel
theorem dX10_keepsPromise_24 : decode cX10_keepsPromise 24 = .ok (.iconst 0, 1) := by decide +kernel
theorem dX10_keepsPromise_25 : decode cX10_keepsPromise 25 = .ok (.iconst 0, 1) := by decide +kernel
theorem dX10_keepsPromise_26 : decode cX10_keepsPromise 26 = .ok (.invokevirtual 206, 3) := by decide +kernel
theorem dX10_keepsPromise_29 : decode cX10_keepsPromise 29 = .ok (.aload_n 0, 1) := by decide +kernel
theorem dX10_keepsPromise_30 : decode cX10_keepsPromise 30 = .ok (.getfield 58, 3) := by decide +kernel
theorem dX10_keepsPromise_33 : decode cX10_keepsPromise 33 = .ok (.iconst 0, 1) := by decide +kernel
theorem dX10_keepsPromise_34 : decode cX10_keepsPromise 34 = .ok (.invokevirtual 210, 3) := by decide +kernel
theorem dX10_keepsPromise_37 : decode cX10_keepsPromise 37 = .ok (.invokevirtual 451, 3) := by decide +kernel
theorem dX10_keepsPromise_40 : decode cX10_keepsPromise 40 = .ok (.ireturn, 1) := by decide +kernel
