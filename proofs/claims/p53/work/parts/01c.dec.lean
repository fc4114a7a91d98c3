theorem dX0_init_0 : decode cX0_init 0 = .ok (.aload_n 0, 1) := by decide +kernel
theorem dX0_init_1 : decode cX0_init 1 = .ok (.invokespecial 3, 3) := by decide +kernel
theorem dX0_init_4 : decode cX0_init 4 = .ok (.aload_n 0, 1) := by decide +kernel
theorem dX0_init_5 : decode cX0_init 5 = .ok (.bipush 6, 2) := by decide +kernel
theorem dX0_init_7 : decode cX0_init 7 = .ok (.anewarray 9, 3) := by decide +kernel
theorem dX0_init_10 : decode cX0_init 10 = .ok (.putfield 11, 3) := by decide +kernel
theorem dX0_init_13 : decode cX0_init 13 = .ok (.iconst 0, 1) := by decide +kernel
theorem dX0_init_14 : decode cX0_init 14 = .ok (.istore_n 1, 1) := by decide +kernel
theorem dX0_init_15 : decode cX0_init 15 = .ok (.iload_n 1, 1) := by decide +kernel
theorem dX0_init_16 : decode cX0_init 16 = .ok (.bipush 6, 2) := by decide +kernel
theorem dX0_init_18 : decode cX0_init 18 = .ok (.if_icmp .ge 22, 3) := by decide +kernel
theorem dX0_init_21 : decode cX0_init 21 = .ok (.aload_n 0, 1) := by decide +kernel
theorem dX0_init_22 : decode cX0_init 22 = .ok (.getfield 11, 3) := by decide +kernel
theorem dX0_init_25 : decode cX0_init 25 = .ok (.iload_n 1, 1) := by decide +kernel
theorem dX0_init_26 : decode cX0_init 26 = .ok (.new 9, 3) := by decide +kernel
theorem dX0_init_29 : decode cX0_init 29 = .ok (.dup, 1) := by decide +kernel
theorem dX0_init_30 : decode cX0_init 30 = .ok (.invokespecial 17, 3) := by decide +kernel
theorem dX0_init_33 : decode cX0_init 33 = .ok (.aastore, 1) := by decide +kernel
theorem dX0_init_34 : decode cX0_init 34 = .ok (.iinc 1 1, 3) := by decide +kernel
theorem dX0_init_37 : decode cX0_init 37 = .ok (.goto (-22), 3) := by decide +kernel
theorem dX0_init_40 : decode cX0_init 40 = .ok (.return_, 1) := by decide +kernel
theorem dX0_bellsOut_0 : decode cX0_bellsOut 0 = .ok (.iconst 0, 1) := by decide +kernel
theorem dX0_bellsOut_1 : decode cX0_bellsOut 1 = .ok (.istore_n 1, 1) := by decide +kernel
theorem dX0_bellsOut_2 : decode cX0_bellsOut 2 = .ok (.iconst 0, 1) := by decide +kernel
theorem dX0_bellsOut_3 : decode cX0_bellsOut 3 = .ok (.istore_n 2, 1) := by decide +kernel
theorem dX0_bellsOut_4 : decode cX0_bellsOut 4 = .ok (.iload_n 2, 1) := by decide +kernel
theorem dX0_bellsOut_5 : decode cX0_bellsOut 5 = .ok (.bipush 6, 2) := by decide +kernel
theorem dX0_bellsOut_7 : decode cX0_bellsOut 7 = .ok (.if_icmp .ge 27, 3) := by decide +kernel
theorem dX0_bellsOut_10 : decode cX0_bellsOut 10 = .ok (.aload_n 0, 1) := by decide +kernel
theorem dX0_bellsOut_11 : decode cX0_bellsOut 11 = .ok (.getfield 11, 3) := by decide +kernel
theorem dX0_bellsOut_14 : decode cX0_bellsOut 14 = .ok (.iload_n 2, 1) := by decide +kernel
theorem dX0_bellsOut_15 : decode cX0_bellsOut 15 = .ok (.aaload, 1) := by decide +kernel
theorem dX0_bellsOut_16 : decode cX0_bellsOut 16 = .ok (.invokevirtual 18, 3) := by decide +kernel
theorem dX0_bellsOut_19 : decode cX0_bellsOut 19 = .ok (.ifCond .ne 9, 3) := by decide +kernel
theorem dX0_bellsOut_22 : decode cX0_bellsOut 22 = .ok (.iload_n 1, 1) := by decide +kernel
theorem dX0_bellsOut_23 : decode cX0_bellsOut 23 = .ok (.iconst 1, 1) := by decide +kernel
theorem dX0_bellsOut_24 : decode cX0_bellsOut 24 = .ok (.iload_n 2, 1) := by decide +kernel
theorem dX0_bellsOut_25 : decode cX0_bellsOut 25 = .ok (.ishl, 1) := by decide +kernel
theorem dX0_bellsOut_26 : decode cX0_bellsOut 26 = .ok (.ior, 1) := by decide +kernel
theorem dX0_bellsOut_27 : decode cX0_bellsOut 27 = .ok (.istore_n 1, 1) := by decide +kernel
theorem dX0_bellsOut_28 : decode cX0_bellsOut 28 = .ok (.iinc 2 1, 3) := by decide +kernel
theorem dX0_bellsOut_31 : decode cX0_bellsOut 31 = .ok (.goto (-27), 3) := by decide +kernel
theorem dX0_bellsOut_34 : decode cX0_bellsOut 34 = .ok (.iload_n 1, 1) := by decide +kernel
theorem dX0_bellsOut_35 : decode cX0_bellsOut 35 = .ok (.ireturn, 1) := by decide +kernel
theorem dX0_noteWornOut_0 : decode cX0_noteWornOut 0 = .ok (.iconst 0, 1) := by decide +kernel
theorem dX0_noteWornOut_1 : decode cX0_noteWornOut 1 = .ok (.istore_n 1, 1) := by decide +kernel
theorem dX0_noteWornOut_2 : decode cX0_noteWornOut 2 = .ok (.iconst 0, 1) := by decide +kernel
theorem dX0_noteWornOut_3 : decode cX0_noteWornOut 3 = .ok (.istore_n 2, 1) := by decide +kernel
theorem dX0_noteWornOut_4 : decode cX0_noteWornOut 4 = .ok (.iload_n 2, 1) := by decide +kernel
theorem dX0_noteWornOut_5 : decode cX0_noteWornOut 5 = .ok (.bipush 6, 2) := by decide +kernel
theorem dX0_noteWornOut_7 : decode cX0_noteWornOut 7 = .ok (.if_icmp .ge 21, 3) := by decide +kernel
theorem dX0_noteWornOut_10 : decode cX0_noteWornOut 10 = .ok (.iload_n 1, 1) := by decide +kernel
theorem dX0_noteWornOut_11 : decode cX0_noteWornOut 11 = .ok (.aload_n 0, 1) := by decide +kernel
theorem dX0_noteWornOut_12 : decode cX0_noteWornOut 12 = .ok (.getfield 11, 3) := by decide +kernel
theorem dX0_noteWornOut_15 : decode cX0_noteWornOut 15 = .ok (.iload_n 2, 1) := by decide +kernel
theorem dX0_noteWornOut_16 : decode cX0_noteWornOut 16 = .ok (.aaload, 1) := by decide +kernel
theorem dX0_noteWornOut_17 : decode cX0_noteWornOut 17 = .ok (.invokevirtual 22, 3) := by decide +kernel
theorem dX0_noteWornOut_20 : decode cX0_noteWornOut 20 = .ok (.ior, 1) := by decide +kernel
theorem dX0_noteWornOut_21 : decode cX0_noteWornOut 21 = .ok (.istore_n 1, 1) := by decide +kernel
theorem dX0_noteWornOut_22 : decode cX0_noteWornOut 22 = .ok (.iinc 2 1, 3) := by decide +kernel
theorem dX0_noteWornOut_25 : decode cX0_noteWornOut 25 = .ok (.goto (-21), 3) := by decide +kernel
theorem dX0_noteWornOut_28 : decode cX0_noteWornOut 28 = .ok (.iload_n 1, 1) := by decide +kernel
theorem dX0_noteWornOut_29 : decode cX0_noteWornOut 29 = .ok (.ireturn, 1) := by decide +kernel
theorem dX0_forgetPulls_0 : decode cX0_forgetPulls 0 = .ok (.iconst 0, 1) := by decide +kernel
theorem dX0_forgetPulls_1 : decode cX0_forgetPulls 1 = .ok (.istore_n 1, 1) := by decide +kernel
theorem dX0_forgetPulls_2 : decode cX0_forgetPulls 2 = .ok (.iload_n 1, 1) := by decide +kernel
theorem dX0_forgetPulls_3 : decode cX0_forgetPulls 3 = .ok (.bipush 6, 2) := by decide +kernel
theorem dX0_forgetPulls_5 : decode cX0_forgetPulls 5 = .ok (.if_icmp .ge 19, 3) := by decide +kernel
theorem dX0_forgetPulls_8 : decode cX0_forgetPulls 8 = .ok (.aload_n 0, 1) := by decide +kernel
theorem dX0_forgetPulls_9 : decode cX0_forgetPulls 9 = .ok (.getfield 11, 3) := by decide +kernel
theorem dX0_forgetPulls_12 : decode cX0_forgetPulls 12 = .ok (.iload_n 1, 1) := by decide +kernel
theorem dX0_forgetPulls_13 : decode cX0_forgetPulls 13 = .ok (.aaload, 1) := by decide +kernel
theorem dX0_forgetPulls_14 : decode cX0_forgetPulls 14 = .ok (.iconst 0, 1) := by decide +kernel
theorem dX0_forgetPulls_15 : decode cX0_forgetPulls 15 = .ok (.putfield 25, 3) := by decide +kernel
theorem dX0_forgetPulls_18 : decode cX0_forgetPulls 18 = .ok (.iinc 1 1, 3) := by decide +kernel
theorem dX0_forgetPulls_21 : decode cX0_forgetPulls 21 = .ok (.goto (-19), 3) := by decide +kernel
theorem dX0_forgetPulls_24 : decode cX0_forgetPulls 24 = .ok (.return_, 1) := by decide +kernel
theorem dX1_init_0 : decode cX1_init 0 = .ok (.aload_n 0, 1) := by decide +kernel
theorem dX1_init_1 : decode cX1_init 1 = .ok (.invokespecial 3, 3) := by decide +kernel
theorem dX1_init_4 : decode cX1_init 4 = .ok (.aload_n 0, 1) := by decide +kernel
theorem dX1_init_5 : decode cX1_init 5 = .ok (.iconst 2, 1) := by decide +kernel
theorem dX1_init_6 : decode cX1_init 6 = .ok (.newarray .int, 2) := by decide +kernel
theorem dX1_init_8 : decode cX1_init 8 = .ok (.putfield 9, 3) := by decide +kernel
theorem dX1_init_11 : decode cX1_init 11 = .ok (.aload_n 0, 1) := by decide +kernel
theorem dX1_init_12 : decode cX1_init 12 = .ok (.iconst 2, 1) := by decide +kernel
theorem dX1_init_13 : decode cX1_init 13 = .ok (.newarray .boolean, 2) := by decide +kernel
theorem dX1_init_15 : decode cX1_init 15 = .ok (.putfield 15, 3) := by decide +kernel
theorem dX1_init_18 : decode cX1_init 18 = .ok (.aload_n 0, 1) := by decide +kernel
theorem dX1_init_19 : decode cX1_init 19 = .ok (.sipush 240, 3) := by decide +kernel
theorem dX1_init_22 : decode cX1_init 22 = .ok (.newarray .int, 2) := by decide +kernel
theorem dX1_init_24 : decode cX1_init 24 = .ok (.putfield 19, 3) := by decide +kernel
theorem dX1_init_27 : decode cX1_init 27 = .ok (.return_, 1) := by decide +kernel
theorem dX1_isUsable_0 : decode cX1_isUsable 0 = .ok (.aload_n 0, 1) := by decide +kernel
theorem dX1_isUsable_1 : decode cX1_isUsable 1 = .ok (.getfield 22, 3) := by decide +kernel
theorem dX1_isUsable_4 : decode cX1_isUsable 4 = .ok (.ifCond .ne 25, 3) := by decide +kernel
theorem dX1_isUsable_7 : decode cX1_isUsable 7 = .ok (.aload_n 0, 1) := by decide +kernel
theorem dX1_isUsable_8 : decode cX1_isUsable 8 = .ok (.getfield 15, 3) := by decide +kernel
theorem dX1_isUsable_11 : decode cX1_isUsable 11 = .ok (.iconst 0, 1) := by decide +kernel
theorem dX1_isUsable_12 : decode cX1_isUsable 12 = .ok (.baload, 1) := by decide +kernel
theorem dX1_isUsable_13 : decode cX1_isUsable 13 = .ok (.ifCond .ne 16, 3) := by decide +kernel
theorem dX1_isUsable_16 : decode cX1_isUsable 16 = .ok (.aload_n 0, 1) := by decide +kernel
theorem dX1_isUsable_17 : decode cX1_isUsable 17 = .ok (.getfield 15, 3) := by decide +kernel
theorem dX1_isUsable_20 : decode cX1_isUsable 20 = .ok (.iconst 1, 1) := by decide +kernel
theorem dX1_isUsable_21 : decode cX1_isUsable 21 = .ok (.baload, 1) := by decide +kernel
theorem dX1_isUsable_22 : decode cX1_isUsable 22 = .ok (.ifCond .ne 7, 3) := by decide +kernel
theorem dX1_isUsable_25 : decode cX1_isUsable 25 = .ok (.iconst 1, 1) := by decide +kernel
theorem dX1_isUsable_26 : decode cX1_isUsable 26 = .ok (.goto 4, 3) := by decide +kernel
theorem dX1_isUsable_29 : decode cX1_isUsable 29 = .ok (.iconst 0, 1) := by decide +kernel
theorem dX1_isUsable_30 : decode cX1_isUsable 30 = .ok (.ireturn, 1) := by decide +kernel
theorem dX1_renew_0 : decode cX1_renew 0 = .ok (.aload_n 0, 1) := by decide +kernel
theorem dX1_renew_1 : decode cX1_renew 1 = .ok (.getfield 9, 3) := by decide +kernel
theorem dX1_renew_4 : decode cX1_renew 4 = .ok (.iload_n 1, 1) := by decide +kernel
theorem dX1_renew_5 : decode cX1_renew 5 = .ok (.iaload, 1) := by decide +kernel
theorem dX1_renew_6 : decode cX1_renew 6 = .ok (.istore_n 2, 1) := by decide +kernel
theorem dX1_renew_7 : decode cX1_renew 7 = .ok (.aload_n 0, 1) := by decide +kernel
theorem dX1_renew_8 : decode cX1_renew 8 = .ok (.getfield 9, 3) := by decide +kernel
theorem dX1_renew_11 : decode cX1_renew 11 = .ok (.iload_n 1, 1) := by decide +kernel
theorem dX1_renew_12 : decode cX1_renew 12 = .ok (.iconst 0, 1) := by decide +kernel
theorem dX1_renew_13 : decode cX1_renew 13 = .ok (.iastore, 1) := by decide +kernel
theorem dX1_renew_14 : decode cX1_renew 14 = .ok (.aload_n 0, 1) := by decide +kernel
theorem dX1_renew_15 : decode cX1_renew 15 = .ok (.getfield 15, 3) := by decide +kernel
theorem dX1_renew_18 : decode cX1_renew 18 = .ok (.iload_n 1, 1) := by decide +kernel
theorem dX1_renew_19 : decode cX1_renew 19 = .ok (.iconst 0, 1) := by decide +kernel
theorem dX1_renew_20 : decode cX1_renew 20 = .ok (.bastore, 1) := by decide +kernel
theorem dX1_renew_21 : decode cX1_renew 21 = .ok (.iload_n 2, 1) := by decide +kernel
theorem dX1_renew_22 : decode cX1_renew 22 = .ok (.ireturn, 1) := by decide +kernel
theorem dX1_strike_0 : decode cX1_strike 0 = .ok (.aload_n 0, 1) := by decide +kernel
theorem dX1_strike_1 : decode cX1_strike 1 = .ok (.getfield 9, 3) := by decide +kernel
theorem dX1_strike_4 : decode cX1_strike 4 = .ok (.iconst 0, 1) := by decide +kernel
theorem dX1_strike_5 : decode cX1_strike 5 = .ok (.dup2, 1) := by decide +kernel
theorem dX1_strike_6 : decode cX1_strike 6 = .ok (.iaload, 1) := by decide +kernel
theorem dX1_strike_7 : decode cX1_strike 7 = .ok (.iload_n 1, 1) := by decide +kernel
theorem dX1_strike_8 : decode cX1_strike 8 = .ok (.iconst 2, 1) := by decide +kernel
theorem dX1_strike_9 : decode cX1_strike 9 = .ok (.irem, 1) := by decide +kernel
theorem dX1_strike_10 : decode cX1_strike 10 = .ok (.ifCond .ne 7, 3) := by decide +kernel
theorem dX1_strike_13 : decode cX1_strike 13 = .ok (.iconst 1, 1) := by decide +kernel
theorem dX1_strike_14 : decode cX1_strike 14 = .ok (.goto 4, 3) := by decide +kernel
theorem dX1_strike_17 : decode cX1_strike 17 = .ok (.iconst 2, 1) := by decide +kernel
theorem dX1_strike_18 : decode cX1_strike 18 = .ok (.iadd, 1) := by decide +kernel
theorem dX1_strike_19 : decode cX1_strike 19 = .ok (.iastore, 1) := by decide +kernel
theorem dX1_strike_20 : decode cX1_strike 20 = .ok (.aload_n 0, 1) := by decide +kernel
theorem dX1_strike_21 : decode cX1_strike 21 = .ok (.getfield 9, 3) := by decide +kernel
theorem dX1_strike_24 : decode cX1_strike 24 = .ok (.iconst 1, 1) := by decide +kernel
theorem dX1_strike_25 : decode cX1_strike 25 = .ok (.dup2, 1) := by decide +kernel
theorem dX1_strike_26 : decode cX1_strike 26 = .ok (.iaload, 1) := by decide +kernel
theorem dX1_strike_27 : decode cX1_strike 27 = .ok (.iconst 1, 1) := by decide +kernel
theorem dX1_strike_28 : decode cX1_strike 28 = .ok (.iadd, 1) := by decide +kernel
theorem dX1_strike_29 : decode cX1_strike 29 = .ok (.iastore, 1) := by decide +kernel
theorem dX1_strike_30 : decode cX1_strike 30 = .ok (.return_, 1) := by decide +kernel
theorem dX1_noteWornOut_0 : decode cX1_noteWornOut 0 = .ok (.aload_n 0, 1) := by decide +kernel
theorem dX1_noteWornOut_1 : decode cX1_noteWornOut 1 = .ok (.getfield 15, 3) := by decide +kernel
theorem dX1_noteWornOut_4 : decode cX1_noteWornOut 4 = .ok (.iconst 0, 1) := by decide +kernel
theorem dX1_noteWornOut_5 : decode cX1_noteWornOut 5 = .ok (.baload, 1) := by decide +kernel
theorem dX1_noteWornOut_6 : decode cX1_noteWornOut 6 = .ok (.ifCond .ne 19, 3) := by decide +kernel
theorem dX1_noteWornOut_9 : decode cX1_noteWornOut 9 = .ok (.aload_n 0, 1) := by decide +kernel
theorem dX1_noteWornOut_10 : decode cX1_noteWornOut 10 = .ok (.getfield 9, 3) := by decide +kernel
theorem dX1_noteWornOut_13 : decode cX1_noteWornOut 13 = .ok (.iconst 0, 1) := by decide +kernel
theorem dX1_noteWornOut_14 : decode cX1_noteWornOut 14 = .ok (.iaload, 1) := by decide +kernel
theorem dX1_noteWornOut_15 : decode cX1_noteWornOut 15 = .ok (.sipush 300, 3) := by decide +kernel
theorem dX1_noteWornOut_18 : decode cX1_noteWornOut 18 = .ok (.if_icmp .lt 7, 3) := by decide +kernel
theorem dX1_noteWornOut_21 : decode cX1_noteWornOut 21 = .ok (.iconst 1, 1) := by decide +kernel
theorem dX1_noteWornOut_22 : decode cX1_noteWornOut 22 = .ok (.goto 4, 3) := by decide +kernel
theorem dX1_noteWornOut_25 : decode cX1_noteWornOut 25 = .ok (.iconst 0, 1) := by decide +kernel
theorem dX1_noteWornOut_26 : decode cX1_noteWornOut 26 = .ok (.istore_n 1, 1) := by decide +kernel
theorem dX1_noteWornOut_27 : decode cX1_noteWornOut 27 = .ok (.aload_n 0, 1) := by decide +kernel
theorem dX1_noteWornOut_28 : decode cX1_noteWornOut 28 = .ok (.getfield 15, 3) := by decide +kernel
theorem dX1_noteWornOut_31 : decode cX1_noteWornOut 31 = .ok (.iconst 1, 1) := by decide +kernel
theorem dX1_noteWornOut_32 : decode cX1_noteWornOut 32 = .ok (.baload, 1) := by decide +kernel
theorem dX1_noteWornOut_33 : decode cX1_noteWornOut 33 = .ok (.ifCond .ne 19, 3) := by decide +kernel
theorem dX1_noteWornOut_36 : decode cX1_noteWornOut 36 = .ok (.aload_n 0, 1) := by decide +kernel
theorem dX1_noteWornOut_37 : decode cX1_noteWornOut 37 = .ok (.getfield 9, 3) := by decide +kernel
theorem dX1_noteWornOut_40 : decode cX1_noteWornOut 40 = .ok (.iconst 1, 1) := by decide +kernel
theorem dX1_noteWornOut_41 : decode cX1_noteWornOut 41 = .ok (.iaload, 1) := by decide +kernel
theorem dX1_noteWornOut_42 : decode cX1_noteWornOut 42 = .ok (.sipush 200, 3) := by decide +kernel
theorem dX1_noteWornOut_45 : decode cX1_noteWornOut 45 = .ok (.if_icmp .lt 7, 3) := by decide +kernel
theorem dX1_noteWornOut_48 : decode cX1_noteWornOut 48 = .ok (.iconst 1, 1) := by decide +kernel
theorem dX1_noteWornOut_49 : decode cX1_noteWornOut 49 = .ok (.goto 4, 3) := by decide +kernel
theorem dX1_noteWornOut_52 : decode cX1_noteWornOut 52 = .ok (.iconst 0, 1) := by decide +kernel
theorem dX1_noteWornOut_53 : decode cX1_noteWornOut 53 = .ok (.istore_n 2, 1) := by decide +kernel
theorem dX1_noteWornOut_54 : decode cX1_noteWornOut 54 = .ok (.aload_n 0, 1) := by decide +kernel
theorem dX1_noteWornOut_55 : decode cX1_noteWornOut 55 = .ok (.getfield 15, 3) := by decide +kernel
theorem dX1_noteWornOut_58 : decode cX1_noteWornOut 58 = .ok (.iconst 0, 1) := by decide +kernel
theorem dX1_noteWornOut_59 : decode cX1_noteWornOut 59 = .ok (.dup2, 1) := by decide +kernel
theorem dX1_noteWornOut_60 : decode cX1_noteWornOut 60 = .ok (.baload, 1) := by decide +kernel
theorem dX1_noteWornOut_61 : decode cX1_noteWornOut 61 = .ok (.iload_n 1, 1) := by decide +kernel
theorem dX1_noteWornOut_62 : decode cX1_noteWornOut 62 = .ok (.ior, 1) := by decide +kernel
theorem dX1_noteWornOut_63 : decode cX1_noteWornOut 63 = .ok (.bastore, 1) := by decide +kernel
theorem dX1_noteWornOut_64 : decode cX1_noteWornOut 64 = .ok (.aload_n 0, 1) := by decide +kernel
theorem dX1_noteWornOut_65 : decode cX1_noteWornOut 65 = .ok (.getfield 15, 3) := by decide +kernel
theorem dX1_noteWornOut_68 : decode cX1_noteWornOut 68 = .ok (.iconst 1, 1) := by decide +kernel
theorem dX1_noteWornOut_69 : decode cX1_noteWornOut 69 = .ok (.dup2, 1) := by decide +kernel
theorem dX1_noteWornOut_70 : decode cX1_noteWornOut 70 = .ok (.baload, 1) := by decide +kernel
theorem dX1_noteWornOut_71 : decode cX1_noteWornOut 71 = .ok (.iload_n 2, 1) := by decide +kernel
theorem dX1_noteWornOut_72 : decode cX1_noteWornOut 72 = .ok (.ior, 1) := by decide +kernel
theorem dX1_noteWornOut_73 : decode cX1_noteWornOut 73 = .ok (.bastore, 1) := by decide +kernel
theorem dX1_noteWornOut_74 : decode cX1_noteWornOut 74 = .ok (.iload_n 1, 1) := by decide +kernel
theorem dX1_noteWornOut_75 : decode cX1_noteWornOut 75 = .ok (.ifCond .ne 7, 3) := by decide +kernel
theorem dX1_noteWornOut_78 : decode cX1_noteWornOut 78 = .ok (.iload_n 2, 1) := by decide +kernel
theorem dX1_noteWornOut_79 : decode cX1_noteWornOut 79 = .ok (.ifCond .eq 7, 3) := by decide +kernel
theorem dX1_noteWornOut_82 : decode cX1_noteWornOut 82 = .ok (.iconst 1, 1) := by decide +kernel
theorem dX1_noteWornOut_83 : decode cX1_noteWornOut 83 = .ok (.goto 4, 3) := by decide +kernel
theorem dX1_noteWornOut_86 : decode cX1_noteWornOut 86 = .ok (.iconst 0, 1) := by decide +kernel
theorem dX1_noteWornOut_87 : decode cX1_noteWornOut 87 = .ok (.ireturn, 1) := by decide +kernel
theorem dX1_hearPull_0 : decode cX1_hearPull 0 = .ok (.aload_n 0, 1) := by decide +kernel
theorem dX1_hearPull_1 : decode cX1_hearPull 1 = .ok (.getfield 26, 3) := by decide +kernel
theorem dX1_hearPull_4 : decode cX1_hearPull 4 = .ok (.sipush 240, 3) := by decide +kernel
theorem dX1_hearPull_7 : decode cX1_hearPull 7 = .ok (.if_icmp .ge 31, 3) := by decide +kernel
theorem dX1_hearPull_10 : decode cX1_hearPull 10 = .ok (.aload_n 0, 1) := by decide +kernel
theorem dX1_hearPull_11 : decode cX1_hearPull 11 = .ok (.getfield 19, 3) := by decide +kernel
theorem dX1_hearPull_14 : decode cX1_hearPull 14 = .ok (.aload_n 0, 1) := by decide +kernel
theorem dX1_hearPull_15 : decode cX1_hearPull 15 = .ok (.getfield 26, 3) := by decide +kernel
theorem dX1_hearPull_18 : decode cX1_hearPull 18 = .ok (.iload_n 1, 1) := by decide +kernel
theorem dX1_hearPull_19 : decode cX1_hearPull 19 = .ok (.iastore, 1) := by decide +kernel
theorem dX1_hearPull_20 : decode cX1_hearPull 20 = .ok (.aload_n 0, 1) := by decide +kernel
theorem dX1_hearPull_21 : decode cX1_hearPull 21 = .ok (.aload_n 0, 1) := by decide +kernel
theorem dX1_hearPull_22 : decode cX1_hearPull 22 = .ok (.getfield 26, 3) := by decide +kernel
theorem dX1_hearPull_25 : decode cX1_hearPull 25 = .ok (.invokevirtual 30, 3) := by decide +kernel
theorem dX1_hearPull_28 : decode cX1_hearPull 28 = .ok (.aload_n 0, 1) := by decide +kernel
theorem dX1_hearPull_29 : decode cX1_hearPull 29 = .ok (.dup, 1) := by decide +kernel
theorem dX1_hearPull_30 : decode cX1_hearPull 30 = .ok (.getfield 26, 3) := by decide +kernel
theorem dX1_hearPull_33 : decode cX1_hearPull 33 = .ok (.iconst 1, 1) := by decide +kernel
theorem dX1_hearPull_34 : decode cX1_hearPull 34 = .ok (.iadd, 1) := by decide +kernel
theorem dX1_hearPull_35 : decode cX1_hearPull 35 = .ok (.putfield 26, 3) := by decide +kernel
theorem dX1_hearPull_38 : decode cX1_hearPull 38 = .ok (.return_, 1) := by decide +kernel
theorem dX1_pullTime_0 : decode cX1_pullTime 0 = .ok (.aload_n 0, 1) := by decide +kernel
theorem dX1_pullTime_1 : decode cX1_pullTime 1 = .ok (.getfield 19, 3) := by decide +kernel
theorem dX1_pullTime_4 : decode cX1_pullTime 4 = .ok (.iload_n 1, 1) := by decide +kernel
theorem dX1_pullTime_5 : decode cX1_pullTime 5 = .ok (.iaload, 1) := by decide +kernel
theorem dX1_pullTime_6 : decode cX1_pullTime 6 = .ok (.ireturn, 1) := by decide +kernel
theorem dX1_hasRoomForError_0 : decode cX1_hasRoomForError 0 = .ok (.aload_n 0, 1) := by decide +kernel
theorem dX1_hasRoomForError_1 : decode cX1_hasRoomForError 1 = .ok (.getfield 34, 3) := by decide +kernel
theorem dX1_hasRoomForError_4 : decode cX1_hasRoomForError 4 = .ok (.i2l, 1) := by decide +kernel
theorem dX1_hasRoomForError_5 : decode cX1_hasRoomForError 5 = .ok (.iload_n 1, 1) := by decide +kernel
theorem dX1_hasRoomForError_6 : decode cX1_hasRoomForError 6 = .ok (.i2l, 1) := by decide +kernel
theorem dX1_hasRoomForError_7 : decode cX1_hasRoomForError 7 = .ok (.ladd, 1) := by decide +kernel
theorem dX1_hasRoomForError_8 : decode cX1_hasRoomForError 8 = .ok (.lstore_n 2, 1) := by decide +kernel
theorem dX1_hasRoomForError_9 : decode cX1_hasRoomForError 9 = .ok (.lload_n 2, 1) := by decide +kernel
theorem dX1_hasRoomForError_10 : decode cX1_hasRoomForError 10 = .ok (.lload_n 2, 1) := by decide +kernel
theorem dX1_hasRoomForError_11 : decode cX1_hasRoomForError 11 = .ok (.l2i, 1) := by decide +kernel
theorem dX1_hasRoomForError_12 : decode cX1_hasRoomForError 12 = .ok (.i2l, 1) := by decide +kernel
theorem dX1_hasRoomForError_13 : decode cX1_hasRoomForError 13 = .ok (.lcmp, 1) := by decide +kernel
theorem dX1_hasRoomForError_14 : decode cX1_hasRoomForError 14 = .ok (.ifCond .ne 7, 3) := by decide +kernel
theorem dX1_hasRoomForError_17 : decode cX1_hasRoomForError 17 = .ok (.iconst 1, 1) := by decide +kernel
theorem dX1_hasRoomForError_18 : decode cX1_hasRoomForError 18 = .ok (.goto 4, 3) := by decide +kernel
theorem dX1_hasRoomForError_21 : decode cX1_hasRoomForError 21 = .ok (.iconst 0, 1) := by decide +kernel
theorem dX1_hasRoomForError_22 : decode cX1_hasRoomForError 22 = .ok (.ireturn, 1) := by decide +kernel
theorem dX1_noteError_0 : decode cX1_noteError 0 = .ok (.aload_n 0, 1) := by decide +kernel
theorem dX1_noteError_1 : decode cX1_noteError 1 = .ok (.dup, 1) := by decide +kernel
theorem dX1_noteError_2 : decode cX1_noteError 2 = .ok (.getfield 34, 3) := by decide +kernel
theorem dX1_noteError_5 : decode cX1_noteError 5 = .ok (.iload_n 1, 1) := by decide +kernel
theorem dX1_noteError_6 : decode cX1_noteError 6 = .ok (.iadd, 1) := by decide +kernel
theorem dX1_noteError_7 : decode cX1_noteError 7 = .ok (.putfield 34, 3) := by decide +kernel
theorem dX1_noteError_10 : decode cX1_noteError 10 = .ok (.iload_n 1, 1) := by decide +kernel
theorem dX1_noteError_11 : decode cX1_noteError 11 = .ok (.iload_n 2, 1) := by decide +kernel
theorem dX1_noteError_12 : decode cX1_noteError 12 = .ok (.if_icmp .le 16, 3) := by decide +kernel
theorem dX1_noteError_15 : decode cX1_noteError 15 = .ok (.aload_n 0, 1) := by decide +kernel
theorem dX1_noteError_16 : decode cX1_noteError 16 = .ok (.dup, 1) := by decide +kernel
theorem dX1_noteError_17 : decode cX1_noteError 17 = .ok (.getfield 37, 3) := by decide +kernel
theorem dX1_noteError_20 : decode cX1_noteError 20 = .ok (.iconst 1, 1) := by decide +kernel
theorem dX1_noteError_21 : decode cX1_noteError 21 = .ok (.iadd, 1) := by decide +kernel
theorem dX1_noteError_22 : decode cX1_noteError 22 = .ok (.putfield 37, 3) := by decide +kernel
theorem dX1_noteError_25 : decode cX1_noteError 25 = .ok (.goto 19, 3) := by decide +kernel
theorem dX1_noteError_28 : decode cX1_noteError 28 = .ok (.iload_n 1, 1) := by decide +kernel
theorem dX1_noteError_29 : decode cX1_noteError 29 = .ok (.iload_n 2, 1) := by decide +kernel
theorem dX1_noteError_30 : decode cX1_noteError 30 = .ok (.ineg, 1) := by decide +kernel
theorem dX1_noteError_31 : decode cX1_noteError 31 = .ok (.if_icmp .ge 13, 3) := by decide +kernel
theorem dX1_noteError_34 : decode cX1_noteError 34 = .ok (.aload_n 0, 1) := by decide +kernel
theorem dX1_noteError_35 : decode cX1_noteError 35 = .ok (.dup, 1) := by decide +kernel
theorem dX1_noteError_36 : decode cX1_noteError 36 = .ok (.getfield 40, 3) := by decide +kernel
theorem dX1_noteError_39 : decode cX1_noteError 39 = .ok (.iconst 1, 1) := by decide +kernel
theorem dX1_noteError_40 : decode cX1_noteError 40 = .ok (.iadd, 1) := by decide +kernel
theorem dX1_noteError_41 : decode cX1_noteError 41 = .ok (.putfield 40, 3) := by decide +kernel
theorem dX1_noteError_44 : decode cX1_noteError 44 = .ok (.return_, 1) := by decide +kernel
theorem dX2_init_0 : decode cX2_init 0 = .ok (.aload_n 0, 1) := by decide +kernel
theorem dX2_init_1 : decode cX2_init 1 = .ok (.invokespecial 3, 3) := by decide +kernel
theorem dX2_init_4 : decode cX2_init 4 = .ok (.aload_n 0, 1) := by decide +kernel
theorem dX2_init_5 : decode cX2_init 5 = .ok (.aload_n 1, 1) := by decide +kernel
theorem dX2_init_6 : decode cX2_init 6 = .ok (.putfield 9, 3) := by decide +kernel
theorem dX2_init_9 : decode cX2_init 9 = .ok (.aload_n 0, 1) := by decide +kernel
theorem dX2_init_10 : decode cX2_init 10 = .ok (.new 15, 3) := by decide +kernel
theorem dX2_init_13 : decode cX2_init 13 = .ok (.dup, 1) := by decide +kernel
theorem dX2_init_14 : decode cX2_init 14 = .ok (.invokespecial 17, 3) := by decide +kernel
theorem dX2_init_17 : decode cX2_init 17 = .ok (.putfield 18, 3) := by decide +kernel
theorem dX2_init_20 : decode cX2_init 20 = .ok (.return_, 1) := by decide +kernel
theorem dX2_soundTouch_0 : decode cX2_soundTouch 0 = .ok (.aload_n 0, 1) := by decide +kernel
theorem dX2_soundTouch_1 : decode cX2_soundTouch 1 = .ok (.getfield 18, 3) := by decide +kernel
theorem dX2_soundTouch_4 : decode cX2_soundTouch 4 = .ok (.invokevirtual 22, 3) := by decide +kernel
theorem dX2_soundTouch_7 : decode cX2_soundTouch 7 = .ok (.iconst 0, 1) := by decide +kernel
theorem dX2_soundTouch_8 : decode cX2_soundTouch 8 = .ok (.istore_n 3, 1) := by decide +kernel
theorem dX2_soundTouch_9 : decode cX2_soundTouch 9 = .ok (.iload_n 3, 1) := by decide +kernel
theorem dX2_soundTouch_10 : decode cX2_soundTouch 10 = .ok (.iload_n 2, 1) := by decide +kernel
theorem dX2_soundTouch_11 : decode cX2_soundTouch 11 = .ok (.if_icmp .ge 18, 3) := by decide +kernel
theorem dX2_soundTouch_14 : decode cX2_soundTouch 14 = .ok (.aload_n 0, 1) := by decide +kernel
theorem dX2_soundTouch_15 : decode cX2_soundTouch 15 = .ok (.getfield 18, 3) := by decide +kernel
theorem dX2_soundTouch_18 : decode cX2_soundTouch 18 = .ok (.aload_n 1, 1) := by decide +kernel
theorem dX2_soundTouch_19 : decode cX2_soundTouch 19 = .ok (.iconst 0, 1) := by decide +kernel
theorem dX2_soundTouch_20 : decode cX2_soundTouch 20 = .ok (.invokevirtual 25, 3) := by decide +kernel
theorem dX2_soundTouch_23 : decode cX2_soundTouch 23 = .ok (.iinc 3 1, 3) := by decide +kernel
theorem dX2_soundTouch_26 : decode cX2_soundTouch 26 = .ok (.goto (-17), 3) := by decide +kernel
theorem dX2_soundTouch_29 : decode cX2_soundTouch 29 = .ok (.iconst 0, 1) := by decide +kernel
theorem dX2_soundTouch_30 : decode cX2_soundTouch 30 = .ok (.istore_n 3, 1) := by decide +kernel
theorem dX2_soundTouch_31 : decode cX2_soundTouch 31 = .ok (.iconst 0, 1) := by decide +kernel
theorem dX2_soundTouch_32 : decode cX2_soundTouch 32 = .ok (.istore 4, 2) := by decide +kernel
theorem dX2_soundTouch_34 : decode cX2_soundTouch 34 = .ok (.iload 4, 2) := by decide +kernel
theorem dX2_soundTouch_36 : decode cX2_soundTouch 36 = .ok (.sipush 729, 3) := by decide +kernel
theorem dX2_soundTouch_39 : decode cX2_soundTouch 39 = .ok (.if_icmp .ge 71, 3) := by decide +kernel
theorem dX2_soundTouch_42 : decode cX2_soundTouch 42 = .ok (.iload_n 3, 1) := by decide +kernel
theorem dX2_soundTouch_43 : decode cX2_soundTouch 43 = .ok (.iconst (-1), 1) := by decide +kernel
theorem dX2_soundTouch_44 : decode cX2_soundTouch 44 = .ok (.if_icmp .eq 66, 3) := by decide +kernel
theorem dX2_soundTouch_47 : decode cX2_soundTouch 47 = .ok (.aload_n 0, 1) := by decide +kernel
theorem dX2_soundTouch_48 : decode cX2_soundTouch 48 = .ok (.getfield 18, 3) := by decide +kernel
theorem dX2_soundTouch_51 : decode cX2_soundTouch 51 = .ok (.iload_n 3, 1) := by decide +kernel
theorem dX2_soundTouch_52 : decode cX2_soundTouch 52 = .ok (.aload_n 0, 1) := by decide +kernel
theorem dX2_soundTouch_53 : decode cX2_soundTouch 53 = .ok (.getfield 9, 3) := by decide +kernel
theorem dX2_soundTouch_56 : decode cX2_soundTouch 56 = .ok (.invokevirtual 29, 3) := by decide +kernel
theorem dX2_soundTouch_59 : decode cX2_soundTouch 59 = .ok (.aload_n 0, 1) := by decide +kernel
theorem dX2_soundTouch_60 : decode cX2_soundTouch 60 = .ok (.getfield 18, 3) := by decide +kernel
theorem dX2_soundTouch_63 : decode cX2_soundTouch 63 = .ok (.invokevirtual 33, 3) := by decide +kernel
theorem dX2_soundTouch_66 : decode cX2_soundTouch 66 = .ok (.ifCond .eq 8, 3) := by decide +kernel
theorem dX2_soundTouch_69 : decode cX2_soundTouch 69 = .ok (.aload_n 0, 1) := by decide +kernel
theorem dX2_soundTouch_70 : decode cX2_soundTouch 70 = .ok (.invokevirtual 37, 3) := by decide +kernel
theorem dX2_soundTouch_73 : decode cX2_soundTouch 73 = .ok (.areturn, 1) := by decide +kernel
theorem dX2_soundTouch_74 : decode cX2_soundTouch 74 = .ok (.aload_n 0, 1) := by decide +kernel
theorem dX2_soundTouch_75 : decode cX2_soundTouch 75 = .ok (.aload_n 1, 1) := by decide +kernel
theorem dX2_soundTouch_76 : decode cX2_soundTouch 76 = .ok (.aload_n 0, 1) := by decide +kernel
theorem dX2_soundTouch_77 : decode cX2_soundTouch 77 = .ok (.getfield 18, 3) := by decide +kernel
theorem dX2_soundTouch_80 : decode cX2_soundTouch 80 = .ok (.getfield 41, 3) := by decide +kernel
theorem dX2_soundTouch_83 : decode cX2_soundTouch 83 = .ok (.iconst (-1), 1) := by decide +kernel
theorem dX2_soundTouch_84 : decode cX2_soundTouch 84 = .ok (.if_icmp .ne 9, 3) := by decide +kernel
theorem dX2_soundTouch_87 : decode cX2_soundTouch 87 = .ok (.iload_n 2, 1) := by decide +kernel
theorem dX2_soundTouch_88 : decode cX2_soundTouch 88 = .ok (.iconst 1, 1) := by decide +kernel
theorem dX2_soundTouch_89 : decode cX2_soundTouch 89 = .ok (.isub, 1) := by decide +kernel
theorem dX2_soundTouch_90 : decode cX2_soundTouch 90 = .ok (.goto 10, 3) := by decide +kernel
theorem dX2_soundTouch_93 : decode cX2_soundTouch 93 = .ok (.aload_n 0, 1) := by decide +kernel
theorem dX2_soundTouch_94 : decode cX2_soundTouch 94 = .ok (.getfield 18, 3) := by decide +kernel
theorem dX2_soundTouch_97 : decode cX2_soundTouch 97 = .ok (.getfield 45, 3) := by decide +kernel
theorem dX2_soundTouch_100 : decode cX2_soundTouch 100 = .ok (.invokevirtual 48, 3) := by decide +kernel
theorem dX2_soundTouch_103 : decode cX2_soundTouch 103 = .ok (.istore_n 3, 1) := by decide +kernel
theorem dX2_soundTouch_104 : decode cX2_soundTouch 104 = .ok (.iinc 4 1, 3) := by decide +kernel
theorem dX2_soundTouch_107 : decode cX2_soundTouch 107 = .ok (.goto (-73), 3) := by decide +kernel
theorem dX2_soundTouch_110 : decode cX2_soundTouch 110 = .ok (.aconst_null, 1) := by decide +kernel
theorem dX2_soundTouch_111 : decode cX2_soundTouch 111 = .ok (.areturn, 1) := by decide +kernel
theorem dX2_handOutTrial_0 : decode cX2_handOutTrial 0 = .ok (.aload_n 0, 1) := by decide +kernel
theorem dX2_handOutTrial_1 : decode cX2_handOutTrial 1 = .ok (.getfield 18, 3) := by decide +kernel
theorem dX2_handOutTrial_4 : decode cX2_handOutTrial 4 = .ok (.astore_n 1, 1) := by decide +kernel
theorem dX2_handOutTrial_5 : decode cX2_handOutTrial 5 = .ok (.aload_n 0, 1) := by decide +kernel
theorem dX2_handOutTrial_6 : decode cX2_handOutTrial 6 = .ok (.new 15, 3) := by decide +kernel
theorem dX2_handOutTrial_9 : decode cX2_handOutTrial 9 = .ok (.dup, 1) := by decide +kernel
theorem dX2_handOutTrial_10 : decode cX2_handOutTrial 10 = .ok (.invokespecial 17, 3) := by decide +kernel
theorem dX2_handOutTrial_13 : decode cX2_handOutTrial 13 = .ok (.putfield 18, 3) := by decide +kernel
theorem dX2_handOutTrial_16 : decode cX2_handOutTrial 16 = .ok (.aload_n 1, 1) := by decide +kernel
theorem dX2_handOutTrial_17 : decode cX2_handOutTrial 17 = .ok (.areturn, 1) := by decide +kernel
theorem dX2_callNext_0 : decode cX2_callNext 0 = .ok (.iload_n 2, 1) := by decide +kernel
theorem dX2_callNext_1 : decode cX2_callNext 1 = .ok (.istore_n 3, 1) := by decide +kernel
theorem dX2_callNext_2 : decode cX2_callNext 2 = .ok (.iload_n 3, 1) := by decide +kernel
theorem dX2_callNext_3 : decode cX2_callNext 3 = .ok (.ifCond .lt 53, 3) := by decide +kernel
theorem dX2_callNext_6 : decode cX2_callNext 6 = .ok (.aload_n 1, 1) := by decide +kernel
theorem dX2_callNext_7 : decode cX2_callNext 7 = .ok (.aload_n 0, 1) := by decide +kernel
theorem dX2_callNext_8 : decode cX2_callNext 8 = .ok (.getfield 18, 3) := by decide +kernel
theorem dX2_callNext_11 : decode cX2_callNext 11 = .ok (.getfield 52, 3) := by decide +kernel
theorem dX2_callNext_14 : decode cX2_callNext 14 = .ok (.iload_n 3, 1) := by decide +kernel
theorem dX2_callNext_15 : decode cX2_callNext 15 = .ok (.iaload, 1) := by decide +kernel
theorem dX2_callNext_16 : decode cX2_callNext 16 = .ok (.invokevirtual 56, 3) := by decide +kernel
theorem dX2_callNext_19 : decode cX2_callNext 19 = .ok (.istore 4, 2) := by decide +kernel
theorem dX2_callNext_21 : decode cX2_callNext 21 = .ok (.iload 4, 2) := by decide +kernel
theorem dX2_callNext_23 : decode cX2_callNext 23 = .ok (.iconst (-1), 1) := by decide +kernel
theorem dX2_callNext_24 : decode cX2_callNext 24 = .ok (.if_icmp .eq 16, 3) := by decide +kernel
theorem dX2_callNext_27 : decode cX2_callNext 27 = .ok (.aload_n 0, 1) := by decide +kernel
theorem dX2_callNext_28 : decode cX2_callNext 28 = .ok (.getfield 18, 3) := by decide +kernel
theorem dX2_callNext_31 : decode cX2_callNext 31 = .ok (.getfield 52, 3) := by decide +kernel
theorem dX2_callNext_34 : decode cX2_callNext 34 = .ok (.iload_n 3, 1) := by decide +kernel
theorem dX2_callNext_35 : decode cX2_callNext 35 = .ok (.iload 4, 2) := by decide +kernel
theorem dX2_callNext_37 : decode cX2_callNext 37 = .ok (.iastore, 1) := by decide +kernel
theorem dX2_callNext_38 : decode cX2_callNext 38 = .ok (.iload_n 3, 1) := by decide +kernel
theorem dX2_callNext_39 : decode cX2_callNext 39 = .ok (.ireturn, 1) := by decide +kernel
theorem dX2_callNext_40 : decode cX2_callNext 40 = .ok (.aload_n 0, 1) := by decide +kernel
theorem dX2_callNext_41 : decode cX2_callNext 41 = .ok (.getfield 18, 3) := by decide +kernel
theorem dX2_callNext_44 : decode cX2_callNext 44 = .ok (.getfield 52, 3) := by decide +kernel
theorem dX2_callNext_47 : decode cX2_callNext 47 = .ok (.iload_n 3, 1) := by decide +kernel
theorem dX2_callNext_48 : decode cX2_callNext 48 = .ok (.iconst 0, 1) := by decide +kernel
theorem dX2_callNext_49 : decode cX2_callNext 49 = .ok (.iastore, 1) := by decide +kernel
theorem dX2_callNext_50 : decode cX2_callNext 50 = .ok (.iinc 3 (-1), 3) := by decide +kernel
theorem dX2_callNext_53 : decode cX2_callNext 53 = .ok (.goto (-51), 3) := by decide +kernel
theorem dX2_callNext_56 : decode cX2_callNext 56 = .ok (.iconst (-1), 1) := by decide +kernel
theorem dX2_callNext_57 : decode cX2_callNext 57 = .ok (.ireturn, 1) := by decide +kernel
theorem dX3_init_0 : decode cX3_init 0 = .ok (.aload_n 0, 1) := by decide +kernel
theorem dX3_init_1 : decode cX3_init 1 = .ok (.invokespecial 3, 3) := by decide +kernel
theorem dX3_init_4 : decode cX3_init 4 = .ok (.aload_n 0, 1) := by decide +kernel
theorem dX3_init_5 : decode cX3_init 5 = .ok (.new 9, 3) := by decide +kernel
theorem dX3_init_8 : decode cX3_init 8 = .ok (.dup, 1) := by decide +kernel
theorem dX3_init_9 : decode cX3_init 9 = .ok (.invokespecial 11, 3) := by decide +kernel
theorem dX3_init_12 : decode cX3_init 12 = .ok (.putfield 12, 3) := by decide +kernel
theorem dX3_init_15 : decode cX3_init 15 = .ok (.return_, 1) := by decide +kernel
theorem dX3_hasTouch_0 : decode cX3_hasTouch 0 = .ok (.iconst 0, 1) := by decide +kernel
theorem dX3_hasTouch_1 : decode cX3_hasTouch 1 = .ok (.istore_n 2, 1) := by decide +kernel
theorem dX3_hasTouch_2 : decode cX3_hasTouch 2 = .ok (.iload_n 2, 1) := by decide +kernel
theorem dX3_hasTouch_3 : decode cX3_hasTouch 3 = .ok (.aload_n 0, 1) := by decide +kernel
theorem dX3_hasTouch_4 : decode cX3_hasTouch 4 = .ok (.getfield 12, 3) := by decide +kernel
theorem dX3_hasTouch_7 : decode cX3_hasTouch 7 = .ok (.invokevirtual 18, 3) := by decide +kernel
theorem dX3_hasTouch_10 : decode cX3_hasTouch 10 = .ok (.if_icmp .ge 23, 3) := by decide +kernel
theorem dX3_hasTouch_13 : decode cX3_hasTouch 13 = .ok (.aload_n 0, 1) := by decide +kernel
theorem dX3_hasTouch_14 : decode cX3_hasTouch 14 = .ok (.getfield 12, 3) := by decide +kernel
theorem dX3_hasTouch_17 : decode cX3_hasTouch 17 = .ok (.iload_n 2, 1) := by decide +kernel
theorem dX3_hasTouch_18 : decode cX3_hasTouch 18 = .ok (.invokevirtual 22, 3) := by decide +kernel
theorem dX3_hasTouch_21 : decode cX3_hasTouch 21 = .ok (.aload_n 1, 1) := by decide +kernel
theorem dX3_hasTouch_22 : decode cX3_hasTouch 22 = .ok (.if_acmp .ne 5, 3) := by decide +kernel
theorem dX3_hasTouch_25 : decode cX3_hasTouch 25 = .ok (.iconst 1, 1) := by decide +kernel
theorem dX3_hasTouch_26 : decode cX3_hasTouch 26 = .ok (.ireturn, 1) := by decide +kernel
theorem dX3_hasTouch_27 : decode cX3_hasTouch 27 = .ok (.iinc 2 1, 3) := by decide +kernel
theorem dX3_hasTouch_30 : decode cX3_hasTouch 30 = .ok (.goto (-28), 3) := by decide +kernel
theorem dX3_hasTouch_33 : decode cX3_hasTouch 33 = .ok (.iconst 0, 1) := by decide +kernel
theorem dX3_hasTouch_34 : decode cX3_hasTouch 34 = .ok (.ireturn, 1) := by decide +kernel
theorem dX3_takesTouch_0 : decode cX3_takesTouch 0 = .ok (.aload_n 0, 1) := by decide +kernel
theorem dX3_takesTouch_1 : decode cX3_takesTouch 1 = .ok (.getfield 12, 3) := by decide +kernel
theorem dX3_takesTouch_4 : decode cX3_takesTouch 4 = .ok (.invokevirtual 18, 3) := by decide +kernel
theorem dX3_takesTouch_7 : decode cX3_takesTouch 7 = .ok (.iconst 4, 1) := by decide +kernel
theorem dX3_takesTouch_8 : decode cX3_takesTouch 8 = .ok (.if_icmp .ge 15, 3) := by decide +kernel
theorem dX3_takesTouch_11 : decode cX3_takesTouch 11 = .ok (.aload_n 0, 1) := by decide +kernel
theorem dX3_takesTouch_12 : decode cX3_takesTouch 12 = .ok (.aload_n 1, 1) := by decide +kernel
theorem dX3_takesTouch_13 : decode cX3_takesTouch 13 = .ok (.invokevirtual 26, 3) := by decide +kernel
theorem dX3_takesTouch_16 : decode cX3_takesTouch 16 = .ok (.ifCond .ne 7, 3) := by decide +kernel
theorem dX3_takesTouch_19 : decode cX3_takesTouch 19 = .ok (.iconst 1, 1) := by decide +kernel
theorem dX3_takesTouch_20 : decode cX3_takesTouch 20 = .ok (.goto 4, 3) := by decide +kernel
theorem dX3_takesTouch_23 : decode cX3_takesTouch 23 = .ok (.iconst 0, 1) := by decide +kernel
theorem dX3_takesTouch_24 : decode cX3_takesTouch 24 = .ok (.ireturn, 1) := by decide +kernel
theorem dX3_greatestStage_0 : decode cX3_greatestStage 0 = .ok (.iconst 0, 1) := by decide +kernel
theorem dX3_greatestStage_1 : decode cX3_greatestStage 1 = .ok (.istore_n 1, 1) := by decide +kernel
theorem dX3_greatestStage_2 : decode cX3_greatestStage 2 = .ok (.iconst 0, 1) := by decide +kernel
theorem dX3_greatestStage_3 : decode cX3_greatestStage 3 = .ok (.istore_n 2, 1) := by decide +kernel
theorem dX3_greatestStage_4 : decode cX3_greatestStage 4 = .ok (.iload_n 2, 1) := by decide +kernel
theorem dX3_greatestStage_5 : decode cX3_greatestStage 5 = .ok (.aload_n 0, 1) := by decide +kernel
theorem dX3_greatestStage_6 : decode cX3_greatestStage 6 = .ok (.getfield 12, 3) := by decide +kernel
theorem dX3_greatestStage_9 : decode cX3_greatestStage 9 = .ok (.invokevirtual 18, 3) := by decide +kernel
theorem dX3_greatestStage_12 : decode cX3_greatestStage 12 = .ok (.if_icmp .ge 28, 3) := by decide +kernel
theorem dX3_greatestStage_15 : decode cX3_greatestStage 15 = .ok (.iload_n 1, 1) := by decide +kernel
theorem dX3_greatestStage_16 : decode cX3_greatestStage 16 = .ok (.aload_n 0, 1) := by decide +kernel
theorem dX3_greatestStage_17 : decode cX3_greatestStage 17 = .ok (.getfield 12, 3) := by decide +kernel
theorem dX3_greatestStage_20 : decode cX3_greatestStage 20 = .ok (.iload_n 2, 1) := by decide +kernel
theorem dX3_greatestStage_21 : decode cX3_greatestStage 21 = .ok (.invokevirtual 22, 3) := by decide +kernel
theorem dX3_greatestStage_24 : decode cX3_greatestStage 24 = .ok (.checkcast 30, 3) := by decide +kernel
theorem dX3_greatestStage_27 : decode cX3_greatestStage 27 = .ok (.getfield 32, 3) := by decide +kernel
theorem dX3_greatestStage_30 : decode cX3_greatestStage 30 = .ok (.invokestatic 36, 3) := by decide +kernel
theorem dX3_greatestStage_33 : decode cX3_greatestStage 33 = .ok (.istore_n 1, 1) := by decide +kernel
theorem dX3_greatestStage_34 : decode cX3_greatestStage 34 = .ok (.iinc 2 1, 3) := by decide +kernel
theorem dX3_greatestStage_37 : decode cX3_greatestStage 37 = .ok (.goto (-33), 3) := by decide +kernel
theorem dX3_greatestStage_40 : decode cX3_greatestStage 40 = .ok (.iload_n 1, 1) := by decide +kernel
theorem dX3_greatestStage_41 : decode cX3_greatestStage 41 = .ok (.ireturn, 1) := by decide +kernel
theorem dX3_takeAway_0 : decode cX3_takeAway 0 = .ok (.aload_n 0, 1) := by decide +kernel
theorem dX3_takeAway_1 : decode cX3_takeAway 1 = .ok (.getfield 12, 3) := by decide +kernel
theorem dX3_takeAway_4 : decode cX3_takeAway 4 = .ok (.invokevirtual 18, 3) := by decide +kernel
theorem dX3_takeAway_7 : decode cX3_takeAway 7 = .ok (.iconst 1, 1) := by decide +kernel
theorem dX3_takeAway_8 : decode cX3_takeAway 8 = .ok (.isub, 1) := by decide +kernel
theorem dX3_takeAway_9 : decode cX3_takeAway 9 = .ok (.istore_n 2, 1) := by decide +kernel
theorem dX3_takeAway_10 : decode cX3_takeAway 10 = .ok (.iload_n 2, 1) := by decide +kernel
theorem dX3_takeAway_11 : decode cX3_takeAway 11 = .ok (.ifCond .lt 30, 3) := by decide +kernel
theorem dX3_takeAway_14 : decode cX3_takeAway 14 = .ok (.aload_n 0, 1) := by decide +kernel
theorem dX3_takeAway_15 : decode cX3_takeAway 15 = .ok (.getfield 12, 3) := by decide +kernel
theorem dX3_takeAway_18 : decode cX3_takeAway 18 = .ok (.iload_n 2, 1) := by decide +kernel
theorem dX3_takeAway_19 : decode cX3_takeAway 19 = .ok (.invokevirtual 22, 3) := by decide +kernel
theorem dX3_takeAway_22 : decode cX3_takeAway 22 = .ok (.aload_n 1, 1) := by decide +kernel
theorem dX3_takeAway_23 : decode cX3_takeAway 23 = .ok (.if_acmp .ne 12, 3) := by decide +kernel
theorem dX3_takeAway_26 : decode cX3_takeAway 26 = .ok (.aload_n 0, 1) := by decide +kernel
theorem dX3_takeAway_27 : decode cX3_takeAway 27 = .ok (.getfield 12, 3) := by decide +kernel
theorem dX3_takeAway_30 : decode cX3_takeAway 30 = .ok (.iload_n 2, 1) := by decide +kernel
theorem dX3_takeAway_31 : decode cX3_takeAway 31 = .ok (.invokevirtual 42, 3) := by decide +kernel
theorem dX3_takeAway_34 : decode cX3_takeAway 34 = .ok (.pop, 1) := by decide +kernel
theorem dX3_takeAway_35 : decode cX3_takeAway 35 = .ok (.iinc 2 (-1), 3) := by decide +kernel
theorem dX3_takeAway_38 : decode cX3_takeAway 38 = .ok (.goto (-28), 3) := by decide +kernel
theorem dX3_takeAway_41 : decode cX3_takeAway 41 = .ok (.return_, 1) := by decide +kernel
theorem dX3_dropUnfit_0 : decode cX3_dropUnfit 0 = .ok (.aload_n 0, 1) := by decide +kernel
theorem dX3_dropUnfit_1 : decode cX3_dropUnfit 1 = .ok (.getfield 12, 3) := by decide +kernel
theorem dX3_dropUnfit_4 : decode cX3_dropUnfit 4 = .ok (.invokevirtual 18, 3) := by decide +kernel
theorem dX3_dropUnfit_7 : decode cX3_dropUnfit 7 = .ok (.istore_n 2, 1) := by decide +kernel
theorem dX3_dropUnfit_8 : decode cX3_dropUnfit 8 = .ok (.iload_n 2, 1) := by decide +kernel
theorem dX3_dropUnfit_9 : decode cX3_dropUnfit 9 = .ok (.iconst 1, 1) := by decide +kernel
theorem dX3_dropUnfit_10 : decode cX3_dropUnfit 10 = .ok (.isub, 1) := by decide +kernel
theorem dX3_dropUnfit_11 : decode cX3_dropUnfit 11 = .ok (.istore_n 3, 1) := by decide +kernel
theorem dX3_dropUnfit_12 : decode cX3_dropUnfit 12 = .ok (.iload_n 3, 1) := by decide +kernel
theorem dX3_dropUnfit_13 : decode cX3_dropUnfit 13 = .ok (.ifCond .lt 36, 3) := by decide +kernel
theorem dX3_dropUnfit_16 : decode cX3_dropUnfit 16 = .ok (.aload_n 0, 1) := by decide +kernel
theorem dX3_dropUnfit_17 : decode cX3_dropUnfit 17 = .ok (.getfield 12, 3) := by decide +kernel
theorem dX3_dropUnfit_20 : decode cX3_dropUnfit 20 = .ok (.iload_n 3, 1) := by decide +kernel
theorem dX3_dropUnfit_21 : decode cX3_dropUnfit 21 = .ok (.invokevirtual 22, 3) := by decide +kernel
theorem dX3_dropUnfit_24 : decode cX3_dropUnfit 24 = .ok (.checkcast 30, 3) := by decide +kernel
theorem dX3_dropUnfit_27 : decode cX3_dropUnfit 27 = .ok (.iload_n 1, 1) := by decide +kernel
theorem dX3_dropUnfit_28 : decode cX3_dropUnfit 28 = .ok (.invokevirtual 45, 3) := by decide +kernel
theorem dX3_dropUnfit_31 : decode cX3_dropUnfit 31 = .ok (.ifCond .ne 12, 3) := by decide +kernel
theorem dX3_dropUnfit_34 : decode cX3_dropUnfit 34 = .ok (.aload_n 0, 1) := by decide +kernel
theorem dX3_dropUnfit_35 : decode cX3_dropUnfit 35 = .ok (.getfield 12, 3) := by decide +kernel
theorem dX3_dropUnfit_38 : decode cX3_dropUnfit 38 = .ok (.iload_n 3, 1) := by decide +kernel
theorem dX3_dropUnfit_39 : decode cX3_dropUnfit 39 = .ok (.invokevirtual 42, 3) := by decide +kernel
theorem dX3_dropUnfit_42 : decode cX3_dropUnfit 42 = .ok (.pop, 1) := by decide +kernel
theorem dX3_dropUnfit_43 : decode cX3_dropUnfit 43 = .ok (.iinc 3 (-1), 3) := by decide +kernel
theorem dX3_dropUnfit_46 : decode cX3_dropUnfit 46 = .ok (.goto (-34), 3) := by decide +kernel
theorem dX3_dropUnfit_49 : decode cX3_dropUnfit 49 = .ok (.iload_n 2, 1) := by decide +kernel
theorem dX3_dropUnfit_50 : decode cX3_dropUnfit 50 = .ok (.aload_n 0, 1) := by decide +kernel
theorem dX3_dropUnfit_51 : decode cX3_dropUnfit 51 = .ok (.getfield 12, 3) := by decide +kernel
theorem dX3_dropUnfit_54 : decode cX3_dropUnfit 54 = .ok (.invokevirtual 18, 3) := by decide +kernel
theorem dX3_dropUnfit_57 : decode cX3_dropUnfit 57 = .ok (.isub, 1) := by decide +kernel
theorem dX3_dropUnfit_58 : decode cX3_dropUnfit 58 = .ok (.ireturn, 1) := by decide +kernel
theorem dX4_init_0 : decode cX4_init 0 = .ok (.aload_n 0, 1) := by decide +kernel
theorem dX4_init_1 : decode cX4_init 1 = .ok (.invokespecial 3, 3) := by decide +kernel
theorem dX4_init_4 : decode cX4_init 4 = .ok (.aload_n 0, 1) := by decide +kernel
theorem dX4_init_5 : decode cX4_init 5 = .ok (.iload_n 1, 1) := by decide +kernel
theorem dX4_init_6 : decode cX4_init 6 = .ok (.putfield 9, 3) := by decide +kernel
theorem dX4_init_9 : decode cX4_init 9 = .ok (.aload_n 0, 1) := by decide +kernel
theorem dX4_init_10 : decode cX4_init 10 = .ok (.iload_n 2, 1) := by decide +kernel
theorem dX4_init_11 : decode cX4_init 11 = .ok (.putfield 15, 3) := by decide +kernel
theorem dX4_init_14 : decode cX4_init 14 = .ok (.aload_n 0, 1) := by decide +kernel
theorem dX4_init_15 : decode cX4_init 15 = .ok (.iload 4, 2) := by decide +kernel
theorem dX4_init_17 : decode cX4_init 17 = .ok (.putfield 18, 3) := by decide +kernel
theorem dX4_init_20 : decode cX4_init 20 = .ok (.aload_n 0, 1) := by decide +kernel
theorem dX4_init_21 : decode cX4_init 21 = .ok (.bipush 12, 2) := by decide +kernel
theorem dX4_init_23 : decode cX4_init 23 = .ok (.newarray .int, 2) := by decide +kernel
theorem dX4_init_25 : decode cX4_init 25 = .ok (.putfield 21, 3) := by decide +kernel
theorem dX4_init_28 : decode cX4_init 28 = .ok (.aload_n 0, 1) := by decide +kernel
theorem dX4_init_29 : decode cX4_init 29 = .ok (.iconst 3, 1) := by decide +kernel
theorem dX4_init_30 : decode cX4_init 30 = .ok (.newarray .int, 2) := by decide +kernel
theorem dX4_init_32 : decode cX4_init 32 = .ok (.putfield 25, 3) := by decide +kernel
theorem dX4_init_35 : decode cX4_init 35 = .ok (.aload_n 0, 1) := by decide +kernel
theorem dX4_init_36 : decode cX4_init 36 = .ok (.sipush 132, 3) := by decide +kernel
theorem dX4_init_39 : decode cX4_init 39 = .ok (.newarray .int, 2) := by decide +kernel
theorem dX4_init_41 : decode cX4_init 41 = .ok (.putfield 28, 3) := by decide +kernel
theorem dX4_init_44 : decode cX4_init 44 = .ok (.iconst 0, 1) := by decide +kernel
theorem dX4_init_45 : decode cX4_init 45 = .ok (.istore 5, 2) := by decide +kernel
theorem dX4_init_47 : decode cX4_init 47 = .ok (.iload 5, 2) := by decide +kernel
theorem dX4_init_49 : decode cX4_init 49 = .ok (.iload 4, 2) := by decide +kernel
theorem dX4_init_51 : decode cX4_init 51 = .ok (.if_icmp .ge 20, 3) := by decide +kernel
theorem dX4_init_54 : decode cX4_init 54 = .ok (.aload_n 0, 1) := by decide +kernel
theorem dX4_init_55 : decode cX4_init 55 = .ok (.getfield 21, 3) := by decide +kernel
theorem dX4_init_58 : decode cX4_init 58 = .ok (.iload 5, 2) := by decide +kernel
theorem dX4_init_60 : decode cX4_init 60 = .ok (.aload_n 3, 1) := by decide +kernel
theorem dX4_init_61 : decode cX4_init 61 = .ok (.iload 5, 2) := by decide +kernel
theorem dX4_init_63 : decode cX4_init 63 = .ok (.iaload, 1) := by decide +kernel
theorem dX4_init_64 : decode cX4_init 64 = .ok (.iastore, 1) := by decide +kernel
theorem dX4_init_65 : decode cX4_init 65 = .ok (.iinc 5 1, 3) := by decide +kernel
theorem dX4_init_68 : decode cX4_init 68 = .ok (.goto (-21), 3) := by decide +kernel
theorem dX4_init_71 : decode cX4_init 71 = .ok (.iconst 0, 1) := by decide +kernel
theorem dX4_init_72 : decode cX4_init 72 = .ok (.istore 5, 2) := by decide +kernel
theorem dX4_init_74 : decode cX4_init 74 = .ok (.iload 5, 2) := by decide +kernel
theorem dX4_init_76 : decode cX4_init 76 = .ok (.iconst 3, 1) := by decide +kernel
theorem dX4_init_77 : decode cX4_init 77 = .ok (.if_icmp .ge 22, 3) := by decide +kernel
theorem dX4_init_80 : decode cX4_init 80 = .ok (.aload_n 0, 1) := by decide +kernel
theorem dX4_init_81 : decode cX4_init 81 = .ok (.getfield 25, 3) := by decide +kernel
theorem dX4_init_84 : decode cX4_init 84 = .ok (.iload 5, 2) := by decide +kernel
theorem dX4_init_86 : decode cX4_init 86 = .ok (.aload_n 3, 1) := by decide +kernel
theorem dX4_init_87 : decode cX4_init 87 = .ok (.iload 4, 2) := by decide +kernel
theorem dX4_init_89 : decode cX4_init 89 = .ok (.iconst 1, 1) := by decide +kernel
theorem dX4_init_90 : decode cX4_init 90 = .ok (.isub, 1) := by decide +kernel
theorem dX4_init_91 : decode cX4_init 91 = .ok (.iaload, 1) := by decide +kernel
theorem dX4_init_92 : decode cX4_init 92 = .ok (.iastore, 1) := by decide +kernel
theorem dX4_init_93 : decode cX4_init 93 = .ok (.iinc 5 1, 3) := by decide +kernel
theorem dX4_init_96 : decode cX4_init 96 = .ok (.goto (-22), 3) := by decide +kernel
theorem dX4_init_99 : decode cX4_init 99 = .ok (.aload_n 0, 1) := by decide +kernel
theorem dX4_init_100 : decode cX4_init 100 = .ok (.invokevirtual 31, 3) := by decide +kernel
theorem dX4_init_103 : decode cX4_init 103 = .ok (.return_, 1) := by decide +kernel
theorem dX4_changeOf_0 : decode cX4_changeOf 0 = .ok (.iload_n 2, 1) := by decide +kernel
theorem dX4_changeOf_1 : decode cX4_changeOf 1 = .ok (.aload_n 0, 1) := by decide +kernel
theorem dX4_changeOf_2 : decode cX4_changeOf 2 = .ok (.getfield 18, 3) := by decide +kernel
theorem dX4_changeOf_5 : decode cX4_changeOf 5 = .ok (.if_icmp .lt 5, 3) := by decide +kernel
theorem dX4_changeOf_8 : decode cX4_changeOf 8 = .ok (.iconst (-1), 1) := by decide +kernel
theorem dX4_changeOf_9 : decode cX4_changeOf 9 = .ok (.ireturn, 1) := by decide +kernel
theorem dX4_changeOf_10 : decode cX4_changeOf 10 = .ok (.iload_n 2, 1) := by decide +kernel
theorem dX4_changeOf_11 : decode cX4_changeOf 11 = .ok (.aload_n 0, 1) := by decide +kernel
theorem dX4_changeOf_12 : decode cX4_changeOf 12 = .ok (.getfield 18, 3) := by decide +kernel
theorem dX4_changeOf_15 : decode cX4_changeOf 15 = .ok (.iconst 1, 1) := by decide +kernel
theorem dX4_changeOf_16 : decode cX4_changeOf 16 = .ok (.isub, 1) := by decide +kernel
theorem dX4_changeOf_17 : decode cX4_changeOf 17 = .ok (.if_icmp .ne 12, 3) := by decide +kernel
theorem dX4_changeOf_20 : decode cX4_changeOf 20 = .ok (.aload_n 0, 1) := by decide +kernel
theorem dX4_changeOf_21 : decode cX4_changeOf 21 = .ok (.getfield 25, 3) := by decide +kernel
theorem dX4_changeOf_24 : decode cX4_changeOf 24 = .ok (.iload_n 1, 1) := by decide +kernel
theorem dX4_changeOf_25 : decode cX4_changeOf 25 = .ok (.iaload, 1) := by decide +kernel
theorem dX4_changeOf_26 : decode cX4_changeOf 26 = .ok (.goto 9, 3) := by decide +kernel
theorem dX4_changeOf_29 : decode cX4_changeOf 29 = .ok (.aload_n 0, 1) := by decide +kernel
theorem dX4_changeOf_30 : decode cX4_changeOf 30 = .ok (.getfield 21, 3) := by decide +kernel
theorem dX4_changeOf_33 : decode cX4_changeOf 33 = .ok (.iload_n 2, 1) := by decide +kernel
theorem dX4_changeOf_34 : decode cX4_changeOf 34 = .ok (.iaload, 1) := by decide +kernel
theorem dX4_changeOf_35 : decode cX4_changeOf 35 = .ok (.ireturn, 1) := by decide +kernel
theorem dX4_setLastChange_0 : decode cX4_setLastChange 0 = .ok (.aload_n 0, 1) := by decide +kernel
theorem dX4_setLastChange_1 : decode cX4_setLastChange 1 = .ok (.getfield 25, 3) := by decide +kernel
theorem dX4_setLastChange_4 : decode cX4_setLastChange 4 = .ok (.iload_n 1, 1) := by decide +kernel
theorem dX4_setLastChange_5 : decode cX4_setLastChange 5 = .ok (.iload_n 2, 1) := by decide +kernel
theorem dX4_setLastChange_6 : decode cX4_setLastChange 6 = .ok (.iastore, 1) := by decide +kernel
theorem dX4_setLastChange_7 : decode cX4_setLastChange 7 = .ok (.return_, 1) := by decide +kernel
theorem dX4_lastRow_0 : decode cX4_lastRow 0 = .ok (.iload_n 1, 1) := by decide +kernel
theorem dX4_lastRow_1 : decode cX4_lastRow 1 = .ok (.istore_n 3, 1) := by decide +kernel
theorem dX4_lastRow_2 : decode cX4_lastRow 2 = .ok (.iconst 0, 1) := by decide +kernel
theorem dX4_lastRow_3 : decode cX4_lastRow 3 = .ok (.istore 4, 2) := by decide +kernel
theorem dX4_lastRow_5 : decode cX4_lastRow 5 = .ok (.iload 4, 2) := by decide +kernel
theorem dX4_lastRow_7 : decode cX4_lastRow 7 = .ok (.aload_n 0, 1) := by decide +kernel
theorem dX4_lastRow_8 : decode cX4_lastRow 8 = .ok (.getfield 18, 3) := by decide +kernel
theorem dX4_lastRow_11 : decode cX4_lastRow 11 = .ok (.if_icmp .ge 25, 3) := by decide +kernel
theorem dX4_lastRow_14 : decode cX4_lastRow 14 = .ok (.iload_n 3, 1) := by decide +kernel
theorem dX4_lastRow_15 : decode cX4_lastRow 15 = .ok (.aload_n 0, 1) := by decide +kernel
theorem dX4_lastRow_16 : decode cX4_lastRow 16 = .ok (.iload_n 2, 1) := by decide +kernel
theorem dX4_lastRow_17 : decode cX4_lastRow 17 = .ok (.iload 4, 2) := by decide +kernel
theorem dX4_lastRow_19 : decode cX4_lastRow 19 = .ok (.invokevirtual 34, 3) := by decide +kernel
theorem dX4_lastRow_22 : decode cX4_lastRow 22 = .ok (.aload_n 0, 1) := by decide +kernel
theorem dX4_lastRow_23 : decode cX4_lastRow 23 = .ok (.getfield 15, 3) := by decide +kernel
theorem dX4_lastRow_26 : decode cX4_lastRow 26 = .ok (.invokestatic 38, 3) := by decide +kernel
theorem dX4_lastRow_29 : decode cX4_lastRow 29 = .ok (.istore_n 3, 1) := by decide +kernel
theorem dX4_lastRow_30 : decode cX4_lastRow 30 = .ok (.iinc 4 1, 3) := by decide +kernel
theorem dX4_lastRow_33 : decode cX4_lastRow 33 = .ok (.goto (-28), 3) := by decide +kernel
theorem dX4_lastRow_36 : decode cX4_lastRow 36 = .ok (.iload_n 3, 1) := by decide +kernel
theorem dX4_lastRow_37 : decode cX4_lastRow 37 = .ok (.ireturn, 1) := by decide +kernel
theorem dX4_leadsToRounds_0 : decode cX4_leadsToRounds 0 = .ok (.aload_n 0, 1) := by decide +kernel
theorem dX4_leadsToRounds_1 : decode cX4_leadsToRounds 1 = .ok (.getfield 15, 3) := by decide +kernel
theorem dX4_leadsToRounds_4 : decode cX4_leadsToRounds 4 = .ok (.invokestatic 44, 3) := by decide +kernel
theorem dX4_leadsToRounds_7 : decode cX4_leadsToRounds 7 = .ok (.istore_n 1, 1) := by decide +kernel
theorem dX4_leadsToRounds_8 : decode cX4_leadsToRounds 8 = .ok (.aload_n 0, 1) := by decide +kernel
theorem dX4_leadsToRounds_9 : decode cX4_leadsToRounds 9 = .ok (.iload_n 1, 1) := by decide +kernel
theorem dX4_leadsToRounds_10 : decode cX4_leadsToRounds 10 = .ok (.iconst 0, 1) := by decide +kernel
theorem dX4_leadsToRounds_11 : decode cX4_leadsToRounds 11 = .ok (.invokevirtual 48, 3) := by decide +kernel
theorem dX4_leadsToRounds_14 : decode cX4_leadsToRounds 14 = .ok (.istore_n 2, 1) := by decide +kernel
theorem dX4_leadsToRounds_15 : decode cX4_leadsToRounds 15 = .ok (.iconst 1, 1) := by decide +kernel
theorem dX4_leadsToRounds_16 : decode cX4_leadsToRounds 16 = .ok (.istore_n 3, 1) := by decide +kernel
theorem dX4_leadsToRounds_17 : decode cX4_leadsToRounds 17 = .ok (.iload_n 2, 1) := by decide +kernel
theorem dX4_leadsToRounds_18 : decode cX4_leadsToRounds 18 = .ok (.iload_n 1, 1) := by decide +kernel
theorem dX4_leadsToRounds_19 : decode cX4_leadsToRounds 19 = .ok (.if_icmp .eq 23, 3) := by decide +kernel
theorem dX4_leadsToRounds_22 : decode cX4_leadsToRounds 22 = .ok (.iload_n 3, 1) := by decide +kernel
theorem dX4_leadsToRounds_23 : decode cX4_leadsToRounds 23 = .ok (.sipush 720, 3) := by decide +kernel
theorem dX4_leadsToRounds_26 : decode cX4_leadsToRounds 26 = .ok (.if_icmp .ge 16, 3) := by decide +kernel
theorem dX4_leadsToRounds_29 : decode cX4_leadsToRounds 29 = .ok (.aload_n 0, 1) := by decide +kernel
theorem dX4_leadsToRounds_30 : decode cX4_leadsToRounds 30 = .ok (.iload_n 2, 1) := by decide +kernel
theorem dX4_leadsToRounds_31 : decode cX4_leadsToRounds 31 = .ok (.iconst 0, 1) := by decide +kernel
theorem dX4_leadsToRounds_32 : decode cX4_leadsToRounds 32 = .ok (.invokevirtual 48, 3) := by decide +kernel
theorem dX4_leadsToRounds_35 : decode cX4_leadsToRounds 35 = .ok (.istore_n 2, 1) := by decide +kernel
theorem dX4_leadsToRounds_36 : decode cX4_leadsToRounds 36 = .ok (.iinc 3 1, 3) := by decide +kernel
theorem dX4_leadsToRounds_39 : decode cX4_leadsToRounds 39 = .ok (.goto (-22), 3) := by decide +kernel
theorem dX4_leadsToRounds_42 : decode cX4_leadsToRounds 42 = .ok (.iload_n 3, 1) := by decide +kernel
theorem dX4_leadsToRounds_43 : decode cX4_leadsToRounds 43 = .ok (.ireturn, 1) := by decide +kernel
theorem dX4_nextUnlikeCall_0 : decode cX4_nextUnlikeCall 0 = .ok (.iload_n 1, 1) := by decide +kernel
theorem dX4_nextUnlikeCall_1 : decode cX4_nextUnlikeCall 1 = .ok (.iconst 1, 1) := by decide +kernel
theorem dX4_nextUnlikeCall_2 : decode cX4_nextUnlikeCall 2 = .ok (.iadd, 1) := by decide +kernel
theorem dX4_nextUnlikeCall_3 : decode cX4_nextUnlikeCall 3 = .ok (.istore_n 2, 1) := by decide +kernel
theorem dX4_nextUnlikeCall_4 : decode cX4_nextUnlikeCall 4 = .ok (.iload_n 2, 1) := by decide +kernel
theorem dX4_nextUnlikeCall_5 : decode cX4_nextUnlikeCall 5 = .ok (.iconst 3, 1) := by decide +kernel
theorem dX4_nextUnlikeCall_6 : decode cX4_nextUnlikeCall 6 = .ok (.if_icmp .ge 19, 3) := by decide +kernel
theorem dX4_nextUnlikeCall_9 : decode cX4_nextUnlikeCall 9 = .ok (.aload_n 0, 1) := by decide +kernel
theorem dX4_nextUnlikeCall_10 : decode cX4_nextUnlikeCall 10 = .ok (.iload_n 2, 1) := by decide +kernel
theorem dX4_nextUnlikeCall_11 : decode cX4_nextUnlikeCall 11 = .ok (.invokevirtual 51, 3) := by decide +kernel
theorem dX4_nextUnlikeCall_14 : decode cX4_nextUnlikeCall 14 = .ok (.ifCond .ne 5, 3) := by decide +kernel
theorem dX4_nextUnlikeCall_17 : decode cX4_nextUnlikeCall 17 = .ok (.iload_n 2, 1) := by decide +kernel
theorem dX4_nextUnlikeCall_18 : decode cX4_nextUnlikeCall 18 = .ok (.ireturn, 1) := by decide +kernel
theorem dX4_nextUnlikeCall_19 : decode cX4_nextUnlikeCall 19 = .ok (.iinc 2 1, 3) := by decide +kernel
theorem dX4_nextUnlikeCall_22 : decode cX4_nextUnlikeCall 22 = .ok (.goto (-18), 3) := by decide +kernel
theorem dX4_nextUnlikeCall_25 : decode cX4_nextUnlikeCall 25 = .ok (.iconst (-1), 1) := by decide +kernel
theorem dX4_nextUnlikeCall_26 : decode cX4_nextUnlikeCall 26 = .ok (.ireturn, 1) := by decide +kernel
theorem dX4_isLikeLesserCall_0 : decode cX4_isLikeLesserCall 0 = .ok (.iconst 0, 1) := by decide +kernel
theorem dX4_isLikeLesserCall_1 : decode cX4_isLikeLesserCall 1 = .ok (.istore_n 2, 1) := by decide +kernel
theorem dX4_isLikeLesserCall_2 : decode cX4_isLikeLesserCall 2 = .ok (.iload_n 2, 1) := by decide +kernel
theorem dX4_isLikeLesserCall_3 : decode cX4_isLikeLesserCall 3 = .ok (.iload_n 1, 1) := by decide +kernel
theorem dX4_isLikeLesserCall_4 : decode cX4_isLikeLesserCall 4 = .ok (.if_icmp .ge 26, 3) := by decide +kernel
theorem dX4_isLikeLesserCall_7 : decode cX4_isLikeLesserCall 7 = .ok (.aload_n 0, 1) := by decide +kernel
theorem dX4_isLikeLesserCall_8 : decode cX4_isLikeLesserCall 8 = .ok (.getfield 25, 3) := by decide +kernel
theorem dX4_isLikeLesserCall_11 : decode cX4_isLikeLesserCall 11 = .ok (.iload_n 2, 1) := by decide +kernel
theorem dX4_isLikeLesserCall_12 : decode cX4_isLikeLesserCall 12 = .ok (.iaload, 1) := by decide +kernel
theorem dX4_isLikeLesserCall_13 : decode cX4_isLikeLesserCall 13 = .ok (.aload_n 0, 1) := by decide +kernel
theorem dX4_isLikeLesserCall_14 : decode cX4_isLikeLesserCall 14 = .ok (.getfield 25, 3) := by decide +kernel
theorem dX4_isLikeLesserCall_17 : decode cX4_isLikeLesserCall 17 = .ok (.iload_n 1, 1) := by decide +kernel
theorem dX4_isLikeLesserCall_18 : decode cX4_isLikeLesserCall 18 = .ok (.iaload, 1) := by decide +kernel
theorem dX4_isLikeLesserCall_19 : decode cX4_isLikeLesserCall 19 = .ok (.if_icmp .ne 5, 3) := by decide +kernel
theorem dX4_isLikeLesserCall_22 : decode cX4_isLikeLesserCall 22 = .ok (.iconst 1, 1) := by decide +kernel
theorem dX4_isLikeLesserCall_23 : decode cX4_isLikeLesserCall 23 = .ok (.ireturn, 1) := by decide +kernel
theorem dX4_isLikeLesserCall_24 : decode cX4_isLikeLesserCall 24 = .ok (.iinc 2 1, 3) := by decide +kernel
theorem dX4_isLikeLesserCall_27 : decode cX4_isLikeLesserCall 27 = .ok (.goto (-25), 3) := by decide +kernel
theorem dX4_isLikeLesserCall_30 : decode cX4_isLikeLesserCall 30 = .ok (.iconst 0, 1) := by decide +kernel
theorem dX4_isLikeLesserCall_31 : decode cX4_isLikeLesserCall 31 = .ok (.ireturn, 1) := by decide +kernel
theorem dX4_hasFalse_0 : decode cX4_hasFalse 0 = .ok (.iconst 0, 1) := by decide +kernel
theorem dX4_hasFalse_1 : decode cX4_hasFalse 1 = .ok (.istore_n 2, 1) := by decide +kernel
theorem dX4_hasFalse_2 : decode cX4_hasFalse 2 = .ok (.iload_n 2, 1) := by decide +kernel
theorem dX4_hasFalse_3 : decode cX4_hasFalse 3 = .ok (.aload_n 0, 1) := by decide +kernel
theorem dX4_hasFalse_4 : decode cX4_hasFalse 4 = .ok (.getfield 55, 3) := by decide +kernel
theorem dX4_hasFalse_7 : decode cX4_hasFalse 7 = .ok (.if_icmp .ge 21, 3) := by decide +kernel
theorem dX4_hasFalse_10 : decode cX4_hasFalse 10 = .ok (.aload_n 0, 1) := by decide +kernel
theorem dX4_hasFalse_11 : decode cX4_hasFalse 11 = .ok (.getfield 28, 3) := by decide +kernel
theorem dX4_hasFalse_14 : decode cX4_hasFalse 14 = .ok (.iload_n 2, 1) := by decide +kernel
theorem dX4_hasFalse_15 : decode cX4_hasFalse 15 = .ok (.iaload, 1) := by decide +kernel
theorem dX4_hasFalse_16 : decode cX4_hasFalse 16 = .ok (.iload_n 1, 1) := by decide +kernel
theorem dX4_hasFalse_17 : decode cX4_hasFalse 17 = .ok (.if_icmp .ne 5, 3) := by decide +kernel
theorem dX4_hasFalse_20 : decode cX4_hasFalse 20 = .ok (.iconst 1, 1) := by decide +kernel
theorem dX4_hasFalse_21 : decode cX4_hasFalse 21 = .ok (.ireturn, 1) := by decide +kernel
theorem dX4_hasFalse_22 : decode cX4_hasFalse 22 = .ok (.iinc 2 1, 3) := by decide +kernel
theorem dX4_hasFalse_25 : decode cX4_hasFalse 25 = .ok (.goto (-23), 3) := by decide +kernel
theorem dX4_hasFalse_28 : decode cX4_hasFalse 28 = .ok (.iconst 0, 1) := by decide +kernel
theorem dX4_hasFalse_29 : decode cX4_hasFalse 29 = .ok (.ireturn, 1) := by decide +kernel
theorem dX4_gatherFalseRows_0 : decode cX4_gatherFalseRows 0 = .ok (.bipush 12, 2) := by decide +kernel
theorem dX4_gatherFalseRows_2 : decode cX4_gatherFalseRows 2 = .ok (.newarray .int, 2) := by decide +kernel
theorem dX4_gatherFalseRows_4 : decode cX4_gatherFalseRows 4 = .ok (.astore_n 1, 1) := by decide +kernel
theorem dX4_gatherFalseRows_5 : decode cX4_gatherFalseRows 5 = .ok (.aload_n 0, 1) := by decide +kernel
theorem dX4_gatherFalseRows_6 : decode cX4_gatherFalseRows 6 = .ok (.getfield 15, 3) := by decide +kernel
theorem dX4_gatherFalseRows_9 : decode cX4_gatherFalseRows 9 = .ok (.invokestatic 44, 3) := by decide +kernel
theorem dX4_gatherFalseRows_12 : decode cX4_gatherFalseRows 12 = .ok (.istore_n 2, 1) := by decide +kernel
theorem dX4_gatherFalseRows_13 : decode cX4_gatherFalseRows 13 = .ok (.iconst 0, 1) := by decide +kernel
theorem dX4_gatherFalseRows_14 : decode cX4_gatherFalseRows 14 = .ok (.istore_n 3, 1) := by decide +kernel
theorem dX4_gatherFalseRows_15 : decode cX4_gatherFalseRows 15 = .ok (.iload_n 3, 1) := by decide +kernel
theorem dX4_gatherFalseRows_16 : decode cX4_gatherFalseRows 16 = .ok (.aload_n 0, 1) := by decide +kernel
theorem dX4_gatherFalseRows_17 : decode cX4_gatherFalseRows 17 = .ok (.getfield 18, 3) := by decide +kernel
theorem dX4_gatherFalseRows_20 : decode cX4_gatherFalseRows 20 = .ok (.if_icmp .ge 28, 3) := by decide +kernel
theorem dX4_gatherFalseRows_23 : decode cX4_gatherFalseRows 23 = .ok (.iload_n 2, 1) := by decide +kernel
theorem dX4_gatherFalseRows_24 : decode cX4_gatherFalseRows 24 = .ok (.aload_n 0, 1) := by decide +kernel
theorem dX4_gatherFalseRows_25 : decode cX4_gatherFalseRows 25 = .ok (.getfield 21, 3) := by decide +kernel
theorem dX4_gatherFalseRows_28 : decode cX4_gatherFalseRows 28 = .ok (.iload_n 3, 1) := by decide +kernel
theorem dX4_gatherFalseRows_29 : decode cX4_gatherFalseRows 29 = .ok (.iaload, 1) := by decide +kernel
theorem dX4_gatherFalseRows_30 : decode cX4_gatherFalseRows 30 = .ok (.aload_n 0, 1) := by decide +kernel
theorem dX4_gatherFalseRows_31 : decode cX4_gatherFalseRows 31 = .ok (.getfield 15, 3) := by decide +kernel
theorem dX4_gatherFalseRows_34 : decode cX4_gatherFalseRows 34 = .ok (.invokestatic 38, 3) := by decide +kernel
theorem dX4_gatherFalseRows_37 : decode cX4_gatherFalseRows 37 = .ok (.istore_n 2, 1) := by decide +kernel
theorem dX4_gatherFalseRows_38 : decode cX4_gatherFalseRows 38 = .ok (.aload_n 1, 1) := by decide +kernel
theorem dX4_gatherFalseRows_39 : decode cX4_gatherFalseRows 39 = .ok (.iload_n 3, 1) := by decide +kernel
theorem dX4_gatherFalseRows_40 : decode cX4_gatherFalseRows 40 = .ok (.iload_n 2, 1) := by decide +kernel
theorem dX4_gatherFalseRows_41 : decode cX4_gatherFalseRows 41 = .ok (.iastore, 1) := by decide +kernel
theorem dX4_gatherFalseRows_42 : decode cX4_gatherFalseRows 42 = .ok (.iinc 3 1, 3) := by decide +kernel
theorem dX4_gatherFalseRows_45 : decode cX4_gatherFalseRows 45 = .ok (.goto (-30), 3) := by decide +kernel
theorem dX4_gatherFalseRows_48 : decode cX4_gatherFalseRows 48 = .ok (.iconst 0, 1) := by decide +kernel
theorem dX4_gatherFalseRows_49 : decode cX4_gatherFalseRows 49 = .ok (.istore_n 3, 1) := by decide +kernel
theorem dX4_gatherFalseRows_50 : decode cX4_gatherFalseRows 50 = .ok (.iload_n 3, 1) := by decide +kernel
theorem dX4_gatherFalseRows_51 : decode cX4_gatherFalseRows 51 = .ok (.aload_n 0, 1) := by decide +kernel
theorem dX4_gatherFalseRows_52 : decode cX4_gatherFalseRows 52 = .ok (.getfield 18, 3) := by decide +kernel
theorem dX4_gatherFalseRows_55 : decode cX4_gatherFalseRows 55 = .ok (.if_icmp .ge 56, 3) := by decide +kernel
theorem dX4_gatherFalseRows_58 : decode cX4_gatherFalseRows 58 = .ok (.iconst 0, 1) := by decide +kernel
theorem dX4_gatherFalseRows_59 : decode cX4_gatherFalseRows 59 = .ok (.istore 4, 2) := by decide +kernel
theorem dX4_gatherFalseRows_61 : decode cX4_gatherFalseRows 61 = .ok (.iload 4, 2) := by decide +kernel
theorem dX4_gatherFalseRows_63 : decode cX4_gatherFalseRows 63 = .ok (.aload_n 0, 1) := by decide +kernel
theorem dX4_gatherFalseRows_64 : decode cX4_gatherFalseRows 64 = .ok (.getfield 18, 3) := by decide +kernel
theorem dX4_gatherFalseRows_67 : decode cX4_gatherFalseRows 67 = .ok (.if_icmp .ge 38, 3) := by decide +kernel
theorem dX4_gatherFalseRows_70 : decode cX4_gatherFalseRows 70 = .ok (.aload_n 1, 1) := by decide +kernel
theorem dX4_gatherFalseRows_71 : decode cX4_gatherFalseRows 71 = .ok (.iload_n 3, 1) := by decide +kernel
theorem dX4_gatherFalseRows_72 : decode cX4_gatherFalseRows 72 = .ok (.iaload, 1) := by decide +kernel
theorem dX4_gatherFalseRows_73 : decode cX4_gatherFalseRows 73 = .ok (.aload_n 1, 1) := by decide +kernel
theorem dX4_gatherFalseRows_74 : decode cX4_gatherFalseRows 74 = .ok (.iload 4, 2) := by decide +kernel
theorem dX4_gatherFalseRows_76 : decode cX4_gatherFalseRows 76 = .ok (.iaload, 1) := by decide +kernel
theorem dX4_gatherFalseRows_77 : decode cX4_gatherFalseRows 77 = .ok (.aload_n 0, 1) := by decide +kernel
theorem dX4_gatherFalseRows_78 : decode cX4_gatherFalseRows 78 = .ok (.getfield 15, 3) := by decide +kernel
theorem dX4_gatherFalseRows_81 : decode cX4_gatherFalseRows 81 = .ok (.invokestatic 58, 3) := by decide +kernel
theorem dX4_gatherFalseRows_84 : decode cX4_gatherFalseRows 84 = .ok (.istore 5, 2) := by decide +kernel
theorem dX4_gatherFalseRows_86 : decode cX4_gatherFalseRows 86 = .ok (.aload_n 0, 1) := by decide +kernel
theorem dX4_gatherFalseRows_87 : decode cX4_gatherFalseRows 87 = .ok (.iload 5, 2) := by decide +kernel
theorem dX4_gatherFalseRows_89 : decode cX4_gatherFalseRows 89 = .ok (.aload_n 0, 1) := by decide +kernel
theorem dX4_gatherFalseRows_90 : decode cX4_gatherFalseRows 90 = .ok (.getfield 15, 3) := by decide +kernel
theorem dX4_gatherFalseRows_93 : decode cX4_gatherFalseRows 93 = .ok (.invokestatic 61, 3) := by decide +kernel
theorem dX4_gatherFalseRows_96 : decode cX4_gatherFalseRows 96 = .ok (.invokevirtual 63, 3) := by decide +kernel
theorem dX4_gatherFalseRows_99 : decode cX4_gatherFalseRows 99 = .ok (.iinc 4 1, 3) := by decide +kernel
theorem dX4_gatherFalseRows_102 : decode cX4_gatherFalseRows 102 = .ok (.goto (-41), 3) := by decide +kernel
theorem dX4_gatherFalseRows_105 : decode cX4_gatherFalseRows 105 = .ok (.iinc 3 1, 3) := by decide +kernel
theorem dX4_gatherFalseRows_108 : decode cX4_gatherFalseRows 108 = .ok (.goto (-58), 3) := by decide +kernel
theorem dX4_gatherFalseRows_111 : decode cX4_gatherFalseRows 111 = .ok (.return_, 1) := by decide +kernel
theorem dX4_noteFalse_0 : decode cX4_noteFalse 0 = .ok (.iload_n 1, 1) := by decide +kernel
theorem dX4_noteFalse_1 : decode cX4_noteFalse 1 = .ok (.ifCond .eq 41, 3) := by decide +kernel
theorem dX4_noteFalse_4 : decode cX4_noteFalse 4 = .ok (.aload_n 0, 1) := by decide +kernel
theorem dX4_noteFalse_5 : decode cX4_noteFalse 5 = .ok (.iload_n 1, 1) := by decide +kernel
theorem dX4_noteFalse_6 : decode cX4_noteFalse 6 = .ok (.invokevirtual 67, 3) := by decide +kernel
theorem dX4_noteFalse_9 : decode cX4_noteFalse 9 = .ok (.ifCond .ne 33, 3) := by decide +kernel
theorem dX4_noteFalse_12 : decode cX4_noteFalse 12 = .ok (.aload_n 0, 1) := by decide +kernel
theorem dX4_noteFalse_13 : decode cX4_noteFalse 13 = .ok (.getfield 55, 3) := by decide +kernel
theorem dX4_noteFalse_16 : decode cX4_noteFalse 16 = .ok (.sipush 132, 3) := by decide +kernel
theorem dX4_noteFalse_19 : decode cX4_noteFalse 19 = .ok (.if_icmp .ge 23, 3) := by decide +kernel
theorem dX4_noteFalse_22 : decode cX4_noteFalse 22 = .ok (.aload_n 0, 1) := by decide +kernel
theorem dX4_noteFalse_23 : decode cX4_noteFalse 23 = .ok (.getfield 28, 3) := by decide +kernel
theorem dX4_noteFalse_26 : decode cX4_noteFalse 26 = .ok (.aload_n 0, 1) := by decide +kernel
theorem dX4_noteFalse_27 : decode cX4_noteFalse 27 = .ok (.getfield 55, 3) := by decide +kernel
theorem dX4_noteFalse_30 : decode cX4_noteFalse 30 = .ok (.iload_n 1, 1) := by decide +kernel
theorem dX4_noteFalse_31 : decode cX4_noteFalse 31 = .ok (.iastore, 1) := by decide +kernel
theorem dX4_noteFalse_32 : decode cX4_noteFalse 32 = .ok (.aload_n 0, 1) := by decide +kernel
theorem dX4_noteFalse_33 : decode cX4_noteFalse 33 = .ok (.dup, 1) := by decide +kernel
theorem dX4_noteFalse_34 : decode cX4_noteFalse 34 = .ok (.getfield 55, 3) := by decide +kernel
theorem dX4_noteFalse_37 : decode cX4_noteFalse 37 = .ok (.iconst 1, 1) := by decide +kernel
theorem dX4_noteFalse_38 : decode cX4_noteFalse 38 = .ok (.iadd, 1) := by decide +kernel
theorem dX4_noteFalse_39 : decode cX4_noteFalse 39 = .ok (.putfield 55, 3) := by decide +kernel
theorem dX4_noteFalse_42 : decode cX4_noteFalse 42 = .ok (.return_, 1) := by decide +kernel
theorem dX5_init_0 : decode cX5_init 0 = .ok (.aload_n 0, 1) := by decide +kernel
theorem dX5_init_1 : decode cX5_init 1 = .ok (.invokespecial 3, 3) := by decide +kernel
theorem dX5_init_4 : decode cX5_init 4 = .ok (.aload_n 0, 1) := by decide +kernel
theorem dX5_init_5 : decode cX5_init 5 = .ok (.sipush 720, 3) := by decide +kernel
theorem dX5_init_8 : decode cX5_init 8 = .ok (.newarray .int, 2) := by decide +kernel
theorem dX5_init_10 : decode cX5_init 10 = .ok (.putfield 9, 3) := by decide +kernel
theorem dX5_init_13 : decode cX5_init 13 = .ok (.return_, 1) := by decide +kernel
theorem dX5_isRepeat_0 : decode cX5_isRepeat 0 = .ok (.aload_n 1, 1) := by decide +kernel
theorem dX5_isRepeat_1 : decode cX5_isRepeat 1 = .ok (.iload_n 2, 1) := by decide +kernel
theorem dX5_isRepeat_2 : decode cX5_isRepeat 2 = .ok (.iaload, 1) := by decide +kernel
theorem dX5_isRepeat_3 : decode cX5_isRepeat 3 = .ok (.iload_n 3, 1) := by decide +kernel
theorem dX5_isRepeat_4 : decode cX5_isRepeat 4 = .ok (.invokestatic 15, 3) := by decide +kernel
theorem dX5_isRepeat_7 : decode cX5_isRepeat 7 = .ok (.istore 4, 2) := by decide +kernel
theorem dX5_isRepeat_9 : decode cX5_isRepeat 9 = .ok (.aload_n 0, 1) := by decide +kernel
theorem dX5_isRepeat_10 : decode cX5_isRepeat 10 = .ok (.getfield 9, 3) := by decide +kernel
theorem dX5_isRepeat_13 : decode cX5_isRepeat 13 = .ok (.iload 4, 2) := by decide +kernel
theorem dX5_isRepeat_15 : decode cX5_isRepeat 15 = .ok (.iaload, 1) := by decide +kernel
theorem dX5_isRepeat_16 : decode cX5_isRepeat 16 = .ok (.istore 5, 2) := by decide +kernel
theorem dX5_isRepeat_18 : decode cX5_isRepeat 18 = .ok (.iload 5, 2) := by decide +kernel
theorem dX5_isRepeat_20 : decode cX5_isRepeat 20 = .ok (.iload_n 2, 1) := by decide +kernel
theorem dX5_isRepeat_21 : decode cX5_isRepeat 21 = .ok (.if_icmp .ge 15, 3) := by decide +kernel
theorem dX5_isRepeat_24 : decode cX5_isRepeat 24 = .ok (.aload_n 1, 1) := by decide +kernel
theorem dX5_isRepeat_25 : decode cX5_isRepeat 25 = .ok (.iload 5, 2) := by decide +kernel
theorem dX5_isRepeat_27 : decode cX5_isRepeat 27 = .ok (.iaload, 1) := by decide +kernel
theorem dX5_isRepeat_28 : decode cX5_isRepeat 28 = .ok (.aload_n 1, 1) := by decide +kernel
theorem dX5_isRepeat_29 : decode cX5_isRepeat 29 = .ok (.iload_n 2, 1) := by decide +kernel
theorem dX5_isRepeat_30 : decode cX5_isRepeat 30 = .ok (.iaload, 1) := by decide +kernel
theorem dX5_isRepeat_31 : decode cX5_isRepeat 31 = .ok (.if_icmp .ne 5, 3) := by decide +kernel
theorem dX5_isRepeat_34 : decode cX5_isRepeat 34 = .ok (.iconst 1, 1) := by decide +kernel
theorem dX5_isRepeat_35 : decode cX5_isRepeat 35 = .ok (.ireturn, 1) := by decide +kernel
theorem dX5_isRepeat_36 : decode cX5_isRepeat 36 = .ok (.aload_n 0, 1) := by decide +kernel
theorem dX5_isRepeat_37 : decode cX5_isRepeat 37 = .ok (.getfield 9, 3) := by decide +kernel
theorem dX5_isRepeat_40 : decode cX5_isRepeat 40 = .ok (.iload 4, 2) := by decide +kernel
theorem dX5_isRepeat_42 : decode cX5_isRepeat 42 = .ok (.iload_n 2, 1) := by decide +kernel
theorem dX5_isRepeat_43 : decode cX5_isRepeat 43 = .ok (.iastore, 1) := by decide +kernel
theorem dX5_isRepeat_44 : decode cX5_isRepeat 44 = .ok (.iconst 0, 1) := by decide +kernel
theorem dX5_isRepeat_45 : decode cX5_isRepeat 45 = .ok (.ireturn, 1) := by decide +kernel
theorem dX6_init_0 : decode cX6_init 0 = .ok (.aload_n 0, 1) := by decide +kernel
theorem dX6_init_1 : decode cX6_init 1 = .ok (.invokespecial 3, 3) := by decide +kernel
theorem dX6_init_4 : decode cX6_init 4 = .ok (.aload_n 0, 1) := by decide +kernel
theorem dX6_init_5 : decode cX6_init 5 = .ok (.aload_n 1, 1) := by decide +kernel
theorem dX6_init_6 : decode cX6_init 6 = .ok (.putfield 9, 3) := by decide +kernel
theorem dX6_init_9 : decode cX6_init 9 = .ok (.aload_n 0, 1) := by decide +kernel
theorem dX6_init_10 : decode cX6_init 10 = .ok (.aload_n 2, 1) := by decide +kernel
theorem dX6_init_11 : decode cX6_init 11 = .ok (.putfield 15, 3) := by decide +kernel
theorem dX6_init_14 : decode cX6_init 14 = .ok (.aload_n 0, 1) := by decide +kernel
theorem dX6_init_15 : decode cX6_init 15 = .ok (.iload_n 3, 1) := by decide +kernel
theorem dX6_init_16 : decode cX6_init 16 = .ok (.putfield 19, 3) := by decide +kernel
theorem dX6_init_19 : decode cX6_init 19 = .ok (.aload_n 0, 1) := by decide +kernel
theorem dX6_init_20 : decode cX6_init 20 = .ok (.iload 4, 2) := by decide +kernel
theorem dX6_init_22 : decode cX6_init 22 = .ok (.putfield 23, 3) := by decide +kernel
theorem dX6_init_25 : decode cX6_init 25 = .ok (.return_, 1) := by decide +kernel
theorem dX6_isByPeople_0 : decode cX6_isByPeople 0 = .ok (.aload_n 0, 1) := by decide +kernel
theorem dX6_isByPeople_1 : decode cX6_isByPeople 1 = .ok (.getfield 19, 3) := by decide +kernel
theorem dX6_isByPeople_4 : decode cX6_isByPeople 4 = .ok (.iload_n 1, 1) := by decide +kernel
theorem dX6_isByPeople_5 : decode cX6_isByPeople 5 = .ok (.ishr, 1) := by decide +kernel
theorem dX6_isByPeople_6 : decode cX6_isByPeople 6 = .ok (.iconst 1, 1) := by decide +kernel
theorem dX6_isByPeople_7 : decode cX6_isByPeople 7 = .ok (.iand, 1) := by decide +kernel
theorem dX6_isByPeople_8 : decode cX6_isByPeople 8 = .ok (.iconst 1, 1) := by decide +kernel
theorem dX6_isByPeople_9 : decode cX6_isByPeople 9 = .ok (.if_icmp .ne 7, 3) := by decide +kernel
theorem dX6_isByPeople_12 : decode cX6_isByPeople 12 = .ok (.iconst 1, 1) := by decide +kernel
theorem dX6_isByPeople_13 : decode cX6_isByPeople 13 = .ok (.goto 4, 3) := by decide +kernel
theorem dX6_isByPeople_16 : decode cX6_isByPeople 16 = .ok (.iconst 0, 1) := by decide +kernel
theorem dX6_isByPeople_17 : decode cX6_isByPeople 17 = .ok (.ireturn, 1) := by decide +kernel
theorem dX6_quarterGap_0 : decode cX6_quarterGap 0 = .ok (.aload_n 0, 1) := by decide +kernel
theorem dX6_quarterGap_1 : decode cX6_quarterGap 1 = .ok (.getfield 23, 3) := by decide +kernel
theorem dX6_quarterGap_4 : decode cX6_quarterGap 4 = .ok (.iconst 4, 1) := by decide +kernel
theorem dX6_quarterGap_5 : decode cX6_quarterGap 5 = .ok (.idiv, 1) := by decide +kernel
theorem dX6_quarterGap_6 : decode cX6_quarterGap 6 = .ok (.ireturn, 1) := by decide +kernel
theorem dX6_awaitsPull_0 : decode cX6_awaitsPull 0 = .ok (.aload_n 0, 1) := by decide +kernel
theorem dX6_awaitsPull_1 : decode cX6_awaitsPull 1 = .ok (.iload_n 1, 1) := by decide +kernel
theorem dX6_awaitsPull_2 : decode cX6_awaitsPull 2 = .ok (.invokevirtual 26, 3) := by decide +kernel
theorem dX6_awaitsPull_5 : decode cX6_awaitsPull 5 = .ok (.ifCond .eq 26, 3) := by decide +kernel
theorem dX6_awaitsPull_8 : decode cX6_awaitsPull 8 = .ok (.aload_n 0, 1) := by decide +kernel
theorem dX6_awaitsPull_9 : decode cX6_awaitsPull 9 = .ok (.getfield 15, 3) := by decide +kernel
theorem dX6_awaitsPull_12 : decode cX6_awaitsPull 12 = .ok (.iload_n 1, 1) := by decide +kernel
theorem dX6_awaitsPull_13 : decode cX6_awaitsPull 13 = .ok (.aaload, 1) := by decide +kernel
theorem dX6_awaitsPull_14 : decode cX6_awaitsPull 14 = .ok (.getfield 30, 3) := by decide +kernel
theorem dX6_awaitsPull_17 : decode cX6_awaitsPull 17 = .ok (.aload_n 0, 1) := by decide +kernel
theorem dX6_awaitsPull_18 : decode cX6_awaitsPull 18 = .ok (.getfield 9, 3) := by decide +kernel
theorem dX6_awaitsPull_21 : decode cX6_awaitsPull 21 = .ok (.getfield 35, 3) := by decide +kernel
theorem dX6_awaitsPull_24 : decode cX6_awaitsPull 24 = .ok (.if_icmp .ge 7, 3) := by decide +kernel
theorem dX6_awaitsPull_27 : decode cX6_awaitsPull 27 = .ok (.iconst 1, 1) := by decide +kernel
theorem dX6_awaitsPull_28 : decode cX6_awaitsPull 28 = .ok (.goto 4, 3) := by decide +kernel
theorem dX6_awaitsPull_31 : decode cX6_awaitsPull 31 = .ok (.iconst 0, 1) := by decide +kernel
theorem dX6_awaitsPull_32 : decode cX6_awaitsPull 32 = .ok (.ireturn, 1) := by decide +kernel
theorem dX6_nextDue_0 : decode cX6_nextDue 0 = .ok (.aload_n 0, 1) := by decide +kernel
theorem dX6_nextDue_1 : decode cX6_nextDue 1 = .ok (.getfield 15, 3) := by decide +kernel
theorem dX6_nextDue_4 : decode cX6_nextDue 4 = .ok (.iload_n 1, 1) := by decide +kernel
theorem dX6_nextDue_5 : decode cX6_nextDue 5 = .ok (.aaload, 1) := by decide +kernel
theorem dX6_nextDue_6 : decode cX6_nextDue 6 = .ok (.getfield 30, 3) := by decide +kernel
theorem dX6_nextDue_9 : decode cX6_nextDue 9 = .ok (.istore_n 2, 1) := by decide +kernel
theorem dX6_nextDue_10 : decode cX6_nextDue 10 = .ok (.aload_n 0, 1) := by decide +kernel
theorem dX6_nextDue_11 : decode cX6_nextDue 11 = .ok (.iload_n 2, 1) := by decide +kernel
theorem dX6_nextDue_12 : decode cX6_nextDue 12 = .ok (.aload_n 0, 1) := by decide +kernel
theorem dX6_nextDue_13 : decode cX6_nextDue 13 = .ok (.getfield 9, 3) := by decide +kernel
theorem dX6_nextDue_16 : decode cX6_nextDue 16 = .ok (.getfield 40, 3) := by decide +kernel
theorem dX6_nextDue_19 : decode cX6_nextDue 19 = .ok (.iload_n 2, 1) := by decide +kernel
theorem dX6_nextDue_20 : decode cX6_nextDue 20 = .ok (.iaload, 1) := by decide +kernel
theorem dX6_nextDue_21 : decode cX6_nextDue 21 = .ok (.iload_n 1, 1) := by decide +kernel
theorem dX6_nextDue_22 : decode cX6_nextDue 22 = .ok (.aload_n 0, 1) := by decide +kernel
theorem dX6_nextDue_23 : decode cX6_nextDue 23 = .ok (.getfield 9, 3) := by decide +kernel
theorem dX6_nextDue_26 : decode cX6_nextDue 26 = .ok (.getfield 44, 3) := by decide +kernel
theorem dX6_nextDue_29 : decode cX6_nextDue 29 = .ok (.invokestatic 47, 3) := by decide +kernel
theorem dX6_nextDue_32 : decode cX6_nextDue 32 = .ok (.invokevirtual 53, 3) := by decide +kernel
theorem dX6_nextDue_35 : decode cX6_nextDue 35 = .ok (.ireturn, 1) := by decide +kernel
theorem dX6_dueAt_0 : decode cX6_dueAt 0 = .ok (.aload_n 0, 1) := by decide +kernel
theorem dX6_dueAt_1 : decode cX6_dueAt 1 = .ok (.getfield 23, 3) := by decide +kernel
theorem dX6_dueAt_4 : decode cX6_dueAt 4 = .ok (.aload_n 0, 1) := by decide +kernel
theorem dX6_dueAt_5 : decode cX6_dueAt 5 = .ok (.getfield 9, 3) := by decide +kernel
theorem dX6_dueAt_8 : decode cX6_dueAt 8 = .ok (.getfield 44, 3) := by decide +kernel
theorem dX6_dueAt_11 : decode cX6_dueAt 11 = .ok (.iload_n 1, 1) := by decide +kernel
theorem dX6_dueAt_12 : decode cX6_dueAt 12 = .ok (.imul, 1) := by decide +kernel
theorem dX6_dueAt_13 : decode cX6_dueAt 13 = .ok (.iload_n 2, 1) := by decide +kernel
theorem dX6_dueAt_14 : decode cX6_dueAt 14 = .ok (.iadd, 1) := by decide +kernel
theorem dX6_dueAt_15 : decode cX6_dueAt 15 = .ok (.iload_n 1, 1) := by decide +kernel
theorem dX6_dueAt_16 : decode cX6_dueAt 16 = .ok (.iconst 2, 1) := by decide +kernel
theorem dX6_dueAt_17 : decode cX6_dueAt 17 = .ok (.idiv, 1) := by decide +kernel
theorem dX6_dueAt_18 : decode cX6_dueAt 18 = .ok (.iadd, 1) := by decide +kernel
theorem dX6_dueAt_19 : decode cX6_dueAt 19 = .ok (.imul, 1) := by decide +kernel
theorem dX6_dueAt_20 : decode cX6_dueAt 20 = .ok (.aload_n 0, 1) := by decide +kernel
theorem dX6_dueAt_21 : decode cX6_dueAt 21 = .ok (.getfield 57, 3) := by decide +kernel
theorem dX6_dueAt_24 : decode cX6_dueAt 24 = .ok (.iadd, 1) := by decide +kernel
theorem dX6_dueAt_25 : decode cX6_dueAt 25 = .ok (.ireturn, 1) := by decide +kernel
theorem dX6_canWait_0 : decode cX6_canWait 0 = .ok (.iload_n 1, 1) := by decide +kernel
theorem dX6_canWait_1 : decode cX6_canWait 1 = .ok (.iload_n 2, 1) := by decide +kernel
theorem dX6_canWait_2 : decode cX6_canWait 2 = .ok (.if_icmp .le 21, 3) := by decide +kernel
theorem dX6_canWait_5 : decode cX6_canWait 5 = .ok (.aload_n 0, 1) := by decide +kernel
theorem dX6_canWait_6 : decode cX6_canWait 6 = .ok (.getfield 57, 3) := by decide +kernel
theorem dX6_canWait_9 : decode cX6_canWait 9 = .ok (.i2l, 1) := by decide +kernel
theorem dX6_canWait_10 : decode cX6_canWait 10 = .ok (.iload_n 1, 1) := by decide +kernel
theorem dX6_canWait_11 : decode cX6_canWait 11 = .ok (.i2l, 1) := by decide +kernel
theorem dX6_canWait_12 : decode cX6_canWait 12 = .ok (.ladd, 1) := by decide +kernel
theorem dX6_canWait_13 : decode cX6_canWait 13 = .ok (.iload_n 2, 1) := by decide +kernel
theorem dX6_canWait_14 : decode cX6_canWait 14 = .ok (.i2l, 1) := by decide +kernel
theorem dX6_canWait_15 : decode cX6_canWait 15 = .ok (.lsub, 1) := by decide +kernel
theorem dX6_canWait_16 : decode cX6_canWait 16 = .ok (.ldc2_w 60, 3) := by decide +kernel
theorem dX6_canWait_19 : decode cX6_canWait 19 = .ok (.lcmp, 1) := by decide +kernel
theorem dX6_canWait_20 : decode cX6_canWait 20 = .ok (.ifCond .gt 7, 3) := by decide +kernel
theorem dX6_canWait_23 : decode cX6_canWait 23 = .ok (.iconst 1, 1) := by decide +kernel
theorem dX6_canWait_24 : decode cX6_canWait 24 = .ok (.goto 4, 3) := by decide +kernel
theorem dX6_canWait_27 : decode cX6_canWait 27 = .ok (.iconst 0, 1) := by decide +kernel
theorem dX6_canWait_28 : decode cX6_canWait 28 = .ok (.ireturn, 1) := by decide +kernel
theorem dX6_waitFor_0 : decode cX6_waitFor 0 = .ok (.iload_n 1, 1) := by decide +kernel
theorem dX6_waitFor_1 : decode cX6_waitFor 1 = .ok (.iload_n 2, 1) := by decide +kernel
theorem dX6_waitFor_2 : decode cX6_waitFor 2 = .ok (.if_icmp .le 15, 3) := by decide +kernel
theorem dX6_waitFor_5 : decode cX6_waitFor 5 = .ok (.aload_n 0, 1) := by decide +kernel
theorem dX6_waitFor_6 : decode cX6_waitFor 6 = .ok (.dup, 1) := by decide +kernel
theorem dX6_waitFor_7 : decode cX6_waitFor 7 = .ok (.getfield 57, 3) := by decide +kernel
theorem dX6_waitFor_10 : decode cX6_waitFor 10 = .ok (.iload_n 1, 1) := by decide +kernel
theorem dX6_waitFor_11 : decode cX6_waitFor 11 = .ok (.iload_n 2, 1) := by decide +kernel
theorem dX6_waitFor_12 : decode cX6_waitFor 12 = .ok (.isub, 1) := by decide +kernel
theorem dX6_waitFor_13 : decode cX6_waitFor 13 = .ok (.iadd, 1) := by decide +kernel
theorem dX6_waitFor_14 : decode cX6_waitFor 14 = .ok (.putfield 57, 3) := by decide +kernel
theorem dX6_waitFor_17 : decode cX6_waitFor 17 = .ok (.return_, 1) := by decide +kernel
theorem dX6_areAllRowsDone_0 : decode cX6_areAllRowsDone 0 = .ok (.aload_n 0, 1) := by decide +kernel
theorem dX6_areAllRowsDone_1 : decode cX6_areAllRowsDone 1 = .ok (.getfield 62, 3) := by decide +kernel
theorem dX6_areAllRowsDone_4 : decode cX6_areAllRowsDone 4 = .ok (.aload_n 0, 1) := by decide +kernel
theorem dX6_areAllRowsDone_5 : decode cX6_areAllRowsDone 5 = .ok (.getfield 9, 3) := by decide +kernel
theorem dX6_areAllRowsDone_8 : decode cX6_areAllRowsDone 8 = .ok (.getfield 35, 3) := by decide +kernel
theorem dX6_areAllRowsDone_11 : decode cX6_areAllRowsDone 11 = .ok (.if_icmp .lt 7, 3) := by decide +kernel
theorem dX6_areAllRowsDone_14 : decode cX6_areAllRowsDone 14 = .ok (.iconst 1, 1) := by decide +kernel
theorem dX6_areAllRowsDone_15 : decode cX6_areAllRowsDone 15 = .ok (.goto 4, 3) := by decide +kernel
theorem dX6_areAllRowsDone_18 : decode cX6_areAllRowsDone 18 = .ok (.iconst 0, 1) := by decide +kernel
theorem dX6_areAllRowsDone_19 : decode cX6_areAllRowsDone 19 = .ok (.ireturn, 1) := by decide +kernel
theorem dX6_isNextRowReady_0 : decode cX6_isNextRowReady 0 = .ok (.aload_n 0, 1) := by decide +kernel
theorem dX6_isNextRowReady_1 : decode cX6_isNextRowReady 1 = .ok (.invokevirtual 65, 3) := by decide +kernel
theorem dX6_isNextRowReady_4 : decode cX6_isNextRowReady 4 = .ok (.ifCond .eq 5, 3) := by decide +kernel
theorem dX6_isNextRowReady_7 : decode cX6_isNextRowReady 7 = .ok (.iconst 0, 1) := by decide +kernel
theorem dX6_isNextRowReady_8 : decode cX6_isNextRowReady 8 = .ok (.ireturn, 1) := by decide +kernel
theorem dX6_isNextRowReady_9 : decode cX6_isNextRowReady 9 = .ok (.iconst 0, 1) := by decide +kernel
theorem dX6_isNextRowReady_10 : decode cX6_isNextRowReady 10 = .ok (.istore_n 1, 1) := by decide +kernel
theorem dX6_isNextRowReady_11 : decode cX6_isNextRowReady 11 = .ok (.iload_n 1, 1) := by decide +kernel
theorem dX6_isNextRowReady_12 : decode cX6_isNextRowReady 12 = .ok (.aload_n 0, 1) := by decide +kernel
theorem dX6_isNextRowReady_13 : decode cX6_isNextRowReady 13 = .ok (.getfield 9, 3) := by decide +kernel
theorem dX6_isNextRowReady_16 : decode cX6_isNextRowReady 16 = .ok (.getfield 44, 3) := by decide +kernel
theorem dX6_isNextRowReady_19 : decode cX6_isNextRowReady 19 = .ok (.if_icmp .ge 35, 3) := by decide +kernel
theorem dX6_isNextRowReady_22 : decode cX6_isNextRowReady 22 = .ok (.aload_n 0, 1) := by decide +kernel
theorem dX6_isNextRowReady_23 : decode cX6_isNextRowReady 23 = .ok (.iload_n 1, 1) := by decide +kernel
theorem dX6_isNextRowReady_24 : decode cX6_isNextRowReady 24 = .ok (.invokevirtual 26, 3) := by decide +kernel
theorem dX6_isNextRowReady_27 : decode cX6_isNextRowReady 27 = .ok (.ifCond .eq 21, 3) := by decide +kernel
theorem dX6_isNextRowReady_30 : decode cX6_isNextRowReady 30 = .ok (.aload_n 0, 1) := by decide +kernel
theorem dX6_isNextRowReady_31 : decode cX6_isNextRowReady 31 = .ok (.getfield 15, 3) := by decide +kernel
theorem dX6_isNextRowReady_34 : decode cX6_isNextRowReady 34 = .ok (.iload_n 1, 1) := by decide +kernel
theorem dX6_isNextRowReady_35 : decode cX6_isNextRowReady 35 = .ok (.aaload, 1) := by decide +kernel
theorem dX6_isNextRowReady_36 : decode cX6_isNextRowReady 36 = .ok (.getfield 30, 3) := by decide +kernel
theorem dX6_isNextRowReady_39 : decode cX6_isNextRowReady 39 = .ok (.aload_n 0, 1) := by decide +kernel
theorem dX6_isNextRowReady_40 : decode cX6_isNextRowReady 40 = .ok (.getfield 62, 3) := by decide +kernel
theorem dX6_isNextRowReady_43 : decode cX6_isNextRowReady 43 = .ok (.if_icmp .gt 5, 3) := by decide +kernel
theorem dX6_isNextRowReady_46 : decode cX6_isNextRowReady 46 = .ok (.iconst 0, 1) := by decide +kernel
theorem dX6_isNextRowReady_47 : decode cX6_isNextRowReady 47 = .ok (.ireturn, 1) := by decide +kernel
theorem dX6_isNextRowReady_48 : decode cX6_isNextRowReady 48 = .ok (.iinc 1 1, 3) := by decide +kernel
theorem dX6_isNextRowReady_51 : decode cX6_isNextRowReady 51 = .ok (.goto (-40), 3) := by decide +kernel
theorem dX6_isNextRowReady_54 : decode cX6_isNextRowReady 54 = .ok (.iconst 1, 1) := by decide +kernel
theorem dX6_isNextRowReady_55 : decode cX6_isNextRowReady 55 = .ok (.ireturn, 1) := by decide +kernel
theorem dX6_doNextRow_0 : decode cX6_doNextRow 0 = .ok (.iconst 0, 1) := by decide +kernel
theorem dX6_doNextRow_1 : decode cX6_doNextRow 1 = .ok (.istore_n 1, 1) := by decide +kernel
theorem dX6_doNextRow_2 : decode cX6_doNextRow 2 = .ok (.iconst (-1), 1) := by decide +kernel
theorem dX6_doNextRow_3 : decode cX6_doNextRow 3 = .ok (.istore_n 2, 1) := by decide +kernel
theorem dX6_doNextRow_4 : decode cX6_doNextRow 4 = .ok (.iconst 0, 1) := by decide +kernel
theorem dX6_doNextRow_5 : decode cX6_doNextRow 5 = .ok (.istore_n 3, 1) := by decide +kernel
theorem dX6_doNextRow_6 : decode cX6_doNextRow 6 = .ok (.iload_n 3, 1) := by decide +kernel
theorem dX6_doNextRow_7 : decode cX6_doNextRow 7 = .ok (.aload_n 0, 1) := by decide +kernel
theorem dX6_doNextRow_8 : decode cX6_doNextRow 8 = .ok (.getfield 9, 3) := by decide +kernel
theorem dX6_doNextRow_11 : decode cX6_doNextRow 11 = .ok (.getfield 44, 3) := by decide +kernel
theorem dX6_doNextRow_14 : decode cX6_doNextRow 14 = .ok (.if_icmp .ge 33, 3) := by decide +kernel
theorem dX6_doNextRow_17 : decode cX6_doNextRow 17 = .ok (.aload_n 0, 1) := by decide +kernel
theorem dX6_doNextRow_18 : decode cX6_doNextRow 18 = .ok (.iload_n 3, 1) := by decide +kernel
theorem dX6_doNextRow_19 : decode cX6_doNextRow 19 = .ok (.invokevirtual 69, 3) := by decide +kernel
theorem dX6_doNextRow_22 : decode cX6_doNextRow 22 = .ok (.istore 4, 2) := by decide +kernel
theorem dX6_doNextRow_24 : decode cX6_doNextRow 24 = .ok (.iload_n 1, 1) := by decide +kernel
theorem dX6_doNextRow_25 : decode cX6_doNextRow 25 = .ok (.iload 4, 2) := by decide +kernel
theorem dX6_doNextRow_27 : decode cX6_doNextRow 27 = .ok (.iload_n 2, 1) := by decide +kernel
theorem dX6_doNextRow_28 : decode cX6_doNextRow 28 = .ok (.if_icmp .gt 7, 3) := by decide +kernel
theorem dX6_doNextRow_31 : decode cX6_doNextRow 31 = .ok (.iconst 1, 1) := by decide +kernel
theorem dX6_doNextRow_32 : decode cX6_doNextRow 32 = .ok (.goto 4, 3) := by decide +kernel
theorem dX6_doNextRow_35 : decode cX6_doNextRow 35 = .ok (.iconst 0, 1) := by decide +kernel
theorem dX6_doNextRow_36 : decode cX6_doNextRow 36 = .ok (.ior, 1) := by decide +kernel
theorem dX6_doNextRow_37 : decode cX6_doNextRow 37 = .ok (.istore_n 1, 1) := by decide +kernel
theorem dX6_doNextRow_38 : decode cX6_doNextRow 38 = .ok (.iload 4, 2) := by decide +kernel
theorem dX6_doNextRow_40 : decode cX6_doNextRow 40 = .ok (.istore_n 2, 1) := by decide +kernel
theorem dX6_doNextRow_41 : decode cX6_doNextRow 41 = .ok (.iinc 3 1, 3) := by decide +kernel
theorem dX6_doNextRow_44 : decode cX6_doNextRow 44 = .ok (.goto (-38), 3) := by decide +kernel
theorem dX6_doNextRow_47 : decode cX6_doNextRow 47 = .ok (.aload_n 0, 1) := by decide +kernel
theorem dX6_doNextRow_48 : decode cX6_doNextRow 48 = .ok (.dup, 1) := by decide +kernel
theorem dX6_doNextRow_49 : decode cX6_doNextRow 49 = .ok (.getfield 62, 3) := by decide +kernel
theorem dX6_doNextRow_52 : decode cX6_doNextRow 52 = .ok (.iconst 1, 1) := by decide +kernel
theorem dX6_doNextRow_53 : decode cX6_doNextRow 53 = .ok (.iadd, 1) := by decide +kernel
theorem dX6_doNextRow_54 : decode cX6_doNextRow 54 = .ok (.putfield 62, 3) := by decide +kernel
theorem dX6_doNextRow_57 : decode cX6_doNextRow 57 = .ok (.iload_n 1, 1) := by decide +kernel
theorem dX6_doNextRow_58 : decode cX6_doNextRow 58 = .ok (.ireturn, 1) := by decide +kernel
theorem dX6_timeOfBlow_0 : decode cX6_timeOfBlow 0 = .ok (.aload_n 0, 1) := by decide +kernel
theorem dX6_timeOfBlow_1 : decode cX6_timeOfBlow 1 = .ok (.getfield 9, 3) := by decide +kernel
theorem dX6_timeOfBlow_4 : decode cX6_timeOfBlow 4 = .ok (.getfield 40, 3) := by decide +kernel
theorem dX6_timeOfBlow_7 : decode cX6_timeOfBlow 7 = .ok (.aload_n 0, 1) := by decide +kernel
theorem dX6_timeOfBlow_8 : decode cX6_timeOfBlow 8 = .ok (.getfield 62, 3) := by decide +kernel
theorem dX6_timeOfBlow_11 : decode cX6_timeOfBlow 11 = .ok (.iaload, 1) := by decide +kernel
theorem dX6_timeOfBlow_12 : decode cX6_timeOfBlow 12 = .ok (.iload_n 1, 1) := by decide +kernel
theorem dX6_timeOfBlow_13 : decode cX6_timeOfBlow 13 = .ok (.invokestatic 73, 3) := by decide +kernel
theorem dX6_timeOfBlow_16 : decode cX6_timeOfBlow 16 = .ok (.istore_n 2, 1) := by decide +kernel
theorem dX6_timeOfBlow_17 : decode cX6_timeOfBlow 17 = .ok (.aload_n 0, 1) := by decide +kernel
theorem dX6_timeOfBlow_18 : decode cX6_timeOfBlow 18 = .ok (.iload_n 2, 1) := by decide +kernel
theorem dX6_timeOfBlow_19 : decode cX6_timeOfBlow 19 = .ok (.invokevirtual 26, 3) := by decide +kernel
theorem dX6_timeOfBlow_22 : decode cX6_timeOfBlow 22 = .ok (.ifCond .eq 17, 3) := by decide +kernel
theorem dX6_timeOfBlow_25 : decode cX6_timeOfBlow 25 = .ok (.aload_n 0, 1) := by decide +kernel
theorem dX6_timeOfBlow_26 : decode cX6_timeOfBlow 26 = .ok (.getfield 15, 3) := by decide +kernel
theorem dX6_timeOfBlow_29 : decode cX6_timeOfBlow 29 = .ok (.iload_n 2, 1) := by decide +kernel
theorem dX6_timeOfBlow_30 : decode cX6_timeOfBlow 30 = .ok (.aaload, 1) := by decide +kernel
theorem dX6_timeOfBlow_31 : decode cX6_timeOfBlow 31 = .ok (.aload_n 0, 1) := by decide +kernel
theorem dX6_timeOfBlow_32 : decode cX6_timeOfBlow 32 = .ok (.getfield 62, 3) := by decide +kernel
theorem dX6_timeOfBlow_35 : decode cX6_timeOfBlow 35 = .ok (.invokevirtual 76, 3) := by decide +kernel
theorem dX6_timeOfBlow_38 : decode cX6_timeOfBlow 38 = .ok (.ireturn, 1) := by decide +kernel
theorem dX6_timeOfBlow_39 : decode cX6_timeOfBlow 39 = .ok (.aload_n 0, 1) := by decide +kernel
theorem dX6_timeOfBlow_40 : decode cX6_timeOfBlow 40 = .ok (.getfield 15, 3) := by decide +kernel
theorem dX6_timeOfBlow_43 : decode cX6_timeOfBlow 43 = .ok (.iload_n 2, 1) := by decide +kernel
theorem dX6_timeOfBlow_44 : decode cX6_timeOfBlow 44 = .ok (.aaload, 1) := by decide +kernel
theorem dX6_timeOfBlow_45 : decode cX6_timeOfBlow 45 = .ok (.aload_n 0, 1) := by decide +kernel
theorem dX6_timeOfBlow_46 : decode cX6_timeOfBlow 46 = .ok (.getfield 62, 3) := by decide +kernel
theorem dX6_timeOfBlow_49 : decode cX6_timeOfBlow 49 = .ok (.invokevirtual 79, 3) := by decide +kernel
theorem dX6_timeOfBlow_52 : decode cX6_timeOfBlow 52 = .ok (.aload_n 0, 1) := by decide +kernel
theorem dX6_timeOfBlow_53 : decode cX6_timeOfBlow 53 = .ok (.aload_n 0, 1) := by decide +kernel
theorem dX6_timeOfBlow_54 : decode cX6_timeOfBlow 54 = .ok (.getfield 62, 3) := by decide +kernel
theorem dX6_timeOfBlow_57 : decode cX6_timeOfBlow 57 = .ok (.iload_n 1, 1) := by decide +kernel
theorem dX6_timeOfBlow_58 : decode cX6_timeOfBlow 58 = .ok (.invokevirtual 53, 3) := by decide +kernel
theorem dX6_timeOfBlow_61 : decode cX6_timeOfBlow 61 = .ok (.ireturn, 1) := by decide +kernel
theorem dX7_init_0 : decode cX7_init 0 = .ok (.aload_n 0, 1) := by decide +kernel
theorem dX7_init_1 : decode cX7_init 1 = .ok (.invokespecial 3, 3) := by decide +kernel
theorem dX7_init_4 : decode cX7_init 4 = .ok (.aload_n 0, 1) := by decide +kernel
theorem dX7_init_5 : decode cX7_init 5 = .ok (.iconst 4, 1) := by decide +kernel
theorem dX7_init_6 : decode cX7_init 6 = .ok (.newarray .int, 2) := by decide +kernel
theorem dX7_init_8 : decode cX7_init 8 = .ok (.putfield 9, 3) := by decide +kernel
theorem dX7_init_11 : decode cX7_init 11 = .ok (.iconst 0, 1) := by decide +kernel
theorem dX7_init_12 : decode cX7_init 12 = .ok (.istore_n 1, 1) := by decide +kernel
theorem dX7_init_13 : decode cX7_init 13 = .ok (.iload_n 1, 1) := by decide +kernel
theorem dX7_init_14 : decode cX7_init 14 = .ok (.iconst 4, 1) := by decide +kernel
theorem dX7_init_15 : decode cX7_init 15 = .ok (.if_icmp .ge 17, 3) := by decide +kernel
theorem dX7_init_18 : decode cX7_init 18 = .ok (.aload_n 0, 1) := by decide +kernel
theorem dX7_init_19 : decode cX7_init 19 = .ok (.getfield 9, 3) := by decide +kernel
theorem dX7_init_22 : decode cX7_init 22 = .ok (.iload_n 1, 1) := by decide +kernel
theorem dX7_init_23 : decode cX7_init 23 = .ok (.bipush 6, 2) := by decide +kernel
theorem dX7_init_25 : decode cX7_init 25 = .ok (.iastore, 1) := by decide +kernel
theorem dX7_init_26 : decode cX7_init 26 = .ok (.iinc 1 1, 3) := by decide +kernel
theorem dX7_init_29 : decode cX7_init 29 = .ok (.goto (-16), 3) := by decide +kernel
theorem dX7_init_32 : decode cX7_init 32 = .ok (.aload_n 0, 1) := by decide +kernel
theorem dX7_init_33 : decode cX7_init 33 = .ok (.bipush 61, 2) := by decide +kernel
theorem dX7_init_35 : decode cX7_init 35 = .ok (.anewarray 15, 3) := by decide +kernel
theorem dX7_init_38 : decode cX7_init 38 = .ok (.putfield 17, 3) := by decide +kernel
theorem dX7_init_41 : decode cX7_init 41 = .ok (.iconst 0, 1) := by decide +kernel
theorem dX7_init_42 : decode cX7_init 42 = .ok (.istore_n 1, 1) := by decide +kernel
theorem dX7_init_43 : decode cX7_init 43 = .ok (.iload_n 1, 1) := by decide +kernel
theorem dX7_init_44 : decode cX7_init 44 = .ok (.bipush 60, 2) := by decide +kernel
theorem dX7_init_46 : decode cX7_init 46 = .ok (.if_icmp .gt 22, 3) := by decide +kernel
theorem dX7_init_49 : decode cX7_init 49 = .ok (.aload_n 0, 1) := by decide +kernel
theorem dX7_init_50 : decode cX7_init 50 = .ok (.getfield 17, 3) := by decide +kernel
theorem dX7_init_53 : decode cX7_init 53 = .ok (.iload_n 1, 1) := by decide +kernel
theorem dX7_init_54 : decode cX7_init 54 = .ok (.new 15, 3) := by decide +kernel
theorem dX7_init_57 : decode cX7_init 57 = .ok (.dup, 1) := by decide +kernel
theorem dX7_init_58 : decode cX7_init 58 = .ok (.invokespecial 21, 3) := by decide +kernel
theorem dX7_init_61 : decode cX7_init 61 = .ok (.aastore, 1) := by decide +kernel
theorem dX7_init_62 : decode cX7_init 62 = .ok (.iinc 1 1, 3) := by decide +kernel
theorem dX7_init_65 : decode cX7_init 65 = .ok (.goto (-22), 3) := by decide +kernel
theorem dX7_init_68 : decode cX7_init 68 = .ok (.aload_n 0, 1) := by decide +kernel
theorem dX7_init_69 : decode cX7_init 69 = .ok (.iconst (-1), 1) := by decide +kernel
theorem dX7_init_70 : decode cX7_init 70 = .ok (.putfield 22, 3) := by decide +kernel
theorem dX7_init_73 : decode cX7_init 73 = .ok (.return_, 1) := by decide +kernel
theorem dX7_bandFor_0 : decode cX7_bandFor 0 = .ok (.iconst (-1), 1) := by decide +kernel
theorem dX7_bandFor_1 : decode cX7_bandFor 1 = .ok (.istore_n 2, 1) := by decide +kernel
theorem dX7_bandFor_2 : decode cX7_bandFor 2 = .ok (.aload_n 0, 1) := by decide +kernel
theorem dX7_bandFor_3 : decode cX7_bandFor 3 = .ok (.getfield 26, 3) := by decide +kernel
theorem dX7_bandFor_6 : decode cX7_bandFor 6 = .ok (.istore_n 3, 1) := by decide +kernel
theorem dX7_bandFor_7 : decode cX7_bandFor 7 = .ok (.aload_n 0, 1) := by decide +kernel
theorem dX7_bandFor_8 : decode cX7_bandFor 8 = .ok (.getfield 29, 3) := by decide +kernel
theorem dX7_bandFor_11 : decode cX7_bandFor 11 = .ok (.istore 4, 2) := by decide +kernel
theorem dX7_bandFor_13 : decode cX7_bandFor 13 = .ok (.iload 4, 2) := by decide +kernel
theorem dX7_bandFor_15 : decode cX7_bandFor 15 = .ok (.iload_n 1, 1) := by decide +kernel
theorem dX7_bandFor_16 : decode cX7_bandFor 16 = .ok (.if_icmp .gt 74, 3) := by decide +kernel
theorem dX7_bandFor_19 : decode cX7_bandFor 19 = .ok (.iload 4, 2) := by decide +kernel
theorem dX7_bandFor_21 : decode cX7_bandFor 21 = .ok (.bipush 60, 2) := by decide +kernel
theorem dX7_bandFor_23 : decode cX7_bandFor 23 = .ok (.if_icmp .gt 67, 3) := by decide +kernel
theorem dX7_bandFor_26 : decode cX7_bandFor 26 = .ok (.iload 4, 2) := by decide +kernel
theorem dX7_bandFor_28 : decode cX7_bandFor 28 = .ok (.aload_n 0, 1) := by decide +kernel
theorem dX7_bandFor_29 : decode cX7_bandFor 29 = .ok (.getfield 29, 3) := by decide +kernel
theorem dX7_bandFor_32 : decode cX7_bandFor 32 = .ok (.if_icmp .ne 15, 3) := by decide +kernel
theorem dX7_bandFor_35 : decode cX7_bandFor 35 = .ok (.aload_n 0, 1) := by decide +kernel
theorem dX7_bandFor_36 : decode cX7_bandFor 36 = .ok (.getfield 22, 3) := by decide +kernel
theorem dX7_bandFor_39 : decode cX7_bandFor 39 = .ok (.iconst (-1), 1) := by decide +kernel
theorem dX7_bandFor_40 : decode cX7_bandFor 40 = .ok (.if_icmp .eq 7, 3) := by decide +kernel
theorem dX7_bandFor_43 : decode cX7_bandFor 43 = .ok (.iconst 1, 1) := by decide +kernel
theorem dX7_bandFor_44 : decode cX7_bandFor 44 = .ok (.goto 4, 3) := by decide +kernel
theorem dX7_bandFor_47 : decode cX7_bandFor 47 = .ok (.iconst 0, 1) := by decide +kernel
theorem dX7_bandFor_48 : decode cX7_bandFor 48 = .ok (.istore 5, 2) := by decide +kernel
theorem dX7_bandFor_50 : decode cX7_bandFor 50 = .ok (.iload 5, 2) := by decide +kernel
theorem dX7_bandFor_52 : decode cX7_bandFor 52 = .ok (.ifCond .eq 10, 3) := by decide +kernel
theorem dX7_bandFor_55 : decode cX7_bandFor 55 = .ok (.aload_n 0, 1) := by decide +kernel
theorem dX7_bandFor_56 : decode cX7_bandFor 56 = .ok (.getfield 22, 3) := by decide +kernel
theorem dX7_bandFor_59 : decode cX7_bandFor 59 = .ok (.goto 18, 3) := by decide +kernel
theorem dX7_bandFor_62 : decode cX7_bandFor 62 = .ok (.aload_n 0, 1) := by decide +kernel
theorem dX7_bandFor_63 : decode cX7_bandFor 63 = .ok (.iload_n 3, 1) := by decide +kernel
theorem dX7_bandFor_64 : decode cX7_bandFor 64 = .ok (.aload_n 0, 1) := by decide +kernel
theorem dX7_bandFor_65 : decode cX7_bandFor 65 = .ok (.getfield 17, 3) := by decide +kernel
theorem dX7_bandFor_68 : decode cX7_bandFor 68 = .ok (.iload 4, 2) := by decide +kernel
theorem dX7_bandFor_70 : decode cX7_bandFor 70 = .ok (.aaload, 1) := by decide +kernel
theorem dX7_bandFor_71 : decode cX7_bandFor 71 = .ok (.invokevirtual 32, 3) := by decide +kernel
theorem dX7_bandFor_74 : decode cX7_bandFor 74 = .ok (.invokevirtual 36, 3) := by decide +kernel
theorem dX7_bandFor_77 : decode cX7_bandFor 77 = .ok (.istore_n 2, 1) := by decide +kernel
theorem dX7_bandFor_78 : decode cX7_bandFor 78 = .ok (.iload_n 2, 1) := by decide +kernel
theorem dX7_bandFor_79 : decode cX7_bandFor 79 = .ok (.iload_n 3, 1) := by decide +kernel
theorem dX7_bandFor_80 : decode cX7_bandFor 80 = .ok (.invokestatic 40, 3) := by decide +kernel
theorem dX7_bandFor_83 : decode cX7_bandFor 83 = .ok (.istore_n 3, 1) := by decide +kernel
theorem dX7_bandFor_84 : decode cX7_bandFor 84 = .ok (.iinc 4 1, 3) := by decide +kernel
theorem dX7_bandFor_87 : decode cX7_bandFor 87 = .ok (.goto (-74), 3) := by decide +kernel
theorem dX7_bandFor_90 : decode cX7_bandFor 90 = .ok (.iload_n 2, 1) := by decide +kernel
theorem dX7_bandFor_91 : decode cX7_bandFor 91 = .ok (.ireturn, 1) := by decide +kernel
theorem dX7_firstBand_0 : decode cX7_firstBand 0 = .ok (.iload_n 2, 1) := by decide +kernel
theorem dX7_firstBand_1 : decode cX7_firstBand 1 = .ok (.ifCond .ne 5, 3) := by decide +kernel
theorem dX7_firstBand_4 : decode cX7_firstBand 4 = .ok (.iconst (-1), 1) := by decide +kernel
theorem dX7_firstBand_5 : decode cX7_firstBand 5 = .ok (.ireturn, 1) := by decide +kernel
theorem dX7_firstBand_6 : decode cX7_firstBand 6 = .ok (.iconst 0, 1) := by decide +kernel
theorem dX7_firstBand_7 : decode cX7_firstBand 7 = .ok (.istore_n 3, 1) := by decide +kernel
theorem dX7_firstBand_8 : decode cX7_firstBand 8 = .ok (.iload_n 3, 1) := by decide +kernel
theorem dX7_firstBand_9 : decode cX7_firstBand 9 = .ok (.iconst 4, 1) := by decide +kernel
theorem dX7_firstBand_10 : decode cX7_firstBand 10 = .ok (.if_icmp .ge 30, 3) := by decide +kernel
theorem dX7_firstBand_13 : decode cX7_firstBand 13 = .ok (.iload_n 1, 1) := by decide +kernel
theorem dX7_firstBand_14 : decode cX7_firstBand 14 = .ok (.iload_n 3, 1) := by decide +kernel
theorem dX7_firstBand_15 : decode cX7_firstBand 15 = .ok (.iadd, 1) := by decide +kernel
theorem dX7_firstBand_16 : decode cX7_firstBand 16 = .ok (.iconst 4, 1) := by decide +kernel
theorem dX7_firstBand_17 : decode cX7_firstBand 17 = .ok (.irem, 1) := by decide +kernel
theorem dX7_firstBand_18 : decode cX7_firstBand 18 = .ok (.istore 4, 2) := by decide +kernel
theorem dX7_firstBand_20 : decode cX7_firstBand 20 = .ok (.aload_n 0, 1) := by decide +kernel
theorem dX7_firstBand_21 : decode cX7_firstBand 21 = .ok (.getfield 9, 3) := by decide +kernel
theorem dX7_firstBand_24 : decode cX7_firstBand 24 = .ok (.iload 4, 2) := by decide +kernel
theorem dX7_firstBand_26 : decode cX7_firstBand 26 = .ok (.iaload, 1) := by decide +kernel
theorem dX7_firstBand_27 : decode cX7_firstBand 27 = .ok (.iload_n 2, 1) := by decide +kernel
theorem dX7_firstBand_28 : decode cX7_firstBand 28 = .ok (.if_icmp .lt 6, 3) := by decide +kernel
theorem dX7_firstBand_31 : decode cX7_firstBand 31 = .ok (.iload 4, 2) := by decide +kernel
theorem dX7_firstBand_33 : decode cX7_firstBand 33 = .ok (.ireturn, 1) := by decide +kernel
theorem dX7_firstBand_34 : decode cX7_firstBand 34 = .ok (.iinc 3 1, 3) := by decide +kernel
theorem dX7_firstBand_37 : decode cX7_firstBand 37 = .ok (.goto (-29), 3) := by decide +kernel
theorem dX7_firstBand_40 : decode cX7_firstBand 40 = .ok (.iconst (-1), 1) := by decide +kernel
theorem dX7_firstBand_41 : decode cX7_firstBand 41 = .ok (.ireturn, 1) := by decide +kernel
theorem dX7_turnBehind_0 : decode cX7_turnBehind 0 = .ok (.iload_n 0, 1) := by decide +kernel
theorem dX7_turnBehind_1 : decode cX7_turnBehind 1 = .ok (.iconst (-1), 1) := by decide +kernel
theorem dX7_turnBehind_2 : decode cX7_turnBehind 2 = .ok (.if_icmp .ne 7, 3) := by decide +kernel
theorem dX7_turnBehind_5 : decode cX7_turnBehind 5 = .ok (.iload_n 1, 1) := by decide +kernel
theorem dX7_turnBehind_6 : decode cX7_turnBehind 6 = .ok (.goto 8, 3) := by decide +kernel
theorem dX7_turnBehind_9 : decode cX7_turnBehind 9 = .ok (.iload_n 0, 1) := by decide +kernel
theorem dX7_turnBehind_10 : decode cX7_turnBehind 10 = .ok (.iconst 1, 1) := by decide +kernel
theorem dX7_turnBehind_11 : decode cX7_turnBehind 11 = .ok (.iadd, 1) := by decide +kernel
theorem dX7_turnBehind_12 : decode cX7_turnBehind 12 = .ok (.iconst 4, 1) := by decide +kernel
theorem dX7_turnBehind_13 : decode cX7_turnBehind 13 = .ok (.irem, 1) := by decide +kernel
theorem dX7_turnBehind_14 : decode cX7_turnBehind 14 = .ok (.ireturn, 1) := by decide +kernel
theorem dX7_canRingToday_0 : decode cX7_canRingToday 0 = .ok (.aload_n 0, 1) := by decide +kernel
theorem dX7_canRingToday_1 : decode cX7_canRingToday 1 = .ok (.aload_n 0, 1) := by decide +kernel
theorem dX7_canRingToday_2 : decode cX7_canRingToday 2 = .ok (.getfield 29, 3) := by decide +kernel
theorem dX7_canRingToday_5 : decode cX7_canRingToday 5 = .ok (.invokevirtual 43, 3) := by decide +kernel
theorem dX7_canRingToday_8 : decode cX7_canRingToday 8 = .ok (.istore_n 2, 1) := by decide +kernel
theorem dX7_canRingToday_9 : decode cX7_canRingToday 9 = .ok (.iload_n 2, 1) := by decide +kernel
theorem dX7_canRingToday_10 : decode cX7_canRingToday 10 = .ok (.iconst (-1), 1) := by decide +kernel
theorem dX7_canRingToday_11 : decode cX7_canRingToday 11 = .ok (.if_icmp .eq 36, 3) := by decide +kernel
theorem dX7_canRingToday_14 : decode cX7_canRingToday 14 = .ok (.aload_n 0, 1) := by decide +kernel
theorem dX7_canRingToday_15 : decode cX7_canRingToday 15 = .ok (.getfield 9, 3) := by decide +kernel
theorem dX7_canRingToday_18 : decode cX7_canRingToday 18 = .ok (.iload_n 2, 1) := by decide +kernel
theorem dX7_canRingToday_19 : decode cX7_canRingToday 19 = .ok (.iaload, 1) := by decide +kernel
theorem dX7_canRingToday_20 : decode cX7_canRingToday 20 = .ok (.aload_n 1, 1) := by decide +kernel
theorem dX7_canRingToday_21 : decode cX7_canRingToday 21 = .ok (.getfield 47, 3) := by decide +kernel
theorem dX7_canRingToday_24 : decode cX7_canRingToday 24 = .ok (.if_icmp .lt 23, 3) := by decide +kernel
theorem dX7_canRingToday_27 : decode cX7_canRingToday 27 = .ok (.aload_n 0, 1) := by decide +kernel
theorem dX7_canRingToday_28 : decode cX7_canRingToday 28 = .ok (.getfield 17, 3) := by decide +kernel
theorem dX7_canRingToday_31 : decode cX7_canRingToday 31 = .ok (.aload_n 0, 1) := by decide +kernel
theorem dX7_canRingToday_32 : decode cX7_canRingToday 32 = .ok (.getfield 29, 3) := by decide +kernel
theorem dX7_canRingToday_35 : decode cX7_canRingToday 35 = .ok (.aaload, 1) := by decide +kernel
theorem dX7_canRingToday_36 : decode cX7_canRingToday 36 = .ok (.aload_n 1, 1) := by decide +kernel
theorem dX7_canRingToday_37 : decode cX7_canRingToday 37 = .ok (.invokevirtual 52, 3) := by decide +kernel
theorem dX7_canRingToday_40 : decode cX7_canRingToday 40 = .ok (.ifCond .eq 7, 3) := by decide +kernel
theorem dX7_canRingToday_43 : decode cX7_canRingToday 43 = .ok (.iconst 1, 1) := by decide +kernel
theorem dX7_canRingToday_44 : decode cX7_canRingToday 44 = .ok (.goto 4, 3) := by decide +kernel
theorem dX7_canRingToday_47 : decode cX7_canRingToday 47 = .ok (.iconst 0, 1) := by decide +kernel
theorem dX7_canRingToday_48 : decode cX7_canRingToday 48 = .ok (.ireturn, 1) := by decide +kernel
theorem dX7_keepBandOfToday_0 : decode cX7_keepBandOfToday 0 = .ok (.aload_n 0, 1) := by decide +kernel
theorem dX7_keepBandOfToday_1 : decode cX7_keepBandOfToday 1 = .ok (.aload_n 0, 1) := by decide +kernel
theorem dX7_keepBandOfToday_2 : decode cX7_keepBandOfToday 2 = .ok (.aload_n 0, 1) := by decide +kernel
theorem dX7_keepBandOfToday_3 : decode cX7_keepBandOfToday 3 = .ok (.getfield 29, 3) := by decide +kernel
theorem dX7_keepBandOfToday_6 : decode cX7_keepBandOfToday 6 = .ok (.invokevirtual 43, 3) := by decide +kernel
theorem dX7_keepBandOfToday_9 : decode cX7_keepBandOfToday 9 = .ok (.putfield 22, 3) := by decide +kernel
theorem dX7_keepBandOfToday_12 : decode cX7_keepBandOfToday 12 = .ok (.return_, 1) := by decide +kernel
theorem dX7_endDay_0 : decode cX7_endDay 0 = .ok (.aload_n 0, 1) := by decide +kernel
theorem dX7_endDay_1 : decode cX7_endDay 1 = .ok (.aload_n 0, 1) := by decide +kernel
theorem dX7_endDay_2 : decode cX7_endDay 2 = .ok (.aload_n 0, 1) := by decide +kernel
theorem dX7_endDay_3 : decode cX7_endDay 3 = .ok (.getfield 29, 3) := by decide +kernel
theorem dX7_endDay_6 : decode cX7_endDay 6 = .ok (.invokevirtual 43, 3) := by decide +kernel
theorem dX7_endDay_9 : decode cX7_endDay 9 = .ok (.aload_n 0, 1) := by decide +kernel
theorem dX7_endDay_10 : decode cX7_endDay 10 = .ok (.getfield 26, 3) := by decide +kernel
theorem dX7_endDay_13 : decode cX7_endDay 13 = .ok (.invokestatic 40, 3) := by decide +kernel
theorem dX7_endDay_16 : decode cX7_endDay 16 = .ok (.putfield 26, 3) := by decide +kernel
theorem dX7_endDay_19 : decode cX7_endDay 19 = .ok (.aload_n 0, 1) := by decide +kernel
theorem dX7_endDay_20 : decode cX7_endDay 20 = .ok (.iconst (-1), 1) := by decide +kernel
theorem dX7_endDay_21 : decode cX7_endDay 21 = .ok (.putfield 22, 3) := by decide +kernel
theorem dX7_endDay_24 : decode cX7_endDay 24 = .ok (.aload_n 0, 1) := by decide +kernel
theorem dX7_endDay_25 : decode cX7_endDay 25 = .ok (.getfield 17, 3) := by decide +kernel
theorem dX7_endDay_28 : decode cX7_endDay 28 = .ok (.aload_n 0, 1) := by decide +kernel
theorem dX7_endDay_29 : decode cX7_endDay 29 = .ok (.getfield 29, 3) := by decide +kernel
theorem dX7_endDay_32 : decode cX7_endDay 32 = .ok (.aaload, 1) := by decide +kernel
theorem dX7_endDay_33 : decode cX7_endDay 33 = .ok (.getfield 56, 3) := by decide +kernel
theorem dX7_endDay_36 : decode cX7_endDay 36 = .ok (.invokevirtual 60, 3) := by decide +kernel
theorem dX7_endDay_39 : decode cX7_endDay 39 = .ok (.aload_n 0, 1) := by decide +kernel
theorem dX7_endDay_40 : decode cX7_endDay 40 = .ok (.dup, 1) := by decide +kernel
theorem dX7_endDay_41 : decode cX7_endDay 41 = .ok (.getfield 29, 3) := by decide +kernel
theorem dX7_endDay_44 : decode cX7_endDay 44 = .ok (.iconst 1, 1) := by decide +kernel
theorem dX7_endDay_45 : decode cX7_endDay 45 = .ok (.iadd, 1) := by decide +kernel
theorem dX7_endDay_46 : decode cX7_endDay 46 = .ok (.putfield 29, 3) := by decide +kernel
theorem dX7_endDay_49 : decode cX7_endDay 49 = .ok (.return_, 1) := by decide +kernel
theorem dX7_takeFromToday_0 : decode cX7_takeFromToday 0 = .ok (.aload_n 0, 1) := by decide +kernel
theorem dX7_takeFromToday_1 : decode cX7_takeFromToday 1 = .ok (.getfield 17, 3) := by decide +kernel
theorem dX7_takeFromToday_4 : decode cX7_takeFromToday 4 = .ok (.aload_n 0, 1) := by decide +kernel
theorem dX7_takeFromToday_5 : decode cX7_takeFromToday 5 = .ok (.getfield 29, 3) := by decide +kernel
theorem dX7_takeFromToday_8 : decode cX7_takeFromToday 8 = .ok (.aaload, 1) := by decide +kernel
theorem dX7_takeFromToday_9 : decode cX7_takeFromToday 9 = .ok (.aload_n 1, 1) := by decide +kernel
theorem dX7_takeFromToday_10 : decode cX7_takeFromToday 10 = .ok (.invokevirtual 65, 3) := by decide +kernel
theorem dX7_takeFromToday_13 : decode cX7_takeFromToday 13 = .ok (.return_, 1) := by decide +kernel
theorem dX7_dropUnfit_0 : decode cX7_dropUnfit 0 = .ok (.iconst 0, 1) := by decide +kernel
theorem dX7_dropUnfit_1 : decode cX7_dropUnfit 1 = .ok (.istore_n 2, 1) := by decide +kernel
theorem dX7_dropUnfit_2 : decode cX7_dropUnfit 2 = .ok (.aload_n 0, 1) := by decide +kernel
theorem dX7_dropUnfit_3 : decode cX7_dropUnfit 3 = .ok (.getfield 29, 3) := by decide +kernel
theorem dX7_dropUnfit_6 : decode cX7_dropUnfit 6 = .ok (.istore_n 3, 1) := by decide +kernel
theorem dX7_dropUnfit_7 : decode cX7_dropUnfit 7 = .ok (.iload_n 3, 1) := by decide +kernel
theorem dX7_dropUnfit_8 : decode cX7_dropUnfit 8 = .ok (.bipush 60, 2) := by decide +kernel
theorem dX7_dropUnfit_10 : decode cX7_dropUnfit 10 = .ok (.if_icmp .gt 22, 3) := by decide +kernel
theorem dX7_dropUnfit_13 : decode cX7_dropUnfit 13 = .ok (.iload_n 2, 1) := by decide +kernel
theorem dX7_dropUnfit_14 : decode cX7_dropUnfit 14 = .ok (.aload_n 0, 1) := by decide +kernel
theorem dX7_dropUnfit_15 : decode cX7_dropUnfit 15 = .ok (.getfield 17, 3) := by decide +kernel
theorem dX7_dropUnfit_18 : decode cX7_dropUnfit 18 = .ok (.iload_n 3, 1) := by decide +kernel
theorem dX7_dropUnfit_19 : decode cX7_dropUnfit 19 = .ok (.aaload, 1) := by decide +kernel
theorem dX7_dropUnfit_20 : decode cX7_dropUnfit 20 = .ok (.iload_n 1, 1) := by decide +kernel
theorem dX7_dropUnfit_21 : decode cX7_dropUnfit 21 = .ok (.invokevirtual 69, 3) := by decide +kernel
theorem dX7_dropUnfit_24 : decode cX7_dropUnfit 24 = .ok (.iadd, 1) := by decide +kernel
theorem dX7_dropUnfit_25 : decode cX7_dropUnfit 25 = .ok (.istore_n 2, 1) := by decide +kernel
theorem dX7_dropUnfit_26 : decode cX7_dropUnfit 26 = .ok (.iinc 3 1, 3) := by decide +kernel
theorem dX7_dropUnfit_29 : decode cX7_dropUnfit 29 = .ok (.goto (-22), 3) := by decide +kernel
theorem dX7_dropUnfit_32 : decode cX7_dropUnfit 32 = .ok (.aload_n 0, 1) := by decide +kernel
theorem dX7_dropUnfit_33 : decode cX7_dropUnfit 33 = .ok (.dup, 1) := by decide +kernel
theorem dX7_dropUnfit_34 : decode cX7_dropUnfit 34 = .ok (.getfield 72, 3) := by decide +kernel
theorem dX7_dropUnfit_37 : decode cX7_dropUnfit 37 = .ok (.iload_n 2, 1) := by decide +kernel
theorem dX7_dropUnfit_38 : decode cX7_dropUnfit 38 = .ok (.iadd, 1) := by decide +kernel
theorem dX7_dropUnfit_39 : decode cX7_dropUnfit 39 = .ok (.putfield 72, 3) := by decide +kernel
theorem dX7_dropUnfit_42 : decode cX7_dropUnfit 42 = .ok (.iload_n 2, 1) := by decide +kernel
theorem dX7_dropUnfit_43 : decode cX7_dropUnfit 43 = .ok (.ireturn, 1) := by decide +kernel
theorem dX8_rounds_0 : decode cX8_rounds 0 = .ok (.iconst 0, 1) := by decide +kernel
theorem dX8_rounds_1 : decode cX8_rounds 1 = .ok (.istore_n 1, 1) := by decide +kernel
theorem dX8_rounds_2 : decode cX8_rounds 2 = .ok (.iconst 0, 1) := by decide +kernel
theorem dX8_rounds_3 : decode cX8_rounds 3 = .ok (.istore_n 2, 1) := by decide +kernel
theorem dX8_rounds_4 : decode cX8_rounds 4 = .ok (.iload_n 2, 1) := by decide +kernel
theorem dX8_rounds_5 : decode cX8_rounds 5 = .ok (.iload_n 0, 1) := by decide +kernel
theorem dX8_rounds_6 : decode cX8_rounds 6 = .ok (.if_icmp .ge 17, 3) := by decide +kernel
theorem dX8_rounds_9 : decode cX8_rounds 9 = .ok (.iload_n 1, 1) := by decide +kernel
theorem dX8_rounds_10 : decode cX8_rounds 10 = .ok (.iload_n 2, 1) := by decide +kernel
theorem dX8_rounds_11 : decode cX8_rounds 11 = .ok (.iconst 3, 1) := by decide +kernel
theorem dX8_rounds_12 : decode cX8_rounds 12 = .ok (.iload_n 2, 1) := by decide +kernel
theorem dX8_rounds_13 : decode cX8_rounds 13 = .ok (.imul, 1) := by decide +kernel
theorem dX8_rounds_14 : decode cX8_rounds 14 = .ok (.ishl, 1) := by decide +kernel
theorem dX8_rounds_15 : decode cX8_rounds 15 = .ok (.ior, 1) := by decide +kernel
theorem dX8_rounds_16 : decode cX8_rounds 16 = .ok (.istore_n 1, 1) := by decide +kernel
theorem dX8_rounds_17 : decode cX8_rounds 17 = .ok (.iinc 2 1, 3) := by decide +kernel
theorem dX8_rounds_20 : decode cX8_rounds 20 = .ok (.goto (-16), 3) := by decide +kernel
theorem dX8_rounds_23 : decode cX8_rounds 23 = .ok (.iload_n 1, 1) := by decide +kernel
theorem dX8_rounds_24 : decode cX8_rounds 24 = .ok (.ireturn, 1) := by decide +kernel
theorem dX8_count_0 : decode cX8_count 0 = .ok (.iconst 1, 1) := by decide +kernel
theorem dX8_count_1 : decode cX8_count 1 = .ok (.istore_n 1, 1) := by decide +kernel
theorem dX8_count_2 : decode cX8_count 2 = .ok (.iconst 2, 1) := by decide +kernel
theorem dX8_count_3 : decode cX8_count 3 = .ok (.istore_n 2, 1) := by decide +kernel
theorem dX8_count_4 : decode cX8_count 4 = .ok (.iload_n 2, 1) := by decide +kernel
theorem dX8_count_5 : decode cX8_count 5 = .ok (.iload_n 0, 1) := by decide +kernel
theorem dX8_count_6 : decode cX8_count 6 = .ok (.if_icmp .gt 13, 3) := by decide +kernel
theorem dX8_count_9 : decode cX8_count 9 = .ok (.iload_n 1, 1) := by decide +kernel
theorem dX8_count_10 : decode cX8_count 10 = .ok (.iload_n 2, 1) := by decide +kernel
theorem dX8_count_11 : decode cX8_count 11 = .ok (.imul, 1) := by decide +kernel
theorem dX8_count_12 : decode cX8_count 12 = .ok (.istore_n 1, 1) := by decide +kernel
theorem dX8_count_13 : decode cX8_count 13 = .ok (.iinc 2 1, 3) := by decide +kernel
theorem dX8_count_16 : decode cX8_count 16 = .ok (.goto (-12), 3) := by decide +kernel
theorem dX8_count_19 : decode cX8_count 19 = .ok (.iload_n 1, 1) := by decide +kernel
theorem dX8_count_20 : decode cX8_count 20 = .ok (.ireturn, 1) := by decide +kernel
theorem dX8_bellIn_0 : decode cX8_bellIn 0 = .ok (.iload_n 0, 1) := by decide +kernel
theorem dX8_bellIn_1 : decode cX8_bellIn 1 = .ok (.iconst 3, 1) := by decide +kernel
theorem dX8_bellIn_2 : decode cX8_bellIn 2 = .ok (.iload_n 1, 1) := by decide +kernel
theorem dX8_bellIn_3 : decode cX8_bellIn 3 = .ok (.imul, 1) := by decide +kernel
theorem dX8_bellIn_4 : decode cX8_bellIn 4 = .ok (.ishr, 1) := by decide +kernel
theorem dX8_bellIn_5 : decode cX8_bellIn 5 = .ok (.bipush 7, 2) := by decide +kernel
theorem dX8_bellIn_7 : decode cX8_bellIn 7 = .ok (.iand, 1) := by decide +kernel
theorem dX8_bellIn_8 : decode cX8_bellIn 8 = .ok (.ireturn, 1) := by decide +kernel
theorem dX8_placeOf_0 : decode cX8_placeOf 0 = .ok (.iconst 0, 1) := by decide +kernel
theorem dX8_placeOf_1 : decode cX8_placeOf 1 = .ok (.istore_n 3, 1) := by decide +kernel
theorem dX8_placeOf_2 : decode cX8_placeOf 2 = .ok (.iload_n 3, 1) := by decide +kernel
theorem dX8_placeOf_3 : decode cX8_placeOf 3 = .ok (.iload_n 2, 1) := by decide +kernel
theorem dX8_placeOf_4 : decode cX8_placeOf 4 = .ok (.if_icmp .ge 20, 3) := by decide +kernel
theorem dX8_placeOf_7 : decode cX8_placeOf 7 = .ok (.iload_n 0, 1) := by decide +kernel
theorem dX8_placeOf_8 : decode cX8_placeOf 8 = .ok (.iload_n 3, 1) := by decide +kernel
theorem dX8_placeOf_9 : decode cX8_placeOf 9 = .ok (.invokestatic 9, 3) := by decide +kernel
theorem dX8_placeOf_12 : decode cX8_placeOf 12 = .ok (.iload_n 1, 1) := by decide +kernel
theorem dX8_placeOf_13 : decode cX8_placeOf 13 = .ok (.if_icmp .ne 5, 3) := by decide +kernel
theorem dX8_placeOf_16 : decode cX8_placeOf 16 = .ok (.iload_n 3, 1) := by decide +kernel
theorem dX8_placeOf_17 : decode cX8_placeOf 17 = .ok (.ireturn, 1) := by decide +kernel
theorem dX8_placeOf_18 : decode cX8_placeOf 18 = .ok (.iinc 3 1, 3) := by decide +kernel
theorem dX8_placeOf_21 : decode cX8_placeOf 21 = .ok (.goto (-19), 3) := by decide +kernel
theorem dX8_placeOf_24 : decode cX8_placeOf 24 = .ok (.iconst (-1), 1) := by decide +kernel
theorem dX8_placeOf_25 : decode cX8_placeOf 25 = .ok (.ireturn, 1) := by decide +kernel
theorem dX8_number_0 : decode cX8_number 0 = .ok (.iconst 0, 1) := by decide +kernel
theorem dX8_number_1 : decode cX8_number 1 = .ok (.istore_n 2, 1) := by decide +kernel
theorem dX8_number_2 : decode cX8_number 2 = .ok (.iconst 0, 1) := by decide +kernel
theorem dX8_number_3 : decode cX8_number 3 = .ok (.istore_n 3, 1) := by decide +kernel
theorem dX8_number_4 : decode cX8_number 4 = .ok (.iconst 0, 1) := by decide +kernel
theorem dX8_number_5 : decode cX8_number 5 = .ok (.istore 4, 2) := by decide +kernel
theorem dX8_number_7 : decode cX8_number 7 = .ok (.iload 4, 2) := by decide +kernel
theorem dX8_number_9 : decode cX8_number 9 = .ok (.iload_n 1, 1) := by decide +kernel
theorem dX8_number_10 : decode cX8_number 10 = .ok (.if_icmp .ge 50, 3) := by decide +kernel
theorem dX8_number_13 : decode cX8_number 13 = .ok (.iload_n 0, 1) := by decide +kernel
theorem dX8_number_14 : decode cX8_number 14 = .ok (.iload 4, 2) := by decide +kernel
theorem dX8_number_16 : decode cX8_number 16 = .ok (.invokestatic 9, 3) := by decide +kernel
theorem dX8_number_19 : decode cX8_number 19 = .ok (.istore 5, 2) := by decide +kernel
theorem dX8_number_21 : decode cX8_number 21 = .ok (.iload 5, 2) := by decide +kernel
theorem dX8_number_23 : decode cX8_number 23 = .ok (.iload_n 3, 1) := by decide +kernel
theorem dX8_number_24 : decode cX8_number 24 = .ok (.iconst 1, 1) := by decide +kernel
theorem dX8_number_25 : decode cX8_number 25 = .ok (.iload 5, 2) := by decide +kernel
theorem dX8_number_27 : decode cX8_number 27 = .ok (.ishl, 1) := by decide +kernel
theorem dX8_number_28 : decode cX8_number 28 = .ok (.iconst 1, 1) := by decide +kernel
theorem dX8_number_29 : decode cX8_number 29 = .ok (.isub, 1) := by decide +kernel
theorem dX8_number_30 : decode cX8_number 30 = .ok (.iand, 1) := by decide +kernel
theorem dX8_number_31 : decode cX8_number 31 = .ok (.invokestatic 15, 3) := by decide +kernel
theorem dX8_number_34 : decode cX8_number 34 = .ok (.isub, 1) := by decide +kernel
theorem dX8_number_35 : decode cX8_number 35 = .ok (.istore 6, 2) := by decide +kernel
theorem dX8_number_37 : decode cX8_number 37 = .ok (.iload_n 2, 1) := by decide +kernel
theorem dX8_number_38 : decode cX8_number 38 = .ok (.iload_n 1, 1) := by decide +kernel
theorem dX8_number_39 : decode cX8_number 39 = .ok (.iload 4, 2) := by decide +kernel
theorem dX8_number_41 : decode cX8_number 41 = .ok (.isub, 1) := by decide +kernel
theorem dX8_number_42 : decode cX8_number 42 = .ok (.imul, 1) := by decide +kernel
theorem dX8_number_43 : decode cX8_number 43 = .ok (.iload 6, 2) := by decide +kernel
theorem dX8_number_45 : decode cX8_number 45 = .ok (.iadd, 1) := by decide +kernel
theorem dX8_number_46 : decode cX8_number 46 = .ok (.istore_n 2, 1) := by decide +kernel
theorem dX8_number_47 : decode cX8_number 47 = .ok (.iload_n 3, 1) := by decide +kernel
theorem dX8_number_48 : decode cX8_number 48 = .ok (.iconst 1, 1) := by decide +kernel
theorem dX8_number_49 : decode cX8_number 49 = .ok (.iload 5, 2) := by decide +kernel
theorem dX8_number_51 : decode cX8_number 51 = .ok (.ishl, 1) := by decide +kernel
theorem dX8_number_52 : decode cX8_number 52 = .ok (.ior, 1) := by decide +kernel
theorem dX8_number_53 : decode cX8_number 53 = .ok (.istore_n 3, 1) := by decide +kernel
theorem dX8_number_54 : decode cX8_number 54 = .ok (.iinc 4 1, 3) := by decide +kernel
theorem dX8_number_57 : decode cX8_number 57 = .ok (.goto (-50), 3) := by decide +kernel
theorem dX8_number_60 : decode cX8_number 60 = .ok (.iload_n 2, 1) := by decide +kernel
theorem dX8_number_61 : decode cX8_number 61 = .ok (.ireturn, 1) := by decide +kernel
theorem dX8_isMade_0 : decode cX8_isMade 0 = .ok (.iload_n 0, 1) := by decide +kernel
theorem dX8_isMade_1 : decode cX8_isMade 1 = .ok (.iload_n 1, 1) := by decide +kernel
theorem dX8_isMade_2 : decode cX8_isMade 2 = .ok (.ishr, 1) := by decide +kernel
theorem dX8_isMade_3 : decode cX8_isMade 3 = .ok (.iconst 1, 1) := by decide +kernel
theorem dX8_isMade_4 : decode cX8_isMade 4 = .ok (.iand, 1) := by decide +kernel
theorem dX8_isMade_5 : decode cX8_isMade 5 = .ok (.iconst 1, 1) := by decide +kernel
theorem dX8_isMade_6 : decode cX8_isMade 6 = .ok (.if_icmp .ne 7, 3) := by decide +kernel
theorem dX8_isMade_9 : decode cX8_isMade 9 = .ok (.iconst 1, 1) := by decide +kernel
theorem dX8_isMade_10 : decode cX8_isMade 10 = .ok (.goto 4, 3) := by decide +kernel
theorem dX8_isMade_13 : decode cX8_isMade 13 = .ok (.iconst 0, 1) := by decide +kernel
theorem dX8_isMade_14 : decode cX8_isMade 14 = .ok (.ireturn, 1) := by decide +kernel
theorem dX8_isChange_0 : decode cX8_isChange 0 = .ok (.iconst 1, 1) := by decide +kernel
theorem dX8_isChange_1 : decode cX8_isChange 1 = .ok (.iload_n 1, 1) := by decide +kernel
theorem dX8_isChange_2 : decode cX8_isChange 2 = .ok (.ishl, 1) := by decide +kernel
theorem dX8_isChange_3 : decode cX8_isChange 3 = .ok (.iconst 1, 1) := by decide +kernel
theorem dX8_isChange_4 : decode cX8_isChange 4 = .ok (.isub, 1) := by decide +kernel
theorem dX8_isChange_5 : decode cX8_isChange 5 = .ok (.istore_n 2, 1) := by decide +kernel
theorem dX8_isChange_6 : decode cX8_isChange 6 = .ok (.iload_n 0, 1) := by decide +kernel
theorem dX8_isChange_7 : decode cX8_isChange 7 = .ok (.ifCond .lt 8, 3) := by decide +kernel
theorem dX8_isChange_10 : decode cX8_isChange 10 = .ok (.iload_n 0, 1) := by decide +kernel
theorem dX8_isChange_11 : decode cX8_isChange 11 = .ok (.iload_n 2, 1) := by decide +kernel
theorem dX8_isChange_12 : decode cX8_isChange 12 = .ok (.if_icmp .lt 5, 3) := by decide +kernel
theorem dX8_isChange_15 : decode cX8_isChange 15 = .ok (.iconst 0, 1) := by decide +kernel
theorem dX8_isChange_16 : decode cX8_isChange 16 = .ok (.ireturn, 1) := by decide +kernel
theorem dX8_isChange_17 : decode cX8_isChange 17 = .ok (.iconst 0, 1) := by decide +kernel
theorem dX8_isChange_18 : decode cX8_isChange 18 = .ok (.istore_n 3, 1) := by decide +kernel
theorem dX8_isChange_19 : decode cX8_isChange 19 = .ok (.iconst 0, 1) := by decide +kernel
theorem dX8_isChange_20 : decode cX8_isChange 20 = .ok (.istore 4, 2) := by decide +kernel
theorem dX8_isChange_22 : decode cX8_isChange 22 = .ok (.iload 4, 2) := by decide +kernel
theorem dX8_isChange_24 : decode cX8_isChange 24 = .ok (.iload_n 1, 1) := by decide +kernel
theorem dX8_isChange_25 : decode cX8_isChange 25 = .ok (.if_icmp .ge 32, 3) := by decide +kernel
theorem dX8_isChange_28 : decode cX8_isChange 28 = .ok (.iload_n 0, 1) := by decide +kernel
theorem dX8_isChange_29 : decode cX8_isChange 29 = .ok (.iload 4, 2) := by decide +kernel
theorem dX8_isChange_31 : decode cX8_isChange 31 = .ok (.invokestatic 21, 3) := by decide +kernel
theorem dX8_isChange_34 : decode cX8_isChange 34 = .ok (.ifCond .ne 9, 3) := by decide +kernel
theorem dX8_isChange_37 : decode cX8_isChange 37 = .ok (.iinc 3 1, 3) := by decide +kernel
theorem dX8_isChange_40 : decode cX8_isChange 40 = .ok (.goto 11, 3) := by decide +kernel
theorem dX8_isChange_43 : decode cX8_isChange 43 = .ok (.iload_n 3, 1) := by decide +kernel
theorem dX8_isChange_44 : decode cX8_isChange 44 = .ok (.iconst 2, 1) := by decide +kernel
theorem dX8_isChange_45 : decode cX8_isChange 45 = .ok (.irem, 1) := by decide +kernel
theorem dX8_isChange_46 : decode cX8_isChange 46 = .ok (.ifCond .eq 5, 3) := by decide +kernel
theorem dX8_isChange_49 : decode cX8_isChange 49 = .ok (.iconst 0, 1) := by decide +kernel
theorem dX8_isChange_50 : decode cX8_isChange 50 = .ok (.ireturn, 1) := by decide +kernel
theorem dX8_isChange_51 : decode cX8_isChange 51 = .ok (.iinc 4 1, 3) := by decide +kernel
theorem dX8_isChange_54 : decode cX8_isChange 54 = .ok (.goto (-32), 3) := by decide +kernel
theorem dX8_isChange_57 : decode cX8_isChange 57 = .ok (.iload_n 3, 1) := by decide +kernel
theorem dX8_isChange_58 : decode cX8_isChange 58 = .ok (.iconst 2, 1) := by decide +kernel
theorem dX8_isChange_59 : decode cX8_isChange 59 = .ok (.irem, 1) := by decide +kernel
theorem dX8_isChange_60 : decode cX8_isChange 60 = .ok (.ifCond .ne 7, 3) := by decide +kernel
theorem dX8_isChange_63 : decode cX8_isChange 63 = .ok (.iconst 1, 1) := by decide +kernel
theorem dX8_isChange_64 : decode cX8_isChange 64 = .ok (.goto 4, 3) := by decide +kernel
theorem dX8_isChange_67 : decode cX8_isChange 67 = .ok (.iconst 0, 1) := by decide +kernel
theorem dX8_isChange_68 : decode cX8_isChange 68 = .ok (.ireturn, 1) := by decide +kernel
theorem dX8_afterChange_0 : decode cX8_afterChange 0 = .ok (.iload_n 0, 1) := by decide +kernel
theorem dX8_afterChange_1 : decode cX8_afterChange 1 = .ok (.istore_n 3, 1) := by decide +kernel
theorem dX8_afterChange_2 : decode cX8_afterChange 2 = .ok (.iconst 0, 1) := by decide +kernel
theorem dX8_afterChange_3 : decode cX8_afterChange 3 = .ok (.istore 4, 2) := by decide +kernel
theorem dX8_afterChange_5 : decode cX8_afterChange 5 = .ok (.iload 4, 2) := by decide +kernel
theorem dX8_afterChange_7 : decode cX8_afterChange 7 = .ok (.iconst 1, 1) := by decide +kernel
theorem dX8_afterChange_8 : decode cX8_afterChange 8 = .ok (.iadd, 1) := by decide +kernel
theorem dX8_afterChange_9 : decode cX8_afterChange 9 = .ok (.iload_n 2, 1) := by decide +kernel
theorem dX8_afterChange_10 : decode cX8_afterChange 10 = .ok (.if_icmp .ge 31, 3) := by decide +kernel
theorem dX8_afterChange_13 : decode cX8_afterChange 13 = .ok (.iload_n 1, 1) := by decide +kernel
theorem dX8_afterChange_14 : decode cX8_afterChange 14 = .ok (.iload 4, 2) := by decide +kernel
theorem dX8_afterChange_16 : decode cX8_afterChange 16 = .ok (.invokestatic 21, 3) := by decide +kernel
theorem dX8_afterChange_19 : decode cX8_afterChange 19 = .ok (.ifCond .eq 9, 3) := by decide +kernel
theorem dX8_afterChange_22 : decode cX8_afterChange 22 = .ok (.iinc 4 1, 3) := by decide +kernel
theorem dX8_afterChange_25 : decode cX8_afterChange 25 = .ok (.goto (-20), 3) := by decide +kernel
theorem dX8_afterChange_28 : decode cX8_afterChange 28 = .ok (.iload_n 3, 1) := by decide +kernel
theorem dX8_afterChange_29 : decode cX8_afterChange 29 = .ok (.iload 4, 2) := by decide +kernel
theorem dX8_afterChange_31 : decode cX8_afterChange 31 = .ok (.invokestatic 25, 3) := by decide +kernel
theorem dX8_afterChange_34 : decode cX8_afterChange 34 = .ok (.istore_n 3, 1) := by decide +kernel
theorem dX8_afterChange_35 : decode cX8_afterChange 35 = .ok (.iinc 4 2, 3) := by decide +kernel
theorem dX8_afterChange_38 : decode cX8_afterChange 38 = .ok (.goto (-33), 3) := by decide +kernel
theorem dX8_afterChange_41 : decode cX8_afterChange 41 = .ok (.iload_n 3, 1) := by decide +kernel
theorem dX8_afterChange_42 : decode cX8_afterChange 42 = .ok (.ireturn, 1) := by decide +kernel
theorem dX8_swapped_0 : decode cX8_swapped 0 = .ok (.iload_n 0, 1) := by decide +kernel
theorem dX8_swapped_1 : decode cX8_swapped 1 = .ok (.iload_n 1, 1) := by decide +kernel
theorem dX8_swapped_2 : decode cX8_swapped 2 = .ok (.invokestatic 9, 3) := by decide +kernel
theorem dX8_swapped_5 : decode cX8_swapped 5 = .ok (.iload_n 0, 1) := by decide +kernel
theorem dX8_swapped_6 : decode cX8_swapped 6 = .ok (.iload_n 1, 1) := by decide +kernel
theorem dX8_swapped_7 : decode cX8_swapped 7 = .ok (.iconst 1, 1) := by decide +kernel
theorem dX8_swapped_8 : decode cX8_swapped 8 = .ok (.iadd, 1) := by decide +kernel
theorem dX8_swapped_9 : decode cX8_swapped 9 = .ok (.invokestatic 9, 3) := by decide +kernel
theorem dX8_swapped_12 : decode cX8_swapped 12 = .ok (.ixor, 1) := by decide +kernel
theorem dX8_swapped_13 : decode cX8_swapped 13 = .ok (.istore_n 2, 1) := by decide +kernel
theorem dX8_swapped_14 : decode cX8_swapped 14 = .ok (.iload_n 0, 1) := by decide +kernel
theorem dX8_swapped_15 : decode cX8_swapped 15 = .ok (.iload_n 2, 1) := by decide +kernel
theorem dX8_swapped_16 : decode cX8_swapped 16 = .ok (.iconst 3, 1) := by decide +kernel
theorem dX8_swapped_17 : decode cX8_swapped 17 = .ok (.iload_n 1, 1) := by decide +kernel
theorem dX8_swapped_18 : decode cX8_swapped 18 = .ok (.imul, 1) := by decide +kernel
theorem dX8_swapped_19 : decode cX8_swapped 19 = .ok (.ishl, 1) := by decide +kernel
theorem dX8_swapped_20 : decode cX8_swapped 20 = .ok (.ixor, 1) := by decide +kernel
theorem dX8_swapped_21 : decode cX8_swapped 21 = .ok (.iload_n 2, 1) := by decide +kernel
theorem dX8_swapped_22 : decode cX8_swapped 22 = .ok (.iconst 3, 1) := by decide +kernel
theorem dX8_swapped_23 : decode cX8_swapped 23 = .ok (.iload_n 1, 1) := by decide +kernel
theorem dX8_swapped_24 : decode cX8_swapped 24 = .ok (.iconst 1, 1) := by decide +kernel
theorem dX8_swapped_25 : decode cX8_swapped 25 = .ok (.iadd, 1) := by decide +kernel
theorem dX8_swapped_26 : decode cX8_swapped 26 = .ok (.imul, 1) := by decide +kernel
theorem dX8_swapped_27 : decode cX8_swapped 27 = .ok (.ishl, 1) := by decide +kernel
theorem dX8_swapped_28 : decode cX8_swapped 28 = .ok (.ixor, 1) := by decide +kernel
theorem dX8_swapped_29 : decode cX8_swapped 29 = .ok (.ireturn, 1) := by decide +kernel
theorem dX8_originOf_0 : decode cX8_originOf 0 = .ok (.iconst 0, 1) := by decide +kernel
theorem dX8_originOf_1 : decode cX8_originOf 1 = .ok (.istore_n 3, 1) := by decide +kernel
theorem dX8_originOf_2 : decode cX8_originOf 2 = .ok (.iconst 0, 1) := by decide +kernel
theorem dX8_originOf_3 : decode cX8_originOf 3 = .ok (.istore 4, 2) := by decide +kernel
theorem dX8_originOf_5 : decode cX8_originOf 5 = .ok (.iload 4, 2) := by decide +kernel
theorem dX8_originOf_7 : decode cX8_originOf 7 = .ok (.iload_n 2, 1) := by decide +kernel
theorem dX8_originOf_8 : decode cX8_originOf 8 = .ok (.if_icmp .ge 27, 3) := by decide +kernel
theorem dX8_originOf_11 : decode cX8_originOf 11 = .ok (.iload_n 3, 1) := by decide +kernel
theorem dX8_originOf_12 : decode cX8_originOf 12 = .ok (.iload_n 0, 1) := by decide +kernel
theorem dX8_originOf_13 : decode cX8_originOf 13 = .ok (.iload 4, 2) := by decide +kernel
theorem dX8_originOf_15 : decode cX8_originOf 15 = .ok (.invokestatic 9, 3) := by decide +kernel
theorem dX8_originOf_18 : decode cX8_originOf 18 = .ok (.iconst 3, 1) := by decide +kernel
theorem dX8_originOf_19 : decode cX8_originOf 19 = .ok (.iload_n 1, 1) := by decide +kernel
theorem dX8_originOf_20 : decode cX8_originOf 20 = .ok (.iload 4, 2) := by decide +kernel
theorem dX8_originOf_22 : decode cX8_originOf 22 = .ok (.invokestatic 9, 3) := by decide +kernel
theorem dX8_originOf_25 : decode cX8_originOf 25 = .ok (.imul, 1) := by decide +kernel
theorem dX8_originOf_26 : decode cX8_originOf 26 = .ok (.ishl, 1) := by decide +kernel
theorem dX8_originOf_27 : decode cX8_originOf 27 = .ok (.ior, 1) := by decide +kernel
theorem dX8_originOf_28 : decode cX8_originOf 28 = .ok (.istore_n 3, 1) := by decide +kernel
theorem dX8_originOf_29 : decode cX8_originOf 29 = .ok (.iinc 4 1, 3) := by decide +kernel
theorem dX8_originOf_32 : decode cX8_originOf 32 = .ok (.goto (-27), 3) := by decide +kernel
theorem dX8_originOf_35 : decode cX8_originOf 35 = .ok (.iload_n 3, 1) := by decide +kernel
theorem dX8_originOf_36 : decode cX8_originOf 36 = .ok (.ireturn, 1) := by decide +kernel
theorem dX9_init_0 : decode cX9_init 0 = .ok (.aload_n 0, 1) := by decide +kernel
theorem dX9_init_1 : decode cX9_init 1 = .ok (.invokespecial 3, 3) := by decide +kernel
theorem dX9_init_4 : decode cX9_init 4 = .ok (.aload_n 0, 1) := by decide +kernel
theorem dX9_init_5 : decode cX9_init 5 = .ok (.iconst (-1), 1) := by decide +kernel
theorem dX9_init_6 : decode cX9_init 6 = .ok (.putfield 9, 3) := by decide +kernel
theorem dX9_init_9 : decode cX9_init 9 = .ok (.aload_n 0, 1) := by decide +kernel
theorem dX9_init_10 : decode cX9_init 10 = .ok (.iconst (-1), 1) := by decide +kernel
theorem dX9_init_11 : decode cX9_init 11 = .ok (.putfield 15, 3) := by decide +kernel
theorem dX9_init_14 : decode cX9_init 14 = .ok (.aload_n 0, 1) := by decide +kernel
theorem dX9_init_15 : decode cX9_init 15 = .ok (.iconst (-1), 1) := by decide +kernel
theorem dX9_init_16 : decode cX9_init 16 = .ok (.putfield 18, 3) := by decide +kernel
theorem dX9_init_19 : decode cX9_init 19 = .ok (.aload_n 0, 1) := by decide +kernel
theorem dX9_init_20 : decode cX9_init 20 = .ok (.new 21, 3) := by decide +kernel
theorem dX9_init_23 : decode cX9_init 23 = .ok (.dup, 1) := by decide +kernel
theorem dX9_init_24 : decode cX9_init 24 = .ok (.invokespecial 23, 3) := by decide +kernel
theorem dX9_init_27 : decode cX9_init 27 = .ok (.putfield 24, 3) := by decide +kernel
theorem dX9_init_30 : decode cX9_init 30 = .ok (.aload_n 0, 1) := by decide +kernel
theorem dX9_init_31 : decode cX9_init 31 = .ok (.bipush 20, 2) := by decide +kernel
theorem dX9_init_33 : decode cX9_init 33 = .ok (.newarray .int, 2) := by decide +kernel
theorem dX9_init_35 : decode cX9_init 35 = .ok (.putfield 28, 3) := by decide +kernel
theorem dX9_init_38 : decode cX9_init 38 = .ok (.aload_n 0, 1) := by decide +kernel
theorem dX9_init_39 : decode cX9_init 39 = .ok (.sipush 240, 3) := by decide +kernel
theorem dX9_init_42 : decode cX9_init 42 = .ok (.newarray .int, 2) := by decide +kernel
theorem dX9_init_44 : decode cX9_init 44 = .ok (.putfield 32, 3) := by decide +kernel
theorem dX9_init_47 : decode cX9_init 47 = .ok (.return_, 1) := by decide +kernel
theorem dX9_leadCount_0 : decode cX9_leadCount 0 = .ok (.aload_n 0, 1) := by decide +kernel
theorem dX9_leadCount_1 : decode cX9_leadCount 1 = .ok (.getfield 24, 3) := by decide +kernel
theorem dX9_leadCount_4 : decode cX9_leadCount 4 = .ok (.invokevirtual 35, 3) := by decide +kernel
theorem dX9_leadCount_7 : decode cX9_leadCount 7 = .ok (.ireturn, 1) := by decide +kernel
theorem dX9_takesLead_0 : decode cX9_takesLead 0 = .ok (.aload_n 0, 1) := by decide +kernel
theorem dX9_takesLead_1 : decode cX9_takesLead 1 = .ok (.getfield 24, 3) := by decide +kernel
theorem dX9_takesLead_4 : decode cX9_takesLead 4 = .ok (.invokevirtual 39, 3) := by decide +kernel
theorem dX9_takesLead_7 : decode cX9_takesLead 7 = .ok (.ifCond .eq 5, 3) := by decide +kernel
theorem dX9_takesLead_10 : decode cX9_takesLead 10 = .ok (.iconst 1, 1) := by decide +kernel
theorem dX9_takesLead_11 : decode cX9_takesLead 11 = .ok (.ireturn, 1) := by decide +kernel
theorem dX9_takesLead_12 : decode cX9_takesLead 12 = .ok (.aload_n 0, 1) := by decide +kernel
theorem dX9_takesLead_13 : decode cX9_takesLead 13 = .ok (.getfield 24, 3) := by decide +kernel
theorem dX9_takesLead_16 : decode cX9_takesLead 16 = .ok (.invokevirtual 35, 3) := by decide +kernel
theorem dX9_takesLead_19 : decode cX9_takesLead 19 = .ok (.bipush 20, 2) := by decide +kernel
theorem dX9_takesLead_21 : decode cX9_takesLead 21 = .ok (.if_icmp .ge 18, 3) := by decide +kernel
theorem dX9_takesLead_24 : decode cX9_takesLead 24 = .ok (.aload_n 1, 1) := by decide +kernel
theorem dX9_takesLead_25 : decode cX9_takesLead 25 = .ok (.getfield 43, 3) := by decide +kernel
theorem dX9_takesLead_28 : decode cX9_takesLead 28 = .ok (.aload_n 0, 1) := by decide +kernel
theorem dX9_takesLead_29 : decode cX9_takesLead 29 = .ok (.getfield 48, 3) := by decide +kernel
theorem dX9_takesLead_32 : decode cX9_takesLead 32 = .ok (.if_icmp .ne 7, 3) := by decide +kernel
theorem dX9_takesLead_35 : decode cX9_takesLead 35 = .ok (.iconst 1, 1) := by decide +kernel
theorem dX9_takesLead_36 : decode cX9_takesLead 36 = .ok (.goto 4, 3) := by decide +kernel
theorem dX9_takesLead_39 : decode cX9_takesLead 39 = .ok (.iconst 0, 1) := by decide +kernel
theorem dX9_takesLead_40 : decode cX9_takesLead 40 = .ok (.ireturn, 1) := by decide +kernel
theorem dX9_addLead_0 : decode cX9_addLead 0 = .ok (.aload_n 0, 1) := by decide +kernel
theorem dX9_addLead_1 : decode cX9_addLead 1 = .ok (.aload_n 1, 1) := by decide +kernel
theorem dX9_addLead_2 : decode cX9_addLead 2 = .ok (.getfield 43, 3) := by decide +kernel
theorem dX9_addLead_5 : decode cX9_addLead 5 = .ok (.putfield 48, 3) := by decide +kernel
theorem dX9_addLead_8 : decode cX9_addLead 8 = .ok (.aload_n 0, 1) := by decide +kernel
theorem dX9_addLead_9 : decode cX9_addLead 9 = .ok (.getfield 28, 3) := by decide +kernel
theorem dX9_addLead_12 : decode cX9_addLead 12 = .ok (.aload_n 0, 1) := by decide +kernel
theorem dX9_addLead_13 : decode cX9_addLead 13 = .ok (.getfield 24, 3) := by decide +kernel
theorem dX9_addLead_16 : decode cX9_addLead 16 = .ok (.invokevirtual 35, 3) := by decide +kernel
theorem dX9_addLead_19 : decode cX9_addLead 19 = .ok (.iload_n 2, 1) := by decide +kernel
theorem dX9_addLead_20 : decode cX9_addLead 20 = .ok (.iastore, 1) := by decide +kernel
theorem dX9_addLead_21 : decode cX9_addLead 21 = .ok (.aload_n 0, 1) := by decide +kernel
theorem dX9_addLead_22 : decode cX9_addLead 22 = .ok (.getfield 24, 3) := by decide +kernel
theorem dX9_addLead_25 : decode cX9_addLead 25 = .ok (.aload_n 1, 1) := by decide +kernel
theorem dX9_addLead_26 : decode cX9_addLead 26 = .ok (.invokevirtual 49, 3) := by decide +kernel
theorem dX9_addLead_29 : decode cX9_addLead 29 = .ok (.pop, 1) := by decide +kernel
theorem dX9_addLead_30 : decode cX9_addLead 30 = .ok (.return_, 1) := by decide +kernel
theorem dX9_clear_0 : decode cX9_clear 0 = .ok (.aload_n 0, 1) := by decide +kernel
theorem dX9_clear_1 : decode cX9_clear 1 = .ok (.getfield 24, 3) := by decide +kernel
theorem dX9_clear_4 : decode cX9_clear 4 = .ok (.invokevirtual 53, 3) := by decide +kernel
theorem dX9_clear_7 : decode cX9_clear 7 = .ok (.return_, 1) := by decide +kernel
theorem dX9_writeFrom_0 : decode cX9_writeFrom 0 = .ok (.aload_n 0, 1) := by decide +kernel
theorem dX9_writeFrom_1 : decode cX9_writeFrom 1 = .ok (.iconst 0, 1) := by decide +kernel
theorem dX9_writeFrom_2 : decode cX9_writeFrom 2 = .ok (.putfield 56, 3) := by decide +kernel
theorem dX9_writeFrom_5 : decode cX9_writeFrom 5 = .ok (.aload_n 0, 1) := by decide +kernel
theorem dX9_writeFrom_6 : decode cX9_writeFrom 6 = .ok (.iconst (-1), 1) := by decide +kernel
theorem dX9_writeFrom_7 : decode cX9_writeFrom 7 = .ok (.putfield 15, 3) := by decide +kernel
theorem dX9_writeFrom_10 : decode cX9_writeFrom 10 = .ok (.aload_n 0, 1) := by decide +kernel
theorem dX9_writeFrom_11 : decode cX9_writeFrom 11 = .ok (.iconst (-1), 1) := by decide +kernel
theorem dX9_writeFrom_12 : decode cX9_writeFrom 12 = .ok (.putfield 18, 3) := by decide +kernel
theorem dX9_writeFrom_15 : decode cX9_writeFrom 15 = .ok (.iconst 0, 1) := by decide +kernel
theorem dX9_writeFrom_16 : decode cX9_writeFrom 16 = .ok (.istore_n 3, 1) := by decide +kernel
theorem dX9_writeFrom_17 : decode cX9_writeFrom 17 = .ok (.iload_n 3, 1) := by decide +kernel
theorem dX9_writeFrom_18 : decode cX9_writeFrom 18 = .ok (.aload_n 0, 1) := by decide +kernel
theorem dX9_writeFrom_19 : decode cX9_writeFrom 19 = .ok (.getfield 24, 3) := by decide +kernel
theorem dX9_writeFrom_22 : decode cX9_writeFrom 22 = .ok (.invokevirtual 35, 3) := by decide +kernel
theorem dX9_writeFrom_25 : decode cX9_writeFrom 25 = .ok (.if_icmp .ge 46, 3) := by decide +kernel
theorem dX9_writeFrom_28 : decode cX9_writeFrom 28 = .ok (.iload_n 3, 1) := by decide +kernel
theorem dX9_writeFrom_29 : decode cX9_writeFrom 29 = .ok (.iload_n 1, 1) := by decide +kernel
theorem dX9_writeFrom_30 : decode cX9_writeFrom 30 = .ok (.if_icmp .ge 29, 3) := by decide +kernel
theorem dX9_writeFrom_33 : decode cX9_writeFrom 33 = .ok (.aload_n 0, 1) := by decide +kernel
theorem dX9_writeFrom_34 : decode cX9_writeFrom 34 = .ok (.dup, 1) := by decide +kernel
theorem dX9_writeFrom_35 : decode cX9_writeFrom 35 = .ok (.getfield 56, 3) := by decide +kernel
theorem dX9_writeFrom_38 : decode cX9_writeFrom 38 = .ok (.aload_n 0, 1) := by decide +kernel
theorem dX9_writeFrom_39 : decode cX9_writeFrom 39 = .ok (.getfield 24, 3) := by decide +kernel
theorem dX9_writeFrom_42 : decode cX9_writeFrom 42 = .ok (.iload_n 3, 1) := by decide +kernel
theorem dX9_writeFrom_43 : decode cX9_writeFrom 43 = .ok (.invokevirtual 59, 3) := by decide +kernel
theorem dX9_writeFrom_46 : decode cX9_writeFrom 46 = .ok (.checkcast 44, 3) := by decide +kernel
theorem dX9_writeFrom_49 : decode cX9_writeFrom 49 = .ok (.getfield 63, 3) := by decide +kernel
theorem dX9_writeFrom_52 : decode cX9_writeFrom 52 = .ok (.iadd, 1) := by decide +kernel
theorem dX9_writeFrom_53 : decode cX9_writeFrom 53 = .ok (.putfield 56, 3) := by decide +kernel
theorem dX9_writeFrom_56 : decode cX9_writeFrom 56 = .ok (.goto 9, 3) := by decide +kernel
theorem dX9_writeFrom_59 : decode cX9_writeFrom 59 = .ok (.aload_n 0, 1) := by decide +kernel
theorem dX9_writeFrom_60 : decode cX9_writeFrom 60 = .ok (.iload_n 3, 1) := by decide +kernel
theorem dX9_writeFrom_61 : decode cX9_writeFrom 61 = .ok (.aload_n 2, 1) := by decide +kernel
theorem dX9_writeFrom_62 : decode cX9_writeFrom 62 = .ok (.invokevirtual 66, 3) := by decide +kernel
theorem dX9_writeFrom_65 : decode cX9_writeFrom 65 = .ok (.iinc 3 1, 3) := by decide +kernel
theorem dX9_writeFrom_68 : decode cX9_writeFrom 68 = .ok (.goto (-51), 3) := by decide +kernel
theorem dX9_writeFrom_71 : decode cX9_writeFrom 71 = .ok (.aload_n 0, 1) := by decide +kernel
theorem dX9_writeFrom_72 : decode cX9_writeFrom 72 = .ok (.aload_n 0, 1) := by decide +kernel
theorem dX9_writeFrom_73 : decode cX9_writeFrom 73 = .ok (.invokevirtual 70, 3) := by decide +kernel
theorem dX9_writeFrom_76 : decode cX9_writeFrom 76 = .ok (.aload_n 0, 1) := by decide +kernel
theorem dX9_writeFrom_77 : decode cX9_writeFrom 77 = .ok (.getfield 48, 3) := by decide +kernel
theorem dX9_writeFrom_80 : decode cX9_writeFrom 80 = .ok (.invokestatic 73, 3) := by decide +kernel
theorem dX9_writeFrom_83 : decode cX9_writeFrom 83 = .ok (.if_icmp .ne 7, 3) := by decide +kernel
theorem dX9_writeFrom_86 : decode cX9_writeFrom 86 = .ok (.iconst 1, 1) := by decide +kernel
theorem dX9_writeFrom_87 : decode cX9_writeFrom 87 = .ok (.goto 4, 3) := by decide +kernel
theorem dX9_writeFrom_90 : decode cX9_writeFrom 90 = .ok (.iconst 0, 1) := by decide +kernel
theorem dX9_writeFrom_91 : decode cX9_writeFrom 91 = .ok (.putfield 79, 3) := by decide +kernel
theorem dX9_writeFrom_94 : decode cX9_writeFrom 94 = .ok (.return_, 1) := by decide +kernel
theorem dX9_writeLead_0 : decode cX9_writeLead 0 = .ok (.aload_n 0, 1) := by decide +kernel
theorem dX9_writeLead_1 : decode cX9_writeLead 1 = .ok (.getfield 24, 3) := by decide +kernel
theorem dX9_writeLead_4 : decode cX9_writeLead 4 = .ok (.iload_n 1, 1) := by decide +kernel
theorem dX9_writeLead_5 : decode cX9_writeLead 5 = .ok (.invokevirtual 59, 3) := by decide +kernel
theorem dX9_writeLead_8 : decode cX9_writeLead 8 = .ok (.checkcast 44, 3) := by decide +kernel
theorem dX9_writeLead_11 : decode cX9_writeLead 11 = .ok (.astore_n 3, 1) := by decide +kernel
theorem dX9_writeLead_12 : decode cX9_writeLead 12 = .ok (.aload_n 0, 1) := by decide +kernel
theorem dX9_writeLead_13 : decode cX9_writeLead 13 = .ok (.invokevirtual 70, 3) := by decide +kernel
theorem dX9_writeLead_16 : decode cX9_writeLead 16 = .ok (.istore 4, 2) := by decide +kernel
theorem dX9_writeLead_18 : decode cX9_writeLead 18 = .ok (.iconst 0, 1) := by decide +kernel
theorem dX9_writeLead_19 : decode cX9_writeLead 19 = .ok (.istore 5, 2) := by decide +kernel
theorem dX9_writeLead_21 : decode cX9_writeLead 21 = .ok (.iload 5, 2) := by decide +kernel
theorem dX9_writeLead_23 : decode cX9_writeLead 23 = .ok (.aload_n 3, 1) := by decide +kernel
theorem dX9_writeLead_24 : decode cX9_writeLead 24 = .ok (.getfield 63, 3) := by decide +kernel
theorem dX9_writeLead_27 : decode cX9_writeLead 27 = .ok (.if_icmp .ge 103, 3) := by decide +kernel
theorem dX9_writeLead_30 : decode cX9_writeLead 30 = .ok (.aload_n 0, 1) := by decide +kernel
theorem dX9_writeLead_31 : decode cX9_writeLead 31 = .ok (.getfield 56, 3) := by decide +kernel
theorem dX9_writeLead_34 : decode cX9_writeLead 34 = .ok (.sipush 240, 3) := by decide +kernel
theorem dX9_writeLead_37 : decode cX9_writeLead 37 = .ok (.if_icmp .ge 93, 3) := by decide +kernel
theorem dX9_writeLead_40 : decode cX9_writeLead 40 = .ok (.iload 4, 2) := by decide +kernel
theorem dX9_writeLead_42 : decode cX9_writeLead 42 = .ok (.aload_n 3, 1) := by decide +kernel
theorem dX9_writeLead_43 : decode cX9_writeLead 43 = .ok (.aload_n 0, 1) := by decide +kernel
theorem dX9_writeLead_44 : decode cX9_writeLead 44 = .ok (.getfield 28, 3) := by decide +kernel
theorem dX9_writeLead_47 : decode cX9_writeLead 47 = .ok (.iload_n 1, 1) := by decide +kernel
theorem dX9_writeLead_48 : decode cX9_writeLead 48 = .ok (.iaload, 1) := by decide +kernel
theorem dX9_writeLead_49 : decode cX9_writeLead 49 = .ok (.iload 5, 2) := by decide +kernel
theorem dX9_writeLead_51 : decode cX9_writeLead 51 = .ok (.invokevirtual 83, 3) := by decide +kernel
theorem dX9_writeLead_54 : decode cX9_writeLead 54 = .ok (.aload_n 0, 1) := by decide +kernel
theorem dX9_writeLead_55 : decode cX9_writeLead 55 = .ok (.getfield 48, 3) := by decide +kernel
theorem dX9_writeLead_58 : decode cX9_writeLead 58 = .ok (.invokestatic 87, 3) := by decide +kernel
theorem dX9_writeLead_61 : decode cX9_writeLead 61 = .ok (.istore 4, 2) := by decide +kernel
theorem dX9_writeLead_63 : decode cX9_writeLead 63 = .ok (.aload_n 0, 1) := by decide +kernel
theorem dX9_writeLead_64 : decode cX9_writeLead 64 = .ok (.getfield 32, 3) := by decide +kernel
theorem dX9_writeLead_67 : decode cX9_writeLead 67 = .ok (.aload_n 0, 1) := by decide +kernel
theorem dX9_writeLead_68 : decode cX9_writeLead 68 = .ok (.getfield 56, 3) := by decide +kernel
theorem dX9_writeLead_71 : decode cX9_writeLead 71 = .ok (.iload 4, 2) := by decide +kernel
theorem dX9_writeLead_73 : decode cX9_writeLead 73 = .ok (.iastore, 1) := by decide +kernel
theorem dX9_writeLead_74 : decode cX9_writeLead 74 = .ok (.aload_n 0, 1) := by decide +kernel
theorem dX9_writeLead_75 : decode cX9_writeLead 75 = .ok (.getfield 15, 3) := by decide +kernel
theorem dX9_writeLead_78 : decode cX9_writeLead 78 = .ok (.iconst (-1), 1) := by decide +kernel
theorem dX9_writeLead_79 : decode cX9_writeLead 79 = .ok (.if_icmp .ne 35, 3) := by decide +kernel
theorem dX9_writeLead_82 : decode cX9_writeLead 82 = .ok (.aload_n 2, 1) := by decide +kernel
theorem dX9_writeLead_83 : decode cX9_writeLead 83 = .ok (.aload_n 0, 1) := by decide +kernel
theorem dX9_writeLead_84 : decode cX9_writeLead 84 = .ok (.getfield 32, 3) := by decide +kernel
theorem dX9_writeLead_87 : decode cX9_writeLead 87 = .ok (.aload_n 0, 1) := by decide +kernel
theorem dX9_writeLead_88 : decode cX9_writeLead 88 = .ok (.getfield 56, 3) := by decide +kernel
theorem dX9_writeLead_91 : decode cX9_writeLead 91 = .ok (.aload_n 0, 1) := by decide +kernel
theorem dX9_writeLead_92 : decode cX9_writeLead 92 = .ok (.getfield 48, 3) := by decide +kernel
theorem dX9_writeLead_95 : decode cX9_writeLead 95 = .ok (.invokevirtual 91, 3) := by decide +kernel
theorem dX9_writeLead_98 : decode cX9_writeLead 98 = .ok (.ifCond .eq 16, 3) := by decide +kernel
theorem dX9_writeLead_101 : decode cX9_writeLead 101 = .ok (.aload_n 0, 1) := by decide +kernel
theorem dX9_writeLead_102 : decode cX9_writeLead 102 = .ok (.aload_n 0, 1) := by decide +kernel
theorem dX9_writeLead_103 : decode cX9_writeLead 103 = .ok (.getfield 56, 3) := by decide +kernel
theorem dX9_writeLead_106 : decode cX9_writeLead 106 = .ok (.putfield 15, 3) := by decide +kernel
theorem dX9_writeLead_109 : decode cX9_writeLead 109 = .ok (.aload_n 0, 1) := by decide +kernel
theorem dX9_writeLead_110 : decode cX9_writeLead 110 = .ok (.iload_n 1, 1) := by decide +kernel
theorem dX9_writeLead_111 : decode cX9_writeLead 111 = .ok (.putfield 18, 3) := by decide +kernel
theorem dX9_writeLead_114 : decode cX9_writeLead 114 = .ok (.aload_n 0, 1) := by decide +kernel
theorem dX9_writeLead_115 : decode cX9_writeLead 115 = .ok (.dup, 1) := by decide +kernel
theorem dX9_writeLead_116 : decode cX9_writeLead 116 = .ok (.getfield 56, 3) := by decide +kernel
theorem dX9_writeLead_119 : decode cX9_writeLead 119 = .ok (.iconst 1, 1) := by decide +kernel
theorem dX9_writeLead_120 : decode cX9_writeLead 120 = .ok (.iadd, 1) := by decide +kernel
theorem dX9_writeLead_121 : decode cX9_writeLead 121 = .ok (.putfield 56, 3) := by decide +kernel
theorem dX9_writeLead_124 : decode cX9_writeLead 124 = .ok (.iinc 5 1, 3) := by decide +kernel
theorem dX9_writeLead_127 : decode cX9_writeLead 127 = .ok (.goto (-106), 3) := by decide +kernel
theorem dX9_writeLead_130 : decode cX9_writeLead 130 = .ok (.return_, 1) := by decide +kernel
theorem dX9_lastRow_0 : decode cX9_lastRow 0 = .ok (.aload_n 0, 1) := by decide +kernel
theorem dX9_lastRow_1 : decode cX9_lastRow 1 = .ok (.getfield 56, 3) := by decide +kernel
theorem dX9_lastRow_4 : decode cX9_lastRow 4 = .ok (.ifCond .ne 13, 3) := by decide +kernel
theorem dX9_lastRow_7 : decode cX9_lastRow 7 = .ok (.aload_n 0, 1) := by decide +kernel
theorem dX9_lastRow_8 : decode cX9_lastRow 8 = .ok (.getfield 48, 3) := by decide +kernel
theorem dX9_lastRow_11 : decode cX9_lastRow 11 = .ok (.invokestatic 73, 3) := by decide +kernel
theorem dX9_lastRow_14 : decode cX9_lastRow 14 = .ok (.goto 14, 3) := by decide +kernel
theorem dX9_lastRow_17 : decode cX9_lastRow 17 = .ok (.aload_n 0, 1) := by decide +kernel
theorem dX9_lastRow_18 : decode cX9_lastRow 18 = .ok (.getfield 32, 3) := by decide +kernel
theorem dX9_lastRow_21 : decode cX9_lastRow 21 = .ok (.aload_n 0, 1) := by decide +kernel
theorem dX9_lastRow_22 : decode cX9_lastRow 22 = .ok (.getfield 56, 3) := by decide +kernel
theorem dX9_lastRow_25 : decode cX9_lastRow 25 = .ok (.iconst 1, 1) := by decide +kernel
theorem dX9_lastRow_26 : decode cX9_lastRow 26 = .ok (.isub, 1) := by decide +kernel
theorem dX9_lastRow_27 : decode cX9_lastRow 27 = .ok (.iaload, 1) := by decide +kernel
theorem dX9_lastRow_28 : decode cX9_lastRow 28 = .ok (.ireturn, 1) := by decide +kernel
theorem dX9_rowAnew_0 : decode cX9_rowAnew 0 = .ok (.aload_n 0, 1) := by decide +kernel
theorem dX9_rowAnew_1 : decode cX9_rowAnew 1 = .ok (.getfield 48, 3) := by decide +kernel
theorem dX9_rowAnew_4 : decode cX9_rowAnew 4 = .ok (.invokestatic 73, 3) := by decide +kernel
theorem dX9_rowAnew_7 : decode cX9_rowAnew 7 = .ok (.istore_n 2, 1) := by decide +kernel
theorem dX9_rowAnew_8 : decode cX9_rowAnew 8 = .ok (.iconst 0, 1) := by decide +kernel
theorem dX9_rowAnew_9 : decode cX9_rowAnew 9 = .ok (.istore_n 3, 1) := by decide +kernel
theorem dX9_rowAnew_10 : decode cX9_rowAnew 10 = .ok (.iconst 0, 1) := by decide +kernel
theorem dX9_rowAnew_11 : decode cX9_rowAnew 11 = .ok (.istore 4, 2) := by decide +kernel
theorem dX9_rowAnew_13 : decode cX9_rowAnew 13 = .ok (.iload 4, 2) := by decide +kernel
theorem dX9_rowAnew_15 : decode cX9_rowAnew 15 = .ok (.aload_n 0, 1) := by decide +kernel
theorem dX9_rowAnew_16 : decode cX9_rowAnew 16 = .ok (.getfield 24, 3) := by decide +kernel
theorem dX9_rowAnew_19 : decode cX9_rowAnew 19 = .ok (.invokevirtual 35, 3) := by decide +kernel
theorem dX9_rowAnew_22 : decode cX9_rowAnew 22 = .ok (.if_icmp .ge 73, 3) := by decide +kernel
theorem dX9_rowAnew_25 : decode cX9_rowAnew 25 = .ok (.aload_n 0, 1) := by decide +kernel
theorem dX9_rowAnew_26 : decode cX9_rowAnew 26 = .ok (.getfield 24, 3) := by decide +kernel
theorem dX9_rowAnew_29 : decode cX9_rowAnew 29 = .ok (.iload 4, 2) := by decide +kernel
theorem dX9_rowAnew_31 : decode cX9_rowAnew 31 = .ok (.invokevirtual 59, 3) := by decide +kernel
theorem dX9_rowAnew_34 : decode cX9_rowAnew 34 = .ok (.checkcast 44, 3) := by decide +kernel
theorem dX9_rowAnew_37 : decode cX9_rowAnew 37 = .ok (.astore 5, 2) := by decide +kernel
theorem dX9_rowAnew_39 : decode cX9_rowAnew 39 = .ok (.iconst 0, 1) := by decide +kernel
theorem dX9_rowAnew_40 : decode cX9_rowAnew 40 = .ok (.istore 6, 2) := by decide +kernel
theorem dX9_rowAnew_42 : decode cX9_rowAnew 42 = .ok (.iload 6, 2) := by decide +kernel
theorem dX9_rowAnew_44 : decode cX9_rowAnew 44 = .ok (.aload 5, 2) := by decide +kernel
theorem dX9_rowAnew_46 : decode cX9_rowAnew 46 = .ok (.getfield 63, 3) := by decide +kernel
theorem dX9_rowAnew_49 : decode cX9_rowAnew 49 = .ok (.if_icmp .ge 40, 3) := by decide +kernel
theorem dX9_rowAnew_52 : decode cX9_rowAnew 52 = .ok (.iload_n 3, 1) := by decide +kernel
theorem dX9_rowAnew_53 : decode cX9_rowAnew 53 = .ok (.iload_n 1, 1) := by decide +kernel
theorem dX9_rowAnew_54 : decode cX9_rowAnew 54 = .ok (.if_icmp .gt 35, 3) := by decide +kernel
theorem dX9_rowAnew_57 : decode cX9_rowAnew 57 = .ok (.iload_n 2, 1) := by decide +kernel
theorem dX9_rowAnew_58 : decode cX9_rowAnew 58 = .ok (.aload 5, 2) := by decide +kernel
theorem dX9_rowAnew_60 : decode cX9_rowAnew 60 = .ok (.aload_n 0, 1) := by decide +kernel
theorem dX9_rowAnew_61 : decode cX9_rowAnew 61 = .ok (.getfield 28, 3) := by decide +kernel
theorem dX9_rowAnew_64 : decode cX9_rowAnew 64 = .ok (.iload 4, 2) := by decide +kernel
theorem dX9_rowAnew_66 : decode cX9_rowAnew 66 = .ok (.iaload, 1) := by decide +kernel
theorem dX9_rowAnew_67 : decode cX9_rowAnew 67 = .ok (.iload 6, 2) := by decide +kernel
theorem dX9_rowAnew_69 : decode cX9_rowAnew 69 = .ok (.invokevirtual 83, 3) := by decide +kernel
theorem dX9_rowAnew_72 : decode cX9_rowAnew 72 = .ok (.aload_n 0, 1) := by decide +kernel
theorem dX9_rowAnew_73 : decode cX9_rowAnew 73 = .ok (.getfield 48, 3) := by decide +kernel
theorem dX9_rowAnew_76 : decode cX9_rowAnew 76 = .ok (.invokestatic 87, 3) := by decide +kernel
theorem dX9_rowAnew_79 : decode cX9_rowAnew 79 = .ok (.istore_n 2, 1) := by decide +kernel
theorem dX9_rowAnew_80 : decode cX9_rowAnew 80 = .ok (.iinc 3 1, 3) := by decide +kernel
theorem dX9_rowAnew_83 : decode cX9_rowAnew 83 = .ok (.iinc 6 1, 3) := by decide +kernel
theorem dX9_rowAnew_86 : decode cX9_rowAnew 86 = .ok (.goto (-44), 3) := by decide +kernel
theorem dX9_rowAnew_89 : decode cX9_rowAnew 89 = .ok (.iinc 4 1, 3) := by decide +kernel
theorem dX9_rowAnew_92 : decode cX9_rowAnew 92 = .ok (.goto (-79), 3) := by decide +kernel
theorem dX9_rowAnew_95 : decode cX9_rowAnew 95 = .ok (.iload_n 2, 1) := by decide +kernel
theorem dX9_rowAnew_96 : decode cX9_rowAnew 96 = .ok (.ireturn, 1) := by decide +kernel
theorem dX9_isSound_0 : decode cX9_isSound 0 = .ok (.aload_n 0, 1) := by decide +kernel
theorem dX9_isSound_1 : decode cX9_isSound 1 = .ok (.getfield 15, 3) := by decide +kernel
theorem dX9_isSound_4 : decode cX9_isSound 4 = .ok (.iconst (-1), 1) := by decide +kernel
theorem dX9_isSound_5 : decode cX9_isSound 5 = .ok (.if_icmp .ne 14, 3) := by decide +kernel
theorem dX9_isSound_8 : decode cX9_isSound 8 = .ok (.aload_n 0, 1) := by decide +kernel
theorem dX9_isSound_9 : decode cX9_isSound 9 = .ok (.getfield 79, 3) := by decide +kernel
theorem dX9_isSound_12 : decode cX9_isSound 12 = .ok (.ifCond .eq 7, 3) := by decide +kernel
theorem dX9_isSound_15 : decode cX9_isSound 15 = .ok (.iconst 1, 1) := by decide +kernel
theorem dX9_isSound_16 : decode cX9_isSound 16 = .ok (.goto 4, 3) := by decide +kernel
theorem dX9_isSound_19 : decode cX9_isSound 19 = .ok (.iconst 0, 1) := by decide +kernel
theorem dX9_isSound_20 : decode cX9_isSound 20 = .ok (.ireturn, 1) := by decide +kernel
theorem dX9_isFit_0 : decode cX9_isFit 0 = .ok (.iconst 1, 1) := by decide +kernel
theorem dX9_isFit_1 : decode cX9_isFit 1 = .ok (.aload_n 0, 1) := by decide +kernel
theorem dX9_isFit_2 : decode cX9_isFit 2 = .ok (.getfield 48, 3) := by decide +kernel
theorem dX9_isFit_5 : decode cX9_isFit 5 = .ok (.ishl, 1) := by decide +kernel
theorem dX9_isFit_6 : decode cX9_isFit 6 = .ok (.iconst 1, 1) := by decide +kernel
theorem dX9_isFit_7 : decode cX9_isFit 7 = .ok (.isub, 1) := by decide +kernel
theorem dX9_isFit_8 : decode cX9_isFit 8 = .ok (.istore_n 2, 1) := by decide +kernel
theorem dX9_isFit_9 : decode cX9_isFit 9 = .ok (.aload_n 0, 1) := by decide +kernel
theorem dX9_isFit_10 : decode cX9_isFit 10 = .ok (.invokevirtual 97, 3) := by decide +kernel
theorem dX9_isFit_13 : decode cX9_isFit 13 = .ok (.ifCond .eq 13, 3) := by decide +kernel
theorem dX9_isFit_16 : decode cX9_isFit 16 = .ok (.iload_n 1, 1) := by decide +kernel
theorem dX9_isFit_17 : decode cX9_isFit 17 = .ok (.iload_n 2, 1) := by decide +kernel
theorem dX9_isFit_18 : decode cX9_isFit 18 = .ok (.iand, 1) := by decide +kernel
theorem dX9_isFit_19 : decode cX9_isFit 19 = .ok (.ifCond .ne 7, 3) := by decide +kernel
theorem dX9_isFit_22 : decode cX9_isFit 22 = .ok (.iconst 1, 1) := by decide +kernel
theorem dX9_isFit_23 : decode cX9_isFit 23 = .ok (.goto 4, 3) := by decide +kernel
theorem dX9_isFit_26 : decode cX9_isFit 26 = .ok (.iconst 0, 1) := by decide +kernel
theorem dX9_isFit_27 : decode cX9_isFit 27 = .ok (.ireturn, 1) := by decide +kernel
theorem dX10_init_0 : decode cX10_init 0 = .ok (.aload_n 0, 1) := by decide +kernel
theorem dX10_init_1 : decode cX10_init 1 = .ok (.invokespecial 3, 3) := by decide +kernel
theorem dX10_init_4 : decode cX10_init 4 = .ok (.aload_n 0, 1) := by decide +kernel
theorem dX10_init_5 : decode cX10_init 5 = .ok (.new 9, 3) := by decide +kernel
theorem dX10_init_8 : decode cX10_init 8 = .ok (.dup, 1) := by decide +kernel
theorem dX10_init_9 : decode cX10_init 9 = .ok (.invokespecial 11, 3) := by decide +kernel
theorem dX10_init_12 : decode cX10_init 12 = .ok (.putfield 12, 3) := by decide +kernel
theorem dX10_init_15 : decode cX10_init 15 = .ok (.aload_n 0, 1) := by decide +kernel
theorem dX10_init_16 : decode cX10_init 16 = .ok (.bipush 12, 2) := by decide +kernel
theorem dX10_init_18 : decode cX10_init 18 = .ok (.newarray .int, 2) := by decide +kernel
theorem dX10_init_20 : decode cX10_init 20 = .ok (.putfield 16, 3) := by decide +kernel
theorem dX10_init_23 : decode cX10_init 23 = .ok (.aload_n 0, 1) := by decide +kernel
theorem dX10_init_24 : decode cX10_init 24 = .ok (.new 9, 3) := by decide +kernel
theorem dX10_init_27 : decode cX10_init 27 = .ok (.dup, 1) := by decide +kernel
theorem dX10_init_28 : decode cX10_init 28 = .ok (.invokespecial 11, 3) := by decide +kernel
theorem dX10_init_31 : decode cX10_init 31 = .ok (.putfield 20, 3) := by decide +kernel
theorem dX10_init_34 : decode cX10_init 34 = .ok (.aload_n 0, 1) := by decide +kernel
theorem dX10_init_35 : decode cX10_init 35 = .ok (.new 23, 3) := by decide +kernel
theorem dX10_init_38 : decode cX10_init 38 = .ok (.dup, 1) := by decide +kernel
theorem dX10_init_39 : decode cX10_init 39 = .ok (.invokespecial 25, 3) := by decide +kernel
theorem dX10_init_42 : decode cX10_init 42 = .ok (.putfield 26, 3) := by decide +kernel
theorem dX10_init_45 : decode cX10_init 45 = .ok (.aload_n 0, 1) := by decide +kernel
theorem dX10_init_46 : decode cX10_init 46 = .ok (.new 30, 3) := by decide +kernel
theorem dX10_init_49 : decode cX10_init 49 = .ok (.dup, 1) := by decide +kernel
theorem dX10_init_50 : decode cX10_init 50 = .ok (.aload_n 0, 1) := by decide +kernel
theorem dX10_init_51 : decode cX10_init 51 = .ok (.getfield 26, 3) := by decide +kernel
theorem dX10_init_54 : decode cX10_init 54 = .ok (.invokespecial 32, 3) := by decide +kernel
theorem dX10_init_57 : decode cX10_init 57 = .ok (.putfield 35, 3) := by decide +kernel
theorem dX10_init_60 : decode cX10_init 60 = .ok (.aload_n 0, 1) := by decide +kernel
theorem dX10_init_61 : decode cX10_init 61 = .ok (.new 39, 3) := by decide +kernel
theorem dX10_init_64 : decode cX10_init 64 = .ok (.dup, 1) := by decide +kernel
theorem dX10_init_65 : decode cX10_init 65 = .ok (.invokespecial 41, 3) := by decide +kernel
theorem dX10_init_68 : decode cX10_init 68 = .ok (.putfield 42, 3) := by decide +kernel
theorem dX10_init_71 : decode cX10_init 71 = .ok (.aload_n 0, 1) := by decide +kernel
theorem dX10_init_72 : decode cX10_init 72 = .ok (.new 46, 3) := by decide +kernel
theorem dX10_init_75 : decode cX10_init 75 = .ok (.dup, 1) := by decide +kernel
theorem dX10_init_76 : decode cX10_init 76 = .ok (.invokespecial 48, 3) := by decide +kernel
theorem dX10_init_79 : decode cX10_init 79 = .ok (.putfield 49, 3) := by decide +kernel
theorem dX10_init_82 : decode cX10_init 82 = .ok (.aload_n 0, 1) := by decide +kernel
theorem dX10_init_83 : decode cX10_init 83 = .ok (.new 53, 3) := by decide +kernel
theorem dX10_init_86 : decode cX10_init 86 = .ok (.dup, 1) := by decide +kernel
theorem dX10_init_87 : decode cX10_init 87 = .ok (.invokespecial 55, 3) := by decide +kernel
theorem dX10_init_90 : decode cX10_init 90 = .ok (.putfield 56, 3) := by decide +kernel
theorem dX10_init_93 : decode cX10_init 93 = .ok (.aload_n 0, 1) := by decide +kernel
theorem dX10_init_94 : decode cX10_init 94 = .ok (.sipush 200, 3) := by decide +kernel
theorem dX10_init_97 : decode cX10_init 97 = .ok (.putfield 60, 3) := by decide +kernel
theorem dX10_init_100 : decode cX10_init 100 = .ok (.aload_n 0, 1) := by decide +kernel
theorem dX10_init_101 : decode cX10_init 101 = .ok (.iconst (-1), 1) := by decide +kernel
theorem dX10_init_102 : decode cX10_init 102 = .ok (.putfield 64, 3) := by decide +kernel
theorem dX10_init_105 : decode cX10_init 105 = .ok (.return_, 1) := by decide +kernel
theorem dX10_change_0 : decode cX10_change 0 = .ok (.iload_n 1, 1) := by decide +kernel
theorem dX10_change_1 : decode cX10_change 1 = .ok (.iconst 0, 1) := by decide +kernel
theorem dX10_change_2 : decode cX10_change 2 = .ok (.bipush 63, 2) := by decide +kernel
theorem dX10_change_4 : decode cX10_change 4 = .ok (.invokestatic 67, 3) := by decide +kernel
theorem dX10_change_7 : decode cX10_change 7 = .ok (.aload_n 0, 1) := by decide +kernel
theorem dX10_change_8 : decode cX10_change 8 = .ok (.getfield 71, 3) := by decide +kernel
theorem dX10_change_11 : decode cX10_change 11 = .ok (.bipush 12, 2) := by decide +kernel
theorem dX10_change_13 : decode cX10_change 13 = .ok (.if_icmp .lt 13, 3) := by decide +kernel
theorem dX10_change_16 : decode cX10_change 16 = .ok (.new 74, 3) := by decide +kernel
theorem dX10_change_19 : decode cX10_change 19 = .ok (.dup, 1) := by decide +kernel
theorem dX10_change_20 : decode cX10_change 20 = .ok (.ldc 76, 2) := by decide +kernel
theorem dX10_change_22 : decode cX10_change 22 = .ok (.invokespecial 78, 3) := by decide +kernel
theorem dX10_change_25 : decode cX10_change 25 = .ok (.athrow, 1) := by decide +kernel
theorem dX10_change_26 : decode cX10_change 26 = .ok (.aload_n 0, 1) := by decide +kernel
theorem dX10_change_27 : decode cX10_change 27 = .ok (.getfield 16, 3) := by decide +kernel
theorem dX10_change_30 : decode cX10_change 30 = .ok (.aload_n 0, 1) := by decide +kernel
theorem dX10_change_31 : decode cX10_change 31 = .ok (.getfield 71, 3) := by decide +kernel
theorem dX10_change_34 : decode cX10_change 34 = .ok (.iload_n 1, 1) := by decide +kernel
theorem dX10_change_35 : decode cX10_change 35 = .ok (.iastore, 1) := by decide +kernel
theorem dX10_change_36 : decode cX10_change 36 = .ok (.aload_n 0, 1) := by decide +kernel
theorem dX10_change_37 : decode cX10_change 37 = .ok (.dup, 1) := by decide +kernel
theorem dX10_change_38 : decode cX10_change 38 = .ok (.getfield 71, 3) := by decide +kernel
theorem dX10_change_41 : decode cX10_change 41 = .ok (.iconst 1, 1) := by decide +kernel
theorem dX10_change_42 : decode cX10_change 42 = .ok (.iadd, 1) := by decide +kernel
theorem dX10_change_43 : decode cX10_change 43 = .ok (.putfield 71, 3) := by decide +kernel
theorem dX10_change_46 : decode cX10_change 46 = .ok (.aload_n 0, 1) := by decide +kernel
theorem dX10_change_47 : decode cX10_change 47 = .ok (.getfield 71, 3) := by decide +kernel
theorem dX10_change_50 : decode cX10_change 50 = .ok (.ireturn, 1) := by decide +kernel
theorem dX10_dropChanges_0 : decode cX10_dropChanges 0 = .ok (.aload_n 0, 1) := by decide +kernel
theorem dX10_dropChanges_1 : decode cX10_dropChanges 1 = .ok (.getfield 71, 3) := by decide +kernel
theorem dX10_dropChanges_4 : decode cX10_dropChanges 4 = .ok (.istore_n 1, 1) := by decide +kernel
theorem dX10_dropChanges_5 : decode cX10_dropChanges 5 = .ok (.aload_n 0, 1) := by decide +kernel
theorem dX10_dropChanges_6 : decode cX10_dropChanges 6 = .ok (.iconst 0, 1) := by decide +kernel
theorem dX10_dropChanges_7 : decode cX10_dropChanges 7 = .ok (.putfield 71, 3) := by decide +kernel
theorem dX10_dropChanges_10 : decode cX10_dropChanges 10 = .ok (.iload_n 1, 1) := by decide +kernel
theorem dX10_dropChanges_11 : decode cX10_dropChanges 11 = .ok (.ireturn, 1) := by decide +kernel
theorem dX10_method_0 : decode cX10_method 0 = .ok (.iload_n 1, 1) := by decide +kernel
theorem dX10_method_1 : decode cX10_method 1 = .ok (.iconst 4, 1) := by decide +kernel
theorem dX10_method_2 : decode cX10_method 2 = .ok (.bipush 6, 2) := by decide +kernel
theorem dX10_method_4 : decode cX10_method 4 = .ok (.invokestatic 67, 3) := by decide +kernel
theorem dX10_method_7 : decode cX10_method 7 = .ok (.aload_n 0, 1) := by decide +kernel
theorem dX10_method_8 : decode cX10_method 8 = .ok (.getfield 71, 3) := by decide +kernel
theorem dX10_method_11 : decode cX10_method 11 = .ok (.ifCond .eq 23, 3) := by decide +kernel
theorem dX10_method_14 : decode cX10_method 14 = .ok (.aload_n 0, 1) := by decide +kernel
theorem dX10_method_15 : decode cX10_method 15 = .ok (.getfield 12, 3) := by decide +kernel
theorem dX10_method_18 : decode cX10_method 18 = .ok (.invokevirtual 81, 3) := by decide +kernel
theorem dX10_method_21 : decode cX10_method 21 = .ok (.bipush 8, 2) := by decide +kernel
theorem dX10_method_23 : decode cX10_method 23 = .ok (.if_icmp .ge 11, 3) := by decide +kernel
theorem dX10_method_26 : decode cX10_method 26 = .ok (.aload_n 0, 1) := by decide +kernel
theorem dX10_method_27 : decode cX10_method 27 = .ok (.iload_n 1, 1) := by decide +kernel
theorem dX10_method_28 : decode cX10_method 28 = .ok (.invokevirtual 85, 3) := by decide +kernel
theorem dX10_method_31 : decode cX10_method 31 = .ok (.ifCond .ne 13, 3) := by decide +kernel
theorem dX10_method_34 : decode cX10_method 34 = .ok (.new 74, 3) := by decide +kernel
theorem dX10_method_37 : decode cX10_method 37 = .ok (.dup, 1) := by decide +kernel
theorem dX10_method_38 : decode cX10_method 38 = .ok (.ldc 89, 2) := by decide +kernel
theorem dX10_method_40 : decode cX10_method 40 = .ok (.invokespecial 78, 3) := by decide +kernel
theorem dX10_method_43 : decode cX10_method 43 = .ok (.athrow, 1) := by decide +kernel
theorem dX10_method_44 : decode cX10_method 44 = .ok (.aload_n 0, 1) := by decide +kernel
theorem dX10_method_45 : decode cX10_method 45 = .ok (.getfield 12, 3) := by decide +kernel
theorem dX10_method_48 : decode cX10_method 48 = .ok (.invokevirtual 81, 3) := by decide +kernel
theorem dX10_method_51 : decode cX10_method 51 = .ok (.istore_n 2, 1) := by decide +kernel
theorem dX10_method_52 : decode cX10_method 52 = .ok (.aload_n 0, 1) := by decide +kernel
theorem dX10_method_53 : decode cX10_method 53 = .ok (.getfield 12, 3) := by decide +kernel
theorem dX10_method_56 : decode cX10_method 56 = .ok (.new 91, 3) := by decide +kernel
theorem dX10_method_59 : decode cX10_method 59 = .ok (.dup, 1) := by decide +kernel
theorem dX10_method_60 : decode cX10_method 60 = .ok (.iload_n 2, 1) := by decide +kernel
theorem dX10_method_61 : decode cX10_method 61 = .ok (.iload_n 1, 1) := by decide +kernel
theorem dX10_method_62 : decode cX10_method 62 = .ok (.aload_n 0, 1) := by decide +kernel
theorem dX10_method_63 : decode cX10_method 63 = .ok (.getfield 16, 3) := by decide +kernel
theorem dX10_method_66 : decode cX10_method 66 = .ok (.aload_n 0, 1) := by decide +kernel
theorem dX10_method_67 : decode cX10_method 67 = .ok (.getfield 71, 3) := by decide +kernel
theorem dX10_method_70 : decode cX10_method 70 = .ok (.invokespecial 93, 3) := by decide +kernel
theorem dX10_method_73 : decode cX10_method 73 = .ok (.invokevirtual 96, 3) := by decide +kernel
theorem dX10_method_76 : decode cX10_method 76 = .ok (.pop, 1) := by decide +kernel
theorem dX10_method_77 : decode cX10_method 77 = .ok (.aload_n 0, 1) := by decide +kernel
theorem dX10_method_78 : decode cX10_method 78 = .ok (.iconst 0, 1) := by decide +kernel
theorem dX10_method_79 : decode cX10_method 79 = .ok (.putfield 71, 3) := by decide +kernel
theorem dX10_method_82 : decode cX10_method 82 = .ok (.iload_n 2, 1) := by decide +kernel
theorem dX10_method_83 : decode cX10_method 83 = .ok (.ireturn, 1) := by decide +kernel
theorem dX10_setCall_0 : decode cX10_setCall 0 = .ok (.aload_n 0, 1) := by decide +kernel
theorem dX10_setCall_1 : decode cX10_setCall 1 = .ok (.iload_n 1, 1) := by decide +kernel
theorem dX10_setCall_2 : decode cX10_setCall 2 = .ok (.invokevirtual 100, 3) := by decide +kernel
theorem dX10_setCall_5 : decode cX10_setCall 5 = .ok (.astore 4, 2) := by decide +kernel
theorem dX10_setCall_7 : decode cX10_setCall 7 = .ok (.iload_n 2, 1) := by decide +kernel
theorem dX10_setCall_8 : decode cX10_setCall 8 = .ok (.iconst 1, 1) := by decide +kernel
theorem dX10_setCall_9 : decode cX10_setCall 9 = .ok (.iconst 2, 1) := by decide +kernel
theorem dX10_setCall_10 : decode cX10_setCall 10 = .ok (.invokestatic 67, 3) := by decide +kernel
theorem dX10_setCall_13 : decode cX10_setCall 13 = .ok (.iload_n 3, 1) := by decide +kernel
theorem dX10_setCall_14 : decode cX10_setCall 14 = .ok (.aload 4, 2) := by decide +kernel
theorem dX10_setCall_16 : decode cX10_setCall 16 = .ok (.getfield 104, 3) := by decide +kernel
theorem dX10_setCall_19 : decode cX10_setCall 19 = .ok (.invokestatic 107, 3) := by decide +kernel
theorem dX10_setCall_22 : decode cX10_setCall 22 = .ok (.ifCond .ne 13, 3) := by decide +kernel
theorem dX10_setCall_25 : decode cX10_setCall 25 = .ok (.new 113, 3) := by decide +kernel
theorem dX10_setCall_28 : decode cX10_setCall 28 = .ok (.dup, 1) := by decide +kernel
theorem dX10_setCall_29 : decode cX10_setCall 29 = .ok (.ldc 115, 2) := by decide +kernel
theorem dX10_setCall_31 : decode cX10_setCall 31 = .ok (.invokespecial 117, 3) := by decide +kernel
theorem dX10_setCall_34 : decode cX10_setCall 34 = .ok (.athrow, 1) := by decide +kernel
theorem dX10_setCall_35 : decode cX10_setCall 35 = .ok (.aload_n 0, 1) := by decide +kernel
theorem dX10_setCall_36 : decode cX10_setCall 36 = .ok (.invokevirtual 118, 3) := by decide +kernel
theorem dX10_setCall_39 : decode cX10_setCall 39 = .ok (.aload 4, 2) := by decide +kernel
theorem dX10_setCall_41 : decode cX10_setCall 41 = .ok (.iload_n 2, 1) := by decide +kernel
theorem dX10_setCall_42 : decode cX10_setCall 42 = .ok (.aload 4, 2) := by decide +kernel
theorem dX10_setCall_44 : decode cX10_setCall 44 = .ok (.getfield 121, 3) := by decide +kernel
theorem dX10_setCall_47 : decode cX10_setCall 47 = .ok (.iconst 1, 1) := by decide +kernel
theorem dX10_setCall_48 : decode cX10_setCall 48 = .ok (.isub, 1) := by decide +kernel
theorem dX10_setCall_49 : decode cX10_setCall 49 = .ok (.invokevirtual 124, 3) := by decide +kernel
theorem dX10_setCall_52 : decode cX10_setCall 52 = .ok (.istore 5, 2) := by decide +kernel
theorem dX10_setCall_54 : decode cX10_setCall 54 = .ok (.aload 4, 2) := by decide +kernel
theorem dX10_setCall_56 : decode cX10_setCall 56 = .ok (.iload_n 2, 1) := by decide +kernel
theorem dX10_setCall_57 : decode cX10_setCall 57 = .ok (.iload_n 3, 1) := by decide +kernel
theorem dX10_setCall_58 : decode cX10_setCall 58 = .ok (.invokevirtual 128, 3) := by decide +kernel
theorem dX10_setCall_61 : decode cX10_setCall 61 = .ok (.aload_n 0, 1) := by decide +kernel
theorem dX10_setCall_62 : decode cX10_setCall 62 = .ok (.invokevirtual 132, 3) := by decide +kernel
theorem dX10_setCall_65 : decode cX10_setCall 65 = .ok (.aload_n 0, 1) := by decide +kernel
theorem dX10_setCall_66 : decode cX10_setCall 66 = .ok (.getfield 56, 3) := by decide +kernel
theorem dX10_setCall_69 : decode cX10_setCall 69 = .ok (.aload_n 0, 1) := by decide +kernel
theorem dX10_setCall_70 : decode cX10_setCall 70 = .ok (.getfield 49, 3) := by decide +kernel
theorem dX10_setCall_73 : decode cX10_setCall 73 = .ok (.invokevirtual 135, 3) := by decide +kernel
theorem dX10_setCall_76 : decode cX10_setCall 76 = .ok (.invokevirtual 138, 3) := by decide +kernel
theorem dX10_setCall_79 : decode cX10_setCall 79 = .ok (.pop, 1) := by decide +kernel
theorem dX10_setCall_80 : decode cX10_setCall 80 = .ok (.iload 5, 2) := by decide +kernel
theorem dX10_setCall_82 : decode cX10_setCall 82 = .ok (.ireturn, 1) := by decide +kernel
theorem dX10_stage_0 : decode cX10_stage 0 = .ok (.aload_n 0, 1) := by decide +kernel
theorem dX10_stage_1 : decode cX10_stage 1 = .ok (.iload_n 1, 1) := by decide +kernel
theorem dX10_stage_2 : decode cX10_stage 2 = .ok (.invokevirtual 100, 3) := by decide +kernel
theorem dX10_stage_5 : decode cX10_stage 5 = .ok (.getfield 104, 3) := by decide +kernel
theorem dX10_stage_8 : decode cX10_stage 8 = .ok (.ireturn, 1) := by decide +kernel
theorem dX10_changeAt_0 : decode cX10_changeAt 0 = .ok (.aload_n 0, 1) := by decide +kernel
theorem dX10_changeAt_1 : decode cX10_changeAt 1 = .ok (.iload_n 1, 1) := by decide +kernel
theorem dX10_changeAt_2 : decode cX10_changeAt 2 = .ok (.invokevirtual 100, 3) := by decide +kernel
theorem dX10_changeAt_5 : decode cX10_changeAt 5 = .ok (.astore 4, 2) := by decide +kernel
theorem dX10_changeAt_7 : decode cX10_changeAt 7 = .ok (.iload_n 3, 1) := by decide +kernel
theorem dX10_changeAt_8 : decode cX10_changeAt 8 = .ok (.ifCond .ge 13, 3) := by decide +kernel
theorem dX10_changeAt_11 : decode cX10_changeAt 11 = .ok (.new 142, 3) := by decide +kernel
theorem dX10_changeAt_14 : decode cX10_changeAt 14 = .ok (.dup, 1) := by decide +kernel
theorem dX10_changeAt_15 : decode cX10_changeAt 15 = .ok (.ldc 144, 2) := by decide +kernel
theorem dX10_changeAt_17 : decode cX10_changeAt 17 = .ok (.invokespecial 146, 3) := by decide +kernel
theorem dX10_changeAt_20 : decode cX10_changeAt 20 = .ok (.athrow, 1) := by decide +kernel
theorem dX10_changeAt_21 : decode cX10_changeAt 21 = .ok (.iload_n 2, 1) := by decide +kernel
theorem dX10_changeAt_22 : decode cX10_changeAt 22 = .ok (.iconst 0, 1) := by decide +kernel
theorem dX10_changeAt_23 : decode cX10_changeAt 23 = .ok (.iconst 2, 1) := by decide +kernel
theorem dX10_changeAt_24 : decode cX10_changeAt 24 = .ok (.invokestatic 67, 3) := by decide +kernel
theorem dX10_changeAt_27 : decode cX10_changeAt 27 = .ok (.aload 4, 2) := by decide +kernel
theorem dX10_changeAt_29 : decode cX10_changeAt 29 = .ok (.iload_n 2, 1) := by decide +kernel
theorem dX10_changeAt_30 : decode cX10_changeAt 30 = .ok (.iload_n 3, 1) := by decide +kernel
theorem dX10_changeAt_31 : decode cX10_changeAt 31 = .ok (.invokevirtual 124, 3) := by decide +kernel
theorem dX10_changeAt_34 : decode cX10_changeAt 34 = .ok (.ireturn, 1) := by decide +kernel
theorem dX10_head_0 : decode cX10_head 0 = .ok (.aload_n 0, 1) := by decide +kernel
theorem dX10_head_1 : decode cX10_head 1 = .ok (.iload_n 1, 1) := by decide +kernel
theorem dX10_head_2 : decode cX10_head 2 = .ok (.invokevirtual 100, 3) := by decide +kernel
theorem dX10_head_5 : decode cX10_head 5 = .ok (.astore_n 3, 1) := by decide +kernel
theorem dX10_head_6 : decode cX10_head 6 = .ok (.iload_n 2, 1) := by decide +kernel
theorem dX10_head_7 : decode cX10_head 7 = .ok (.iconst 0, 1) := by decide +kernel
theorem dX10_head_8 : decode cX10_head 8 = .ok (.iconst 2, 1) := by decide +kernel
theorem dX10_head_9 : decode cX10_head 9 = .ok (.invokestatic 67, 3) := by decide +kernel
theorem dX10_head_12 : decode cX10_head 12 = .ok (.aload_n 3, 1) := by decide +kernel
theorem dX10_head_13 : decode cX10_head 13 = .ok (.aload_n 3, 1) := by decide +kernel
theorem dX10_head_14 : decode cX10_head 14 = .ok (.getfield 104, 3) := by decide +kernel
theorem dX10_head_17 : decode cX10_head 17 = .ok (.invokestatic 147, 3) := by decide +kernel
theorem dX10_head_20 : decode cX10_head 20 = .ok (.iload_n 2, 1) := by decide +kernel
theorem dX10_head_21 : decode cX10_head 21 = .ok (.invokevirtual 150, 3) := by decide +kernel
theorem dX10_head_24 : decode cX10_head 24 = .ok (.aload_n 3, 1) := by decide +kernel
theorem dX10_head_25 : decode cX10_head 25 = .ok (.getfield 104, 3) := by decide +kernel
theorem dX10_head_28 : decode cX10_head 28 = .ok (.invokestatic 153, 3) := by decide +kernel
theorem dX10_head_31 : decode cX10_head 31 = .ok (.ireturn, 1) := by decide +kernel
theorem dX10_course_0 : decode cX10_course 0 = .ok (.aload_n 0, 1) := by decide +kernel
theorem dX10_course_1 : decode cX10_course 1 = .ok (.iload_n 1, 1) := by decide +kernel
theorem dX10_course_2 : decode cX10_course 2 = .ok (.invokevirtual 100, 3) := by decide +kernel
theorem dX10_course_5 : decode cX10_course 5 = .ok (.invokevirtual 156, 3) := by decide +kernel
theorem dX10_course_8 : decode cX10_course 8 = .ok (.ireturn, 1) := by decide +kernel
theorem dX10_isFalse_0 : decode cX10_isFalse 0 = .ok (.aload_n 0, 1) := by decide +kernel
theorem dX10_isFalse_1 : decode cX10_isFalse 1 = .ok (.iload_n 1, 1) := by decide +kernel
theorem dX10_isFalse_2 : decode cX10_isFalse 2 = .ok (.invokevirtual 100, 3) := by decide +kernel
theorem dX10_isFalse_5 : decode cX10_isFalse 5 = .ok (.astore_n 3, 1) := by decide +kernel
theorem dX10_isFalse_6 : decode cX10_isFalse 6 = .ok (.iload_n 2, 1) := by decide +kernel
theorem dX10_isFalse_7 : decode cX10_isFalse 7 = .ok (.aload_n 3, 1) := by decide +kernel
theorem dX10_isFalse_8 : decode cX10_isFalse 8 = .ok (.getfield 104, 3) := by decide +kernel
theorem dX10_isFalse_11 : decode cX10_isFalse 11 = .ok (.invokestatic 159, 3) := by decide +kernel
theorem dX10_isFalse_14 : decode cX10_isFalse 14 = .ok (.invokestatic 162, 3) := by decide +kernel
theorem dX10_isFalse_17 : decode cX10_isFalse 17 = .ok (.aload_n 3, 1) := by decide +kernel
theorem dX10_isFalse_18 : decode cX10_isFalse 18 = .ok (.iload_n 2, 1) := by decide +kernel
theorem dX10_isFalse_19 : decode cX10_isFalse 19 = .ok (.invokevirtual 165, 3) := by decide +kernel
theorem dX10_isFalse_22 : decode cX10_isFalse 22 = .ok (.ireturn, 1) := by decide +kernel
theorem dX10_falseRows_0 : decode cX10_falseRows 0 = .ok (.aload_n 0, 1) := by decide +kernel
theorem dX10_falseRows_1 : decode cX10_falseRows 1 = .ok (.iload_n 1, 1) := by decide +kernel
theorem dX10_falseRows_2 : decode cX10_falseRows 2 = .ok (.invokevirtual 100, 3) := by decide +kernel
theorem dX10_falseRows_5 : decode cX10_falseRows 5 = .ok (.getfield 168, 3) := by decide +kernel
theorem dX10_falseRows_8 : decode cX10_falseRows 8 = .ok (.ireturn, 1) := by decide +kernel
theorem dX10_lead_0 : decode cX10_lead 0 = .ok (.aload_n 0, 1) := by decide +kernel
theorem dX10_lead_1 : decode cX10_lead 1 = .ok (.iload_n 1, 1) := by decide +kernel
theorem dX10_lead_2 : decode cX10_lead 2 = .ok (.invokevirtual 100, 3) := by decide +kernel
theorem dX10_lead_5 : decode cX10_lead 5 = .ok (.astore_n 3, 1) := by decide +kernel
theorem dX10_lead_6 : decode cX10_lead 6 = .ok (.iload_n 2, 1) := by decide +kernel
theorem dX10_lead_7 : decode cX10_lead 7 = .ok (.iconst 0, 1) := by decide +kernel
theorem dX10_lead_8 : decode cX10_lead 8 = .ok (.iconst 2, 1) := by decide +kernel
theorem dX10_lead_9 : decode cX10_lead 9 = .ok (.invokestatic 67, 3) := by decide +kernel
theorem dX10_lead_12 : decode cX10_lead 12 = .ok (.aload_n 0, 1) := by decide +kernel
theorem dX10_lead_13 : decode cX10_lead 13 = .ok (.getfield 42, 3) := by decide +kernel
theorem dX10_lead_16 : decode cX10_lead 16 = .ok (.aload_n 3, 1) := by decide +kernel
theorem dX10_lead_17 : decode cX10_lead 17 = .ok (.invokevirtual 171, 3) := by decide +kernel
theorem dX10_lead_20 : decode cX10_lead 20 = .ok (.ifCond .ne 13, 3) := by decide +kernel
theorem dX10_lead_23 : decode cX10_lead 23 = .ok (.new 74, 3) := by decide +kernel
theorem dX10_lead_26 : decode cX10_lead 26 = .ok (.dup, 1) := by decide +kernel
theorem dX10_lead_27 : decode cX10_lead 27 = .ok (.ldc 175, 2) := by decide +kernel
theorem dX10_lead_29 : decode cX10_lead 29 = .ok (.invokespecial 78, 3) := by decide +kernel
theorem dX10_lead_32 : decode cX10_lead 32 = .ok (.athrow, 1) := by decide +kernel
theorem dX10_lead_33 : decode cX10_lead 33 = .ok (.aload_n 0, 1) := by decide +kernel
theorem dX10_lead_34 : decode cX10_lead 34 = .ok (.getfield 42, 3) := by decide +kernel
theorem dX10_lead_37 : decode cX10_lead 37 = .ok (.aload_n 3, 1) := by decide +kernel
theorem dX10_lead_38 : decode cX10_lead 38 = .ok (.iload_n 2, 1) := by decide +kernel
theorem dX10_lead_39 : decode cX10_lead 39 = .ok (.invokevirtual 177, 3) := by decide +kernel
theorem dX10_lead_42 : decode cX10_lead 42 = .ok (.aload_n 0, 1) := by decide +kernel
theorem dX10_lead_43 : decode cX10_lead 43 = .ok (.getfield 42, 3) := by decide +kernel
theorem dX10_lead_46 : decode cX10_lead 46 = .ok (.invokevirtual 181, 3) := by decide +kernel
theorem dX10_lead_49 : decode cX10_lead 49 = .ok (.ireturn, 1) := by decide +kernel
theorem dX10_dropLeads_0 : decode cX10_dropLeads 0 = .ok (.aload_n 0, 1) := by decide +kernel
theorem dX10_dropLeads_1 : decode cX10_dropLeads 1 = .ok (.getfield 42, 3) := by decide +kernel
theorem dX10_dropLeads_4 : decode cX10_dropLeads 4 = .ok (.invokevirtual 181, 3) := by decide +kernel
theorem dX10_dropLeads_7 : decode cX10_dropLeads 7 = .ok (.istore_n 1, 1) := by decide +kernel
theorem dX10_dropLeads_8 : decode cX10_dropLeads 8 = .ok (.aload_n 0, 1) := by decide +kernel
theorem dX10_dropLeads_9 : decode cX10_dropLeads 9 = .ok (.getfield 42, 3) := by decide +kernel
theorem dX10_dropLeads_12 : decode cX10_dropLeads 12 = .ok (.invokevirtual 184, 3) := by decide +kernel
theorem dX10_dropLeads_15 : decode cX10_dropLeads 15 = .ok (.iload_n 1, 1) := by decide +kernel
theorem dX10_dropLeads_16 : decode cX10_dropLeads 16 = .ok (.ireturn, 1) := by decide +kernel
theorem dX10_touch_0 : decode cX10_touch 0 = .ok (.aload_n 0, 1) := by decide +kernel
theorem dX10_touch_1 : decode cX10_touch 1 = .ok (.getfield 42, 3) := by decide +kernel
theorem dX10_touch_4 : decode cX10_touch 4 = .ok (.invokevirtual 181, 3) := by decide +kernel
theorem dX10_touch_7 : decode cX10_touch 7 = .ok (.ifCond .ne 13, 3) := by decide +kernel
theorem dX10_touch_10 : decode cX10_touch 10 = .ok (.new 74, 3) := by decide +kernel
theorem dX10_touch_13 : decode cX10_touch 13 = .ok (.dup, 1) := by decide +kernel
theorem dX10_touch_14 : decode cX10_touch 14 = .ok (.ldc 187, 2) := by decide +kernel
theorem dX10_touch_16 : decode cX10_touch 16 = .ok (.invokespecial 78, 3) := by decide +kernel
theorem dX10_touch_19 : decode cX10_touch 19 = .ok (.athrow, 1) := by decide +kernel
theorem dX10_touch_20 : decode cX10_touch 20 = .ok (.aload_n 0, 1) := by decide +kernel
theorem dX10_touch_21 : decode cX10_touch 21 = .ok (.invokevirtual 189, 3) := by decide +kernel
theorem dX10_touch_24 : decode cX10_touch 24 = .ok (.aload_n 0, 1) := by decide +kernel
theorem dX10_touch_25 : decode cX10_touch 25 = .ok (.getfield 42, 3) := by decide +kernel
theorem dX10_touch_28 : decode cX10_touch 28 = .ok (.iconst 0, 1) := by decide +kernel
theorem dX10_touch_29 : decode cX10_touch 29 = .ok (.aload_n 0, 1) := by decide +kernel
theorem dX10_touch_30 : decode cX10_touch 30 = .ok (.getfield 26, 3) := by decide +kernel
theorem dX10_touch_33 : decode cX10_touch 33 = .ok (.invokevirtual 192, 3) := by decide +kernel
theorem dX10_touch_36 : decode cX10_touch 36 = .ok (.aload_n 0, 1) := by decide +kernel
theorem dX10_touch_37 : decode cX10_touch 37 = .ok (.aload_n 0, 1) := by decide +kernel
theorem dX10_touch_38 : decode cX10_touch 38 = .ok (.getfield 42, 3) := by decide +kernel
theorem dX10_touch_41 : decode cX10_touch 41 = .ok (.invokevirtual 196, 3) := by decide +kernel
theorem dX10_touch_44 : decode cX10_touch 44 = .ok (.istore_n 1, 1) := by decide +kernel
theorem dX10_touch_45 : decode cX10_touch 45 = .ok (.aload_n 0, 1) := by decide +kernel
theorem dX10_touch_46 : decode cX10_touch 46 = .ok (.new 39, 3) := by decide +kernel
theorem dX10_touch_49 : decode cX10_touch 49 = .ok (.dup, 1) := by decide +kernel
theorem dX10_touch_50 : decode cX10_touch 50 = .ok (.invokespecial 41, 3) := by decide +kernel
theorem dX10_touch_53 : decode cX10_touch 53 = .ok (.putfield 42, 3) := by decide +kernel
theorem dX10_touch_56 : decode cX10_touch 56 = .ok (.iload_n 1, 1) := by decide +kernel
theorem dX10_touch_57 : decode cX10_touch 57 = .ok (.ireturn, 1) := by decide +kernel
theorem dX10_compose_0 : decode cX10_compose 0 = .ok (.aload_n 0, 1) := by decide +kernel
theorem dX10_compose_1 : decode cX10_compose 1 = .ok (.iload_n 1, 1) := by decide +kernel
theorem dX10_compose_2 : decode cX10_compose 2 = .ok (.invokevirtual 100, 3) := by decide +kernel
theorem dX10_compose_5 : decode cX10_compose 5 = .ok (.astore_n 3, 1) := by decide +kernel
theorem dX10_compose_6 : decode cX10_compose 6 = .ok (.iload_n 2, 1) := by decide +kernel
theorem dX10_compose_7 : decode cX10_compose 7 = .ok (.iconst 1, 1) := by decide +kernel
theorem dX10_compose_8 : decode cX10_compose 8 = .ok (.bipush 6, 2) := by decide +kernel
theorem dX10_compose_10 : decode cX10_compose 10 = .ok (.invokestatic 67, 3) := by decide +kernel
theorem dX10_compose_13 : decode cX10_compose 13 = .ok (.aload_n 0, 1) := by decide +kernel
theorem dX10_compose_14 : decode cX10_compose 14 = .ok (.invokevirtual 189, 3) := by decide +kernel
theorem dX10_compose_17 : decode cX10_compose 17 = .ok (.aload_n 0, 1) := by decide +kernel
theorem dX10_compose_18 : decode cX10_compose 18 = .ok (.getfield 35, 3) := by decide +kernel
theorem dX10_compose_21 : decode cX10_compose 21 = .ok (.aload_n 3, 1) := by decide +kernel
theorem dX10_compose_22 : decode cX10_compose 22 = .ok (.iload_n 2, 1) := by decide +kernel
theorem dX10_compose_23 : decode cX10_compose 23 = .ok (.invokevirtual 200, 3) := by decide +kernel
theorem dX10_compose_26 : decode cX10_compose 26 = .ok (.astore 4, 2) := by decide +kernel
theorem dX10_compose_28 : decode cX10_compose 28 = .ok (.aload 4, 2) := by decide +kernel
theorem dX10_compose_30 : decode cX10_compose 30 = .ok (.ifnonnull 7, 3) := by decide +kernel
theorem dX10_compose_33 : decode cX10_compose 33 = .ok (.iconst (-1), 1) := by decide +kernel
theorem dX10_compose_34 : decode cX10_compose 34 = .ok (.goto 9, 3) := by decide +kernel
theorem dX10_compose_37 : decode cX10_compose 37 = .ok (.aload_n 0, 1) := by decide +kernel
theorem dX10_compose_38 : decode cX10_compose 38 = .ok (.aload 4, 2) := by decide +kernel
theorem dX10_compose_40 : decode cX10_compose 40 = .ok (.invokevirtual 196, 3) := by decide +kernel
theorem dX10_compose_43 : decode cX10_compose 43 = .ok (.ireturn, 1) := by decide +kernel
theorem dX10_touches_0 : decode cX10_touches 0 = .ok (.aload_n 0, 1) := by decide +kernel
theorem dX10_touches_1 : decode cX10_touches 1 = .ok (.getfield 20, 3) := by decide +kernel
theorem dX10_touches_4 : decode cX10_touches 4 = .ok (.invokevirtual 81, 3) := by decide +kernel
theorem dX10_touches_7 : decode cX10_touches 7 = .ok (.ireturn, 1) := by decide +kernel
theorem dX10_leads_0 : decode cX10_leads 0 = .ok (.aload_n 0, 1) := by decide +kernel
theorem dX10_leads_1 : decode cX10_leads 1 = .ok (.iload_n 1, 1) := by decide +kernel
theorem dX10_leads_2 : decode cX10_leads 2 = .ok (.invokevirtual 204, 3) := by decide +kernel
theorem dX10_leads_5 : decode cX10_leads 5 = .ok (.invokevirtual 181, 3) := by decide +kernel
theorem dX10_leads_8 : decode cX10_leads 8 = .ok (.ireturn, 1) := by decide +kernel
theorem dX10_leadAt_0 : decode cX10_leadAt 0 = .ok (.aload_n 0, 1) := by decide +kernel
theorem dX10_leadAt_1 : decode cX10_leadAt 1 = .ok (.iload_n 1, 1) := by decide +kernel
theorem dX10_leadAt_2 : decode cX10_leadAt 2 = .ok (.invokevirtual 204, 3) := by decide +kernel
theorem dX10_leadAt_5 : decode cX10_leadAt 5 = .ok (.astore_n 3, 1) := by decide +kernel
theorem dX10_leadAt_6 : decode cX10_leadAt 6 = .ok (.iload_n 2, 1) := by decide +kernel
theorem dX10_leadAt_7 : decode cX10_leadAt 7 = .ok (.aload_n 3, 1) := by decide +kernel
theorem dX10_leadAt_8 : decode cX10_leadAt 8 = .ok (.invokevirtual 181, 3) := by decide +kernel
theorem dX10_leadAt_11 : decode cX10_leadAt 11 = .ok (.invokestatic 162, 3) := by decide +kernel
theorem dX10_leadAt_14 : decode cX10_leadAt 14 = .ok (.bipush 10, 2) := by decide +kernel
theorem dX10_leadAt_16 : decode cX10_leadAt 16 = .ok (.aload_n 3, 1) := by decide +kernel
theorem dX10_leadAt_17 : decode cX10_leadAt 17 = .ok (.getfield 208, 3) := by decide +kernel
theorem dX10_leadAt_20 : decode cX10_leadAt 20 = .ok (.iload_n 2, 1) := by decide +kernel
theorem dX10_leadAt_21 : decode cX10_leadAt 21 = .ok (.invokevirtual 211, 3) := by decide +kernel
theorem dX10_leadAt_24 : decode cX10_leadAt 24 = .ok (.checkcast 91, 3) := by decide +kernel
theorem dX10_leadAt_27 : decode cX10_leadAt 27 = .ok (.getfield 215, 3) := by decide +kernel
theorem dX10_leadAt_30 : decode cX10_leadAt 30 = .ok (.imul, 1) := by decide +kernel
theorem dX10_leadAt_31 : decode cX10_leadAt 31 = .ok (.aload_n 3, 1) := by decide +kernel
theorem dX10_leadAt_32 : decode cX10_leadAt 32 = .ok (.getfield 217, 3) := by decide +kernel
theorem dX10_leadAt_35 : decode cX10_leadAt 35 = .ok (.iload_n 2, 1) := by decide +kernel
theorem dX10_leadAt_36 : decode cX10_leadAt 36 = .ok (.iaload, 1) := by decide +kernel
theorem dX10_leadAt_37 : decode cX10_leadAt 37 = .ok (.iadd, 1) := by decide +kernel
theorem dX10_leadAt_38 : decode cX10_leadAt 38 = .ok (.ireturn, 1) := by decide +kernel
theorem dX10_rows_0 : decode cX10_rows 0 = .ok (.aload_n 0, 1) := by decide +kernel
theorem dX10_rows_1 : decode cX10_rows 1 = .ok (.iload_n 1, 1) := by decide +kernel
theorem dX10_rows_2 : decode cX10_rows 2 = .ok (.invokevirtual 204, 3) := by decide +kernel
theorem dX10_rows_5 : decode cX10_rows 5 = .ok (.getfield 220, 3) := by decide +kernel
theorem dX10_rows_8 : decode cX10_rows 8 = .ok (.ireturn, 1) := by decide +kernel
theorem dX10_rowAt_0 : decode cX10_rowAt 0 = .ok (.aload_n 0, 1) := by decide +kernel
theorem dX10_rowAt_1 : decode cX10_rowAt 1 = .ok (.iload_n 1, 1) := by decide +kernel
theorem dX10_rowAt_2 : decode cX10_rowAt 2 = .ok (.invokevirtual 204, 3) := by decide +kernel
theorem dX10_rowAt_5 : decode cX10_rowAt 5 = .ok (.astore_n 3, 1) := by decide +kernel
theorem dX10_rowAt_6 : decode cX10_rowAt 6 = .ok (.iload_n 2, 1) := by decide +kernel
theorem dX10_rowAt_7 : decode cX10_rowAt 7 = .ok (.aload_n 3, 1) := by decide +kernel
theorem dX10_rowAt_8 : decode cX10_rowAt 8 = .ok (.getfield 220, 3) := by decide +kernel
theorem dX10_rowAt_11 : decode cX10_rowAt 11 = .ok (.invokestatic 162, 3) := by decide +kernel
theorem dX10_rowAt_14 : decode cX10_rowAt 14 = .ok (.aload_n 3, 1) := by decide +kernel
theorem dX10_rowAt_15 : decode cX10_rowAt 15 = .ok (.getfield 223, 3) := by decide +kernel
theorem dX10_rowAt_18 : decode cX10_rowAt 18 = .ok (.iload_n 2, 1) := by decide +kernel
theorem dX10_rowAt_19 : decode cX10_rowAt 19 = .ok (.iaload, 1) := by decide +kernel
theorem dX10_rowAt_20 : decode cX10_rowAt 20 = .ok (.aload_n 3, 1) := by decide +kernel
theorem dX10_rowAt_21 : decode cX10_rowAt 21 = .ok (.getfield 226, 3) := by decide +kernel
theorem dX10_rowAt_24 : decode cX10_rowAt 24 = .ok (.invokestatic 153, 3) := by decide +kernel
theorem dX10_rowAt_27 : decode cX10_rowAt 27 = .ok (.ireturn, 1) := by decide +kernel
theorem dX10_bellAt_0 : decode cX10_bellAt 0 = .ok (.aload_n 0, 1) := by decide +kernel
theorem dX10_bellAt_1 : decode cX10_bellAt 1 = .ok (.iload_n 1, 1) := by decide +kernel
theorem dX10_bellAt_2 : decode cX10_bellAt 2 = .ok (.invokevirtual 204, 3) := by decide +kernel
theorem dX10_bellAt_5 : decode cX10_bellAt 5 = .ok (.astore 4, 2) := by decide +kernel
theorem dX10_bellAt_7 : decode cX10_bellAt 7 = .ok (.iload_n 2, 1) := by decide +kernel
theorem dX10_bellAt_8 : decode cX10_bellAt 8 = .ok (.aload 4, 2) := by decide +kernel
theorem dX10_bellAt_10 : decode cX10_bellAt 10 = .ok (.getfield 220, 3) := by decide +kernel
theorem dX10_bellAt_13 : decode cX10_bellAt 13 = .ok (.invokestatic 162, 3) := by decide +kernel
theorem dX10_bellAt_16 : decode cX10_bellAt 16 = .ok (.iload_n 3, 1) := by decide +kernel
theorem dX10_bellAt_17 : decode cX10_bellAt 17 = .ok (.aload 4, 2) := by decide +kernel
theorem dX10_bellAt_19 : decode cX10_bellAt 19 = .ok (.getfield 226, 3) := by decide +kernel
theorem dX10_bellAt_22 : decode cX10_bellAt 22 = .ok (.invokestatic 162, 3) := by decide +kernel
theorem dX10_bellAt_25 : decode cX10_bellAt 25 = .ok (.aload 4, 2) := by decide +kernel
theorem dX10_bellAt_27 : decode cX10_bellAt 27 = .ok (.iload_n 2, 1) := by decide +kernel
theorem dX10_bellAt_28 : decode cX10_bellAt 28 = .ok (.invokevirtual 227, 3) := by decide +kernel
theorem dX10_bellAt_31 : decode cX10_bellAt 31 = .ok (.iload_n 3, 1) := by decide +kernel
theorem dX10_bellAt_32 : decode cX10_bellAt 32 = .ok (.invokestatic 230, 3) := by decide +kernel
theorem dX10_bellAt_35 : decode cX10_bellAt 35 = .ok (.ireturn, 1) := by decide +kernel
theorem dX10_isTrue_0 : decode cX10_isTrue 0 = .ok (.aload_n 0, 1) := by decide +kernel
theorem dX10_isTrue_1 : decode cX10_isTrue 1 = .ok (.iload_n 1, 1) := by decide +kernel
theorem dX10_isTrue_2 : decode cX10_isTrue 2 = .ok (.invokevirtual 204, 3) := by decide +kernel
theorem dX10_isTrue_5 : decode cX10_isTrue 5 = .ok (.getfield 233, 3) := by decide +kernel
theorem dX10_isTrue_8 : decode cX10_isTrue 8 = .ok (.iconst (-1), 1) := by decide +kernel
theorem dX10_isTrue_9 : decode cX10_isTrue 9 = .ok (.if_icmp .ne 7, 3) := by decide +kernel
theorem dX10_isTrue_12 : decode cX10_isTrue 12 = .ok (.iconst 1, 1) := by decide +kernel
theorem dX10_isTrue_13 : decode cX10_isTrue 13 = .ok (.goto 4, 3) := by decide +kernel
theorem dX10_isTrue_16 : decode cX10_isTrue 16 = .ok (.iconst 0, 1) := by decide +kernel
theorem dX10_isTrue_17 : decode cX10_isTrue 17 = .ok (.ireturn, 1) := by decide +kernel
theorem dX10_comesRound_0 : decode cX10_comesRound 0 = .ok (.aload_n 0, 1) := by decide +kernel
theorem dX10_comesRound_1 : decode cX10_comesRound 1 = .ok (.iload_n 1, 1) := by decide +kernel
theorem dX10_comesRound_2 : decode cX10_comesRound 2 = .ok (.invokevirtual 204, 3) := by decide +kernel
theorem dX10_comesRound_5 : decode cX10_comesRound 5 = .ok (.getfield 236, 3) := by decide +kernel
theorem dX10_comesRound_8 : decode cX10_comesRound 8 = .ok (.ireturn, 1) := by decide +kernel
theorem dX10_firstRepeat_0 : decode cX10_firstRepeat 0 = .ok (.aload_n 0, 1) := by decide +kernel
theorem dX10_firstRepeat_1 : decode cX10_firstRepeat 1 = .ok (.iload_n 1, 1) := by decide +kernel
theorem dX10_firstRepeat_2 : decode cX10_firstRepeat 2 = .ok (.invokevirtual 204, 3) := by decide +kernel
theorem dX10_firstRepeat_5 : decode cX10_firstRepeat 5 = .ok (.getfield 233, 3) := by decide +kernel
theorem dX10_firstRepeat_8 : decode cX10_firstRepeat 8 = .ok (.ireturn, 1) := by decide +kernel
theorem dX10_takeOut_0 : decode cX10_takeOut 0 = .ok (.aload_n 0, 1) := by decide +kernel
theorem dX10_takeOut_1 : decode cX10_takeOut 1 = .ok (.iload_n 1, 1) := by decide +kernel
theorem dX10_takeOut_2 : decode cX10_takeOut 2 = .ok (.invokevirtual 240, 3) := by decide +kernel
theorem dX10_takeOut_5 : decode cX10_takeOut 5 = .ok (.astore_n 2, 1) := by decide +kernel
theorem dX10_takeOut_6 : decode cX10_takeOut 6 = .ok (.aload_n 2, 1) := by decide +kernel
theorem dX10_takeOut_7 : decode cX10_takeOut 7 = .ok (.getfield 244, 3) := by decide +kernel
theorem dX10_takeOut_10 : decode cX10_takeOut 10 = .ok (.ifCond .eq 13, 3) := by decide +kernel
theorem dX10_takeOut_13 : decode cX10_takeOut 13 = .ok (.new 74, 3) := by decide +kernel
theorem dX10_takeOut_16 : decode cX10_takeOut 16 = .ok (.dup, 1) := by decide +kernel
theorem dX10_takeOut_17 : decode cX10_takeOut 17 = .ok (.ldc 249, 2) := by decide +kernel
theorem dX10_takeOut_19 : decode cX10_takeOut 19 = .ok (.invokespecial 78, 3) := by decide +kernel
theorem dX10_takeOut_22 : decode cX10_takeOut 22 = .ok (.athrow, 1) := by decide +kernel
theorem dX10_takeOut_23 : decode cX10_takeOut 23 = .ok (.aload_n 0, 1) := by decide +kernel
theorem dX10_takeOut_24 : decode cX10_takeOut 24 = .ok (.invokevirtual 118, 3) := by decide +kernel
theorem dX10_takeOut_27 : decode cX10_takeOut 27 = .ok (.aload_n 2, 1) := by decide +kernel
theorem dX10_takeOut_28 : decode cX10_takeOut 28 = .ok (.iconst 1, 1) := by decide +kernel
theorem dX10_takeOut_29 : decode cX10_takeOut 29 = .ok (.putfield 244, 3) := by decide +kernel
theorem dX10_takeOut_32 : decode cX10_takeOut 32 = .ok (.aload_n 0, 1) := by decide +kernel
theorem dX10_takeOut_33 : decode cX10_takeOut 33 = .ok (.getfield 56, 3) := by decide +kernel
theorem dX10_takeOut_36 : decode cX10_takeOut 36 = .ok (.aload_n 0, 1) := by decide +kernel
theorem dX10_takeOut_37 : decode cX10_takeOut 37 = .ok (.getfield 49, 3) := by decide +kernel
theorem dX10_takeOut_40 : decode cX10_takeOut 40 = .ok (.invokevirtual 135, 3) := by decide +kernel
theorem dX10_takeOut_43 : decode cX10_takeOut 43 = .ok (.invokevirtual 138, 3) := by decide +kernel
theorem dX10_takeOut_46 : decode cX10_takeOut 46 = .ok (.ireturn, 1) := by decide +kernel
theorem dX10_bringIn_0 : decode cX10_bringIn 0 = .ok (.aload_n 0, 1) := by decide +kernel
theorem dX10_bringIn_1 : decode cX10_bringIn 1 = .ok (.iload_n 1, 1) := by decide +kernel
theorem dX10_bringIn_2 : decode cX10_bringIn 2 = .ok (.invokevirtual 240, 3) := by decide +kernel
theorem dX10_bringIn_5 : decode cX10_bringIn 5 = .ok (.astore_n 2, 1) := by decide +kernel
theorem dX10_bringIn_6 : decode cX10_bringIn 6 = .ok (.aload_n 2, 1) := by decide +kernel
theorem dX10_bringIn_7 : decode cX10_bringIn 7 = .ok (.getfield 244, 3) := by decide +kernel
theorem dX10_bringIn_10 : decode cX10_bringIn 10 = .ok (.ifCond .ne 13, 3) := by decide +kernel
theorem dX10_bringIn_13 : decode cX10_bringIn 13 = .ok (.new 74, 3) := by decide +kernel
theorem dX10_bringIn_16 : decode cX10_bringIn 16 = .ok (.dup, 1) := by decide +kernel
theorem dX10_bringIn_17 : decode cX10_bringIn 17 = .ok (.ldc 251, 2) := by decide +kernel
theorem dX10_bringIn_19 : decode cX10_bringIn 19 = .ok (.invokespecial 78, 3) := by decide +kernel
theorem dX10_bringIn_22 : decode cX10_bringIn 22 = .ok (.athrow, 1) := by decide +kernel
theorem dX10_bringIn_23 : decode cX10_bringIn 23 = .ok (.aload_n 2, 1) := by decide +kernel
theorem dX10_bringIn_24 : decode cX10_bringIn 24 = .ok (.iconst 0, 1) := by decide +kernel
theorem dX10_bringIn_25 : decode cX10_bringIn 25 = .ok (.putfield 244, 3) := by decide +kernel
theorem dX10_bringIn_28 : decode cX10_bringIn 28 = .ok (.aload_n 2, 1) := by decide +kernel
theorem dX10_bringIn_29 : decode cX10_bringIn 29 = .ok (.invokevirtual 253, 3) := by decide +kernel
theorem dX10_bringIn_32 : decode cX10_bringIn 32 = .ok (.ireturn, 1) := by decide +kernel
theorem dX10_mend_0 : decode cX10_mend 0 = .ok (.aload_n 0, 1) := by decide +kernel
theorem dX10_mend_1 : decode cX10_mend 1 = .ok (.iload_n 1, 1) := by decide +kernel
theorem dX10_mend_2 : decode cX10_mend 2 = .ok (.invokevirtual 240, 3) := by decide +kernel
theorem dX10_mend_5 : decode cX10_mend 5 = .ok (.astore_n 3, 1) := by decide +kernel
theorem dX10_mend_6 : decode cX10_mend 6 = .ok (.iload_n 2, 1) := by decide +kernel
theorem dX10_mend_7 : decode cX10_mend 7 = .ok (.iconst 0, 1) := by decide +kernel
theorem dX10_mend_8 : decode cX10_mend 8 = .ok (.iconst 1, 1) := by decide +kernel
theorem dX10_mend_9 : decode cX10_mend 9 = .ok (.invokestatic 67, 3) := by decide +kernel
theorem dX10_mend_12 : decode cX10_mend 12 = .ok (.aload_n 0, 1) := by decide +kernel
theorem dX10_mend_13 : decode cX10_mend 13 = .ok (.invokevirtual 118, 3) := by decide +kernel
theorem dX10_mend_16 : decode cX10_mend 16 = .ok (.aload_n 3, 1) := by decide +kernel
theorem dX10_mend_17 : decode cX10_mend 17 = .ok (.iload_n 2, 1) := by decide +kernel
theorem dX10_mend_18 : decode cX10_mend 18 = .ok (.invokevirtual 257, 3) := by decide +kernel
theorem dX10_mend_21 : decode cX10_mend 21 = .ok (.ireturn, 1) := by decide +kernel
theorem dX10_wear_0 : decode cX10_wear 0 = .ok (.aload_n 0, 1) := by decide +kernel
theorem dX10_wear_1 : decode cX10_wear 1 = .ok (.iload_n 1, 1) := by decide +kernel
theorem dX10_wear_2 : decode cX10_wear 2 = .ok (.invokevirtual 240, 3) := by decide +kernel
theorem dX10_wear_5 : decode cX10_wear 5 = .ok (.astore_n 3, 1) := by decide +kernel
theorem dX10_wear_6 : decode cX10_wear 6 = .ok (.iload_n 2, 1) := by decide +kernel
theorem dX10_wear_7 : decode cX10_wear 7 = .ok (.iconst 0, 1) := by decide +kernel
theorem dX10_wear_8 : decode cX10_wear 8 = .ok (.iconst 1, 1) := by decide +kernel
theorem dX10_wear_9 : decode cX10_wear 9 = .ok (.invokestatic 67, 3) := by decide +kernel
theorem dX10_wear_12 : decode cX10_wear 12 = .ok (.aload_n 3, 1) := by decide +kernel
theorem dX10_wear_13 : decode cX10_wear 13 = .ok (.getfield 260, 3) := by decide +kernel
theorem dX10_wear_16 : decode cX10_wear 16 = .ok (.iload_n 2, 1) := by decide +kernel
theorem dX10_wear_17 : decode cX10_wear 17 = .ok (.iaload, 1) := by decide +kernel
theorem dX10_wear_18 : decode cX10_wear 18 = .ok (.ireturn, 1) := by decide +kernel
theorem dX10_isIn_0 : decode cX10_isIn 0 = .ok (.aload_n 0, 1) := by decide +kernel
theorem dX10_isIn_1 : decode cX10_isIn 1 = .ok (.iload_n 1, 1) := by decide +kernel
theorem dX10_isIn_2 : decode cX10_isIn 2 = .ok (.invokevirtual 240, 3) := by decide +kernel
theorem dX10_isIn_5 : decode cX10_isIn 5 = .ok (.invokevirtual 253, 3) := by decide +kernel
theorem dX10_isIn_8 : decode cX10_isIn 8 = .ok (.ireturn, 1) := by decide +kernel
theorem dX10_setBand_0 : decode cX10_setBand 0 = .ok (.iload_n 1, 1) := by decide +kernel
theorem dX10_setBand_1 : decode cX10_setBand 1 = .ok (.iconst 4, 1) := by decide +kernel
theorem dX10_setBand_2 : decode cX10_setBand 2 = .ok (.invokestatic 162, 3) := by decide +kernel
theorem dX10_setBand_5 : decode cX10_setBand 5 = .ok (.iload_n 2, 1) := by decide +kernel
theorem dX10_setBand_6 : decode cX10_setBand 6 = .ok (.iconst 4, 1) := by decide +kernel
theorem dX10_setBand_7 : decode cX10_setBand 7 = .ok (.bipush 6, 2) := by decide +kernel
theorem dX10_setBand_9 : decode cX10_setBand 9 = .ok (.invokestatic 67, 3) := by decide +kernel
theorem dX10_setBand_12 : decode cX10_setBand 12 = .ok (.aload_n 0, 1) := by decide +kernel
theorem dX10_setBand_13 : decode cX10_setBand 13 = .ok (.getfield 56, 3) := by decide +kernel
theorem dX10_setBand_16 : decode cX10_setBand 16 = .ok (.getfield 263, 3) := by decide +kernel
theorem dX10_setBand_19 : decode cX10_setBand 19 = .ok (.iload_n 1, 1) := by decide +kernel
theorem dX10_setBand_20 : decode cX10_setBand 20 = .ok (.iaload, 1) := by decide +kernel
theorem dX10_setBand_21 : decode cX10_setBand 21 = .ok (.istore_n 3, 1) := by decide +kernel
theorem dX10_setBand_22 : decode cX10_setBand 22 = .ok (.aload_n 0, 1) := by decide +kernel
theorem dX10_setBand_23 : decode cX10_setBand 23 = .ok (.getfield 56, 3) := by decide +kernel
theorem dX10_setBand_26 : decode cX10_setBand 26 = .ok (.getfield 263, 3) := by decide +kernel
theorem dX10_setBand_29 : decode cX10_setBand 29 = .ok (.iload_n 1, 1) := by decide +kernel
theorem dX10_setBand_30 : decode cX10_setBand 30 = .ok (.iload_n 2, 1) := by decide +kernel
theorem dX10_setBand_31 : decode cX10_setBand 31 = .ok (.iastore, 1) := by decide +kernel
theorem dX10_setBand_32 : decode cX10_setBand 32 = .ok (.iload_n 3, 1) := by decide +kernel
theorem dX10_setBand_33 : decode cX10_setBand 33 = .ok (.ireturn, 1) := by decide +kernel
theorem dX10_plan_0 : decode cX10_plan 0 = .ok (.aload_n 0, 1) := by decide +kernel
theorem dX10_plan_1 : decode cX10_plan 1 = .ok (.iload_n 2, 1) := by decide +kernel
theorem dX10_plan_2 : decode cX10_plan 2 = .ok (.invokevirtual 204, 3) := by decide +kernel
theorem dX10_plan_5 : decode cX10_plan 5 = .ok (.astore_n 3, 1) := by decide +kernel
theorem dX10_plan_6 : decode cX10_plan 6 = .ok (.aload_n 0, 1) := by decide +kernel
theorem dX10_plan_7 : decode cX10_plan 7 = .ok (.iload_n 1, 1) := by decide +kernel
theorem dX10_plan_8 : decode cX10_plan 8 = .ok (.invokevirtual 266, 3) := by decide +kernel
theorem dX10_plan_11 : decode cX10_plan 11 = .ok (.astore 4, 2) := by decide +kernel
theorem dX10_plan_13 : decode cX10_plan 13 = .ok (.aload 4, 2) := by decide +kernel
theorem dX10_plan_15 : decode cX10_plan 15 = .ok (.aload_n 3, 1) := by decide +kernel
theorem dX10_plan_16 : decode cX10_plan 16 = .ok (.invokevirtual 270, 3) := by decide +kernel
theorem dX10_plan_19 : decode cX10_plan 19 = .ok (.ifCond .eq 17, 3) := by decide +kernel
theorem dX10_plan_22 : decode cX10_plan 22 = .ok (.aload_n 3, 1) := by decide +kernel
theorem dX10_plan_23 : decode cX10_plan 23 = .ok (.aload_n 0, 1) := by decide +kernel
theorem dX10_plan_24 : decode cX10_plan 24 = .ok (.getfield 49, 3) := by decide +kernel
theorem dX10_plan_27 : decode cX10_plan 27 = .ok (.invokevirtual 135, 3) := by decide +kernel
theorem dX10_plan_30 : decode cX10_plan 30 = .ok (.invokevirtual 276, 3) := by decide +kernel
theorem dX10_plan_33 : decode cX10_plan 33 = .ok (.ifCond .ne 14, 3) := by decide +kernel
theorem dX10_plan_36 : decode cX10_plan 36 = .ok (.new 74, 3) := by decide +kernel
theorem dX10_plan_39 : decode cX10_plan 39 = .ok (.dup, 1) := by decide +kernel
theorem dX10_plan_40 : decode cX10_plan 40 = .ok (.ldc_w 279, 3) := by decide +kernel
theorem dX10_plan_43 : decode cX10_plan 43 = .ok (.invokespecial 78, 3) := by decide +kernel
theorem dX10_plan_46 : decode cX10_plan 46 = .ok (.athrow, 1) := by decide +kernel
theorem dX10_plan_47 : decode cX10_plan 47 = .ok (.aload 4, 2) := by decide +kernel
theorem dX10_plan_49 : decode cX10_plan 49 = .ok (.getfield 281, 3) := by decide +kernel
theorem dX10_plan_52 : decode cX10_plan 52 = .ok (.aload_n 3, 1) := by decide +kernel
theorem dX10_plan_53 : decode cX10_plan 53 = .ok (.invokevirtual 96, 3) := by decide +kernel
theorem dX10_plan_56 : decode cX10_plan 56 = .ok (.pop, 1) := by decide +kernel
theorem dX10_plan_57 : decode cX10_plan 57 = .ok (.aload 4, 2) := by decide +kernel
theorem dX10_plan_59 : decode cX10_plan 59 = .ok (.getfield 281, 3) := by decide +kernel
theorem dX10_plan_62 : decode cX10_plan 62 = .ok (.invokevirtual 81, 3) := by decide +kernel
theorem dX10_plan_65 : decode cX10_plan 65 = .ok (.ireturn, 1) := by decide +kernel
theorem dX10_planned_0 : decode cX10_planned 0 = .ok (.aload_n 0, 1) := by decide +kernel
theorem dX10_planned_1 : decode cX10_planned 1 = .ok (.iload_n 1, 1) := by decide +kernel
theorem dX10_planned_2 : decode cX10_planned 2 = .ok (.invokevirtual 266, 3) := by decide +kernel
theorem dX10_planned_5 : decode cX10_planned 5 = .ok (.getfield 281, 3) := by decide +kernel
theorem dX10_planned_8 : decode cX10_planned 8 = .ok (.invokevirtual 81, 3) := by decide +kernel
theorem dX10_planned_11 : decode cX10_planned 11 = .ok (.ireturn, 1) := by decide +kernel
theorem dX10_plannedAt_0 : decode cX10_plannedAt 0 = .ok (.aload_n 0, 1) := by decide +kernel
theorem dX10_plannedAt_1 : decode cX10_plannedAt 1 = .ok (.iload_n 1, 1) := by decide +kernel
theorem dX10_plannedAt_2 : decode cX10_plannedAt 2 = .ok (.invokevirtual 266, 3) := by decide +kernel
theorem dX10_plannedAt_5 : decode cX10_plannedAt 5 = .ok (.astore_n 3, 1) := by decide +kernel
theorem dX10_plannedAt_6 : decode cX10_plannedAt 6 = .ok (.iload_n 2, 1) := by decide +kernel
theorem dX10_plannedAt_7 : decode cX10_plannedAt 7 = .ok (.aload_n 3, 1) := by decide +kernel
theorem dX10_plannedAt_8 : decode cX10_plannedAt 8 = .ok (.getfield 281, 3) := by decide +kernel
theorem dX10_plannedAt_11 : decode cX10_plannedAt 11 = .ok (.invokevirtual 81, 3) := by decide +kernel
theorem dX10_plannedAt_14 : decode cX10_plannedAt 14 = .ok (.invokestatic 162, 3) := by decide +kernel
theorem dX10_plannedAt_17 : decode cX10_plannedAt 17 = .ok (.aload_n 3, 1) := by decide +kernel
theorem dX10_plannedAt_18 : decode cX10_plannedAt 18 = .ok (.getfield 281, 3) := by decide +kernel
theorem dX10_plannedAt_21 : decode cX10_plannedAt 21 = .ok (.iload_n 2, 1) := by decide +kernel
theorem dX10_plannedAt_22 : decode cX10_plannedAt 22 = .ok (.invokevirtual 211, 3) := by decide +kernel
theorem dX10_plannedAt_25 : decode cX10_plannedAt 25 = .ok (.checkcast 39, 3) := by decide +kernel
theorem dX10_plannedAt_28 : decode cX10_plannedAt 28 = .ok (.getfield 284, 3) := by decide +kernel
theorem dX10_plannedAt_31 : decode cX10_plannedAt 31 = .ok (.ireturn, 1) := by decide +kernel
theorem dX10_rota_0 : decode cX10_rota 0 = .ok (.iload_n 1, 1) := by decide +kernel
theorem dX10_rota_1 : decode cX10_rota 1 = .ok (.aload_n 0, 1) := by decide +kernel
theorem dX10_rota_2 : decode cX10_rota 2 = .ok (.getfield 56, 3) := by decide +kernel
theorem dX10_rota_5 : decode cX10_rota 5 = .ok (.getfield 285, 3) := by decide +kernel
theorem dX10_rota_8 : decode cX10_rota 8 = .ok (.bipush 60, 2) := by decide +kernel
theorem dX10_rota_10 : decode cX10_rota 10 = .ok (.invokestatic 67, 3) := by decide +kernel
theorem dX10_rota_13 : decode cX10_rota 13 = .ok (.aload_n 0, 1) := by decide +kernel
theorem dX10_rota_14 : decode cX10_rota 14 = .ok (.getfield 56, 3) := by decide +kernel
theorem dX10_rota_17 : decode cX10_rota 17 = .ok (.iload_n 1, 1) := by decide +kernel
theorem dX10_rota_18 : decode cX10_rota 18 = .ok (.invokevirtual 288, 3) := by decide +kernel
theorem dX10_rota_21 : decode cX10_rota 21 = .ok (.ireturn, 1) := by decide +kernel
theorem dX10_pass_0 : decode cX10_pass 0 = .ok (.aload_n 0, 1) := by decide +kernel
theorem dX10_pass_1 : decode cX10_pass 1 = .ok (.invokevirtual 118, 3) := by decide +kernel
theorem dX10_pass_4 : decode cX10_pass 4 = .ok (.aload_n 0, 1) := by decide +kernel
theorem dX10_pass_5 : decode cX10_pass 5 = .ok (.getfield 56, 3) := by decide +kernel
theorem dX10_pass_8 : decode cX10_pass 8 = .ok (.getfield 285, 3) := by decide +kernel
theorem dX10_pass_11 : decode cX10_pass 11 = .ok (.bipush 60, 2) := by decide +kernel
theorem dX10_pass_13 : decode cX10_pass 13 = .ok (.if_icmp .lt 14, 3) := by decide +kernel
theorem dX10_pass_16 : decode cX10_pass 16 = .ok (.new 74, 3) := by decide +kernel
theorem dX10_pass_19 : decode cX10_pass 19 = .ok (.dup, 1) := by decide +kernel
theorem dX10_pass_20 : decode cX10_pass 20 = .ok (.ldc_w 291, 3) := by decide +kernel
theorem dX10_pass_23 : decode cX10_pass 23 = .ok (.invokespecial 78, 3) := by decide +kernel
theorem dX10_pass_26 : decode cX10_pass 26 = .ok (.athrow, 1) := by decide +kernel
theorem dX10_pass_27 : decode cX10_pass 27 = .ok (.aload_n 0, 1) := by decide +kernel
theorem dX10_pass_28 : decode cX10_pass 28 = .ok (.getfield 56, 3) := by decide +kernel
theorem dX10_pass_31 : decode cX10_pass 31 = .ok (.invokevirtual 293, 3) := by decide +kernel
theorem dX10_pass_34 : decode cX10_pass 34 = .ok (.aload_n 0, 1) := by decide +kernel
theorem dX10_pass_35 : decode cX10_pass 35 = .ok (.getfield 56, 3) := by decide +kernel
theorem dX10_pass_38 : decode cX10_pass 38 = .ok (.getfield 285, 3) := by decide +kernel
theorem dX10_pass_41 : decode cX10_pass 41 = .ok (.ireturn, 1) := by decide +kernel
theorem dX10_today_0 : decode cX10_today 0 = .ok (.aload_n 0, 1) := by decide +kernel
theorem dX10_today_1 : decode cX10_today 1 = .ok (.getfield 56, 3) := by decide +kernel
theorem dX10_today_4 : decode cX10_today 4 = .ok (.getfield 285, 3) := by decide +kernel
theorem dX10_today_7 : decode cX10_today 7 = .ok (.ireturn, 1) := by decide +kernel
theorem dX10_dropped_0 : decode cX10_dropped 0 = .ok (.aload_n 0, 1) := by decide +kernel
theorem dX10_dropped_1 : decode cX10_dropped 1 = .ok (.getfield 56, 3) := by decide +kernel
theorem dX10_dropped_4 : decode cX10_dropped 4 = .ok (.getfield 296, 3) := by decide +kernel
theorem dX10_dropped_7 : decode cX10_dropped 7 = .ok (.ireturn, 1) := by decide +kernel
theorem dX10_ring_0 : decode cX10_ring 0 = .ok (.aload_n 0, 1) := by decide +kernel
theorem dX10_ring_1 : decode cX10_ring 1 = .ok (.iload_n 1, 1) := by decide +kernel
theorem dX10_ring_2 : decode cX10_ring 2 = .ok (.invokevirtual 204, 3) := by decide +kernel
theorem dX10_ring_5 : decode cX10_ring 5 = .ok (.astore 4, 2) := by decide +kernel
theorem dX10_ring_7 : decode cX10_ring 7 = .ok (.iload_n 2, 1) := by decide +kernel
theorem dX10_ring_8 : decode cX10_ring 8 = .ok (.iconst 0, 1) := by decide +kernel
theorem dX10_ring_9 : decode cX10_ring 9 = .ok (.iconst 1, 1) := by decide +kernel
theorem dX10_ring_10 : decode cX10_ring 10 = .ok (.aload 4, 2) := by decide +kernel
theorem dX10_ring_12 : decode cX10_ring 12 = .ok (.getfield 226, 3) := by decide +kernel
theorem dX10_ring_15 : decode cX10_ring 15 = .ok (.ishl, 1) := by decide +kernel
theorem dX10_ring_16 : decode cX10_ring 16 = .ok (.iconst 1, 1) := by decide +kernel
theorem dX10_ring_17 : decode cX10_ring 17 = .ok (.isub, 1) := by decide +kernel
theorem dX10_ring_18 : decode cX10_ring 18 = .ok (.invokestatic 67, 3) := by decide +kernel
theorem dX10_ring_21 : decode cX10_ring 21 = .ok (.iload_n 3, 1) := by decide +kernel
theorem dX10_ring_22 : decode cX10_ring 22 = .ok (.bipush 100, 2) := by decide +kernel
theorem dX10_ring_24 : decode cX10_ring 24 = .ok (.sipush 1000, 3) := by decide +kernel
theorem dX10_ring_27 : decode cX10_ring 27 = .ok (.invokestatic 67, 3) := by decide +kernel
theorem dX10_ring_30 : decode cX10_ring 30 = .ok (.aload_n 0, 1) := by decide +kernel
theorem dX10_ring_31 : decode cX10_ring 31 = .ok (.invokevirtual 118, 3) := by decide +kernel
theorem dX10_ring_34 : decode cX10_ring 34 = .ok (.iload_n 1, 1) := by decide +kernel
theorem dX10_ring_35 : decode cX10_ring 35 = .ok (.aload_n 0, 1) := by decide +kernel
theorem dX10_ring_36 : decode cX10_ring 36 = .ok (.getfield 64, 3) := by decide +kernel
theorem dX10_ring_39 : decode cX10_ring 39 = .ok (.if_icmp .eq 15, 3) := by decide +kernel
theorem dX10_ring_42 : decode cX10_ring 42 = .ok (.aload_n 0, 1) := by decide +kernel
theorem dX10_ring_43 : decode cX10_ring 43 = .ok (.getfield 56, 3) := by decide +kernel
theorem dX10_ring_46 : decode cX10_ring 46 = .ok (.aload 4, 2) := by decide +kernel
theorem dX10_ring_48 : decode cX10_ring 48 = .ok (.invokevirtual 299, 3) := by decide +kernel
theorem dX10_ring_51 : decode cX10_ring 51 = .ok (.ifCond .ne 14, 3) := by decide +kernel
theorem dX10_ring_54 : decode cX10_ring 54 = .ok (.new 74, 3) := by decide +kernel
theorem dX10_ring_57 : decode cX10_ring 57 = .ok (.dup, 1) := by decide +kernel
theorem dX10_ring_58 : decode cX10_ring 58 = .ok (.ldc_w 302, 3) := by decide +kernel
theorem dX10_ring_61 : decode cX10_ring 61 = .ok (.invokespecial 78, 3) := by decide +kernel
theorem dX10_ring_64 : decode cX10_ring 64 = .ok (.athrow, 1) := by decide +kernel
theorem dX10_ring_65 : decode cX10_ring 65 = .ok (.aload_n 0, 1) := by decide +kernel
theorem dX10_ring_66 : decode cX10_ring 66 = .ok (.getfield 56, 3) := by decide +kernel
theorem dX10_ring_69 : decode cX10_ring 69 = .ok (.invokevirtual 304, 3) := by decide +kernel
theorem dX10_ring_72 : decode cX10_ring 72 = .ok (.aload_n 0, 1) := by decide +kernel
theorem dX10_ring_73 : decode cX10_ring 73 = .ok (.getfield 49, 3) := by decide +kernel
theorem dX10_ring_76 : decode cX10_ring 76 = .ok (.invokevirtual 307, 3) := by decide +kernel
theorem dX10_ring_79 : decode cX10_ring 79 = .ok (.new 310, 3) := by decide +kernel
theorem dX10_ring_82 : decode cX10_ring 82 = .ok (.dup, 1) := by decide +kernel
theorem dX10_ring_83 : decode cX10_ring 83 = .ok (.aload 4, 2) := by decide +kernel
theorem dX10_ring_85 : decode cX10_ring 85 = .ok (.aload_n 0, 1) := by decide +kernel
theorem dX10_ring_86 : decode cX10_ring 86 = .ok (.getfield 49, 3) := by decide +kernel
theorem dX10_ring_89 : decode cX10_ring 89 = .ok (.getfield 312, 3) := by decide +kernel
theorem dX10_ring_92 : decode cX10_ring 92 = .ok (.iload_n 2, 1) := by decide +kernel
theorem dX10_ring_93 : decode cX10_ring 93 = .ok (.iload_n 3, 1) := by decide +kernel
theorem dX10_ring_94 : decode cX10_ring 94 = .ok (.invokespecial 316, 3) := by decide +kernel
theorem dX10_ring_97 : decode cX10_ring 97 = .ok (.astore 5, 2) := by decide +kernel
theorem dX10_ring_99 : decode cX10_ring 99 = .ok (.aload_n 0, 1) := by decide +kernel
theorem dX10_ring_100 : decode cX10_ring 100 = .ok (.aload 5, 2) := by decide +kernel
theorem dX10_ring_102 : decode cX10_ring 102 = .ok (.putfield 319, 3) := by decide +kernel
theorem dX10_ring_105 : decode cX10_ring 105 = .ok (.aload_n 0, 1) := by decide +kernel
theorem dX10_ring_106 : decode cX10_ring 106 = .ok (.invokevirtual 323, 3) := by decide +kernel
theorem dX10_ring_109 : decode cX10_ring 109 = .ok (.aload 5, 2) := by decide +kernel
theorem dX10_ring_111 : decode cX10_ring 111 = .ok (.getfield 326, 3) := by decide +kernel
theorem dX10_ring_114 : decode cX10_ring 114 = .ok (.ireturn, 1) := by decide +kernel
theorem dX10_stand_0 : decode cX10_stand 0 = .ok (.aload_n 0, 1) := by decide +kernel
theorem dX10_stand_1 : decode cX10_stand 1 = .ok (.getfield 319, 3) := by decide +kernel
theorem dX10_stand_4 : decode cX10_stand 4 = .ok (.astore_n 1, 1) := by decide +kernel
theorem dX10_stand_5 : decode cX10_stand 5 = .ok (.aload_n 1, 1) := by decide +kernel
theorem dX10_stand_6 : decode cX10_stand 6 = .ok (.ifnonnull 14, 3) := by decide +kernel
theorem dX10_stand_9 : decode cX10_stand 9 = .ok (.new 74, 3) := by decide +kernel
theorem dX10_stand_12 : decode cX10_stand 12 = .ok (.dup, 1) := by decide +kernel
theorem dX10_stand_13 : decode cX10_stand 13 = .ok (.ldc_w 329, 3) := by decide +kernel
theorem dX10_stand_16 : decode cX10_stand 16 = .ok (.invokespecial 78, 3) := by decide +kernel
theorem dX10_stand_19 : decode cX10_stand 19 = .ok (.athrow, 1) := by decide +kernel
theorem dX10_stand_20 : decode cX10_stand 20 = .ok (.aload_n 0, 1) := by decide +kernel
theorem dX10_stand_21 : decode cX10_stand 21 = .ok (.invokevirtual 331, 3) := by decide +kernel
theorem dX10_stand_24 : decode cX10_stand 24 = .ok (.aload_n 1, 1) := by decide +kernel
theorem dX10_stand_25 : decode cX10_stand 25 = .ok (.getfield 326, 3) := by decide +kernel
theorem dX10_stand_28 : decode cX10_stand 28 = .ok (.ireturn, 1) := by decide +kernel
theorem dX10_isRinging_0 : decode cX10_isRinging 0 = .ok (.aload_n 0, 1) := by decide +kernel
theorem dX10_isRinging_1 : decode cX10_isRinging 1 = .ok (.getfield 319, 3) := by decide +kernel
theorem dX10_isRinging_4 : decode cX10_isRinging 4 = .ok (.ifnull 7, 3) := by decide +kernel
theorem dX10_isRinging_7 : decode cX10_isRinging 7 = .ok (.iconst 1, 1) := by decide +kernel
theorem dX10_isRinging_8 : decode cX10_isRinging 8 = .ok (.goto 4, 3) := by decide +kernel
theorem dX10_isRinging_11 : decode cX10_isRinging 11 = .ok (.iconst 0, 1) := by decide +kernel
theorem dX10_isRinging_12 : decode cX10_isRinging 12 = .ok (.ireturn, 1) := by decide +kernel
theorem dX10_pull_0 : decode cX10_pull 0 = .ok (.aload_n 0, 1) := by decide +kernel
theorem dX10_pull_1 : decode cX10_pull 1 = .ok (.iload_n 1, 1) := by decide +kernel
theorem dX10_pull_2 : decode cX10_pull 2 = .ok (.invokevirtual 240, 3) := by decide +kernel
theorem dX10_pull_5 : decode cX10_pull 5 = .ok (.astore_n 3, 1) := by decide +kernel
theorem dX10_pull_6 : decode cX10_pull 6 = .ok (.iload_n 2, 1) := by decide +kernel
theorem dX10_pull_7 : decode cX10_pull 7 = .ok (.iconst 0, 1) := by decide +kernel
theorem dX10_pull_8 : decode cX10_pull 8 = .ok (.ldc_w 334, 3) := by decide +kernel
theorem dX10_pull_11 : decode cX10_pull 11 = .ok (.invokestatic 67, 3) := by decide +kernel
theorem dX10_pull_14 : decode cX10_pull 14 = .ok (.aload_n 0, 1) := by decide +kernel
theorem dX10_pull_15 : decode cX10_pull 15 = .ok (.iload_n 1, 1) := by decide +kernel
theorem dX10_pull_16 : decode cX10_pull 16 = .ok (.invokevirtual 335, 3) := by decide +kernel
theorem dX10_pull_19 : decode cX10_pull 19 = .ok (.astore 4, 2) := by decide +kernel
theorem dX10_pull_21 : decode cX10_pull 21 = .ok (.iload_n 2, 1) := by decide +kernel
theorem dX10_pull_22 : decode cX10_pull 22 = .ok (.aload 4, 2) := by decide +kernel
theorem dX10_pull_24 : decode cX10_pull 24 = .ok (.iload_n 1, 1) := by decide +kernel
theorem dX10_pull_25 : decode cX10_pull 25 = .ok (.invokevirtual 339, 3) := by decide +kernel
theorem dX10_pull_28 : decode cX10_pull 28 = .ok (.isub, 1) := by decide +kernel
theorem dX10_pull_29 : decode cX10_pull 29 = .ok (.istore 5, 2) := by decide +kernel
theorem dX10_pull_31 : decode cX10_pull 31 = .ok (.aload_n 3, 1) := by decide +kernel
theorem dX10_pull_32 : decode cX10_pull 32 = .ok (.iload 5, 2) := by decide +kernel
theorem dX10_pull_34 : decode cX10_pull 34 = .ok (.invokevirtual 342, 3) := by decide +kernel
theorem dX10_pull_37 : decode cX10_pull 37 = .ok (.ifCond .eq 17, 3) := by decide +kernel
theorem dX10_pull_40 : decode cX10_pull 40 = .ok (.aload 4, 2) := by decide +kernel
theorem dX10_pull_42 : decode cX10_pull 42 = .ok (.iload 5, 2) := by decide +kernel
theorem dX10_pull_44 : decode cX10_pull 44 = .ok (.aload_n 0, 1) := by decide +kernel
theorem dX10_pull_45 : decode cX10_pull 45 = .ok (.getfield 60, 3) := by decide +kernel
theorem dX10_pull_48 : decode cX10_pull 48 = .ok (.invokevirtual 345, 3) := by decide +kernel
theorem dX10_pull_51 : decode cX10_pull 51 = .ok (.ifCond .ne 14, 3) := by decide +kernel
theorem dX10_pull_54 : decode cX10_pull 54 = .ok (.new 74, 3) := by decide +kernel
theorem dX10_pull_57 : decode cX10_pull 57 = .ok (.dup, 1) := by decide +kernel
theorem dX10_pull_58 : decode cX10_pull 58 = .ok (.ldc_w 348, 3) := by decide +kernel
theorem dX10_pull_61 : decode cX10_pull 61 = .ok (.invokespecial 78, 3) := by decide +kernel
theorem dX10_pull_64 : decode cX10_pull 64 = .ok (.athrow, 1) := by decide +kernel
theorem dX10_pull_65 : decode cX10_pull 65 = .ok (.aload_n 3, 1) := by decide +kernel
theorem dX10_pull_66 : decode cX10_pull 66 = .ok (.iload_n 2, 1) := by decide +kernel
theorem dX10_pull_67 : decode cX10_pull 67 = .ok (.invokevirtual 350, 3) := by decide +kernel
theorem dX10_pull_70 : decode cX10_pull 70 = .ok (.aload_n 3, 1) := by decide +kernel
theorem dX10_pull_71 : decode cX10_pull 71 = .ok (.iload 5, 2) := by decide +kernel
theorem dX10_pull_73 : decode cX10_pull 73 = .ok (.aload 4, 2) := by decide +kernel
theorem dX10_pull_75 : decode cX10_pull 75 = .ok (.invokevirtual 354, 3) := by decide +kernel
theorem dX10_pull_78 : decode cX10_pull 78 = .ok (.invokevirtual 357, 3) := by decide +kernel
theorem dX10_pull_81 : decode cX10_pull 81 = .ok (.aload 4, 2) := by decide +kernel
theorem dX10_pull_83 : decode cX10_pull 83 = .ok (.iload 5, 2) := by decide +kernel
theorem dX10_pull_85 : decode cX10_pull 85 = .ok (.aload_n 0, 1) := by decide +kernel
