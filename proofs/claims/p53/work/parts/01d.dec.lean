theorem dX10_pull_86 : decode cX10_pull 86 = .ok (.getfield 60, 3) := by decide +kernel
theorem dX10_pull_89 : decode cX10_pull 89 = .ok (.invokevirtual 360, 3) := by decide +kernel
theorem dX10_pull_92 : decode cX10_pull 92 = .ok (.aload_n 0, 1) := by decide +kernel
theorem dX10_pull_93 : decode cX10_pull 93 = .ok (.invokevirtual 323, 3) := by decide +kernel
theorem dX10_pull_96 : decode cX10_pull 96 = .ok (.iload 5, 2) := by decide +kernel
theorem dX10_pull_98 : decode cX10_pull 98 = .ok (.ireturn, 1) := by decide +kernel
theorem dX10_due_0 : decode cX10_due 0 = .ok (.iload_n 1, 1) := by decide +kernel
theorem dX10_due_1 : decode cX10_due 1 = .ok (.bipush 6, 2) := by decide +kernel
theorem dX10_due_3 : decode cX10_due 3 = .ok (.invokestatic 162, 3) := by decide +kernel
theorem dX10_due_6 : decode cX10_due 6 = .ok (.aload_n 0, 1) := by decide +kernel
theorem dX10_due_7 : decode cX10_due 7 = .ok (.iload_n 1, 1) := by decide +kernel
theorem dX10_due_8 : decode cX10_due 8 = .ok (.invokevirtual 335, 3) := by decide +kernel
theorem dX10_due_11 : decode cX10_due 11 = .ok (.iload_n 1, 1) := by decide +kernel
theorem dX10_due_12 : decode cX10_due 12 = .ok (.invokevirtual 339, 3) := by decide +kernel
theorem dX10_due_15 : decode cX10_due 15 = .ok (.ireturn, 1) := by decide +kernel
theorem dX10_setPatience_0 : decode cX10_setPatience 0 = .ok (.iload_n 1, 1) := by decide +kernel
theorem dX10_setPatience_1 : decode cX10_setPatience 1 = .ok (.iconst 0, 1) := by decide +kernel
theorem dX10_setPatience_2 : decode cX10_setPatience 2 = .ok (.sipush 1000, 3) := by decide +kernel
theorem dX10_setPatience_5 : decode cX10_setPatience 5 = .ok (.invokestatic 67, 3) := by decide +kernel
theorem dX10_setPatience_8 : decode cX10_setPatience 8 = .ok (.aload_n 0, 1) := by decide +kernel
theorem dX10_setPatience_9 : decode cX10_setPatience 9 = .ok (.getfield 60, 3) := by decide +kernel
theorem dX10_setPatience_12 : decode cX10_setPatience 12 = .ok (.istore_n 2, 1) := by decide +kernel
theorem dX10_setPatience_13 : decode cX10_setPatience 13 = .ok (.aload_n 0, 1) := by decide +kernel
theorem dX10_setPatience_14 : decode cX10_setPatience 14 = .ok (.iload_n 1, 1) := by decide +kernel
theorem dX10_setPatience_15 : decode cX10_setPatience 15 = .ok (.putfield 60, 3) := by decide +kernel
theorem dX10_setPatience_18 : decode cX10_setPatience 18 = .ok (.iload_n 2, 1) := by decide +kernel
theorem dX10_setPatience_19 : decode cX10_setPatience 19 = .ok (.ireturn, 1) := by decide +kernel
theorem dX10_done_0 : decode cX10_done 0 = .ok (.aload_n 0, 1) := by decide +kernel
theorem dX10_done_1 : decode cX10_done 1 = .ok (.getfield 319, 3) := by decide +kernel
theorem dX10_done_4 : decode cX10_done 4 = .ok (.ifnonnull 7, 3) := by decide +kernel
theorem dX10_done_7 : decode cX10_done 7 = .ok (.iconst (-1), 1) := by decide +kernel
theorem dX10_done_8 : decode cX10_done 8 = .ok (.goto 10, 3) := by decide +kernel
theorem dX10_done_11 : decode cX10_done 11 = .ok (.aload_n 0, 1) := by decide +kernel
theorem dX10_done_12 : decode cX10_done 12 = .ok (.getfield 319, 3) := by decide +kernel
theorem dX10_done_15 : decode cX10_done 15 = .ok (.getfield 326, 3) := by decide +kernel
theorem dX10_done_18 : decode cX10_done 18 = .ok (.ireturn, 1) := by decide +kernel
theorem dX10_delay_0 : decode cX10_delay 0 = .ok (.aload_n 0, 1) := by decide +kernel
theorem dX10_delay_1 : decode cX10_delay 1 = .ok (.getfield 319, 3) := by decide +kernel
theorem dX10_delay_4 : decode cX10_delay 4 = .ok (.ifnonnull 7, 3) := by decide +kernel
theorem dX10_delay_7 : decode cX10_delay 7 = .ok (.iconst 0, 1) := by decide +kernel
theorem dX10_delay_8 : decode cX10_delay 8 = .ok (.goto 10, 3) := by decide +kernel
theorem dX10_delay_11 : decode cX10_delay 11 = .ok (.aload_n 0, 1) := by decide +kernel
theorem dX10_delay_12 : decode cX10_delay 12 = .ok (.getfield 319, 3) := by decide +kernel
theorem dX10_delay_15 : decode cX10_delay 15 = .ok (.getfield 363, 3) := by decide +kernel
theorem dX10_delay_18 : decode cX10_delay 18 = .ok (.ireturn, 1) := by decide +kernel
theorem dX10_late_0 : decode cX10_late 0 = .ok (.aload_n 0, 1) := by decide +kernel
theorem dX10_late_1 : decode cX10_late 1 = .ok (.iload_n 1, 1) := by decide +kernel
theorem dX10_late_2 : decode cX10_late 2 = .ok (.invokevirtual 240, 3) := by decide +kernel
theorem dX10_late_5 : decode cX10_late 5 = .ok (.getfield 366, 3) := by decide +kernel
theorem dX10_late_8 : decode cX10_late 8 = .ok (.ireturn, 1) := by decide +kernel
theorem dX10_early_0 : decode cX10_early 0 = .ok (.aload_n 0, 1) := by decide +kernel
theorem dX10_early_1 : decode cX10_early 1 = .ok (.iload_n 1, 1) := by decide +kernel
theorem dX10_early_2 : decode cX10_early 2 = .ok (.invokevirtual 240, 3) := by decide +kernel
theorem dX10_early_5 : decode cX10_early 5 = .ok (.getfield 369, 3) := by decide +kernel
theorem dX10_early_8 : decode cX10_early 8 = .ok (.ireturn, 1) := by decide +kernel
theorem dX10_errors_0 : decode cX10_errors 0 = .ok (.aload_n 0, 1) := by decide +kernel
theorem dX10_errors_1 : decode cX10_errors 1 = .ok (.iload_n 1, 1) := by decide +kernel
theorem dX10_errors_2 : decode cX10_errors 2 = .ok (.invokevirtual 240, 3) := by decide +kernel
theorem dX10_errors_5 : decode cX10_errors 5 = .ok (.getfield 372, 3) := by decide +kernel
theorem dX10_errors_8 : decode cX10_errors 8 = .ok (.ireturn, 1) := by decide +kernel
theorem dX10_wrong_0 : decode cX10_wrong 0 = .ok (.aload_n 0, 1) := by decide +kernel
theorem dX10_wrong_1 : decode cX10_wrong 1 = .ok (.getfield 375, 3) := by decide +kernel
theorem dX10_wrong_4 : decode cX10_wrong 4 = .ok (.ireturn, 1) := by decide +kernel
theorem dX10_rung_0 : decode cX10_rung 0 = .ok (.aload_n 0, 1) := by decide +kernel
theorem dX10_rung_1 : decode cX10_rung 1 = .ok (.getfield 378, 3) := by decide +kernel
theorem dX10_rung_4 : decode cX10_rung 4 = .ok (.ireturn, 1) := by decide +kernel
theorem dX10_latest_0 : decode cX10_latest 0 = .ok (.aload_n 0, 1) := by decide +kernel
theorem dX10_latest_1 : decode cX10_latest 1 = .ok (.getfield 64, 3) := by decide +kernel
theorem dX10_latest_4 : decode cX10_latest 4 = .ok (.ireturn, 1) := by decide +kernel
theorem dX10_requireRange_0 : decode cX10_requireRange 0 = .ok (.iload_n 0, 1) := by decide +kernel
theorem dX10_requireRange_1 : decode cX10_requireRange 1 = .ok (.iload_n 1, 1) := by decide +kernel
theorem dX10_requireRange_2 : decode cX10_requireRange 2 = .ok (.if_icmp .lt 8, 3) := by decide +kernel
theorem dX10_requireRange_5 : decode cX10_requireRange 5 = .ok (.iload_n 0, 1) := by decide +kernel
theorem dX10_requireRange_6 : decode cX10_requireRange 6 = .ok (.iload_n 2, 1) := by decide +kernel
theorem dX10_requireRange_7 : decode cX10_requireRange 7 = .ok (.if_icmp .le 14, 3) := by decide +kernel
theorem dX10_requireRange_10 : decode cX10_requireRange 10 = .ok (.new 113, 3) := by decide +kernel
theorem dX10_requireRange_13 : decode cX10_requireRange 13 = .ok (.dup, 1) := by decide +kernel
theorem dX10_requireRange_14 : decode cX10_requireRange 14 = .ok (.ldc_w 381, 3) := by decide +kernel
theorem dX10_requireRange_17 : decode cX10_requireRange 17 = .ok (.invokespecial 117, 3) := by decide +kernel
theorem dX10_requireRange_20 : decode cX10_requireRange 20 = .ok (.athrow, 1) := by decide +kernel
theorem dX10_requireRange_21 : decode cX10_requireRange 21 = .ok (.return_, 1) := by decide +kernel
theorem dX10_requireIndex_0 : decode cX10_requireIndex 0 = .ok (.iload_n 0, 1) := by decide +kernel
theorem dX10_requireIndex_1 : decode cX10_requireIndex 1 = .ok (.ifCond .lt 8, 3) := by decide +kernel
theorem dX10_requireIndex_4 : decode cX10_requireIndex 4 = .ok (.iload_n 0, 1) := by decide +kernel
theorem dX10_requireIndex_5 : decode cX10_requireIndex 5 = .ok (.iload_n 1, 1) := by decide +kernel
theorem dX10_requireIndex_6 : decode cX10_requireIndex 6 = .ok (.if_icmp .lt 14, 3) := by decide +kernel
theorem dX10_requireIndex_9 : decode cX10_requireIndex 9 = .ok (.new 142, 3) := by decide +kernel
theorem dX10_requireIndex_12 : decode cX10_requireIndex 12 = .ok (.dup, 1) := by decide +kernel
theorem dX10_requireIndex_13 : decode cX10_requireIndex 13 = .ok (.ldc_w 383, 3) := by decide +kernel
theorem dX10_requireIndex_16 : decode cX10_requireIndex 16 = .ok (.invokespecial 146, 3) := by decide +kernel
theorem dX10_requireIndex_19 : decode cX10_requireIndex 19 = .ok (.athrow, 1) := by decide +kernel
theorem dX10_requireIndex_20 : decode cX10_requireIndex 20 = .ok (.return_, 1) := by decide +kernel
theorem dX10_requireSilence_0 : decode cX10_requireSilence 0 = .ok (.aload_n 0, 1) := by decide +kernel
theorem dX10_requireSilence_1 : decode cX10_requireSilence 1 = .ok (.getfield 319, 3) := by decide +kernel
theorem dX10_requireSilence_4 : decode cX10_requireSilence 4 = .ok (.ifnull 14, 3) := by decide +kernel
theorem dX10_requireSilence_7 : decode cX10_requireSilence 7 = .ok (.new 74, 3) := by decide +kernel
theorem dX10_requireSilence_10 : decode cX10_requireSilence 10 = .ok (.dup, 1) := by decide +kernel
theorem dX10_requireSilence_11 : decode cX10_requireSilence 11 = .ok (.ldc_w 385, 3) := by decide +kernel
theorem dX10_requireSilence_14 : decode cX10_requireSilence 14 = .ok (.invokespecial 78, 3) := by decide +kernel
theorem dX10_requireSilence_17 : decode cX10_requireSilence 17 = .ok (.athrow, 1) := by decide +kernel
theorem dX10_requireSilence_18 : decode cX10_requireSilence 18 = .ok (.return_, 1) := by decide +kernel
theorem dX10_requireRoomForTouch_0 : decode cX10_requireRoomForTouch 0 = .ok (.aload_n 0, 1) := by decide +kernel
theorem dX10_requireRoomForTouch_1 : decode cX10_requireRoomForTouch 1 = .ok (.getfield 20, 3) := by decide +kernel
theorem dX10_requireRoomForTouch_4 : decode cX10_requireRoomForTouch 4 = .ok (.invokevirtual 81, 3) := by decide +kernel
theorem dX10_requireRoomForTouch_7 : decode cX10_requireRoomForTouch 7 = .ok (.bipush 12, 2) := by decide +kernel
theorem dX10_requireRoomForTouch_9 : decode cX10_requireRoomForTouch 9 = .ok (.if_icmp .lt 14, 3) := by decide +kernel
theorem dX10_requireRoomForTouch_12 : decode cX10_requireRoomForTouch 12 = .ok (.new 74, 3) := by decide +kernel
theorem dX10_requireRoomForTouch_15 : decode cX10_requireRoomForTouch 15 = .ok (.dup, 1) := by decide +kernel
theorem dX10_requireRoomForTouch_16 : decode cX10_requireRoomForTouch 16 = .ok (.ldc_w 387, 3) := by decide +kernel
theorem dX10_requireRoomForTouch_19 : decode cX10_requireRoomForTouch 19 = .ok (.invokespecial 78, 3) := by decide +kernel
theorem dX10_requireRoomForTouch_22 : decode cX10_requireRoomForTouch 22 = .ok (.athrow, 1) := by decide +kernel
theorem dX10_requireRoomForTouch_23 : decode cX10_requireRoomForTouch 23 = .ok (.return_, 1) := by decide +kernel
theorem dX10_methodAt_0 : decode cX10_methodAt 0 = .ok (.iload_n 1, 1) := by decide +kernel
theorem dX10_methodAt_1 : decode cX10_methodAt 1 = .ok (.aload_n 0, 1) := by decide +kernel
theorem dX10_methodAt_2 : decode cX10_methodAt 2 = .ok (.getfield 12, 3) := by decide +kernel
theorem dX10_methodAt_5 : decode cX10_methodAt 5 = .ok (.invokevirtual 81, 3) := by decide +kernel
theorem dX10_methodAt_8 : decode cX10_methodAt 8 = .ok (.invokestatic 162, 3) := by decide +kernel
theorem dX10_methodAt_11 : decode cX10_methodAt 11 = .ok (.aload_n 0, 1) := by decide +kernel
theorem dX10_methodAt_12 : decode cX10_methodAt 12 = .ok (.getfield 12, 3) := by decide +kernel
theorem dX10_methodAt_15 : decode cX10_methodAt 15 = .ok (.iload_n 1, 1) := by decide +kernel
theorem dX10_methodAt_16 : decode cX10_methodAt 16 = .ok (.invokevirtual 211, 3) := by decide +kernel
theorem dX10_methodAt_19 : decode cX10_methodAt 19 = .ok (.checkcast 91, 3) := by decide +kernel
theorem dX10_methodAt_22 : decode cX10_methodAt 22 = .ok (.areturn, 1) := by decide +kernel
theorem dX10_touchAt_0 : decode cX10_touchAt 0 = .ok (.iload_n 1, 1) := by decide +kernel
theorem dX10_touchAt_1 : decode cX10_touchAt 1 = .ok (.aload_n 0, 1) := by decide +kernel
theorem dX10_touchAt_2 : decode cX10_touchAt 2 = .ok (.getfield 20, 3) := by decide +kernel
theorem dX10_touchAt_5 : decode cX10_touchAt 5 = .ok (.invokevirtual 81, 3) := by decide +kernel
theorem dX10_touchAt_8 : decode cX10_touchAt 8 = .ok (.invokestatic 162, 3) := by decide +kernel
theorem dX10_touchAt_11 : decode cX10_touchAt 11 = .ok (.aload_n 0, 1) := by decide +kernel
theorem dX10_touchAt_12 : decode cX10_touchAt 12 = .ok (.getfield 20, 3) := by decide +kernel
theorem dX10_touchAt_15 : decode cX10_touchAt 15 = .ok (.iload_n 1, 1) := by decide +kernel
theorem dX10_touchAt_16 : decode cX10_touchAt 16 = .ok (.invokevirtual 211, 3) := by decide +kernel
theorem dX10_touchAt_19 : decode cX10_touchAt 19 = .ok (.checkcast 39, 3) := by decide +kernel
theorem dX10_touchAt_22 : decode cX10_touchAt 22 = .ok (.areturn, 1) := by decide +kernel
theorem dX10_bellNumbered_0 : decode cX10_bellNumbered 0 = .ok (.iload_n 1, 1) := by decide +kernel
theorem dX10_bellNumbered_1 : decode cX10_bellNumbered 1 = .ok (.bipush 6, 2) := by decide +kernel
theorem dX10_bellNumbered_3 : decode cX10_bellNumbered 3 = .ok (.invokestatic 162, 3) := by decide +kernel
theorem dX10_bellNumbered_6 : decode cX10_bellNumbered 6 = .ok (.aload_n 0, 1) := by decide +kernel
theorem dX10_bellNumbered_7 : decode cX10_bellNumbered 7 = .ok (.getfield 49, 3) := by decide +kernel
theorem dX10_bellNumbered_10 : decode cX10_bellNumbered 10 = .ok (.getfield 312, 3) := by decide +kernel
theorem dX10_bellNumbered_13 : decode cX10_bellNumbered 13 = .ok (.iload_n 1, 1) := by decide +kernel
theorem dX10_bellNumbered_14 : decode cX10_bellNumbered 14 = .ok (.aaload, 1) := by decide +kernel
theorem dX10_bellNumbered_15 : decode cX10_bellNumbered 15 = .ok (.areturn, 1) := by decide +kernel
theorem dX10_dayAt_0 : decode cX10_dayAt 0 = .ok (.iload_n 1, 1) := by decide +kernel
theorem dX10_dayAt_1 : decode cX10_dayAt 1 = .ok (.aload_n 0, 1) := by decide +kernel
theorem dX10_dayAt_2 : decode cX10_dayAt 2 = .ok (.getfield 56, 3) := by decide +kernel
theorem dX10_dayAt_5 : decode cX10_dayAt 5 = .ok (.getfield 285, 3) := by decide +kernel
theorem dX10_dayAt_8 : decode cX10_dayAt 8 = .ok (.bipush 60, 2) := by decide +kernel
theorem dX10_dayAt_10 : decode cX10_dayAt 10 = .ok (.invokestatic 67, 3) := by decide +kernel
theorem dX10_dayAt_13 : decode cX10_dayAt 13 = .ok (.aload_n 0, 1) := by decide +kernel
theorem dX10_dayAt_14 : decode cX10_dayAt 14 = .ok (.getfield 56, 3) := by decide +kernel
theorem dX10_dayAt_17 : decode cX10_dayAt 17 = .ok (.getfield 389, 3) := by decide +kernel
theorem dX10_dayAt_20 : decode cX10_dayAt 20 = .ok (.iload_n 1, 1) := by decide +kernel
theorem dX10_dayAt_21 : decode cX10_dayAt 21 = .ok (.aaload, 1) := by decide +kernel
theorem dX10_dayAt_22 : decode cX10_dayAt 22 = .ok (.areturn, 1) := by decide +kernel
theorem dX10_ringingThatAwaits_0 : decode cX10_ringingThatAwaits 0 = .ok (.aload_n 0, 1) := by decide +kernel
theorem dX10_ringingThatAwaits_1 : decode cX10_ringingThatAwaits 1 = .ok (.getfield 319, 3) := by decide +kernel
theorem dX10_ringingThatAwaits_4 : decode cX10_ringingThatAwaits 4 = .ok (.astore_n 2, 1) := by decide +kernel
theorem dX10_ringingThatAwaits_5 : decode cX10_ringingThatAwaits 5 = .ok (.aload_n 2, 1) := by decide +kernel
theorem dX10_ringingThatAwaits_6 : decode cX10_ringingThatAwaits 6 = .ok (.ifnull 11, 3) := by decide +kernel
theorem dX10_ringingThatAwaits_9 : decode cX10_ringingThatAwaits 9 = .ok (.aload_n 2, 1) := by decide +kernel
theorem dX10_ringingThatAwaits_10 : decode cX10_ringingThatAwaits 10 = .ok (.iload_n 1, 1) := by decide +kernel
theorem dX10_ringingThatAwaits_11 : decode cX10_ringingThatAwaits 11 = .ok (.invokevirtual 393, 3) := by decide +kernel
theorem dX10_ringingThatAwaits_14 : decode cX10_ringingThatAwaits 14 = .ok (.ifCond .ne 14, 3) := by decide +kernel
theorem dX10_ringingThatAwaits_17 : decode cX10_ringingThatAwaits 17 = .ok (.new 74, 3) := by decide +kernel
theorem dX10_ringingThatAwaits_20 : decode cX10_ringingThatAwaits 20 = .ok (.dup, 1) := by decide +kernel
theorem dX10_ringingThatAwaits_21 : decode cX10_ringingThatAwaits 21 = .ok (.ldc_w 396, 3) := by decide +kernel
theorem dX10_ringingThatAwaits_24 : decode cX10_ringingThatAwaits 24 = .ok (.invokespecial 78, 3) := by decide +kernel
theorem dX10_ringingThatAwaits_27 : decode cX10_ringingThatAwaits 27 = .ok (.athrow, 1) := by decide +kernel
theorem dX10_ringingThatAwaits_28 : decode cX10_ringingThatAwaits 28 = .ok (.aload_n 2, 1) := by decide +kernel
theorem dX10_ringingThatAwaits_29 : decode cX10_ringingThatAwaits 29 = .ok (.areturn, 1) := by decide +kernel
theorem dX10_isDraftOf_0 : decode cX10_isDraftOf 0 = .ok (.iconst 0, 1) := by decide +kernel
theorem dX10_isDraftOf_1 : decode cX10_isDraftOf 1 = .ok (.istore_n 2, 1) := by decide +kernel
theorem dX10_isDraftOf_2 : decode cX10_isDraftOf 2 = .ok (.iload_n 2, 1) := by decide +kernel
theorem dX10_isDraftOf_3 : decode cX10_isDraftOf 3 = .ok (.aload_n 0, 1) := by decide +kernel
theorem dX10_isDraftOf_4 : decode cX10_isDraftOf 4 = .ok (.getfield 71, 3) := by decide +kernel
theorem dX10_isDraftOf_7 : decode cX10_isDraftOf 7 = .ok (.if_icmp .ge 24, 3) := by decide +kernel
theorem dX10_isDraftOf_10 : decode cX10_isDraftOf 10 = .ok (.aload_n 0, 1) := by decide +kernel
theorem dX10_isDraftOf_11 : decode cX10_isDraftOf 11 = .ok (.getfield 16, 3) := by decide +kernel
theorem dX10_isDraftOf_14 : decode cX10_isDraftOf 14 = .ok (.iload_n 2, 1) := by decide +kernel
theorem dX10_isDraftOf_15 : decode cX10_isDraftOf 15 = .ok (.iaload, 1) := by decide +kernel
theorem dX10_isDraftOf_16 : decode cX10_isDraftOf 16 = .ok (.iload_n 1, 1) := by decide +kernel
theorem dX10_isDraftOf_17 : decode cX10_isDraftOf 17 = .ok (.invokestatic 107, 3) := by decide +kernel
theorem dX10_isDraftOf_20 : decode cX10_isDraftOf 20 = .ok (.ifCond .ne 5, 3) := by decide +kernel
theorem dX10_isDraftOf_23 : decode cX10_isDraftOf 23 = .ok (.iconst 0, 1) := by decide +kernel
theorem dX10_isDraftOf_24 : decode cX10_isDraftOf 24 = .ok (.ireturn, 1) := by decide +kernel
theorem dX10_isDraftOf_25 : decode cX10_isDraftOf 25 = .ok (.iinc 2 1, 3) := by decide +kernel
theorem dX10_isDraftOf_28 : decode cX10_isDraftOf 28 = .ok (.goto (-26), 3) := by decide +kernel
theorem dX10_isDraftOf_31 : decode cX10_isDraftOf 31 = .ok (.iconst 1, 1) := by decide +kernel
theorem dX10_isDraftOf_32 : decode cX10_isDraftOf 32 = .ok (.ireturn, 1) := by decide +kernel
theorem dX10_keepTouch_0 : decode cX10_keepTouch 0 = .ok (.aload_n 1, 1) := by decide +kernel
theorem dX10_keepTouch_1 : decode cX10_keepTouch 1 = .ok (.aload_n 0, 1) := by decide +kernel
theorem dX10_keepTouch_2 : decode cX10_keepTouch 2 = .ok (.getfield 20, 3) := by decide +kernel
theorem dX10_keepTouch_5 : decode cX10_keepTouch 5 = .ok (.invokevirtual 81, 3) := by decide +kernel
theorem dX10_keepTouch_8 : decode cX10_keepTouch 8 = .ok (.putfield 284, 3) := by decide +kernel
theorem dX10_keepTouch_11 : decode cX10_keepTouch 11 = .ok (.aload_n 0, 1) := by decide +kernel
theorem dX10_keepTouch_12 : decode cX10_keepTouch 12 = .ok (.getfield 20, 3) := by decide +kernel
theorem dX10_keepTouch_15 : decode cX10_keepTouch 15 = .ok (.aload_n 1, 1) := by decide +kernel
theorem dX10_keepTouch_16 : decode cX10_keepTouch 16 = .ok (.invokevirtual 96, 3) := by decide +kernel
theorem dX10_keepTouch_19 : decode cX10_keepTouch 19 = .ok (.pop, 1) := by decide +kernel
theorem dX10_keepTouch_20 : decode cX10_keepTouch 20 = .ok (.aload_n 1, 1) := by decide +kernel
theorem dX10_keepTouch_21 : decode cX10_keepTouch 21 = .ok (.getfield 284, 3) := by decide +kernel
theorem dX10_keepTouch_24 : decode cX10_keepTouch 24 = .ok (.ireturn, 1) := by decide +kernel
theorem dX10_rewriteTouches_0 : decode cX10_rewriteTouches 0 = .ok (.iconst 0, 1) := by decide +kernel
theorem dX10_rewriteTouches_1 : decode cX10_rewriteTouches 1 = .ok (.istore_n 1, 1) := by decide +kernel
theorem dX10_rewriteTouches_2 : decode cX10_rewriteTouches 2 = .ok (.iload_n 1, 1) := by decide +kernel
theorem dX10_rewriteTouches_3 : decode cX10_rewriteTouches 3 = .ok (.aload_n 0, 1) := by decide +kernel
theorem dX10_rewriteTouches_4 : decode cX10_rewriteTouches 4 = .ok (.getfield 20, 3) := by decide +kernel
theorem dX10_rewriteTouches_7 : decode cX10_rewriteTouches 7 = .ok (.invokevirtual 81, 3) := by decide +kernel
theorem dX10_rewriteTouches_10 : decode cX10_rewriteTouches 10 = .ok (.if_icmp .ge 28, 3) := by decide +kernel
theorem dX10_rewriteTouches_13 : decode cX10_rewriteTouches 13 = .ok (.aload_n 0, 1) := by decide +kernel
theorem dX10_rewriteTouches_14 : decode cX10_rewriteTouches 14 = .ok (.getfield 20, 3) := by decide +kernel
theorem dX10_rewriteTouches_17 : decode cX10_rewriteTouches 17 = .ok (.iload_n 1, 1) := by decide +kernel
theorem dX10_rewriteTouches_18 : decode cX10_rewriteTouches 18 = .ok (.invokevirtual 211, 3) := by decide +kernel
theorem dX10_rewriteTouches_21 : decode cX10_rewriteTouches 21 = .ok (.checkcast 39, 3) := by decide +kernel
theorem dX10_rewriteTouches_24 : decode cX10_rewriteTouches 24 = .ok (.iconst 0, 1) := by decide +kernel
theorem dX10_rewriteTouches_25 : decode cX10_rewriteTouches 25 = .ok (.aload_n 0, 1) := by decide +kernel
theorem dX10_rewriteTouches_26 : decode cX10_rewriteTouches 26 = .ok (.getfield 26, 3) := by decide +kernel
theorem dX10_rewriteTouches_29 : decode cX10_rewriteTouches 29 = .ok (.invokevirtual 192, 3) := by decide +kernel
theorem dX10_rewriteTouches_32 : decode cX10_rewriteTouches 32 = .ok (.iinc 1 1, 3) := by decide +kernel
theorem dX10_rewriteTouches_35 : decode cX10_rewriteTouches 35 = .ok (.goto (-33), 3) := by decide +kernel
theorem dX10_rewriteTouches_38 : decode cX10_rewriteTouches 38 = .ok (.return_, 1) := by decide +kernel
theorem dX10_doReadyRows_0 : decode cX10_doReadyRows 0 = .ok (.iconst 0, 1) := by decide +kernel
theorem dX10_doReadyRows_1 : decode cX10_doReadyRows 1 = .ok (.istore_n 1, 1) := by decide +kernel
theorem dX10_doReadyRows_2 : decode cX10_doReadyRows 2 = .ok (.iload_n 1, 1) := by decide +kernel
theorem dX10_doReadyRows_3 : decode cX10_doReadyRows 3 = .ok (.sipush 240, 3) := by decide +kernel
theorem dX10_doReadyRows_6 : decode cX10_doReadyRows 6 = .ok (.if_icmp .ge 79, 3) := by decide +kernel
theorem dX10_doReadyRows_9 : decode cX10_doReadyRows 9 = .ok (.aload_n 0, 1) := by decide +kernel
theorem dX10_doReadyRows_10 : decode cX10_doReadyRows 10 = .ok (.getfield 319, 3) := by decide +kernel
theorem dX10_doReadyRows_13 : decode cX10_doReadyRows 13 = .ok (.astore_n 2, 1) := by decide +kernel
theorem dX10_doReadyRows_14 : decode cX10_doReadyRows 14 = .ok (.aload_n 2, 1) := by decide +kernel
theorem dX10_doReadyRows_15 : decode cX10_doReadyRows 15 = .ok (.ifnull 10, 3) := by decide +kernel
theorem dX10_doReadyRows_18 : decode cX10_doReadyRows 18 = .ok (.aload_n 2, 1) := by decide +kernel
theorem dX10_doReadyRows_19 : decode cX10_doReadyRows 19 = .ok (.invokevirtual 398, 3) := by decide +kernel
theorem dX10_doReadyRows_22 : decode cX10_doReadyRows 22 = .ok (.ifCond .ne 4, 3) := by decide +kernel
theorem dX10_doReadyRows_25 : decode cX10_doReadyRows 25 = .ok (.return_, 1) := by decide +kernel
theorem dX10_doReadyRows_26 : decode cX10_doReadyRows 26 = .ok (.aload_n 2, 1) := by decide +kernel
theorem dX10_doReadyRows_27 : decode cX10_doReadyRows 27 = .ok (.invokevirtual 401, 3) := by decide +kernel
theorem dX10_doReadyRows_30 : decode cX10_doReadyRows 30 = .ok (.ifCond .eq 13, 3) := by decide +kernel
theorem dX10_doReadyRows_33 : decode cX10_doReadyRows 33 = .ok (.aload_n 0, 1) := by decide +kernel
theorem dX10_doReadyRows_34 : decode cX10_doReadyRows 34 = .ok (.dup, 1) := by decide +kernel
theorem dX10_doReadyRows_35 : decode cX10_doReadyRows 35 = .ok (.getfield 375, 3) := by decide +kernel
theorem dX10_doReadyRows_38 : decode cX10_doReadyRows 38 = .ok (.iconst 1, 1) := by decide +kernel
theorem dX10_doReadyRows_39 : decode cX10_doReadyRows 39 = .ok (.iadd, 1) := by decide +kernel
theorem dX10_doReadyRows_40 : decode cX10_doReadyRows 40 = .ok (.putfield 375, 3) := by decide +kernel
theorem dX10_doReadyRows_43 : decode cX10_doReadyRows 43 = .ok (.aload_n 0, 1) := by decide +kernel
theorem dX10_doReadyRows_44 : decode cX10_doReadyRows 44 = .ok (.getfield 49, 3) := by decide +kernel
theorem dX10_doReadyRows_47 : decode cX10_doReadyRows 47 = .ok (.invokevirtual 404, 3) := by decide +kernel
theorem dX10_doReadyRows_50 : decode cX10_doReadyRows 50 = .ok (.ifCond .eq 10, 3) := by decide +kernel
theorem dX10_doReadyRows_53 : decode cX10_doReadyRows 53 = .ok (.aload_n 0, 1) := by decide +kernel
theorem dX10_doReadyRows_54 : decode cX10_doReadyRows 54 = .ok (.invokevirtual 331, 3) := by decide +kernel
theorem dX10_doReadyRows_57 : decode cX10_doReadyRows 57 = .ok (.goto 22, 3) := by decide +kernel
theorem dX10_doReadyRows_60 : decode cX10_doReadyRows 60 = .ok (.aload_n 2, 1) := by decide +kernel
theorem dX10_doReadyRows_61 : decode cX10_doReadyRows 61 = .ok (.invokevirtual 407, 3) := by decide +kernel
theorem dX10_doReadyRows_64 : decode cX10_doReadyRows 64 = .ok (.ifCond .eq 15, 3) := by decide +kernel
theorem dX10_doReadyRows_67 : decode cX10_doReadyRows 67 = .ok (.aload_n 0, 1) := by decide +kernel
theorem dX10_doReadyRows_68 : decode cX10_doReadyRows 68 = .ok (.invokevirtual 331, 3) := by decide +kernel
theorem dX10_doReadyRows_71 : decode cX10_doReadyRows 71 = .ok (.aload_n 0, 1) := by decide +kernel
theorem dX10_doReadyRows_72 : decode cX10_doReadyRows 72 = .ok (.aload_n 2, 1) := by decide +kernel
theorem dX10_doReadyRows_73 : decode cX10_doReadyRows 73 = .ok (.getfield 410, 3) := by decide +kernel
theorem dX10_doReadyRows_76 : decode cX10_doReadyRows 76 = .ok (.invokevirtual 413, 3) := by decide +kernel
theorem dX10_doReadyRows_79 : decode cX10_doReadyRows 79 = .ok (.iinc 1 1, 3) := by decide +kernel
theorem dX10_doReadyRows_82 : decode cX10_doReadyRows 82 = .ok (.goto (-80), 3) := by decide +kernel
theorem dX10_doReadyRows_85 : decode cX10_doReadyRows 85 = .ok (.return_, 1) := by decide +kernel
theorem dX10_countAsRung_0 : decode cX10_countAsRung 0 = .ok (.aload_n 0, 1) := by decide +kernel
theorem dX10_countAsRung_1 : decode cX10_countAsRung 1 = .ok (.getfield 56, 3) := by decide +kernel
theorem dX10_countAsRung_4 : decode cX10_countAsRung 4 = .ok (.aload_n 1, 1) := by decide +kernel
theorem dX10_countAsRung_5 : decode cX10_countAsRung 5 = .ok (.invokevirtual 417, 3) := by decide +kernel
theorem dX10_countAsRung_8 : decode cX10_countAsRung 8 = .ok (.aload_n 0, 1) := by decide +kernel
theorem dX10_countAsRung_9 : decode cX10_countAsRung 9 = .ok (.aload_n 1, 1) := by decide +kernel
theorem dX10_countAsRung_10 : decode cX10_countAsRung 10 = .ok (.getfield 284, 3) := by decide +kernel
theorem dX10_countAsRung_13 : decode cX10_countAsRung 13 = .ok (.putfield 64, 3) := by decide +kernel
theorem dX10_countAsRung_16 : decode cX10_countAsRung 16 = .ok (.aload_n 0, 1) := by decide +kernel
theorem dX10_countAsRung_17 : decode cX10_countAsRung 17 = .ok (.dup, 1) := by decide +kernel
theorem dX10_countAsRung_18 : decode cX10_countAsRung 18 = .ok (.getfield 378, 3) := by decide +kernel
theorem dX10_countAsRung_21 : decode cX10_countAsRung 21 = .ok (.iconst 1, 1) := by decide +kernel
theorem dX10_countAsRung_22 : decode cX10_countAsRung 22 = .ok (.iadd, 1) := by decide +kernel
theorem dX10_countAsRung_23 : decode cX10_countAsRung 23 = .ok (.putfield 378, 3) := by decide +kernel
theorem dX10_countAsRung_26 : decode cX10_countAsRung 26 = .ok (.return_, 1) := by decide +kernel
theorem dX10_endRinging_0 : decode cX10_endRinging 0 = .ok (.aload_n 0, 1) := by decide +kernel
theorem dX10_endRinging_1 : decode cX10_endRinging 1 = .ok (.aconst_null, 1) := by decide +kernel
theorem dX10_endRinging_2 : decode cX10_endRinging 2 = .ok (.putfield 319, 3) := by decide +kernel
theorem dX10_endRinging_5 : decode cX10_endRinging 5 = .ok (.aload_n 0, 1) := by decide +kernel
theorem dX10_endRinging_6 : decode cX10_endRinging 6 = .ok (.getfield 49, 3) := by decide +kernel
theorem dX10_endRinging_9 : decode cX10_endRinging 9 = .ok (.invokevirtual 404, 3) := by decide +kernel
theorem dX10_endRinging_12 : decode cX10_endRinging 12 = .ok (.pop, 1) := by decide +kernel
theorem dX10_endRinging_13 : decode cX10_endRinging 13 = .ok (.aload_n 0, 1) := by decide +kernel
theorem dX10_endRinging_14 : decode cX10_endRinging 14 = .ok (.getfield 56, 3) := by decide +kernel
theorem dX10_endRinging_17 : decode cX10_endRinging 17 = .ok (.aload_n 0, 1) := by decide +kernel
theorem dX10_endRinging_18 : decode cX10_endRinging 18 = .ok (.getfield 49, 3) := by decide +kernel
theorem dX10_endRinging_21 : decode cX10_endRinging 21 = .ok (.invokevirtual 135, 3) := by decide +kernel
theorem dX10_endRinging_24 : decode cX10_endRinging 24 = .ok (.invokevirtual 138, 3) := by decide +kernel
theorem dX10_endRinging_27 : decode cX10_endRinging 27 = .ok (.pop, 1) := by decide +kernel
theorem dX10_endRinging_28 : decode cX10_endRinging 28 = .ok (.return_, 1) := by decide +kernel
theorem dJ6_bitCount_0f7a4_0 : decode cJ6_bitCount_0f7a4 0 = .ok (.iload_n 0, 1) := by decide +kernel
theorem dJ6_bitCount_0f7a4_1 : decode cJ6_bitCount_0f7a4 1 = .ok (.iload_n 0, 1) := by decide +kernel
theorem dJ6_bitCount_0f7a4_2 : decode cJ6_bitCount_0f7a4 2 = .ok (.iconst 1, 1) := by decide +kernel
theorem dJ6_bitCount_0f7a4_3 : decode cJ6_bitCount_0f7a4 3 = .ok (.iushr, 1) := by decide +kernel
theorem dJ6_bitCount_0f7a4_4 : decode cJ6_bitCount_0f7a4 4 = .ok (.ldc_w 265, 3) := by decide +kernel
theorem dJ6_bitCount_0f7a4_7 : decode cJ6_bitCount_0f7a4 7 = .ok (.iand, 1) := by decide +kernel
theorem dJ6_bitCount_0f7a4_8 : decode cJ6_bitCount_0f7a4 8 = .ok (.isub, 1) := by decide +kernel
theorem dJ6_bitCount_0f7a4_9 : decode cJ6_bitCount_0f7a4 9 = .ok (.istore_n 0, 1) := by decide +kernel
theorem dJ6_bitCount_0f7a4_10 : decode cJ6_bitCount_0f7a4 10 = .ok (.iload_n 0, 1) := by decide +kernel
theorem dJ6_bitCount_0f7a4_11 : decode cJ6_bitCount_0f7a4 11 = .ok (.ldc_w 266, 3) := by decide +kernel
theorem dJ6_bitCount_0f7a4_14 : decode cJ6_bitCount_0f7a4 14 = .ok (.iand, 1) := by decide +kernel
theorem dJ6_bitCount_0f7a4_15 : decode cJ6_bitCount_0f7a4 15 = .ok (.iload_n 0, 1) := by decide +kernel
theorem dJ6_bitCount_0f7a4_16 : decode cJ6_bitCount_0f7a4 16 = .ok (.iconst 2, 1) := by decide +kernel
theorem dJ6_bitCount_0f7a4_17 : decode cJ6_bitCount_0f7a4 17 = .ok (.iushr, 1) := by decide +kernel
theorem dJ6_bitCount_0f7a4_18 : decode cJ6_bitCount_0f7a4 18 = .ok (.ldc_w 266, 3) := by decide +kernel
theorem dJ6_bitCount_0f7a4_21 : decode cJ6_bitCount_0f7a4 21 = .ok (.iand, 1) := by decide +kernel
theorem dJ6_bitCount_0f7a4_22 : decode cJ6_bitCount_0f7a4 22 = .ok (.iadd, 1) := by decide +kernel
theorem dJ6_bitCount_0f7a4_23 : decode cJ6_bitCount_0f7a4 23 = .ok (.istore_n 0, 1) := by decide +kernel
theorem dJ6_bitCount_0f7a4_24 : decode cJ6_bitCount_0f7a4 24 = .ok (.iload_n 0, 1) := by decide +kernel
theorem dJ6_bitCount_0f7a4_25 : decode cJ6_bitCount_0f7a4 25 = .ok (.iload_n 0, 1) := by decide +kernel
theorem dJ6_bitCount_0f7a4_26 : decode cJ6_bitCount_0f7a4 26 = .ok (.iconst 4, 1) := by decide +kernel
theorem dJ6_bitCount_0f7a4_27 : decode cJ6_bitCount_0f7a4 27 = .ok (.iushr, 1) := by decide +kernel
theorem dJ6_bitCount_0f7a4_28 : decode cJ6_bitCount_0f7a4 28 = .ok (.iadd, 1) := by decide +kernel
theorem dJ6_bitCount_0f7a4_29 : decode cJ6_bitCount_0f7a4 29 = .ok (.ldc_w 267, 3) := by decide +kernel
theorem dJ6_bitCount_0f7a4_32 : decode cJ6_bitCount_0f7a4 32 = .ok (.iand, 1) := by decide +kernel
theorem dJ6_bitCount_0f7a4_33 : decode cJ6_bitCount_0f7a4 33 = .ok (.istore_n 0, 1) := by decide +kernel
theorem dJ6_bitCount_0f7a4_34 : decode cJ6_bitCount_0f7a4 34 = .ok (.iload_n 0, 1) := by decide +kernel
theorem dJ6_bitCount_0f7a4_35 : decode cJ6_bitCount_0f7a4 35 = .ok (.iload_n 0, 1) := by decide +kernel
theorem dJ6_bitCount_0f7a4_36 : decode cJ6_bitCount_0f7a4 36 = .ok (.bipush 8, 2) := by decide +kernel
theorem dJ6_bitCount_0f7a4_38 : decode cJ6_bitCount_0f7a4 38 = .ok (.iushr, 1) := by decide +kernel
theorem dJ6_bitCount_0f7a4_39 : decode cJ6_bitCount_0f7a4 39 = .ok (.iadd, 1) := by decide +kernel
theorem dJ6_bitCount_0f7a4_40 : decode cJ6_bitCount_0f7a4 40 = .ok (.istore_n 0, 1) := by decide +kernel
theorem dJ6_bitCount_0f7a4_41 : decode cJ6_bitCount_0f7a4 41 = .ok (.iload_n 0, 1) := by decide +kernel
theorem dJ6_bitCount_0f7a4_42 : decode cJ6_bitCount_0f7a4 42 = .ok (.iload_n 0, 1) := by decide +kernel
theorem dJ6_bitCount_0f7a4_43 : decode cJ6_bitCount_0f7a4 43 = .ok (.bipush 16, 2) := by decide +kernel
theorem dJ6_bitCount_0f7a4_45 : decode cJ6_bitCount_0f7a4 45 = .ok (.iushr, 1) := by decide +kernel
theorem dJ6_bitCount_0f7a4_46 : decode cJ6_bitCount_0f7a4 46 = .ok (.iadd, 1) := by decide +kernel
theorem dJ6_bitCount_0f7a4_47 : decode cJ6_bitCount_0f7a4 47 = .ok (.istore_n 0, 1) := by decide +kernel
theorem dJ6_bitCount_0f7a4_48 : decode cJ6_bitCount_0f7a4 48 = .ok (.iload_n 0, 1) := by decide +kernel
theorem dJ6_bitCount_0f7a4_49 : decode cJ6_bitCount_0f7a4 49 = .ok (.bipush 63, 2) := by decide +kernel
theorem dJ6_bitCount_0f7a4_51 : decode cJ6_bitCount_0f7a4 51 = .ok (.iand, 1) := by decide +kernel
theorem dJ6_bitCount_0f7a4_52 : decode cJ6_bitCount_0f7a4 52 = .ok (.ireturn, 1) := by decide +kernel
theorem dJ9_max_7cf53_0 : decode cJ9_max_7cf53 0 = .ok (.iload_n 0, 1) := by decide +kernel
theorem dJ9_max_7cf53_1 : decode cJ9_max_7cf53 1 = .ok (.iload_n 1, 1) := by decide +kernel
theorem dJ9_max_7cf53_2 : decode cJ9_max_7cf53 2 = .ok (.if_icmp .lt 7, 3) := by decide +kernel
theorem dJ9_max_7cf53_5 : decode cJ9_max_7cf53 5 = .ok (.iload_n 0, 1) := by decide +kernel
theorem dJ9_max_7cf53_6 : decode cJ9_max_7cf53 6 = .ok (.goto 4, 3) := by decide +kernel
theorem dJ9_max_7cf53_9 : decode cJ9_max_7cf53 9 = .ok (.iload_n 1, 1) := by decide +kernel
theorem dJ9_max_7cf53_10 : decode cJ9_max_7cf53 10 = .ok (.ireturn, 1) := by decide +kernel
theorem dJ9_min_7cf53_0 : decode cJ9_min_7cf53 0 = .ok (.iload_n 0, 1) := by decide +kernel
theorem dJ9_min_7cf53_1 : decode cJ9_min_7cf53 1 = .ok (.iload_n 1, 1) := by decide +kernel
theorem dJ9_min_7cf53_2 : decode cJ9_min_7cf53 2 = .ok (.if_icmp .gt 7, 3) := by decide +kernel
theorem dJ9_min_7cf53_5 : decode cJ9_min_7cf53 5 = .ok (.iload_n 0, 1) := by decide +kernel
theorem dJ9_min_7cf53_6 : decode cJ9_min_7cf53 6 = .ok (.goto 4, 3) := by decide +kernel
theorem dJ9_min_7cf53_9 : decode cJ9_min_7cf53 9 = .ok (.iload_n 1, 1) := by decide +kernel
theorem dJ9_min_7cf53_10 : decode cJ9_min_7cf53 10 = .ok (.ireturn, 1) := by decide +kernel
theorem dJxa1e45_init_da8c8_0 : decode cJxa1e45_init_da8c8 0 = .ok (.aload_n 0, 1) := by decide +kernel
theorem dJxa1e45_init_da8c8_1 : decode cJxa1e45_init_da8c8 1 = .ok (.invokespecial 1, 3) := by decide +kernel
theorem dJxa1e45_init_da8c8_4 : decode cJxa1e45_init_da8c8 4 = .ok (.return_, 1) := by decide +kernel
theorem dJxc12de_init_da8c8_0 : decode cJxc12de_init_da8c8 0 = .ok (.aload_n 0, 1) := by decide +kernel
theorem dJxc12de_init_da8c8_1 : decode cJxc12de_init_da8c8 1 = .ok (.invokespecial 1, 3) := by decide +kernel
theorem dJxc12de_init_da8c8_4 : decode cJxc12de_init_da8c8 4 = .ok (.aload_n 0, 1) := by decide +kernel
theorem dJxc12de_init_da8c8_5 : decode cJxc12de_init_da8c8 5 = .ok (.iconst 0, 1) := by decide +kernel
theorem dJxc12de_init_da8c8_6 : decode cJxc12de_init_da8c8 6 = .ok (.putfield 7, 3) := by decide +kernel
theorem dJxc12de_init_da8c8_9 : decode cJxc12de_init_da8c8 9 = .ok (.return_, 1) := by decide +kernel
theorem dJx4a65c_init_da8c8_0 : decode cJx4a65c_init_da8c8 0 = .ok (.aload_n 0, 1) := by decide +kernel
theorem dJx4a65c_init_da8c8_1 : decode cJx4a65c_init_da8c8 1 = .ok (.invokespecial 1, 3) := by decide +kernel
theorem dJx4a65c_init_da8c8_4 : decode cJx4a65c_init_da8c8 4 = .ok (.aload_n 0, 1) := by decide +kernel
theorem dJx4a65c_init_da8c8_5 : decode cJx4a65c_init_da8c8 5 = .ok (.getstatic 39, 3) := by decide +kernel
theorem dJx4a65c_init_da8c8_8 : decode cJx4a65c_init_da8c8 8 = .ok (.putfield 9, 3) := by decide +kernel
theorem dJx4a65c_init_da8c8_11 : decode cJx4a65c_init_da8c8 11 = .ok (.return_, 1) := by decide +kernel
theorem dJx4a65c_grow_92f84_0 : decode cJx4a65c_grow_92f84 0 = .ok (.aload_n 0, 1) := by decide +kernel
theorem dJx4a65c_grow_92f84_1 : decode cJx4a65c_grow_92f84 1 = .ok (.getfield 9, 3) := by decide +kernel
theorem dJx4a65c_grow_92f84_4 : decode cJx4a65c_grow_92f84 4 = .ok (.arraylength, 1) := by decide +kernel
theorem dJx4a65c_grow_92f84_5 : decode cJx4a65c_grow_92f84 5 = .ok (.istore_n 2, 1) := by decide +kernel
theorem dJx4a65c_grow_92f84_6 : decode cJx4a65c_grow_92f84 6 = .ok (.iload_n 2, 1) := by decide +kernel
theorem dJx4a65c_grow_92f84_7 : decode cJx4a65c_grow_92f84 7 = .ok (.ifCond .gt 13, 3) := by decide +kernel
theorem dJx4a65c_grow_92f84_10 : decode cJx4a65c_grow_92f84 10 = .ok (.aload_n 0, 1) := by decide +kernel
theorem dJx4a65c_grow_92f84_11 : decode cJx4a65c_grow_92f84 11 = .ok (.getfield 9, 3) := by decide +kernel
theorem dJx4a65c_grow_92f84_14 : decode cJx4a65c_grow_92f84 14 = .ok (.getstatic 39, 3) := by decide +kernel
theorem dJx4a65c_grow_92f84_17 : decode cJx4a65c_grow_92f84 17 = .ok (.if_acmp .eq 28, 3) := by decide +kernel
theorem dJx4a65c_grow_92f84_20 : decode cJx4a65c_grow_92f84 20 = .ok (.iload_n 2, 1) := by decide +kernel
theorem dJx4a65c_grow_92f84_21 : decode cJx4a65c_grow_92f84 21 = .ok (.iload_n 1, 1) := by decide +kernel
theorem dJx4a65c_grow_92f84_22 : decode cJx4a65c_grow_92f84 22 = .ok (.iload_n 2, 1) := by decide +kernel
theorem dJx4a65c_grow_92f84_23 : decode cJx4a65c_grow_92f84 23 = .ok (.isub, 1) := by decide +kernel
theorem dJx4a65c_grow_92f84_24 : decode cJx4a65c_grow_92f84 24 = .ok (.iload_n 2, 1) := by decide +kernel
theorem dJx4a65c_grow_92f84_25 : decode cJx4a65c_grow_92f84 25 = .ok (.iconst 1, 1) := by decide +kernel
theorem dJx4a65c_grow_92f84_26 : decode cJx4a65c_grow_92f84 26 = .ok (.ishr, 1) := by decide +kernel
theorem dJx4a65c_grow_92f84_27 : decode cJx4a65c_grow_92f84 27 = .ok (.invokestatic 73, 3) := by decide +kernel
theorem dJx4a65c_grow_92f84_30 : decode cJx4a65c_grow_92f84 30 = .ok (.istore_n 3, 1) := by decide +kernel
theorem dJx4a65c_grow_92f84_31 : decode cJx4a65c_grow_92f84 31 = .ok (.aload_n 0, 1) := by decide +kernel
theorem dJx4a65c_grow_92f84_32 : decode cJx4a65c_grow_92f84 32 = .ok (.aload_n 0, 1) := by decide +kernel
theorem dJx4a65c_grow_92f84_33 : decode cJx4a65c_grow_92f84 33 = .ok (.getfield 9, 3) := by decide +kernel
theorem dJx4a65c_grow_92f84_36 : decode cJx4a65c_grow_92f84 36 = .ok (.iload_n 3, 1) := by decide +kernel
theorem dJx4a65c_grow_92f84_37 : decode cJx4a65c_grow_92f84 37 = .ok (.invokestatic 66, 3) := by decide +kernel
theorem dJx4a65c_grow_92f84_40 : decode cJx4a65c_grow_92f84 40 = .ok (.dup_x1, 1) := by decide +kernel
theorem dJx4a65c_grow_92f84_41 : decode cJx4a65c_grow_92f84 41 = .ok (.putfield 9, 3) := by decide +kernel
theorem dJx4a65c_grow_92f84_44 : decode cJx4a65c_grow_92f84 44 = .ok (.areturn, 1) := by decide +kernel
theorem dJx4a65c_grow_92f84_45 : decode cJx4a65c_grow_92f84 45 = .ok (.aload_n 0, 1) := by decide +kernel
theorem dJx4a65c_grow_92f84_46 : decode cJx4a65c_grow_92f84 46 = .ok (.bipush 10, 2) := by decide +kernel
theorem dJx4a65c_grow_92f84_48 : decode cJx4a65c_grow_92f84 48 = .ok (.iload_n 1, 1) := by decide +kernel
theorem dJx4a65c_grow_92f84_49 : decode cJx4a65c_grow_92f84 49 = .ok (.invokestatic 79, 3) := by decide +kernel
theorem dJx4a65c_grow_92f84_52 : decode cJx4a65c_grow_92f84 52 = .ok (.anewarray 7, 3) := by decide +kernel
theorem dJx4a65c_grow_92f84_55 : decode cJx4a65c_grow_92f84 55 = .ok (.dup_x1, 1) := by decide +kernel
theorem dJx4a65c_grow_92f84_56 : decode cJx4a65c_grow_92f84 56 = .ok (.putfield 9, 3) := by decide +kernel
theorem dJx4a65c_grow_92f84_59 : decode cJx4a65c_grow_92f84 59 = .ok (.areturn, 1) := by decide +kernel
theorem dJx4a65c_grow_d5877_0 : decode cJx4a65c_grow_d5877 0 = .ok (.aload_n 0, 1) := by decide +kernel
theorem dJx4a65c_grow_d5877_1 : decode cJx4a65c_grow_d5877 1 = .ok (.aload_n 0, 1) := by decide +kernel
theorem dJx4a65c_grow_d5877_2 : decode cJx4a65c_grow_d5877 2 = .ok (.getfield 48, 3) := by decide +kernel
theorem dJx4a65c_grow_d5877_5 : decode cJx4a65c_grow_d5877 5 = .ok (.iconst 1, 1) := by decide +kernel
theorem dJx4a65c_grow_d5877_6 : decode cJx4a65c_grow_d5877 6 = .ok (.iadd, 1) := by decide +kernel
theorem dJx4a65c_grow_d5877_7 : decode cJx4a65c_grow_d5877 7 = .ok (.invokevirtual 69, 3) := by decide +kernel
theorem dJx4a65c_grow_d5877_10 : decode cJx4a65c_grow_d5877 10 = .ok (.areturn, 1) := by decide +kernel
theorem dJx4a65c_size_8abf5_0 : decode cJx4a65c_size_8abf5 0 = .ok (.aload_n 0, 1) := by decide +kernel
theorem dJx4a65c_size_8abf5_1 : decode cJx4a65c_size_8abf5 1 = .ok (.getfield 48, 3) := by decide +kernel
theorem dJx4a65c_size_8abf5_4 : decode cJx4a65c_size_8abf5 4 = .ok (.ireturn, 1) := by decide +kernel
theorem dJx4a65c_isEmpty_aae02_0 : decode cJx4a65c_isEmpty_aae02 0 = .ok (.aload_n 0, 1) := by decide +kernel
theorem dJx4a65c_isEmpty_aae02_1 : decode cJx4a65c_isEmpty_aae02 1 = .ok (.getfield 48, 3) := by decide +kernel
theorem dJx4a65c_isEmpty_aae02_4 : decode cJx4a65c_isEmpty_aae02 4 = .ok (.ifCond .ne 7, 3) := by decide +kernel
theorem dJx4a65c_isEmpty_aae02_7 : decode cJx4a65c_isEmpty_aae02 7 = .ok (.iconst 1, 1) := by decide +kernel
theorem dJx4a65c_isEmpty_aae02_8 : decode cJx4a65c_isEmpty_aae02 8 = .ok (.goto 4, 3) := by decide +kernel
theorem dJx4a65c_isEmpty_aae02_11 : decode cJx4a65c_isEmpty_aae02 11 = .ok (.iconst 0, 1) := by decide +kernel
theorem dJx4a65c_isEmpty_aae02_12 : decode cJx4a65c_isEmpty_aae02 12 = .ok (.ireturn, 1) := by decide +kernel
theorem dJx4a65c_elementData_915e3_0 : decode cJx4a65c_elementData_915e3 0 = .ok (.aload_n 0, 1) := by decide +kernel
theorem dJx4a65c_elementData_915e3_1 : decode cJx4a65c_elementData_915e3 1 = .ok (.getfield 9, 3) := by decide +kernel
theorem dJx4a65c_elementData_915e3_4 : decode cJx4a65c_elementData_915e3 4 = .ok (.iload_n 1, 1) := by decide +kernel
theorem dJx4a65c_elementData_915e3_5 : decode cJx4a65c_elementData_915e3 5 = .ok (.aaload, 1) := by decide +kernel
theorem dJx4a65c_elementData_915e3_6 : decode cJx4a65c_elementData_915e3 6 = .ok (.areturn, 1) := by decide +kernel
theorem dJx4a65c_get_915e3_0 : decode cJx4a65c_get_915e3 0 = .ok (.iload_n 1, 1) := by decide +kernel
theorem dJx4a65c_get_915e3_1 : decode cJx4a65c_get_915e3 1 = .ok (.aload_n 0, 1) := by decide +kernel
theorem dJx4a65c_get_915e3_2 : decode cJx4a65c_get_915e3 2 = .ok (.getfield 48, 3) := by decide +kernel
theorem dJx4a65c_get_915e3_5 : decode cJx4a65c_get_915e3 5 = .ok (.invokestatic 118, 3) := by decide +kernel
theorem dJx4a65c_get_915e3_8 : decode cJx4a65c_get_915e3 8 = .ok (.pop, 1) := by decide +kernel
theorem dJx4a65c_get_915e3_9 : decode cJx4a65c_get_915e3 9 = .ok (.aload_n 0, 1) := by decide +kernel
theorem dJx4a65c_get_915e3_10 : decode cJx4a65c_get_915e3 10 = .ok (.iload_n 1, 1) := by decide +kernel
theorem dJx4a65c_get_915e3_11 : decode cJx4a65c_get_915e3 11 = .ok (.invokevirtual 123, 3) := by decide +kernel
theorem dJx4a65c_get_915e3_14 : decode cJx4a65c_get_915e3 14 = .ok (.areturn, 1) := by decide +kernel
theorem dJx4a65c_add_72be8_0 : decode cJx4a65c_add_72be8 0 = .ok (.iload_n 3, 1) := by decide +kernel
theorem dJx4a65c_add_72be8_1 : decode cJx4a65c_add_72be8 1 = .ok (.aload_n 2, 1) := by decide +kernel
theorem dJx4a65c_add_72be8_2 : decode cJx4a65c_add_72be8 2 = .ok (.arraylength, 1) := by decide +kernel
theorem dJx4a65c_add_72be8_3 : decode cJx4a65c_add_72be8 3 = .ok (.if_icmp .ne 8, 3) := by decide +kernel
theorem dJx4a65c_add_72be8_6 : decode cJx4a65c_add_72be8 6 = .ok (.aload_n 0, 1) := by decide +kernel
theorem dJx4a65c_add_72be8_7 : decode cJx4a65c_add_72be8 7 = .ok (.invokevirtual 129, 3) := by decide +kernel
theorem dJx4a65c_add_72be8_10 : decode cJx4a65c_add_72be8 10 = .ok (.astore_n 2, 1) := by decide +kernel
theorem dJx4a65c_add_72be8_11 : decode cJx4a65c_add_72be8 11 = .ok (.aload_n 2, 1) := by decide +kernel
theorem dJx4a65c_add_72be8_12 : decode cJx4a65c_add_72be8 12 = .ok (.iload_n 3, 1) := by decide +kernel
theorem dJx4a65c_add_72be8_13 : decode cJx4a65c_add_72be8 13 = .ok (.aload_n 1, 1) := by decide +kernel
theorem dJx4a65c_add_72be8_14 : decode cJx4a65c_add_72be8 14 = .ok (.aastore, 1) := by decide +kernel
theorem dJx4a65c_add_72be8_15 : decode cJx4a65c_add_72be8 15 = .ok (.aload_n 0, 1) := by decide +kernel
theorem dJx4a65c_add_72be8_16 : decode cJx4a65c_add_72be8 16 = .ok (.iload_n 3, 1) := by decide +kernel
theorem dJx4a65c_add_72be8_17 : decode cJx4a65c_add_72be8 17 = .ok (.iconst 1, 1) := by decide +kernel
theorem dJx4a65c_add_72be8_18 : decode cJx4a65c_add_72be8 18 = .ok (.iadd, 1) := by decide +kernel
theorem dJx4a65c_add_72be8_19 : decode cJx4a65c_add_72be8 19 = .ok (.putfield 48, 3) := by decide +kernel
theorem dJx4a65c_add_72be8_22 : decode cJx4a65c_add_72be8 22 = .ok (.return_, 1) := by decide +kernel
theorem dJx4a65c_add_9ea2d_0 : decode cJx4a65c_add_9ea2d 0 = .ok (.aload_n 0, 1) := by decide +kernel
theorem dJx4a65c_add_9ea2d_1 : decode cJx4a65c_add_9ea2d 1 = .ok (.dup, 1) := by decide +kernel
theorem dJx4a65c_add_9ea2d_2 : decode cJx4a65c_add_9ea2d 2 = .ok (.getfield 63, 3) := by decide +kernel
theorem dJx4a65c_add_9ea2d_5 : decode cJx4a65c_add_9ea2d 5 = .ok (.iconst 1, 1) := by decide +kernel
theorem dJx4a65c_add_9ea2d_6 : decode cJx4a65c_add_9ea2d 6 = .ok (.iadd, 1) := by decide +kernel
theorem dJx4a65c_add_9ea2d_7 : decode cJx4a65c_add_9ea2d 7 = .ok (.putfield 63, 3) := by decide +kernel
theorem dJx4a65c_add_9ea2d_10 : decode cJx4a65c_add_9ea2d 10 = .ok (.aload_n 0, 1) := by decide +kernel
theorem dJx4a65c_add_9ea2d_11 : decode cJx4a65c_add_9ea2d 11 = .ok (.aload_n 1, 1) := by decide +kernel
theorem dJx4a65c_add_9ea2d_12 : decode cJx4a65c_add_9ea2d 12 = .ok (.aload_n 0, 1) := by decide +kernel
theorem dJx4a65c_add_9ea2d_13 : decode cJx4a65c_add_9ea2d 13 = .ok (.getfield 9, 3) := by decide +kernel
theorem dJx4a65c_add_9ea2d_16 : decode cJx4a65c_add_9ea2d 16 = .ok (.aload_n 0, 1) := by decide +kernel
theorem dJx4a65c_add_9ea2d_17 : decode cJx4a65c_add_9ea2d 17 = .ok (.getfield 48, 3) := by decide +kernel
theorem dJx4a65c_add_9ea2d_20 : decode cJx4a65c_add_9ea2d 20 = .ok (.invokevirtual 131, 3) := by decide +kernel
theorem dJx4a65c_add_9ea2d_23 : decode cJx4a65c_add_9ea2d 23 = .ok (.iconst 1, 1) := by decide +kernel
theorem dJx4a65c_add_9ea2d_24 : decode cJx4a65c_add_9ea2d 24 = .ok (.ireturn, 1) := by decide +kernel
theorem dJx4a65c_remove_915e3_0 : decode cJx4a65c_remove_915e3 0 = .ok (.iload_n 1, 1) := by decide +kernel
theorem dJx4a65c_remove_915e3_1 : decode cJx4a65c_remove_915e3 1 = .ok (.aload_n 0, 1) := by decide +kernel
theorem dJx4a65c_remove_915e3_2 : decode cJx4a65c_remove_915e3 2 = .ok (.getfield 48, 3) := by decide +kernel
theorem dJx4a65c_remove_915e3_5 : decode cJx4a65c_remove_915e3 5 = .ok (.invokestatic 118, 3) := by decide +kernel
theorem dJx4a65c_remove_915e3_8 : decode cJx4a65c_remove_915e3 8 = .ok (.pop, 1) := by decide +kernel
theorem dJx4a65c_remove_915e3_9 : decode cJx4a65c_remove_915e3 9 = .ok (.aload_n 0, 1) := by decide +kernel
theorem dJx4a65c_remove_915e3_10 : decode cJx4a65c_remove_915e3 10 = .ok (.getfield 9, 3) := by decide +kernel
theorem dJx4a65c_remove_915e3_13 : decode cJx4a65c_remove_915e3 13 = .ok (.astore_n 2, 1) := by decide +kernel
theorem dJx4a65c_remove_915e3_14 : decode cJx4a65c_remove_915e3 14 = .ok (.aload_n 2, 1) := by decide +kernel
theorem dJx4a65c_remove_915e3_15 : decode cJx4a65c_remove_915e3 15 = .ok (.iload_n 1, 1) := by decide +kernel
theorem dJx4a65c_remove_915e3_16 : decode cJx4a65c_remove_915e3 16 = .ok (.aaload, 1) := by decide +kernel
theorem dJx4a65c_remove_915e3_17 : decode cJx4a65c_remove_915e3 17 = .ok (.astore_n 3, 1) := by decide +kernel
theorem dJx4a65c_remove_915e3_18 : decode cJx4a65c_remove_915e3 18 = .ok (.aload_n 0, 1) := by decide +kernel
theorem dJx4a65c_remove_915e3_19 : decode cJx4a65c_remove_915e3 19 = .ok (.aload_n 2, 1) := by decide +kernel
theorem dJx4a65c_remove_915e3_20 : decode cJx4a65c_remove_915e3 20 = .ok (.iload_n 1, 1) := by decide +kernel
theorem dJx4a65c_remove_915e3_21 : decode cJx4a65c_remove_915e3 21 = .ok (.invokevirtual 144, 3) := by decide +kernel
theorem dJx4a65c_remove_915e3_24 : decode cJx4a65c_remove_915e3 24 = .ok (.aload_n 3, 1) := by decide +kernel
theorem dJx4a65c_remove_915e3_25 : decode cJx4a65c_remove_915e3 25 = .ok (.areturn, 1) := by decide +kernel
theorem dJx4a65c_fastRemove_b59b0_0 : decode cJx4a65c_fastRemove_b59b0 0 = .ok (.aload_n 0, 1) := by decide +kernel
theorem dJx4a65c_fastRemove_b59b0_1 : decode cJx4a65c_fastRemove_b59b0 1 = .ok (.dup, 1) := by decide +kernel
theorem dJx4a65c_fastRemove_b59b0_2 : decode cJx4a65c_fastRemove_b59b0 2 = .ok (.getfield 63, 3) := by decide +kernel
theorem dJx4a65c_fastRemove_b59b0_5 : decode cJx4a65c_fastRemove_b59b0 5 = .ok (.iconst 1, 1) := by decide +kernel
theorem dJx4a65c_fastRemove_b59b0_6 : decode cJx4a65c_fastRemove_b59b0 6 = .ok (.iadd, 1) := by decide +kernel
theorem dJx4a65c_fastRemove_b59b0_7 : decode cJx4a65c_fastRemove_b59b0 7 = .ok (.putfield 63, 3) := by decide +kernel
theorem dJx4a65c_fastRemove_b59b0_10 : decode cJx4a65c_fastRemove_b59b0 10 = .ok (.aload_n 0, 1) := by decide +kernel
theorem dJx4a65c_fastRemove_b59b0_11 : decode cJx4a65c_fastRemove_b59b0 11 = .ok (.getfield 48, 3) := by decide +kernel
theorem dJx4a65c_fastRemove_b59b0_14 : decode cJx4a65c_fastRemove_b59b0 14 = .ok (.iconst 1, 1) := by decide +kernel
theorem dJx4a65c_fastRemove_b59b0_15 : decode cJx4a65c_fastRemove_b59b0 15 = .ok (.isub, 1) := by decide +kernel
theorem dJx4a65c_fastRemove_b59b0_16 : decode cJx4a65c_fastRemove_b59b0 16 = .ok (.dup, 1) := by decide +kernel
theorem dJx4a65c_fastRemove_b59b0_17 : decode cJx4a65c_fastRemove_b59b0 17 = .ok (.istore_n 3, 1) := by decide +kernel
theorem dJx4a65c_fastRemove_b59b0_18 : decode cJx4a65c_fastRemove_b59b0 18 = .ok (.iload_n 2, 1) := by decide +kernel
theorem dJx4a65c_fastRemove_b59b0_19 : decode cJx4a65c_fastRemove_b59b0 19 = .ok (.if_icmp .le 15, 3) := by decide +kernel
theorem dJx4a65c_fastRemove_b59b0_22 : decode cJx4a65c_fastRemove_b59b0 22 = .ok (.aload_n 1, 1) := by decide +kernel
theorem dJx4a65c_fastRemove_b59b0_23 : decode cJx4a65c_fastRemove_b59b0 23 = .ok (.iload_n 2, 1) := by decide +kernel
theorem dJx4a65c_fastRemove_b59b0_24 : decode cJx4a65c_fastRemove_b59b0 24 = .ok (.iconst 1, 1) := by decide +kernel
theorem dJx4a65c_fastRemove_b59b0_25 : decode cJx4a65c_fastRemove_b59b0 25 = .ok (.iadd, 1) := by decide +kernel
theorem dJx4a65c_fastRemove_b59b0_26 : decode cJx4a65c_fastRemove_b59b0 26 = .ok (.aload_n 1, 1) := by decide +kernel
theorem dJx4a65c_fastRemove_b59b0_27 : decode cJx4a65c_fastRemove_b59b0 27 = .ok (.iload_n 2, 1) := by decide +kernel
theorem dJx4a65c_fastRemove_b59b0_28 : decode cJx4a65c_fastRemove_b59b0 28 = .ok (.iload_n 3, 1) := by decide +kernel
theorem dJx4a65c_fastRemove_b59b0_29 : decode cJx4a65c_fastRemove_b59b0 29 = .ok (.iload_n 2, 1) := by decide +kernel
theorem dJx4a65c_fastRemove_b59b0_30 : decode cJx4a65c_fastRemove_b59b0 30 = .ok (.isub, 1) := by decide +kernel
theorem dJx4a65c_fastRemove_b59b0_31 : decode cJx4a65c_fastRemove_b59b0 31 = .ok (.invokestatic 112, 3) := by decide +kernel
theorem dJx4a65c_fastRemove_b59b0_34 : decode cJx4a65c_fastRemove_b59b0 34 = .ok (.aload_n 1, 1) := by decide +kernel
theorem dJx4a65c_fastRemove_b59b0_35 : decode cJx4a65c_fastRemove_b59b0 35 = .ok (.aload_n 0, 1) := by decide +kernel
theorem dJx4a65c_fastRemove_b59b0_36 : decode cJx4a65c_fastRemove_b59b0 36 = .ok (.iload_n 3, 1) := by decide +kernel
theorem dJx4a65c_fastRemove_b59b0_37 : decode cJx4a65c_fastRemove_b59b0 37 = .ok (.dup_x1, 1) := by decide +kernel
theorem dJx4a65c_fastRemove_b59b0_38 : decode cJx4a65c_fastRemove_b59b0 38 = .ok (.putfield 48, 3) := by decide +kernel
theorem dJx4a65c_fastRemove_b59b0_41 : decode cJx4a65c_fastRemove_b59b0 41 = .ok (.aconst_null, 1) := by decide +kernel
theorem dJx4a65c_fastRemove_b59b0_42 : decode cJx4a65c_fastRemove_b59b0 42 = .ok (.aastore, 1) := by decide +kernel
theorem dJx4a65c_fastRemove_b59b0_43 : decode cJx4a65c_fastRemove_b59b0 43 = .ok (.return_, 1) := by decide +kernel
theorem dJx4a65c_clear_da8c8_0 : decode cJx4a65c_clear_da8c8 0 = .ok (.aload_n 0, 1) := by decide +kernel
theorem dJx4a65c_clear_da8c8_1 : decode cJx4a65c_clear_da8c8 1 = .ok (.dup, 1) := by decide +kernel
theorem dJx4a65c_clear_da8c8_2 : decode cJx4a65c_clear_da8c8 2 = .ok (.getfield 63, 3) := by decide +kernel
theorem dJx4a65c_clear_da8c8_5 : decode cJx4a65c_clear_da8c8 5 = .ok (.iconst 1, 1) := by decide +kernel
theorem dJx4a65c_clear_da8c8_6 : decode cJx4a65c_clear_da8c8 6 = .ok (.iadd, 1) := by decide +kernel
theorem dJx4a65c_clear_da8c8_7 : decode cJx4a65c_clear_da8c8 7 = .ok (.putfield 63, 3) := by decide +kernel
theorem dJx4a65c_clear_da8c8_10 : decode cJx4a65c_clear_da8c8 10 = .ok (.aload_n 0, 1) := by decide +kernel
theorem dJx4a65c_clear_da8c8_11 : decode cJx4a65c_clear_da8c8 11 = .ok (.getfield 9, 3) := by decide +kernel
theorem dJx4a65c_clear_da8c8_14 : decode cJx4a65c_clear_da8c8 14 = .ok (.astore_n 1, 1) := by decide +kernel
theorem dJx4a65c_clear_da8c8_15 : decode cJx4a65c_clear_da8c8 15 = .ok (.aload_n 0, 1) := by decide +kernel
theorem dJx4a65c_clear_da8c8_16 : decode cJx4a65c_clear_da8c8 16 = .ok (.getfield 48, 3) := by decide +kernel
theorem dJx4a65c_clear_da8c8_19 : decode cJx4a65c_clear_da8c8 19 = .ok (.istore_n 2, 1) := by decide +kernel
theorem dJx4a65c_clear_da8c8_20 : decode cJx4a65c_clear_da8c8 20 = .ok (.aload_n 0, 1) := by decide +kernel
theorem dJx4a65c_clear_da8c8_21 : decode cJx4a65c_clear_da8c8 21 = .ok (.iconst 0, 1) := by decide +kernel
theorem dJx4a65c_clear_da8c8_22 : decode cJx4a65c_clear_da8c8 22 = .ok (.dup_x1, 1) := by decide +kernel
theorem dJx4a65c_clear_da8c8_23 : decode cJx4a65c_clear_da8c8 23 = .ok (.putfield 48, 3) := by decide +kernel
theorem dJx4a65c_clear_da8c8_26 : decode cJx4a65c_clear_da8c8 26 = .ok (.istore_n 3, 1) := by decide +kernel
theorem dJx4a65c_clear_da8c8_27 : decode cJx4a65c_clear_da8c8 27 = .ok (.iload_n 3, 1) := by decide +kernel
theorem dJx4a65c_clear_da8c8_28 : decode cJx4a65c_clear_da8c8 28 = .ok (.iload_n 2, 1) := by decide +kernel
theorem dJx4a65c_clear_da8c8_29 : decode cJx4a65c_clear_da8c8 29 = .ok (.if_icmp .ge 13, 3) := by decide +kernel
theorem dJx4a65c_clear_da8c8_32 : decode cJx4a65c_clear_da8c8 32 = .ok (.aload_n 1, 1) := by decide +kernel
theorem dJx4a65c_clear_da8c8_33 : decode cJx4a65c_clear_da8c8 33 = .ok (.iload_n 3, 1) := by decide +kernel
theorem dJx4a65c_clear_da8c8_34 : decode cJx4a65c_clear_da8c8 34 = .ok (.aconst_null, 1) := by decide +kernel
theorem dJx4a65c_clear_da8c8_35 : decode cJx4a65c_clear_da8c8 35 = .ok (.aastore, 1) := by decide +kernel
theorem dJx4a65c_clear_da8c8_36 : decode cJx4a65c_clear_da8c8 36 = .ok (.iinc 3 1, 3) := by decide +kernel
theorem dJx4a65c_clear_da8c8_39 : decode cJx4a65c_clear_da8c8 39 = .ok (.goto (-12), 3) := by decide +kernel
theorem dJx4a65c_clear_da8c8_42 : decode cJx4a65c_clear_da8c8 42 = .ok (.return_, 1) := by decide +kernel
theorem dJ7_copyOf_1904c_0 : decode cJ7_copyOf_1904c 0 = .ok (.aload_n 0, 1) := by decide +kernel
theorem dJ7_copyOf_1904c_1 : decode cJ7_copyOf_1904c 1 = .ok (.iload_n 1, 1) := by decide +kernel
theorem dJ7_copyOf_1904c_2 : decode cJ7_copyOf_1904c 2 = .ok (.aload_n 0, 1) := by decide +kernel
theorem dJ7_copyOf_1904c_3 : decode cJ7_copyOf_1904c 3 = .ok (.invokevirtual 86, 3) := by decide +kernel
theorem dJ7_copyOf_1904c_6 : decode cJ7_copyOf_1904c 6 = .ok (.invokestatic 300, 3) := by decide +kernel
theorem dJ7_copyOf_1904c_9 : decode cJ7_copyOf_1904c 9 = .ok (.areturn, 1) := by decide +kernel
theorem dJ7_copyOf_6403c_0 : decode cJ7_copyOf_6403c 0 = .ok (.aload_n 2, 1) := by decide +kernel
theorem dJ7_copyOf_6403c_1 : decode cJ7_copyOf_6403c 1 = .ok (.ldc 110, 2) := by decide +kernel
theorem dJ7_copyOf_6403c_3 : decode cJ7_copyOf_6403c 3 = .ok (.if_acmp .ne 10, 3) := by decide +kernel
theorem dJ7_copyOf_6403c_6 : decode cJ7_copyOf_6403c 6 = .ok (.iload_n 1, 1) := by decide +kernel
theorem dJ7_copyOf_6403c_7 : decode cJ7_copyOf_6403c 7 = .ok (.anewarray 2, 3) := by decide +kernel
theorem dJ7_copyOf_6403c_10 : decode cJ7_copyOf_6403c 10 = .ok (.goto 14, 3) := by decide +kernel
theorem dJ7_copyOf_6403c_13 : decode cJ7_copyOf_6403c 13 = .ok (.aload_n 2, 1) := by decide +kernel
theorem dJ7_copyOf_6403c_14 : decode cJ7_copyOf_6403c 14 = .ok (.invokevirtual 90, 3) := by decide +kernel
theorem dJ7_copyOf_6403c_17 : decode cJ7_copyOf_6403c 17 = .ok (.iload_n 1, 1) := by decide +kernel
theorem dJ7_copyOf_6403c_18 : decode cJ7_copyOf_6403c 18 = .ok (.invokestatic 95, 3) := by decide +kernel
theorem dJ7_copyOf_6403c_21 : decode cJ7_copyOf_6403c 21 = .ok (.checkcast 110, 3) := by decide +kernel
theorem dJ7_copyOf_6403c_24 : decode cJ7_copyOf_6403c 24 = .ok (.astore_n 3, 1) := by decide +kernel
theorem dJ7_copyOf_6403c_25 : decode cJ7_copyOf_6403c 25 = .ok (.aload_n 0, 1) := by decide +kernel
theorem dJ7_copyOf_6403c_26 : decode cJ7_copyOf_6403c 26 = .ok (.iconst 0, 1) := by decide +kernel
theorem dJ7_copyOf_6403c_27 : decode cJ7_copyOf_6403c 27 = .ok (.aload_n 3, 1) := by decide +kernel
theorem dJ7_copyOf_6403c_28 : decode cJ7_copyOf_6403c 28 = .ok (.iconst 0, 1) := by decide +kernel
theorem dJ7_copyOf_6403c_29 : decode cJ7_copyOf_6403c 29 = .ok (.aload_n 0, 1) := by decide +kernel
theorem dJ7_copyOf_6403c_30 : decode cJ7_copyOf_6403c 30 = .ok (.arraylength, 1) := by decide +kernel
theorem dJ7_copyOf_6403c_31 : decode cJ7_copyOf_6403c 31 = .ok (.iload_n 1, 1) := by decide +kernel
theorem dJ7_copyOf_6403c_32 : decode cJ7_copyOf_6403c 32 = .ok (.invokestatic 304, 3) := by decide +kernel
theorem dJ7_copyOf_6403c_35 : decode cJ7_copyOf_6403c 35 = .ok (.invokestatic 150, 3) := by decide +kernel
theorem dJ7_copyOf_6403c_38 : decode cJ7_copyOf_6403c 38 = .ok (.aload_n 3, 1) := by decide +kernel
theorem dJ7_copyOf_6403c_39 : decode cJ7_copyOf_6403c 39 = .ok (.areturn, 1) := by decide +kernel
theorem dJ15_checkIndex_7cf53_0 : decode cJ15_checkIndex_7cf53 0 = .ok (.iload_n 0, 1) := by decide +kernel
theorem dJ15_checkIndex_7cf53_1 : decode cJ15_checkIndex_7cf53 1 = .ok (.iload_n 1, 1) := by decide +kernel
theorem dJ15_checkIndex_7cf53_2 : decode cJ15_checkIndex_7cf53 2 = .ok (.aconst_null, 1) := by decide +kernel
theorem dJ15_checkIndex_7cf53_3 : decode cJ15_checkIndex_7cf53 3 = .ok (.invokestatic 105, 3) := by decide +kernel
theorem dJ15_checkIndex_7cf53_6 : decode cJ15_checkIndex_7cf53 6 = .ok (.ireturn, 1) := by decide +kernel
theorem dJ8_newLength_cabcc_0 : decode cJ8_newLength_cabcc 0 = .ok (.iload_n 0, 1) := by decide +kernel
theorem dJ8_newLength_cabcc_1 : decode cJ8_newLength_cabcc 1 = .ok (.iload_n 1, 1) := by decide +kernel
theorem dJ8_newLength_cabcc_2 : decode cJ8_newLength_cabcc 2 = .ok (.iload_n 2, 1) := by decide +kernel
theorem dJ8_newLength_cabcc_3 : decode cJ8_newLength_cabcc 3 = .ok (.invokestatic 194, 3) := by decide +kernel
theorem dJ8_newLength_cabcc_6 : decode cJ8_newLength_cabcc 6 = .ok (.iadd, 1) := by decide +kernel
theorem dJ8_newLength_cabcc_7 : decode cJ8_newLength_cabcc 7 = .ok (.istore_n 3, 1) := by decide +kernel
theorem dJ8_newLength_cabcc_8 : decode cJ8_newLength_cabcc 8 = .ok (.iconst 0, 1) := by decide +kernel
theorem dJ8_newLength_cabcc_9 : decode cJ8_newLength_cabcc 9 = .ok (.iload_n 3, 1) := by decide +kernel
theorem dJ8_newLength_cabcc_10 : decode cJ8_newLength_cabcc 10 = .ok (.if_icmp .ge 11, 3) := by decide +kernel
theorem dJ8_newLength_cabcc_13 : decode cJ8_newLength_cabcc 13 = .ok (.iload_n 3, 1) := by decide +kernel
theorem dJ8_newLength_cabcc_14 : decode cJ8_newLength_cabcc 14 = .ok (.ldc 200, 2) := by decide +kernel
theorem dJ8_newLength_cabcc_16 : decode cJ8_newLength_cabcc 16 = .ok (.if_icmp .gt 5, 3) := by decide +kernel
theorem dJ8_newLength_cabcc_19 : decode cJ8_newLength_cabcc 19 = .ok (.iload_n 3, 1) := by decide +kernel
theorem dJ8_newLength_cabcc_20 : decode cJ8_newLength_cabcc 20 = .ok (.ireturn, 1) := by decide +kernel
theorem dJ8_newLength_cabcc_21 : decode cJ8_newLength_cabcc 21 = .ok (.iload_n 0, 1) := by decide +kernel
theorem dJ8_newLength_cabcc_22 : decode cJ8_newLength_cabcc 22 = .ok (.iload_n 1, 1) := by decide +kernel
theorem dJ8_newLength_cabcc_23 : decode cJ8_newLength_cabcc 23 = .ok (.invokestatic 201, 3) := by decide +kernel
theorem dJ8_newLength_cabcc_26 : decode cJ8_newLength_cabcc 26 = .ok (.ireturn, 1) := by decide +kernel
theorem dJ8_hugeLength_7cf53_0 : decode cJ8_hugeLength_7cf53 0 = .ok (.iload_n 0, 1) := by decide +kernel
theorem dJ8_hugeLength_7cf53_1 : decode cJ8_hugeLength_7cf53 1 = .ok (.iload_n 1, 1) := by decide +kernel
theorem dJ8_hugeLength_7cf53_2 : decode cJ8_hugeLength_7cf53 2 = .ok (.iadd, 1) := by decide +kernel
theorem dJ8_hugeLength_7cf53_3 : decode cJ8_hugeLength_7cf53 3 = .ok (.istore_n 2, 1) := by decide +kernel
theorem dJ8_hugeLength_7cf53_4 : decode cJ8_hugeLength_7cf53 4 = .ok (.iload_n 2, 1) := by decide +kernel
theorem dJ8_hugeLength_7cf53_5 : decode cJ8_hugeLength_7cf53 5 = .ok (.ifCond .ge 44, 3) := by decide +kernel
theorem dJ8_hugeLength_7cf53_8 : decode cJ8_hugeLength_7cf53 8 = .ok (.new 204, 3) := by decide +kernel
theorem dJ8_hugeLength_7cf53_11 : decode cJ8_hugeLength_7cf53 11 = .ok (.dup, 1) := by decide +kernel
theorem dJ8_hugeLength_7cf53_12 : decode cJ8_hugeLength_7cf53 12 = .ok (.new 89, 3) := by decide +kernel
theorem dJ8_hugeLength_7cf53_15 : decode cJ8_hugeLength_7cf53 15 = .ok (.dup, 1) := by decide +kernel
theorem dJ8_hugeLength_7cf53_16 : decode cJ8_hugeLength_7cf53 16 = .ok (.invokespecial 91, 3) := by decide +kernel
theorem dJ8_hugeLength_7cf53_19 : decode cJ8_hugeLength_7cf53 19 = .ok (.ldc 206, 2) := by decide +kernel
theorem dJ8_hugeLength_7cf53_21 : decode cJ8_hugeLength_7cf53 21 = .ok (.invokevirtual 94, 3) := by decide +kernel
theorem dJ8_hugeLength_7cf53_24 : decode cJ8_hugeLength_7cf53 24 = .ok (.iload_n 0, 1) := by decide +kernel
theorem dJ8_hugeLength_7cf53_25 : decode cJ8_hugeLength_7cf53 25 = .ok (.invokevirtual 98, 3) := by decide +kernel
theorem dJ8_hugeLength_7cf53_28 : decode cJ8_hugeLength_7cf53 28 = .ok (.ldc 208, 2) := by decide +kernel
theorem dJ8_hugeLength_7cf53_30 : decode cJ8_hugeLength_7cf53 30 = .ok (.invokevirtual 94, 3) := by decide +kernel
theorem dJ8_hugeLength_7cf53_33 : decode cJ8_hugeLength_7cf53 33 = .ok (.iload_n 1, 1) := by decide +kernel
theorem dJ8_hugeLength_7cf53_34 : decode cJ8_hugeLength_7cf53 34 = .ok (.invokevirtual 98, 3) := by decide +kernel
theorem dJ8_hugeLength_7cf53_37 : decode cJ8_hugeLength_7cf53 37 = .ok (.ldc 210, 2) := by decide +kernel
theorem dJ8_hugeLength_7cf53_39 : decode cJ8_hugeLength_7cf53 39 = .ok (.invokevirtual 94, 3) := by decide +kernel
theorem dJ8_hugeLength_7cf53_42 : decode cJ8_hugeLength_7cf53 42 = .ok (.invokevirtual 101, 3) := by decide +kernel
theorem dJ8_hugeLength_7cf53_45 : decode cJ8_hugeLength_7cf53 45 = .ok (.invokespecial 212, 3) := by decide +kernel
theorem dJ8_hugeLength_7cf53_48 : decode cJ8_hugeLength_7cf53 48 = .ok (.athrow, 1) := by decide +kernel
theorem dJ8_hugeLength_7cf53_49 : decode cJ8_hugeLength_7cf53 49 = .ok (.iload_n 2, 1) := by decide +kernel
theorem dJ8_hugeLength_7cf53_50 : decode cJ8_hugeLength_7cf53 50 = .ok (.ldc 200, 2) := by decide +kernel
theorem dJ8_hugeLength_7cf53_52 : decode cJ8_hugeLength_7cf53 52 = .ok (.if_icmp .gt 6, 3) := by decide +kernel
theorem dJ8_hugeLength_7cf53_55 : decode cJ8_hugeLength_7cf53 55 = .ok (.ldc 200, 2) := by decide +kernel
theorem dJ8_hugeLength_7cf53_57 : decode cJ8_hugeLength_7cf53 57 = .ok (.ireturn, 1) := by decide +kernel
theorem dJ8_hugeLength_7cf53_58 : decode cJ8_hugeLength_7cf53 58 = .ok (.iload_n 2, 1) := by decide +kernel
theorem dJ8_hugeLength_7cf53_59 : decode cJ8_hugeLength_7cf53 59 = .ok (.ireturn, 1) := by decide +kernel
theorem dJ3_checkIndex_8e157_0 : decode cJ3_checkIndex_8e157 0 = .ok (.iload_n 0, 1) := by decide +kernel
theorem dJ3_checkIndex_8e157_1 : decode cJ3_checkIndex_8e157 1 = .ok (.ifCond .lt 8, 3) := by decide +kernel
theorem dJ3_checkIndex_8e157_4 : decode cJ3_checkIndex_8e157 4 = .ok (.iload_n 0, 1) := by decide +kernel
theorem dJ3_checkIndex_8e157_5 : decode cJ3_checkIndex_8e157 5 = .ok (.iload_n 1, 1) := by decide +kernel
theorem dJ3_checkIndex_8e157_6 : decode cJ3_checkIndex_8e157 6 = .ok (.if_icmp .lt 10, 3) := by decide +kernel
theorem dJ3_checkIndex_8e157_9 : decode cJ3_checkIndex_8e157 9 = .ok (.aload_n 2, 1) := by decide +kernel
theorem dJ3_checkIndex_8e157_10 : decode cJ3_checkIndex_8e157 10 = .ok (.iload_n 0, 1) := by decide +kernel
theorem dJ3_checkIndex_8e157_11 : decode cJ3_checkIndex_8e157 11 = .ok (.iload_n 1, 1) := by decide +kernel
theorem dJ3_checkIndex_8e157_12 : decode cJ3_checkIndex_8e157 12 = .ok (.invokestatic 95, 3) := by decide +kernel
theorem dJ3_checkIndex_8e157_15 : decode cJ3_checkIndex_8e157 15 = .ok (.athrow, 1) := by decide +kernel
theorem dJ3_checkIndex_8e157_16 : decode cJ3_checkIndex_8e157 16 = .ok (.iload_n 0, 1) := by decide +kernel
theorem dJ3_checkIndex_8e157_17 : decode cJ3_checkIndex_8e157 17 = .ok (.ireturn, 1) := by decide +kernel
theorem dL_cell_0 : decode cL_cell 0 = .ok (.iload_n 1, 1) := by decide +kernel
theorem dL_cell_1 : decode cL_cell 1 = .ok (.aload_n 0, 1) := by decide +kernel
theorem dL_cell_2 : decode cL_cell 2 = .ok (.arraylength, 1) := by decide +kernel
theorem dL_cell_3 : decode cL_cell 3 = .ok (.if_icmp .ge 9, 3) := by decide +kernel
theorem dL_cell_6 : decode cL_cell 6 = .ok (.aload_n 0, 1) := by decide +kernel
theorem dL_cell_7 : decode cL_cell 7 = .ok (.iload_n 1, 1) := by decide +kernel
theorem dL_cell_8 : decode cL_cell 8 = .ok (.iaload, 1) := by decide +kernel
theorem dL_cell_9 : decode cL_cell 9 = .ok (.goto 9, 3) := by decide +kernel
theorem dL_cell_12 : decode cL_cell 12 = .ok (.ldc 7, 2) := by decide +kernel
theorem dL_cell_14 : decode cL_cell 14 = .ok (.iload_n 1, 1) := by decide +kernel
theorem dL_cell_15 : decode cL_cell 15 = .ok (.iconst 5, 1) := by decide +kernel
theorem dL_cell_16 : decode cL_cell 16 = .ok (.iadd, 1) := by decide +kernel
theorem dL_cell_17 : decode cL_cell 17 = .ok (.imul, 1) := by decide +kernel
theorem dL_cell_18 : decode cL_cell 18 = .ok (.ireturn, 1) := by decide +kernel
theorem dL_low_0 : decode cL_low 0 = .ok (.iload_n 0, 1) := by decide +kernel
theorem dL_low_1 : decode cL_low 1 = .ok (.iconst 1, 1) := by decide +kernel
theorem dL_low_2 : decode cL_low 2 = .ok (.iushr, 1) := by decide +kernel
theorem dL_low_3 : decode cL_low 3 = .ok (.iload_n 1, 1) := by decide +kernel
theorem dL_low_4 : decode cL_low 4 = .ok (.irem, 1) := by decide +kernel
theorem dL_low_5 : decode cL_low 5 = .ok (.ireturn, 1) := by decide +kernel
theorem dL_change_0 : decode cL_change 0 = .ok (.aload_n 0, 1) := by decide +kernel
theorem dL_change_1 : decode cL_change 1 = .ok (.iload_n 1, 1) := by decide +kernel
theorem dL_change_2 : decode cL_change 2 = .ok (.invokevirtual 8, 3) := by decide +kernel
theorem dL_change_5 : decode cL_change 5 = .ok (.istore_n 2, 1) := by decide +kernel
theorem dL_change_6 : decode cL_change 6 = .ok (.goto 13, 3) := by decide +kernel
theorem dL_change_9 : decode cL_change 9 = .ok (.astore_n 3, 1) := by decide +kernel
theorem dL_change_10 : decode cL_change 10 = .ok (.sipush (-7200), 3) := by decide +kernel
theorem dL_change_13 : decode cL_change 13 = .ok (.ireturn, 1) := by decide +kernel
theorem dL_change_14 : decode cL_change 14 = .ok (.astore_n 3, 1) := by decide +kernel
theorem dL_change_15 : decode cL_change 15 = .ok (.sipush (-7300), 3) := by decide +kernel
theorem dL_change_18 : decode cL_change 18 = .ok (.ireturn, 1) := by decide +kernel
theorem dL_change_19 : decode cL_change 19 = .ok (.iload_n 2, 1) := by decide +kernel
theorem dL_change_20 : decode cL_change 20 = .ok (.ireturn, 1) := by decide +kernel
theorem dL_method_0 : decode cL_method 0 = .ok (.aload_n 0, 1) := by decide +kernel
theorem dL_method_1 : decode cL_method 1 = .ok (.iload_n 1, 1) := by decide +kernel
theorem dL_method_2 : decode cL_method 2 = .ok (.invokevirtual 18, 3) := by decide +kernel
theorem dL_method_5 : decode cL_method 5 = .ok (.istore_n 2, 1) := by decide +kernel
theorem dL_method_6 : decode cL_method 6 = .ok (.goto 13, 3) := by decide +kernel
theorem dL_method_9 : decode cL_method 9 = .ok (.astore_n 3, 1) := by decide +kernel
theorem dL_method_10 : decode cL_method 10 = .ok (.sipush (-7200), 3) := by decide +kernel
theorem dL_method_13 : decode cL_method 13 = .ok (.ireturn, 1) := by decide +kernel
theorem dL_method_14 : decode cL_method 14 = .ok (.astore_n 3, 1) := by decide +kernel
theorem dL_method_15 : decode cL_method 15 = .ok (.sipush (-7300), 3) := by decide +kernel
theorem dL_method_18 : decode cL_method 18 = .ok (.ireturn, 1) := by decide +kernel
theorem dL_method_19 : decode cL_method 19 = .ok (.iload_n 2, 1) := by decide +kernel
theorem dL_method_20 : decode cL_method 20 = .ok (.ireturn, 1) := by decide +kernel
theorem dL_setCall_0 : decode cL_setCall 0 = .ok (.aload_n 0, 1) := by decide +kernel
theorem dL_setCall_1 : decode cL_setCall 1 = .ok (.iload_n 1, 1) := by decide +kernel
theorem dL_setCall_2 : decode cL_setCall 2 = .ok (.iload_n 2, 1) := by decide +kernel
theorem dL_setCall_3 : decode cL_setCall 3 = .ok (.iload_n 3, 1) := by decide +kernel
theorem dL_setCall_4 : decode cL_setCall 4 = .ok (.invokevirtual 21, 3) := by decide +kernel
theorem dL_setCall_7 : decode cL_setCall 7 = .ok (.istore 4, 2) := by decide +kernel
theorem dL_setCall_9 : decode cL_setCall 9 = .ok (.goto 21, 3) := by decide +kernel
theorem dL_setCall_12 : decode cL_setCall 12 = .ok (.astore 5, 2) := by decide +kernel
theorem dL_setCall_14 : decode cL_setCall 14 = .ok (.sipush (-7100), 3) := by decide +kernel
theorem dL_setCall_17 : decode cL_setCall 17 = .ok (.ireturn, 1) := by decide +kernel
theorem dL_setCall_18 : decode cL_setCall 18 = .ok (.astore 5, 2) := by decide +kernel
theorem dL_setCall_20 : decode cL_setCall 20 = .ok (.sipush (-7200), 3) := by decide +kernel
theorem dL_setCall_23 : decode cL_setCall 23 = .ok (.ireturn, 1) := by decide +kernel
theorem dL_setCall_24 : decode cL_setCall 24 = .ok (.astore 5, 2) := by decide +kernel
theorem dL_setCall_26 : decode cL_setCall 26 = .ok (.sipush (-7300), 3) := by decide +kernel
theorem dL_setCall_29 : decode cL_setCall 29 = .ok (.ireturn, 1) := by decide +kernel
theorem dL_setCall_30 : decode cL_setCall 30 = .ok (.iload 4, 2) := by decide +kernel
theorem dL_setCall_32 : decode cL_setCall 32 = .ok (.ireturn, 1) := by decide +kernel
theorem dL_stage_0 : decode cL_stage 0 = .ok (.aload_n 0, 1) := by decide +kernel
theorem dL_stage_1 : decode cL_stage 1 = .ok (.iload_n 1, 1) := by decide +kernel
theorem dL_stage_2 : decode cL_stage 2 = .ok (.invokevirtual 27, 3) := by decide +kernel
theorem dL_stage_5 : decode cL_stage 5 = .ok (.istore_n 2, 1) := by decide +kernel
theorem dL_stage_6 : decode cL_stage 6 = .ok (.goto 8, 3) := by decide +kernel
theorem dL_stage_9 : decode cL_stage 9 = .ok (.astore_n 3, 1) := by decide +kernel
theorem dL_stage_10 : decode cL_stage 10 = .ok (.sipush (-7100), 3) := by decide +kernel
theorem dL_stage_13 : decode cL_stage 13 = .ok (.ireturn, 1) := by decide +kernel
theorem dL_stage_14 : decode cL_stage 14 = .ok (.iload_n 2, 1) := by decide +kernel
theorem dL_stage_15 : decode cL_stage 15 = .ok (.ireturn, 1) := by decide +kernel
theorem dL_changeAt_0 : decode cL_changeAt 0 = .ok (.aload_n 0, 1) := by decide +kernel
theorem dL_changeAt_1 : decode cL_changeAt 1 = .ok (.iload_n 1, 1) := by decide +kernel
theorem dL_changeAt_2 : decode cL_changeAt 2 = .ok (.iload_n 2, 1) := by decide +kernel
theorem dL_changeAt_3 : decode cL_changeAt 3 = .ok (.iload_n 3, 1) := by decide +kernel
theorem dL_changeAt_4 : decode cL_changeAt 4 = .ok (.invokevirtual 30, 3) := by decide +kernel
theorem dL_changeAt_7 : decode cL_changeAt 7 = .ok (.istore 4, 2) := by decide +kernel
theorem dL_changeAt_9 : decode cL_changeAt 9 = .ok (.goto 15, 3) := by decide +kernel
theorem dL_changeAt_12 : decode cL_changeAt 12 = .ok (.astore 5, 2) := by decide +kernel
theorem dL_changeAt_14 : decode cL_changeAt 14 = .ok (.sipush (-7100), 3) := by decide +kernel
theorem dL_changeAt_17 : decode cL_changeAt 17 = .ok (.ireturn, 1) := by decide +kernel
theorem dL_changeAt_18 : decode cL_changeAt 18 = .ok (.astore 5, 2) := by decide +kernel
theorem dL_changeAt_20 : decode cL_changeAt 20 = .ok (.sipush (-7200), 3) := by decide +kernel
theorem dL_changeAt_23 : decode cL_changeAt 23 = .ok (.ireturn, 1) := by decide +kernel
theorem dL_changeAt_24 : decode cL_changeAt 24 = .ok (.iload 4, 2) := by decide +kernel
theorem dL_changeAt_26 : decode cL_changeAt 26 = .ok (.ireturn, 1) := by decide +kernel
theorem dL_head_0 : decode cL_head 0 = .ok (.aload_n 0, 1) := by decide +kernel
theorem dL_head_1 : decode cL_head 1 = .ok (.iload_n 1, 1) := by decide +kernel
theorem dL_head_2 : decode cL_head 2 = .ok (.iload_n 2, 1) := by decide +kernel
theorem dL_head_3 : decode cL_head 3 = .ok (.invokevirtual 33, 3) := by decide +kernel
theorem dL_head_6 : decode cL_head 6 = .ok (.istore_n 3, 1) := by decide +kernel
theorem dL_head_7 : decode cL_head 7 = .ok (.goto 15, 3) := by decide +kernel
theorem dL_head_10 : decode cL_head 10 = .ok (.astore 4, 2) := by decide +kernel
theorem dL_head_12 : decode cL_head 12 = .ok (.sipush (-7100), 3) := by decide +kernel
theorem dL_head_15 : decode cL_head 15 = .ok (.ireturn, 1) := by decide +kernel
theorem dL_head_16 : decode cL_head 16 = .ok (.astore 4, 2) := by decide +kernel
theorem dL_head_18 : decode cL_head 18 = .ok (.sipush (-7200), 3) := by decide +kernel
theorem dL_head_21 : decode cL_head 21 = .ok (.ireturn, 1) := by decide +kernel
theorem dL_head_22 : decode cL_head 22 = .ok (.iload_n 3, 1) := by decide +kernel
theorem dL_head_23 : decode cL_head 23 = .ok (.ireturn, 1) := by decide +kernel
theorem dL_course_0 : decode cL_course 0 = .ok (.aload_n 0, 1) := by decide +kernel
theorem dL_course_1 : decode cL_course 1 = .ok (.iload_n 1, 1) := by decide +kernel
theorem dL_course_2 : decode cL_course 2 = .ok (.invokevirtual 37, 3) := by decide +kernel
theorem dL_course_5 : decode cL_course 5 = .ok (.istore_n 2, 1) := by decide +kernel
theorem dL_course_6 : decode cL_course 6 = .ok (.goto 8, 3) := by decide +kernel
theorem dL_course_9 : decode cL_course 9 = .ok (.astore_n 3, 1) := by decide +kernel
theorem dL_course_10 : decode cL_course 10 = .ok (.sipush (-7100), 3) := by decide +kernel
theorem dL_course_13 : decode cL_course 13 = .ok (.ireturn, 1) := by decide +kernel
theorem dL_course_14 : decode cL_course 14 = .ok (.iload_n 2, 1) := by decide +kernel
theorem dL_course_15 : decode cL_course 15 = .ok (.ireturn, 1) := by decide +kernel
theorem dL_isFalse_0 : decode cL_isFalse 0 = .ok (.aload_n 0, 1) := by decide +kernel
theorem dL_isFalse_1 : decode cL_isFalse 1 = .ok (.iload_n 1, 1) := by decide +kernel
theorem dL_isFalse_2 : decode cL_isFalse 2 = .ok (.iload_n 2, 1) := by decide +kernel
theorem dL_isFalse_3 : decode cL_isFalse 3 = .ok (.invokevirtual 40, 3) := by decide +kernel
theorem dL_isFalse_6 : decode cL_isFalse 6 = .ok (.istore_n 3, 1) := by decide +kernel
theorem dL_isFalse_7 : decode cL_isFalse 7 = .ok (.goto 9, 3) := by decide +kernel
theorem dL_isFalse_10 : decode cL_isFalse 10 = .ok (.astore 4, 2) := by decide +kernel
theorem dL_isFalse_12 : decode cL_isFalse 12 = .ok (.sipush (-7100), 3) := by decide +kernel
theorem dL_isFalse_15 : decode cL_isFalse 15 = .ok (.ireturn, 1) := by decide +kernel
theorem dL_isFalse_16 : decode cL_isFalse 16 = .ok (.iload_n 3, 1) := by decide +kernel
theorem dL_isFalse_17 : decode cL_isFalse 17 = .ok (.ifCond .eq 7, 3) := by decide +kernel
theorem dL_isFalse_20 : decode cL_isFalse 20 = .ok (.iconst 1, 1) := by decide +kernel
theorem dL_isFalse_21 : decode cL_isFalse 21 = .ok (.goto 4, 3) := by decide +kernel
theorem dL_isFalse_24 : decode cL_isFalse 24 = .ok (.iconst 0, 1) := by decide +kernel
theorem dL_isFalse_25 : decode cL_isFalse 25 = .ok (.ireturn, 1) := by decide +kernel
theorem dL_falseRows_0 : decode cL_falseRows 0 = .ok (.aload_n 0, 1) := by decide +kernel
theorem dL_falseRows_1 : decode cL_falseRows 1 = .ok (.iload_n 1, 1) := by decide +kernel
theorem dL_falseRows_2 : decode cL_falseRows 2 = .ok (.invokevirtual 44, 3) := by decide +kernel
theorem dL_falseRows_5 : decode cL_falseRows 5 = .ok (.istore_n 2, 1) := by decide +kernel
theorem dL_falseRows_6 : decode cL_falseRows 6 = .ok (.goto 8, 3) := by decide +kernel
theorem dL_falseRows_9 : decode cL_falseRows 9 = .ok (.astore_n 3, 1) := by decide +kernel
theorem dL_falseRows_10 : decode cL_falseRows 10 = .ok (.sipush (-7100), 3) := by decide +kernel
theorem dL_falseRows_13 : decode cL_falseRows 13 = .ok (.ireturn, 1) := by decide +kernel
theorem dL_falseRows_14 : decode cL_falseRows 14 = .ok (.iload_n 2, 1) := by decide +kernel
theorem dL_falseRows_15 : decode cL_falseRows 15 = .ok (.ireturn, 1) := by decide +kernel
theorem dL_lead_0 : decode cL_lead 0 = .ok (.aload_n 0, 1) := by decide +kernel
theorem dL_lead_1 : decode cL_lead 1 = .ok (.iload_n 1, 1) := by decide +kernel
theorem dL_lead_2 : decode cL_lead 2 = .ok (.iload_n 2, 1) := by decide +kernel
theorem dL_lead_3 : decode cL_lead 3 = .ok (.invokevirtual 47, 3) := by decide +kernel
theorem dL_lead_6 : decode cL_lead 6 = .ok (.istore_n 3, 1) := by decide +kernel
theorem dL_lead_7 : decode cL_lead 7 = .ok (.goto 21, 3) := by decide +kernel
theorem dL_lead_10 : decode cL_lead 10 = .ok (.astore 4, 2) := by decide +kernel
theorem dL_lead_12 : decode cL_lead 12 = .ok (.sipush (-7100), 3) := by decide +kernel
theorem dL_lead_15 : decode cL_lead 15 = .ok (.ireturn, 1) := by decide +kernel
theorem dL_lead_16 : decode cL_lead 16 = .ok (.astore 4, 2) := by decide +kernel
theorem dL_lead_18 : decode cL_lead 18 = .ok (.sipush (-7200), 3) := by decide +kernel
theorem dL_lead_21 : decode cL_lead 21 = .ok (.ireturn, 1) := by decide +kernel
theorem dL_lead_22 : decode cL_lead 22 = .ok (.astore 4, 2) := by decide +kernel
theorem dL_lead_24 : decode cL_lead 24 = .ok (.sipush (-7300), 3) := by decide +kernel
theorem dL_lead_27 : decode cL_lead 27 = .ok (.ireturn, 1) := by decide +kernel
theorem dL_lead_28 : decode cL_lead 28 = .ok (.iload_n 3, 1) := by decide +kernel
theorem dL_lead_29 : decode cL_lead 29 = .ok (.ireturn, 1) := by decide +kernel
theorem dL_touch_0 : decode cL_touch 0 = .ok (.aload_n 0, 1) := by decide +kernel
theorem dL_touch_1 : decode cL_touch 1 = .ok (.invokevirtual 50, 3) := by decide +kernel
theorem dL_touch_4 : decode cL_touch 4 = .ok (.istore_n 1, 1) := by decide +kernel
theorem dL_touch_5 : decode cL_touch 5 = .ok (.goto 8, 3) := by decide +kernel
theorem dL_touch_8 : decode cL_touch 8 = .ok (.astore_n 2, 1) := by decide +kernel
theorem dL_touch_9 : decode cL_touch 9 = .ok (.sipush (-7300), 3) := by decide +kernel
theorem dL_touch_12 : decode cL_touch 12 = .ok (.ireturn, 1) := by decide +kernel
theorem dL_touch_13 : decode cL_touch 13 = .ok (.iload_n 1, 1) := by decide +kernel
theorem dL_touch_14 : decode cL_touch 14 = .ok (.ireturn, 1) := by decide +kernel
theorem dL_compose_0 : decode cL_compose 0 = .ok (.aload_n 0, 1) := by decide +kernel
theorem dL_compose_1 : decode cL_compose 1 = .ok (.iload_n 1, 1) := by decide +kernel
theorem dL_compose_2 : decode cL_compose 2 = .ok (.iload_n 2, 1) := by decide +kernel
theorem dL_compose_3 : decode cL_compose 3 = .ok (.invokevirtual 54, 3) := by decide +kernel
theorem dL_compose_6 : decode cL_compose 6 = .ok (.istore_n 3, 1) := by decide +kernel
theorem dL_compose_7 : decode cL_compose 7 = .ok (.goto 21, 3) := by decide +kernel
theorem dL_compose_10 : decode cL_compose 10 = .ok (.astore 4, 2) := by decide +kernel
theorem dL_compose_12 : decode cL_compose 12 = .ok (.sipush (-7100), 3) := by decide +kernel
theorem dL_compose_15 : decode cL_compose 15 = .ok (.ireturn, 1) := by decide +kernel
theorem dL_compose_16 : decode cL_compose 16 = .ok (.astore 4, 2) := by decide +kernel
theorem dL_compose_18 : decode cL_compose 18 = .ok (.sipush (-7200), 3) := by decide +kernel
theorem dL_compose_21 : decode cL_compose 21 = .ok (.ireturn, 1) := by decide +kernel
theorem dL_compose_22 : decode cL_compose 22 = .ok (.astore 4, 2) := by decide +kernel
theorem dL_compose_24 : decode cL_compose 24 = .ok (.sipush (-7300), 3) := by decide +kernel
theorem dL_compose_27 : decode cL_compose 27 = .ok (.ireturn, 1) := by decide +kernel
theorem dL_compose_28 : decode cL_compose 28 = .ok (.iload_n 3, 1) := by decide +kernel
theorem dL_compose_29 : decode cL_compose 29 = .ok (.ireturn, 1) := by decide +kernel
theorem dL_leads_0 : decode cL_leads 0 = .ok (.aload_n 0, 1) := by decide +kernel
theorem dL_leads_1 : decode cL_leads 1 = .ok (.iload_n 1, 1) := by decide +kernel
theorem dL_leads_2 : decode cL_leads 2 = .ok (.invokevirtual 57, 3) := by decide +kernel
theorem dL_leads_5 : decode cL_leads 5 = .ok (.istore_n 2, 1) := by decide +kernel
theorem dL_leads_6 : decode cL_leads 6 = .ok (.goto 8, 3) := by decide +kernel
theorem dL_leads_9 : decode cL_leads 9 = .ok (.astore_n 3, 1) := by decide +kernel
theorem dL_leads_10 : decode cL_leads 10 = .ok (.sipush (-7100), 3) := by decide +kernel
theorem dL_leads_13 : decode cL_leads 13 = .ok (.ireturn, 1) := by decide +kernel
theorem dL_leads_14 : decode cL_leads 14 = .ok (.iload_n 2, 1) := by decide +kernel
theorem dL_leads_15 : decode cL_leads 15 = .ok (.ireturn, 1) := by decide +kernel
theorem dL_leadAt_0 : decode cL_leadAt 0 = .ok (.aload_n 0, 1) := by decide +kernel
theorem dL_leadAt_1 : decode cL_leadAt 1 = .ok (.iload_n 1, 1) := by decide +kernel
theorem dL_leadAt_2 : decode cL_leadAt 2 = .ok (.iload_n 2, 1) := by decide +kernel
theorem dL_leadAt_3 : decode cL_leadAt 3 = .ok (.invokevirtual 60, 3) := by decide +kernel
theorem dL_leadAt_6 : decode cL_leadAt 6 = .ok (.istore_n 3, 1) := by decide +kernel
theorem dL_leadAt_7 : decode cL_leadAt 7 = .ok (.goto 9, 3) := by decide +kernel
theorem dL_leadAt_10 : decode cL_leadAt 10 = .ok (.astore 4, 2) := by decide +kernel
theorem dL_leadAt_12 : decode cL_leadAt 12 = .ok (.sipush (-7100), 3) := by decide +kernel
theorem dL_leadAt_15 : decode cL_leadAt 15 = .ok (.ireturn, 1) := by decide +kernel
theorem dL_leadAt_16 : decode cL_leadAt 16 = .ok (.iload_n 3, 1) := by decide +kernel
theorem dL_leadAt_17 : decode cL_leadAt 17 = .ok (.ireturn, 1) := by decide +kernel
theorem dL_rows_0 : decode cL_rows 0 = .ok (.aload_n 0, 1) := by decide +kernel
theorem dL_rows_1 : decode cL_rows 1 = .ok (.iload_n 1, 1) := by decide +kernel
theorem dL_rows_2 : decode cL_rows 2 = .ok (.invokevirtual 63, 3) := by decide +kernel
theorem dL_rows_5 : decode cL_rows 5 = .ok (.istore_n 2, 1) := by decide +kernel
theorem dL_rows_6 : decode cL_rows 6 = .ok (.goto 8, 3) := by decide +kernel
theorem dL_rows_9 : decode cL_rows 9 = .ok (.astore_n 3, 1) := by decide +kernel
theorem dL_rows_10 : decode cL_rows 10 = .ok (.sipush (-7100), 3) := by decide +kernel
theorem dL_rows_13 : decode cL_rows 13 = .ok (.ireturn, 1) := by decide +kernel
theorem dL_rows_14 : decode cL_rows 14 = .ok (.iload_n 2, 1) := by decide +kernel
theorem dL_rows_15 : decode cL_rows 15 = .ok (.ireturn, 1) := by decide +kernel
theorem dL_rowAt_0 : decode cL_rowAt 0 = .ok (.aload_n 0, 1) := by decide +kernel
theorem dL_rowAt_1 : decode cL_rowAt 1 = .ok (.iload_n 1, 1) := by decide +kernel
theorem dL_rowAt_2 : decode cL_rowAt 2 = .ok (.iload_n 2, 1) := by decide +kernel
theorem dL_rowAt_3 : decode cL_rowAt 3 = .ok (.invokevirtual 66, 3) := by decide +kernel
theorem dL_rowAt_6 : decode cL_rowAt 6 = .ok (.istore_n 3, 1) := by decide +kernel
theorem dL_rowAt_7 : decode cL_rowAt 7 = .ok (.goto 9, 3) := by decide +kernel
theorem dL_rowAt_10 : decode cL_rowAt 10 = .ok (.astore 4, 2) := by decide +kernel
theorem dL_rowAt_12 : decode cL_rowAt 12 = .ok (.sipush (-7100), 3) := by decide +kernel
theorem dL_rowAt_15 : decode cL_rowAt 15 = .ok (.ireturn, 1) := by decide +kernel
theorem dL_rowAt_16 : decode cL_rowAt 16 = .ok (.iload_n 3, 1) := by decide +kernel
theorem dL_rowAt_17 : decode cL_rowAt 17 = .ok (.ireturn, 1) := by decide +kernel
theorem dL_bellAt_0 : decode cL_bellAt 0 = .ok (.aload_n 0, 1) := by decide +kernel
theorem dL_bellAt_1 : decode cL_bellAt 1 = .ok (.iload_n 1, 1) := by decide +kernel
theorem dL_bellAt_2 : decode cL_bellAt 2 = .ok (.iload_n 2, 1) := by decide +kernel
theorem dL_bellAt_3 : decode cL_bellAt 3 = .ok (.iload_n 3, 1) := by decide +kernel
theorem dL_bellAt_4 : decode cL_bellAt 4 = .ok (.invokevirtual 69, 3) := by decide +kernel
theorem dL_bellAt_7 : decode cL_bellAt 7 = .ok (.istore 4, 2) := by decide +kernel
theorem dL_bellAt_9 : decode cL_bellAt 9 = .ok (.goto 9, 3) := by decide +kernel
theorem dL_bellAt_12 : decode cL_bellAt 12 = .ok (.astore 5, 2) := by decide +kernel
theorem dL_bellAt_14 : decode cL_bellAt 14 = .ok (.sipush (-7100), 3) := by decide +kernel
theorem dL_bellAt_17 : decode cL_bellAt 17 = .ok (.ireturn, 1) := by decide +kernel
theorem dL_bellAt_18 : decode cL_bellAt 18 = .ok (.iload 4, 2) := by decide +kernel
theorem dL_bellAt_20 : decode cL_bellAt 20 = .ok (.ireturn, 1) := by decide +kernel
theorem dL_isTrue_0 : decode cL_isTrue 0 = .ok (.aload_n 0, 1) := by decide +kernel
theorem dL_isTrue_1 : decode cL_isTrue 1 = .ok (.iload_n 1, 1) := by decide +kernel
theorem dL_isTrue_2 : decode cL_isTrue 2 = .ok (.invokevirtual 72, 3) := by decide +kernel
theorem dL_isTrue_5 : decode cL_isTrue 5 = .ok (.istore_n 2, 1) := by decide +kernel
theorem dL_isTrue_6 : decode cL_isTrue 6 = .ok (.goto 8, 3) := by decide +kernel
theorem dL_isTrue_9 : decode cL_isTrue 9 = .ok (.astore_n 3, 1) := by decide +kernel
theorem dL_isTrue_10 : decode cL_isTrue 10 = .ok (.sipush (-7100), 3) := by decide +kernel
theorem dL_isTrue_13 : decode cL_isTrue 13 = .ok (.ireturn, 1) := by decide +kernel
theorem dL_isTrue_14 : decode cL_isTrue 14 = .ok (.iload_n 2, 1) := by decide +kernel
theorem dL_isTrue_15 : decode cL_isTrue 15 = .ok (.ifCond .eq 7, 3) := by decide +kernel
theorem dL_isTrue_18 : decode cL_isTrue 18 = .ok (.iconst 1, 1) := by decide +kernel
theorem dL_isTrue_19 : decode cL_isTrue 19 = .ok (.goto 4, 3) := by decide +kernel
theorem dL_isTrue_22 : decode cL_isTrue 22 = .ok (.iconst 0, 1) := by decide +kernel
theorem dL_isTrue_23 : decode cL_isTrue 23 = .ok (.ireturn, 1) := by decide +kernel
theorem dL_comesRound_0 : decode cL_comesRound 0 = .ok (.aload_n 0, 1) := by decide +kernel
theorem dL_comesRound_1 : decode cL_comesRound 1 = .ok (.iload_n 1, 1) := by decide +kernel
theorem dL_comesRound_2 : decode cL_comesRound 2 = .ok (.invokevirtual 76, 3) := by decide +kernel
theorem dL_comesRound_5 : decode cL_comesRound 5 = .ok (.istore_n 2, 1) := by decide +kernel
theorem dL_comesRound_6 : decode cL_comesRound 6 = .ok (.goto 8, 3) := by decide +kernel
theorem dL_comesRound_9 : decode cL_comesRound 9 = .ok (.astore_n 3, 1) := by decide +kernel
theorem dL_comesRound_10 : decode cL_comesRound 10 = .ok (.sipush (-7100), 3) := by decide +kernel
theorem dL_comesRound_13 : decode cL_comesRound 13 = .ok (.ireturn, 1) := by decide +kernel
theorem dL_comesRound_14 : decode cL_comesRound 14 = .ok (.iload_n 2, 1) := by decide +kernel
theorem dL_comesRound_15 : decode cL_comesRound 15 = .ok (.ifCond .eq 7, 3) := by decide +kernel
theorem dL_comesRound_18 : decode cL_comesRound 18 = .ok (.iconst 1, 1) := by decide +kernel
theorem dL_comesRound_19 : decode cL_comesRound 19 = .ok (.goto 4, 3) := by decide +kernel
theorem dL_comesRound_22 : decode cL_comesRound 22 = .ok (.iconst 0, 1) := by decide +kernel
theorem dL_comesRound_23 : decode cL_comesRound 23 = .ok (.ireturn, 1) := by decide +kernel
theorem dL_firstRepeat_0 : decode cL_firstRepeat 0 = .ok (.aload_n 0, 1) := by decide +kernel
theorem dL_firstRepeat_1 : decode cL_firstRepeat 1 = .ok (.iload_n 1, 1) := by decide +kernel
theorem dL_firstRepeat_2 : decode cL_firstRepeat 2 = .ok (.invokevirtual 79, 3) := by decide +kernel
theorem dL_firstRepeat_5 : decode cL_firstRepeat 5 = .ok (.istore_n 2, 1) := by decide +kernel
theorem dL_firstRepeat_6 : decode cL_firstRepeat 6 = .ok (.goto 8, 3) := by decide +kernel
theorem dL_firstRepeat_9 : decode cL_firstRepeat 9 = .ok (.astore_n 3, 1) := by decide +kernel
theorem dL_firstRepeat_10 : decode cL_firstRepeat 10 = .ok (.sipush (-7100), 3) := by decide +kernel
theorem dL_firstRepeat_13 : decode cL_firstRepeat 13 = .ok (.ireturn, 1) := by decide +kernel
theorem dL_firstRepeat_14 : decode cL_firstRepeat 14 = .ok (.iload_n 2, 1) := by decide +kernel
theorem dL_firstRepeat_15 : decode cL_firstRepeat 15 = .ok (.ireturn, 1) := by decide +kernel
theorem dL_takeOut_0 : decode cL_takeOut 0 = .ok (.aload_n 0, 1) := by decide +kernel
theorem dL_takeOut_1 : decode cL_takeOut 1 = .ok (.iload_n 1, 1) := by decide +kernel
theorem dL_takeOut_2 : decode cL_takeOut 2 = .ok (.invokevirtual 82, 3) := by decide +kernel
theorem dL_takeOut_5 : decode cL_takeOut 5 = .ok (.istore_n 2, 1) := by decide +kernel
theorem dL_takeOut_6 : decode cL_takeOut 6 = .ok (.goto 13, 3) := by decide +kernel
theorem dL_takeOut_9 : decode cL_takeOut 9 = .ok (.astore_n 3, 1) := by decide +kernel
theorem dL_takeOut_10 : decode cL_takeOut 10 = .ok (.sipush (-7100), 3) := by decide +kernel
theorem dL_takeOut_13 : decode cL_takeOut 13 = .ok (.ireturn, 1) := by decide +kernel
theorem dL_takeOut_14 : decode cL_takeOut 14 = .ok (.astore_n 3, 1) := by decide +kernel
theorem dL_takeOut_15 : decode cL_takeOut 15 = .ok (.sipush (-7300), 3) := by decide +kernel
theorem dL_takeOut_18 : decode cL_takeOut 18 = .ok (.ireturn, 1) := by decide +kernel
theorem dL_takeOut_19 : decode cL_takeOut 19 = .ok (.iload_n 2, 1) := by decide +kernel
theorem dL_takeOut_20 : decode cL_takeOut 20 = .ok (.ireturn, 1) := by decide +kernel
theorem dL_bringIn_0 : decode cL_bringIn 0 = .ok (.aload_n 0, 1) := by decide +kernel
theorem dL_bringIn_1 : decode cL_bringIn 1 = .ok (.iload_n 1, 1) := by decide +kernel
theorem dL_bringIn_2 : decode cL_bringIn 2 = .ok (.invokevirtual 85, 3) := by decide +kernel
theorem dL_bringIn_5 : decode cL_bringIn 5 = .ok (.istore_n 2, 1) := by decide +kernel
theorem dL_bringIn_6 : decode cL_bringIn 6 = .ok (.goto 13, 3) := by decide +kernel
theorem dL_bringIn_9 : decode cL_bringIn 9 = .ok (.astore_n 3, 1) := by decide +kernel
theorem dL_bringIn_10 : decode cL_bringIn 10 = .ok (.sipush (-7100), 3) := by decide +kernel
theorem dL_bringIn_13 : decode cL_bringIn 13 = .ok (.ireturn, 1) := by decide +kernel
theorem dL_bringIn_14 : decode cL_bringIn 14 = .ok (.astore_n 3, 1) := by decide +kernel
theorem dL_bringIn_15 : decode cL_bringIn 15 = .ok (.sipush (-7300), 3) := by decide +kernel
theorem dL_bringIn_18 : decode cL_bringIn 18 = .ok (.ireturn, 1) := by decide +kernel
theorem dL_bringIn_19 : decode cL_bringIn 19 = .ok (.iload_n 2, 1) := by decide +kernel
theorem dL_bringIn_20 : decode cL_bringIn 20 = .ok (.ifCond .eq 7, 3) := by decide +kernel
theorem dL_bringIn_23 : decode cL_bringIn 23 = .ok (.iconst 1, 1) := by decide +kernel
theorem dL_bringIn_24 : decode cL_bringIn 24 = .ok (.goto 4, 3) := by decide +kernel
theorem dL_bringIn_27 : decode cL_bringIn 27 = .ok (.iconst 0, 1) := by decide +kernel
theorem dL_bringIn_28 : decode cL_bringIn 28 = .ok (.ireturn, 1) := by decide +kernel
theorem dL_mend_0 : decode cL_mend 0 = .ok (.aload_n 0, 1) := by decide +kernel
theorem dL_mend_1 : decode cL_mend 1 = .ok (.iload_n 1, 1) := by decide +kernel
theorem dL_mend_2 : decode cL_mend 2 = .ok (.iload_n 2, 1) := by decide +kernel
theorem dL_mend_3 : decode cL_mend 3 = .ok (.invokevirtual 88, 3) := by decide +kernel
theorem dL_mend_6 : decode cL_mend 6 = .ok (.istore_n 3, 1) := by decide +kernel
theorem dL_mend_7 : decode cL_mend 7 = .ok (.goto 21, 3) := by decide +kernel
theorem dL_mend_10 : decode cL_mend 10 = .ok (.astore 4, 2) := by decide +kernel
theorem dL_mend_12 : decode cL_mend 12 = .ok (.sipush (-7100), 3) := by decide +kernel
theorem dL_mend_15 : decode cL_mend 15 = .ok (.ireturn, 1) := by decide +kernel
theorem dL_mend_16 : decode cL_mend 16 = .ok (.astore 4, 2) := by decide +kernel
theorem dL_mend_18 : decode cL_mend 18 = .ok (.sipush (-7200), 3) := by decide +kernel
theorem dL_mend_21 : decode cL_mend 21 = .ok (.ireturn, 1) := by decide +kernel
theorem dL_mend_22 : decode cL_mend 22 = .ok (.astore 4, 2) := by decide +kernel
theorem dL_mend_24 : decode cL_mend 24 = .ok (.sipush (-7300), 3) := by decide +kernel
theorem dL_mend_27 : decode cL_mend 27 = .ok (.ireturn, 1) := by decide +kernel
theorem dL_mend_28 : decode cL_mend 28 = .ok (.iload_n 3, 1) := by decide +kernel
theorem dL_mend_29 : decode cL_mend 29 = .ok (.ireturn, 1) := by decide +kernel
theorem dL_wear_0 : decode cL_wear 0 = .ok (.aload_n 0, 1) := by decide +kernel
theorem dL_wear_1 : decode cL_wear 1 = .ok (.iload_n 1, 1) := by decide +kernel
theorem dL_wear_2 : decode cL_wear 2 = .ok (.iload_n 2, 1) := by decide +kernel
theorem dL_wear_3 : decode cL_wear 3 = .ok (.invokevirtual 91, 3) := by decide +kernel
theorem dL_wear_6 : decode cL_wear 6 = .ok (.istore_n 3, 1) := by decide +kernel
theorem dL_wear_7 : decode cL_wear 7 = .ok (.goto 15, 3) := by decide +kernel
theorem dL_wear_10 : decode cL_wear 10 = .ok (.astore 4, 2) := by decide +kernel
theorem dL_wear_12 : decode cL_wear 12 = .ok (.sipush (-7100), 3) := by decide +kernel
theorem dL_wear_15 : decode cL_wear 15 = .ok (.ireturn, 1) := by decide +kernel
theorem dL_wear_16 : decode cL_wear 16 = .ok (.astore 4, 2) := by decide +kernel
theorem dL_wear_18 : decode cL_wear 18 = .ok (.sipush (-7200), 3) := by decide +kernel
theorem dL_wear_21 : decode cL_wear 21 = .ok (.ireturn, 1) := by decide +kernel
theorem dL_wear_22 : decode cL_wear 22 = .ok (.iload_n 3, 1) := by decide +kernel
theorem dL_wear_23 : decode cL_wear 23 = .ok (.ireturn, 1) := by decide +kernel
theorem dL_isIn_0 : decode cL_isIn 0 = .ok (.aload_n 0, 1) := by decide +kernel
theorem dL_isIn_1 : decode cL_isIn 1 = .ok (.iload_n 1, 1) := by decide +kernel
theorem dL_isIn_2 : decode cL_isIn 2 = .ok (.invokevirtual 94, 3) := by decide +kernel
theorem dL_isIn_5 : decode cL_isIn 5 = .ok (.istore_n 2, 1) := by decide +kernel
theorem dL_isIn_6 : decode cL_isIn 6 = .ok (.goto 8, 3) := by decide +kernel
theorem dL_isIn_9 : decode cL_isIn 9 = .ok (.astore_n 3, 1) := by decide +kernel
theorem dL_isIn_10 : decode cL_isIn 10 = .ok (.sipush (-7100), 3) := by decide +kernel
theorem dL_isIn_13 : decode cL_isIn 13 = .ok (.ireturn, 1) := by decide +kernel
theorem dL_isIn_14 : decode cL_isIn 14 = .ok (.iload_n 2, 1) := by decide +kernel
theorem dL_isIn_15 : decode cL_isIn 15 = .ok (.ifCond .eq 7, 3) := by decide +kernel
theorem dL_isIn_18 : decode cL_isIn 18 = .ok (.iconst 1, 1) := by decide +kernel
theorem dL_isIn_19 : decode cL_isIn 19 = .ok (.goto 4, 3) := by decide +kernel
theorem dL_isIn_22 : decode cL_isIn 22 = .ok (.iconst 0, 1) := by decide +kernel
theorem dL_isIn_23 : decode cL_isIn 23 = .ok (.ireturn, 1) := by decide +kernel
theorem dL_setBand_0 : decode cL_setBand 0 = .ok (.aload_n 0, 1) := by decide +kernel
theorem dL_setBand_1 : decode cL_setBand 1 = .ok (.iload_n 1, 1) := by decide +kernel
theorem dL_setBand_2 : decode cL_setBand 2 = .ok (.iload_n 2, 1) := by decide +kernel
theorem dL_setBand_3 : decode cL_setBand 3 = .ok (.invokevirtual 97, 3) := by decide +kernel
theorem dL_setBand_6 : decode cL_setBand 6 = .ok (.istore_n 3, 1) := by decide +kernel
theorem dL_setBand_7 : decode cL_setBand 7 = .ok (.goto 15, 3) := by decide +kernel
theorem dL_setBand_10 : decode cL_setBand 10 = .ok (.astore 4, 2) := by decide +kernel
theorem dL_setBand_12 : decode cL_setBand 12 = .ok (.sipush (-7100), 3) := by decide +kernel
theorem dL_setBand_15 : decode cL_setBand 15 = .ok (.ireturn, 1) := by decide +kernel
theorem dL_setBand_16 : decode cL_setBand 16 = .ok (.astore 4, 2) := by decide +kernel
theorem dL_setBand_18 : decode cL_setBand 18 = .ok (.sipush (-7200), 3) := by decide +kernel
theorem dL_setBand_21 : decode cL_setBand 21 = .ok (.ireturn, 1) := by decide +kernel
theorem dL_setBand_22 : decode cL_setBand 22 = .ok (.iload_n 3, 1) := by decide +kernel
theorem dL_setBand_23 : decode cL_setBand 23 = .ok (.ireturn, 1) := by decide +kernel
theorem dL_plan_0 : decode cL_plan 0 = .ok (.aload_n 0, 1) := by decide +kernel
theorem dL_plan_1 : decode cL_plan 1 = .ok (.iload_n 1, 1) := by decide +kernel
theorem dL_plan_2 : decode cL_plan 2 = .ok (.iload_n 2, 1) := by decide +kernel
theorem dL_plan_3 : decode cL_plan 3 = .ok (.invokevirtual 100, 3) := by decide +kernel
theorem dL_plan_6 : decode cL_plan 6 = .ok (.istore_n 3, 1) := by decide +kernel
theorem dL_plan_7 : decode cL_plan 7 = .ok (.goto 21, 3) := by decide +kernel
theorem dL_plan_10 : decode cL_plan 10 = .ok (.astore 4, 2) := by decide +kernel
theorem dL_plan_12 : decode cL_plan 12 = .ok (.sipush (-7100), 3) := by decide +kernel
theorem dL_plan_15 : decode cL_plan 15 = .ok (.ireturn, 1) := by decide +kernel
theorem dL_plan_16 : decode cL_plan 16 = .ok (.astore 4, 2) := by decide +kernel
theorem dL_plan_18 : decode cL_plan 18 = .ok (.sipush (-7200), 3) := by decide +kernel
theorem dL_plan_21 : decode cL_plan 21 = .ok (.ireturn, 1) := by decide +kernel
theorem dL_plan_22 : decode cL_plan 22 = .ok (.astore 4, 2) := by decide +kernel
theorem dL_plan_24 : decode cL_plan 24 = .ok (.sipush (-7300), 3) := by decide +kernel
theorem dL_plan_27 : decode cL_plan 27 = .ok (.ireturn, 1) := by decide +kernel
theorem dL_plan_28 : decode cL_plan 28 = .ok (.iload_n 3, 1) := by decide +kernel
theorem dL_plan_29 : decode cL_plan 29 = .ok (.ireturn, 1) := by decide +kernel
theorem dL_planned_0 : decode cL_planned 0 = .ok (.aload_n 0, 1) := by decide +kernel
theorem dL_planned_1 : decode cL_planned 1 = .ok (.iload_n 1, 1) := by decide +kernel
theorem dL_planned_2 : decode cL_planned 2 = .ok (.invokevirtual 103, 3) := by decide +kernel
theorem dL_planned_5 : decode cL_planned 5 = .ok (.istore_n 2, 1) := by decide +kernel
theorem dL_planned_6 : decode cL_planned 6 = .ok (.goto 8, 3) := by decide +kernel
theorem dL_planned_9 : decode cL_planned 9 = .ok (.astore_n 3, 1) := by decide +kernel
theorem dL_planned_10 : decode cL_planned 10 = .ok (.sipush (-7200), 3) := by decide +kernel
theorem dL_planned_13 : decode cL_planned 13 = .ok (.ireturn, 1) := by decide +kernel
theorem dL_planned_14 : decode cL_planned 14 = .ok (.iload_n 2, 1) := by decide +kernel
theorem dL_planned_15 : decode cL_planned 15 = .ok (.ireturn, 1) := by decide +kernel
theorem dL_plannedAt_0 : decode cL_plannedAt 0 = .ok (.aload_n 0, 1) := by decide +kernel
theorem dL_plannedAt_1 : decode cL_plannedAt 1 = .ok (.iload_n 1, 1) := by decide +kernel
theorem dL_plannedAt_2 : decode cL_plannedAt 2 = .ok (.iload_n 2, 1) := by decide +kernel
theorem dL_plannedAt_3 : decode cL_plannedAt 3 = .ok (.invokevirtual 106, 3) := by decide +kernel
theorem dL_plannedAt_6 : decode cL_plannedAt 6 = .ok (.istore_n 3, 1) := by decide +kernel
theorem dL_plannedAt_7 : decode cL_plannedAt 7 = .ok (.goto 15, 3) := by decide +kernel
theorem dL_plannedAt_10 : decode cL_plannedAt 10 = .ok (.astore 4, 2) := by decide +kernel
theorem dL_plannedAt_12 : decode cL_plannedAt 12 = .ok (.sipush (-7200), 3) := by decide +kernel
theorem dL_plannedAt_15 : decode cL_plannedAt 15 = .ok (.ireturn, 1) := by decide +kernel
theorem dL_plannedAt_16 : decode cL_plannedAt 16 = .ok (.astore 4, 2) := by decide +kernel
theorem dL_plannedAt_18 : decode cL_plannedAt 18 = .ok (.sipush (-7100), 3) := by decide +kernel
theorem dL_plannedAt_21 : decode cL_plannedAt 21 = .ok (.ireturn, 1) := by decide +kernel
theorem dL_plannedAt_22 : decode cL_plannedAt 22 = .ok (.iload_n 3, 1) := by decide +kernel
theorem dL_plannedAt_23 : decode cL_plannedAt 23 = .ok (.ireturn, 1) := by decide +kernel
theorem dL_rota_0 : decode cL_rota 0 = .ok (.aload_n 0, 1) := by decide +kernel
theorem dL_rota_1 : decode cL_rota 1 = .ok (.iload_n 1, 1) := by decide +kernel
theorem dL_rota_2 : decode cL_rota 2 = .ok (.invokevirtual 109, 3) := by decide +kernel
theorem dL_rota_5 : decode cL_rota 5 = .ok (.istore_n 2, 1) := by decide +kernel
theorem dL_rota_6 : decode cL_rota 6 = .ok (.goto 8, 3) := by decide +kernel
theorem dL_rota_9 : decode cL_rota 9 = .ok (.astore_n 3, 1) := by decide +kernel
theorem dL_rota_10 : decode cL_rota 10 = .ok (.sipush (-7200), 3) := by decide +kernel
theorem dL_rota_13 : decode cL_rota 13 = .ok (.ireturn, 1) := by decide +kernel
theorem dL_rota_14 : decode cL_rota 14 = .ok (.iload_n 2, 1) := by decide +kernel
theorem dL_rota_15 : decode cL_rota 15 = .ok (.ireturn, 1) := by decide +kernel
theorem dL_pass_0 : decode cL_pass 0 = .ok (.aload_n 0, 1) := by decide +kernel
theorem dL_pass_1 : decode cL_pass 1 = .ok (.invokevirtual 112, 3) := by decide +kernel
theorem dL_pass_4 : decode cL_pass 4 = .ok (.istore_n 1, 1) := by decide +kernel
theorem dL_pass_5 : decode cL_pass 5 = .ok (.goto 8, 3) := by decide +kernel
theorem dL_pass_8 : decode cL_pass 8 = .ok (.astore_n 2, 1) := by decide +kernel
theorem dL_pass_9 : decode cL_pass 9 = .ok (.sipush (-7300), 3) := by decide +kernel
theorem dL_pass_12 : decode cL_pass 12 = .ok (.ireturn, 1) := by decide +kernel
theorem dL_pass_13 : decode cL_pass 13 = .ok (.iload_n 1, 1) := by decide +kernel
theorem dL_pass_14 : decode cL_pass 14 = .ok (.ireturn, 1) := by decide +kernel
theorem dL_ring_0 : decode cL_ring 0 = .ok (.aload_n 0, 1) := by decide +kernel
theorem dL_ring_1 : decode cL_ring 1 = .ok (.iload_n 1, 1) := by decide +kernel
theorem dL_ring_2 : decode cL_ring 2 = .ok (.iload_n 2, 1) := by decide +kernel
theorem dL_ring_3 : decode cL_ring 3 = .ok (.iload_n 3, 1) := by decide +kernel
theorem dL_ring_4 : decode cL_ring 4 = .ok (.invokevirtual 115, 3) := by decide +kernel
theorem dL_ring_7 : decode cL_ring 7 = .ok (.istore 4, 2) := by decide +kernel
theorem dL_ring_9 : decode cL_ring 9 = .ok (.goto 21, 3) := by decide +kernel
theorem dL_ring_12 : decode cL_ring 12 = .ok (.astore 5, 2) := by decide +kernel
theorem dL_ring_14 : decode cL_ring 14 = .ok (.sipush (-7100), 3) := by decide +kernel
theorem dL_ring_17 : decode cL_ring 17 = .ok (.ireturn, 1) := by decide +kernel
theorem dL_ring_18 : decode cL_ring 18 = .ok (.astore 5, 2) := by decide +kernel
theorem dL_ring_20 : decode cL_ring 20 = .ok (.sipush (-7200), 3) := by decide +kernel
theorem dL_ring_23 : decode cL_ring 23 = .ok (.ireturn, 1) := by decide +kernel
theorem dL_ring_24 : decode cL_ring 24 = .ok (.astore 5, 2) := by decide +kernel
theorem dL_ring_26 : decode cL_ring 26 = .ok (.sipush (-7300), 3) := by decide +kernel
theorem dL_ring_29 : decode cL_ring 29 = .ok (.ireturn, 1) := by decide +kernel
theorem dL_ring_30 : decode cL_ring 30 = .ok (.iload 4, 2) := by decide +kernel
theorem dL_ring_32 : decode cL_ring 32 = .ok (.ireturn, 1) := by decide +kernel
theorem dL_stand_0 : decode cL_stand 0 = .ok (.aload_n 0, 1) := by decide +kernel
theorem dL_stand_1 : decode cL_stand 1 = .ok (.invokevirtual 118, 3) := by decide +kernel
theorem dL_stand_4 : decode cL_stand 4 = .ok (.istore_n 1, 1) := by decide +kernel
theorem dL_stand_5 : decode cL_stand 5 = .ok (.goto 8, 3) := by decide +kernel
theorem dL_stand_8 : decode cL_stand 8 = .ok (.astore_n 2, 1) := by decide +kernel
theorem dL_stand_9 : decode cL_stand 9 = .ok (.sipush (-7300), 3) := by decide +kernel
theorem dL_stand_12 : decode cL_stand 12 = .ok (.ireturn, 1) := by decide +kernel
theorem dL_stand_13 : decode cL_stand 13 = .ok (.iload_n 1, 1) := by decide +kernel
theorem dL_stand_14 : decode cL_stand 14 = .ok (.ireturn, 1) := by decide +kernel
theorem dL_pull_0 : decode cL_pull 0 = .ok (.aload_n 0, 1) := by decide +kernel
theorem dL_pull_1 : decode cL_pull 1 = .ok (.iload_n 1, 1) := by decide +kernel
theorem dL_pull_2 : decode cL_pull 2 = .ok (.iload_n 2, 1) := by decide +kernel
theorem dL_pull_3 : decode cL_pull 3 = .ok (.invokevirtual 121, 3) := by decide +kernel
theorem dL_pull_6 : decode cL_pull 6 = .ok (.istore_n 3, 1) := by decide +kernel
theorem dL_pull_7 : decode cL_pull 7 = .ok (.goto 21, 3) := by decide +kernel
theorem dL_pull_10 : decode cL_pull 10 = .ok (.astore 4, 2) := by decide +kernel
theorem dL_pull_12 : decode cL_pull 12 = .ok (.sipush (-7100), 3) := by decide +kernel
theorem dL_pull_15 : decode cL_pull 15 = .ok (.ireturn, 1) := by decide +kernel
theorem dL_pull_16 : decode cL_pull 16 = .ok (.astore 4, 2) := by decide +kernel
theorem dL_pull_18 : decode cL_pull 18 = .ok (.sipush (-7200), 3) := by decide +kernel
theorem dL_pull_21 : decode cL_pull 21 = .ok (.ireturn, 1) := by decide +kernel
theorem dL_pull_22 : decode cL_pull 22 = .ok (.astore 4, 2) := by decide +kernel
theorem dL_pull_24 : decode cL_pull 24 = .ok (.sipush (-7300), 3) := by decide +kernel
theorem dL_pull_27 : decode cL_pull 27 = .ok (.ireturn, 1) := by decide +kernel
theorem dL_pull_28 : decode cL_pull 28 = .ok (.iload_n 3, 1) := by decide +kernel
theorem dL_pull_29 : decode cL_pull 29 = .ok (.ireturn, 1) := by decide +kernel
theorem dL_due_0 : decode cL_due 0 = .ok (.aload_n 0, 1) := by decide +kernel
theorem dL_due_1 : decode cL_due 1 = .ok (.iload_n 1, 1) := by decide +kernel
theorem dL_due_2 : decode cL_due 2 = .ok (.invokevirtual 124, 3) := by decide +kernel
theorem dL_due_5 : decode cL_due 5 = .ok (.istore_n 2, 1) := by decide +kernel
theorem dL_due_6 : decode cL_due 6 = .ok (.goto 13, 3) := by decide +kernel
theorem dL_due_9 : decode cL_due 9 = .ok (.astore_n 3, 1) := by decide +kernel
theorem dL_due_10 : decode cL_due 10 = .ok (.sipush (-7100), 3) := by decide +kernel
theorem dL_due_13 : decode cL_due 13 = .ok (.ireturn, 1) := by decide +kernel
theorem dL_due_14 : decode cL_due 14 = .ok (.astore_n 3, 1) := by decide +kernel
theorem dL_due_15 : decode cL_due 15 = .ok (.sipush (-7300), 3) := by decide +kernel
theorem dL_due_18 : decode cL_due 18 = .ok (.ireturn, 1) := by decide +kernel
theorem dL_due_19 : decode cL_due 19 = .ok (.iload_n 2, 1) := by decide +kernel
theorem dL_due_20 : decode cL_due 20 = .ok (.ireturn, 1) := by decide +kernel
theorem dL_setPatience_0 : decode cL_setPatience 0 = .ok (.aload_n 0, 1) := by decide +kernel
theorem dL_setPatience_1 : decode cL_setPatience 1 = .ok (.iload_n 1, 1) := by decide +kernel
theorem dL_setPatience_2 : decode cL_setPatience 2 = .ok (.invokevirtual 127, 3) := by decide +kernel
theorem dL_setPatience_5 : decode cL_setPatience 5 = .ok (.istore_n 2, 1) := by decide +kernel
theorem dL_setPatience_6 : decode cL_setPatience 6 = .ok (.goto 8, 3) := by decide +kernel
theorem dL_setPatience_9 : decode cL_setPatience 9 = .ok (.astore_n 3, 1) := by decide +kernel
theorem dL_setPatience_10 : decode cL_setPatience 10 = .ok (.sipush (-7200), 3) := by decide +kernel
theorem dL_setPatience_13 : decode cL_setPatience 13 = .ok (.ireturn, 1) := by decide +kernel
theorem dL_setPatience_14 : decode cL_setPatience 14 = .ok (.iload_n 2, 1) := by decide +kernel
theorem dL_setPatience_15 : decode cL_setPatience 15 = .ok (.ireturn, 1) := by decide +kernel
theorem dL_late_0 : decode cL_late 0 = .ok (.aload_n 0, 1) := by decide +kernel
theorem dL_late_1 : decode cL_late 1 = .ok (.iload_n 1, 1) := by decide +kernel
theorem dL_late_2 : decode cL_late 2 = .ok (.invokevirtual 130, 3) := by decide +kernel
theorem dL_late_5 : decode cL_late 5 = .ok (.istore_n 2, 1) := by decide +kernel
theorem dL_late_6 : decode cL_late 6 = .ok (.goto 8, 3) := by decide +kernel
theorem dL_late_9 : decode cL_late 9 = .ok (.astore_n 3, 1) := by decide +kernel
theorem dL_late_10 : decode cL_late 10 = .ok (.sipush (-7100), 3) := by decide +kernel
theorem dL_late_13 : decode cL_late 13 = .ok (.ireturn, 1) := by decide +kernel
theorem dL_late_14 : decode cL_late 14 = .ok (.iload_n 2, 1) := by decide +kernel
theorem dL_late_15 : decode cL_late 15 = .ok (.ireturn, 1) := by decide +kernel
theorem dL_early_0 : decode cL_early 0 = .ok (.aload_n 0, 1) := by decide +kernel
theorem dL_early_1 : decode cL_early 1 = .ok (.iload_n 1, 1) := by decide +kernel
theorem dL_early_2 : decode cL_early 2 = .ok (.invokevirtual 133, 3) := by decide +kernel
theorem dL_early_5 : decode cL_early 5 = .ok (.istore_n 2, 1) := by decide +kernel
theorem dL_early_6 : decode cL_early 6 = .ok (.goto 8, 3) := by decide +kernel
theorem dL_early_9 : decode cL_early 9 = .ok (.astore_n 3, 1) := by decide +kernel
theorem dL_early_10 : decode cL_early 10 = .ok (.sipush (-7100), 3) := by decide +kernel
theorem dL_early_13 : decode cL_early 13 = .ok (.ireturn, 1) := by decide +kernel
theorem dL_early_14 : decode cL_early 14 = .ok (.iload_n 2, 1) := by decide +kernel
theorem dL_early_15 : decode cL_early 15 = .ok (.ireturn, 1) := by decide +kernel
theorem dL_errors_0 : decode cL_errors 0 = .ok (.aload_n 0, 1) := by decide +kernel
theorem dL_errors_1 : decode cL_errors 1 = .ok (.iload_n 1, 1) := by decide +kernel
theorem dL_errors_2 : decode cL_errors 2 = .ok (.invokevirtual 136, 3) := by decide +kernel
theorem dL_errors_5 : decode cL_errors 5 = .ok (.istore_n 2, 1) := by decide +kernel
theorem dL_errors_6 : decode cL_errors 6 = .ok (.goto 8, 3) := by decide +kernel
theorem dL_errors_9 : decode cL_errors 9 = .ok (.astore_n 3, 1) := by decide +kernel
theorem dL_errors_10 : decode cL_errors 10 = .ok (.sipush (-7100), 3) := by decide +kernel
theorem dL_errors_13 : decode cL_errors 13 = .ok (.ireturn, 1) := by decide +kernel
theorem dL_errors_14 : decode cL_errors 14 = .ok (.iload_n 2, 1) := by decide +kernel
theorem dL_errors_15 : decode cL_errors 15 = .ok (.ireturn, 1) := by decide +kernel
theorem dL_isChange_0 : decode cL_isChange 0 = .ok (.iload_n 1, 1) := by decide +kernel
theorem dL_isChange_1 : decode cL_isChange 1 = .ok (.iconst 1, 1) := by decide +kernel
theorem dL_isChange_2 : decode cL_isChange 2 = .ok (.iload_n 0, 1) := by decide +kernel
theorem dL_isChange_3 : decode cL_isChange 3 = .ok (.ishl, 1) := by decide +kernel
theorem dL_isChange_4 : decode cL_isChange 4 = .ok (.if_icmp .ge 12, 3) := by decide +kernel
theorem dL_isChange_7 : decode cL_isChange 7 = .ok (.iload_n 1, 1) := by decide +kernel
theorem dL_isChange_8 : decode cL_isChange 8 = .ok (.iconst 1, 1) := by decide +kernel
theorem dL_isChange_9 : decode cL_isChange 9 = .ok (.iload_n 0, 1) := by decide +kernel
theorem dL_isChange_10 : decode cL_isChange 10 = .ok (.ishl, 1) := by decide +kernel
theorem dL_isChange_11 : decode cL_isChange 11 = .ok (.iconst 1, 1) := by decide +kernel
theorem dL_isChange_12 : decode cL_isChange 12 = .ok (.isub, 1) := by decide +kernel
theorem dL_isChange_13 : decode cL_isChange 13 = .ok (.if_icmp .ne 5, 3) := by decide +kernel
theorem dL_isChange_16 : decode cL_isChange 16 = .ok (.iconst 0, 1) := by decide +kernel
theorem dL_isChange_17 : decode cL_isChange 17 = .ok (.ireturn, 1) := by decide +kernel
theorem dL_isChange_18 : decode cL_isChange 18 = .ok (.iconst 0, 1) := by decide +kernel
theorem dL_isChange_19 : decode cL_isChange 19 = .ok (.istore_n 2, 1) := by decide +kernel
theorem dL_isChange_20 : decode cL_isChange 20 = .ok (.iload_n 2, 1) := by decide +kernel
theorem dL_isChange_21 : decode cL_isChange 21 = .ok (.iload_n 0, 1) := by decide +kernel
theorem dL_isChange_22 : decode cL_isChange 22 = .ok (.if_icmp .ge 44, 3) := by decide +kernel
theorem dL_isChange_25 : decode cL_isChange 25 = .ok (.iload_n 1, 1) := by decide +kernel
theorem dL_isChange_26 : decode cL_isChange 26 = .ok (.iload_n 2, 1) := by decide +kernel
theorem dL_isChange_27 : decode cL_isChange 27 = .ok (.ishr, 1) := by decide +kernel
theorem dL_isChange_28 : decode cL_isChange 28 = .ok (.iconst 1, 1) := by decide +kernel
theorem dL_isChange_29 : decode cL_isChange 29 = .ok (.iand, 1) := by decide +kernel
theorem dL_isChange_30 : decode cL_isChange 30 = .ok (.iconst 1, 1) := by decide +kernel
theorem dL_isChange_31 : decode cL_isChange 31 = .ok (.if_icmp .ne 9, 3) := by decide +kernel
theorem dL_isChange_34 : decode cL_isChange 34 = .ok (.iinc 2 1, 3) := by decide +kernel
theorem dL_isChange_37 : decode cL_isChange 37 = .ok (.goto (-17), 3) := by decide +kernel
theorem dL_isChange_40 : decode cL_isChange 40 = .ok (.iload_n 2, 1) := by decide +kernel
theorem dL_isChange_41 : decode cL_isChange 41 = .ok (.iconst 1, 1) := by decide +kernel
theorem dL_isChange_42 : decode cL_isChange 42 = .ok (.iadd, 1) := by decide +kernel
theorem dL_isChange_43 : decode cL_isChange 43 = .ok (.iload_n 0, 1) := by decide +kernel
theorem dL_isChange_44 : decode cL_isChange 44 = .ok (.if_icmp .eq 14, 3) := by decide +kernel
theorem dL_isChange_47 : decode cL_isChange 47 = .ok (.iload_n 1, 1) := by decide +kernel
theorem dL_isChange_48 : decode cL_isChange 48 = .ok (.iload_n 2, 1) := by decide +kernel
theorem dL_isChange_49 : decode cL_isChange 49 = .ok (.iconst 1, 1) := by decide +kernel
theorem dL_isChange_50 : decode cL_isChange 50 = .ok (.iadd, 1) := by decide +kernel
theorem dL_isChange_51 : decode cL_isChange 51 = .ok (.ishr, 1) := by decide +kernel
theorem dL_isChange_52 : decode cL_isChange 52 = .ok (.iconst 1, 1) := by decide +kernel
theorem dL_isChange_53 : decode cL_isChange 53 = .ok (.iand, 1) := by decide +kernel
theorem dL_isChange_54 : decode cL_isChange 54 = .ok (.iconst 1, 1) := by decide +kernel
theorem dL_isChange_55 : decode cL_isChange 55 = .ok (.if_icmp .ne 5, 3) := by decide +kernel
theorem dL_isChange_58 : decode cL_isChange 58 = .ok (.iconst 0, 1) := by decide +kernel
theorem dL_isChange_59 : decode cL_isChange 59 = .ok (.ireturn, 1) := by decide +kernel
theorem dL_isChange_60 : decode cL_isChange 60 = .ok (.iinc 2 2, 3) := by decide +kernel
theorem dL_isChange_63 : decode cL_isChange 63 = .ok (.goto (-43), 3) := by decide +kernel
theorem dL_isChange_66 : decode cL_isChange 66 = .ok (.iconst 1, 1) := by decide +kernel
theorem dL_isChange_67 : decode cL_isChange 67 = .ok (.ireturn, 1) := by decide +kernel
theorem dL_moved_0 : decode cL_moved 0 = .ok (.iconst 0, 1) := by decide +kernel
theorem dL_moved_1 : decode cL_moved 1 = .ok (.istore_n 3, 1) := by decide +kernel
theorem dL_moved_2 : decode cL_moved 2 = .ok (.iload_n 3, 1) := by decide +kernel
theorem dL_moved_3 : decode cL_moved 3 = .ok (.iload_n 2, 1) := by decide +kernel
theorem dL_moved_4 : decode cL_moved 4 = .ok (.if_icmp .ge 39, 3) := by decide +kernel
theorem dL_moved_7 : decode cL_moved 7 = .ok (.iload_n 3, 1) := by decide +kernel
theorem dL_moved_8 : decode cL_moved 8 = .ok (.iconst 1, 1) := by decide +kernel
theorem dL_moved_9 : decode cL_moved 9 = .ok (.iadd, 1) := by decide +kernel
theorem dL_moved_10 : decode cL_moved 10 = .ok (.iload_n 2, 1) := by decide +kernel
theorem dL_moved_11 : decode cL_moved 11 = .ok (.if_icmp .lt 12, 3) := by decide +kernel
theorem dL_moved_14 : decode cL_moved 14 = .ok (.iload_n 1, 1) := by decide +kernel
theorem dL_moved_15 : decode cL_moved 15 = .ok (.iload_n 3, 1) := by decide +kernel
theorem dL_moved_16 : decode cL_moved 16 = .ok (.ishr, 1) := by decide +kernel
theorem dL_moved_17 : decode cL_moved 17 = .ok (.iconst 1, 1) := by decide +kernel
theorem dL_moved_18 : decode cL_moved 18 = .ok (.iand, 1) := by decide +kernel
theorem dL_moved_19 : decode cL_moved 19 = .ok (.iconst 1, 1) := by decide +kernel
theorem dL_moved_20 : decode cL_moved 20 = .ok (.if_icmp .ne 23, 3) := by decide +kernel
theorem dL_moved_23 : decode cL_moved 23 = .ok (.iload_n 3, 1) := by decide +kernel
theorem dL_moved_24 : decode cL_moved 24 = .ok (.iload_n 1, 1) := by decide +kernel
theorem dL_moved_25 : decode cL_moved 25 = .ok (.iload_n 3, 1) := by decide +kernel
theorem dL_moved_26 : decode cL_moved 26 = .ok (.ishr, 1) := by decide +kernel
theorem dL_moved_27 : decode cL_moved 27 = .ok (.iconst 1, 1) := by decide +kernel
theorem dL_moved_28 : decode cL_moved 28 = .ok (.iand, 1) := by decide +kernel
theorem dL_moved_29 : decode cL_moved 29 = .ok (.iconst 1, 1) := by decide +kernel
theorem dL_moved_30 : decode cL_moved 30 = .ok (.if_icmp .ne 7, 3) := by decide +kernel
theorem dL_moved_33 : decode cL_moved 33 = .ok (.iconst 1, 1) := by decide +kernel
theorem dL_moved_34 : decode cL_moved 34 = .ok (.goto 4, 3) := by decide +kernel
theorem dL_moved_37 : decode cL_moved 37 = .ok (.iconst 2, 1) := by decide +kernel
theorem dL_moved_38 : decode cL_moved 38 = .ok (.iadd, 1) := by decide +kernel
theorem dL_moved_39 : decode cL_moved 39 = .ok (.istore_n 3, 1) := by decide +kernel
theorem dL_moved_40 : decode cL_moved 40 = .ok (.goto (-38), 3) := by decide +kernel
theorem dL_moved_43 : decode cL_moved 43 = .ok (.iload_n 1, 1) := by decide +kernel
theorem dL_moved_44 : decode cL_moved 44 = .ok (.iload_n 2, 1) := by decide +kernel
theorem dL_moved_45 : decode cL_moved 45 = .ok (.ishr, 1) := by decide +kernel
theorem dL_moved_46 : decode cL_moved 46 = .ok (.iconst 1, 1) := by decide +kernel
theorem dL_moved_47 : decode cL_moved 47 = .ok (.iand, 1) := by decide +kernel
theorem dL_moved_48 : decode cL_moved 48 = .ok (.iconst 1, 1) := by decide +kernel
theorem dL_moved_49 : decode cL_moved 49 = .ok (.if_icmp .ne 5, 3) := by decide +kernel
theorem dL_moved_52 : decode cL_moved 52 = .ok (.iload_n 2, 1) := by decide +kernel
theorem dL_moved_53 : decode cL_moved 53 = .ok (.ireturn, 1) := by decide +kernel
theorem dL_moved_54 : decode cL_moved 54 = .ok (.iload_n 3, 1) := by decide +kernel
theorem dL_moved_55 : decode cL_moved 55 = .ok (.iload_n 2, 1) := by decide +kernel
theorem dL_moved_56 : decode cL_moved 56 = .ok (.if_icmp .ne 9, 3) := by decide +kernel
theorem dL_moved_59 : decode cL_moved 59 = .ok (.iload_n 2, 1) := by decide +kernel
theorem dL_moved_60 : decode cL_moved 60 = .ok (.iconst 1, 1) := by decide +kernel
theorem dL_moved_61 : decode cL_moved 61 = .ok (.iadd, 1) := by decide +kernel
theorem dL_moved_62 : decode cL_moved 62 = .ok (.goto 6, 3) := by decide +kernel
theorem dL_moved_65 : decode cL_moved 65 = .ok (.iload_n 2, 1) := by decide +kernel
theorem dL_moved_66 : decode cL_moved 66 = .ok (.iconst 1, 1) := by decide +kernel
theorem dL_moved_67 : decode cL_moved 67 = .ok (.isub, 1) := by decide +kernel
theorem dL_moved_68 : decode cL_moved 68 = .ok (.ireturn, 1) := by decide +kernel
theorem dL_changed_0 : decode cL_changed 0 = .ok (.iconst 0, 1) := by decide +kernel
theorem dL_changed_1 : decode cL_changed 1 = .ok (.istore_n 3, 1) := by decide +kernel
theorem dL_changed_2 : decode cL_changed 2 = .ok (.iconst 0, 1) := by decide +kernel
theorem dL_changed_3 : decode cL_changed 3 = .ok (.istore 4, 2) := by decide +kernel
theorem dL_changed_5 : decode cL_changed 5 = .ok (.iload 4, 2) := by decide +kernel
theorem dL_changed_7 : decode cL_changed 7 = .ok (.iload_n 1, 1) := by decide +kernel
theorem dL_changed_8 : decode cL_changed 8 = .ok (.if_icmp .ge 31, 3) := by decide +kernel
theorem dL_changed_11 : decode cL_changed 11 = .ok (.iload_n 3, 1) := by decide +kernel
theorem dL_changed_12 : decode cL_changed 12 = .ok (.iload_n 1, 1) := by decide +kernel
theorem dL_changed_13 : decode cL_changed 13 = .ok (.iload_n 2, 1) := by decide +kernel
theorem dL_changed_14 : decode cL_changed 14 = .ok (.iload_n 0, 1) := by decide +kernel
theorem dL_changed_15 : decode cL_changed 15 = .ok (.iconst 3, 1) := by decide +kernel
theorem dL_changed_16 : decode cL_changed 16 = .ok (.iload 4, 2) := by decide +kernel
theorem dL_changed_18 : decode cL_changed 18 = .ok (.imul, 1) := by decide +kernel
theorem dL_changed_19 : decode cL_changed 19 = .ok (.ishr, 1) := by decide +kernel
theorem dL_changed_20 : decode cL_changed 20 = .ok (.bipush 7, 2) := by decide +kernel
theorem dL_changed_22 : decode cL_changed 22 = .ok (.iand, 1) := by decide +kernel
theorem dL_changed_23 : decode cL_changed 23 = .ok (.invokestatic 139, 3) := by decide +kernel
theorem dL_changed_26 : decode cL_changed 26 = .ok (.iconst 3, 1) := by decide +kernel
theorem dL_changed_27 : decode cL_changed 27 = .ok (.iload 4, 2) := by decide +kernel
theorem dL_changed_29 : decode cL_changed 29 = .ok (.imul, 1) := by decide +kernel
theorem dL_changed_30 : decode cL_changed 30 = .ok (.ishl, 1) := by decide +kernel
theorem dL_changed_31 : decode cL_changed 31 = .ok (.ior, 1) := by decide +kernel
theorem dL_changed_32 : decode cL_changed 32 = .ok (.istore_n 3, 1) := by decide +kernel
theorem dL_changed_33 : decode cL_changed 33 = .ok (.iinc 4 1, 3) := by decide +kernel
theorem dL_changed_36 : decode cL_changed 36 = .ok (.goto (-31), 3) := by decide +kernel
theorem dL_changed_39 : decode cL_changed 39 = .ok (.iload_n 3, 1) := by decide +kernel
theorem dL_changed_40 : decode cL_changed 40 = .ok (.ireturn, 1) := by decide +kernel
theorem dL_rounds_0 : decode cL_rounds 0 = .ok (.iconst 0, 1) := by decide +kernel
theorem dL_rounds_1 : decode cL_rounds 1 = .ok (.istore_n 1, 1) := by decide +kernel
theorem dL_rounds_2 : decode cL_rounds 2 = .ok (.iconst 0, 1) := by decide +kernel
theorem dL_rounds_3 : decode cL_rounds 3 = .ok (.istore_n 2, 1) := by decide +kernel
theorem dL_rounds_4 : decode cL_rounds 4 = .ok (.iload_n 2, 1) := by decide +kernel
theorem dL_rounds_5 : decode cL_rounds 5 = .ok (.iload_n 0, 1) := by decide +kernel
theorem dL_rounds_6 : decode cL_rounds 6 = .ok (.if_icmp .ge 17, 3) := by decide +kernel
theorem dL_rounds_9 : decode cL_rounds 9 = .ok (.iload_n 1, 1) := by decide +kernel
theorem dL_rounds_10 : decode cL_rounds 10 = .ok (.iload_n 2, 1) := by decide +kernel
theorem dL_rounds_11 : decode cL_rounds 11 = .ok (.iconst 3, 1) := by decide +kernel
theorem dL_rounds_12 : decode cL_rounds 12 = .ok (.iload_n 2, 1) := by decide +kernel
theorem dL_rounds_13 : decode cL_rounds 13 = .ok (.imul, 1) := by decide +kernel
theorem dL_rounds_14 : decode cL_rounds 14 = .ok (.ishl, 1) := by decide +kernel
theorem dL_rounds_15 : decode cL_rounds 15 = .ok (.ior, 1) := by decide +kernel
theorem dL_rounds_16 : decode cL_rounds 16 = .ok (.istore_n 1, 1) := by decide +kernel
theorem dL_rounds_17 : decode cL_rounds 17 = .ok (.iinc 2 1, 3) := by decide +kernel
theorem dL_rounds_20 : decode cL_rounds 20 = .ok (.goto (-16), 3) := by decide +kernel
theorem dL_rounds_23 : decode cL_rounds 23 = .ok (.iload_n 1, 1) := by decide +kernel
theorem dL_rounds_24 : decode cL_rounds 24 = .ok (.ireturn, 1) := by decide +kernel
theorem dL_bell_0 : decode cL_bell 0 = .ok (.iconst 0, 1) := by decide +kernel
theorem dL_bell_1 : decode cL_bell 1 = .ok (.istore_n 3, 1) := by decide +kernel
theorem dL_bell_2 : decode cL_bell 2 = .ok (.iload_n 3, 1) := by decide +kernel
theorem dL_bell_3 : decode cL_bell 3 = .ok (.iload_n 1, 1) := by decide +kernel
theorem dL_bell_4 : decode cL_bell 4 = .ok (.if_icmp .ge 23, 3) := by decide +kernel
theorem dL_bell_7 : decode cL_bell 7 = .ok (.iload_n 0, 1) := by decide +kernel
theorem dL_bell_8 : decode cL_bell 8 = .ok (.iconst 3, 1) := by decide +kernel
theorem dL_bell_9 : decode cL_bell 9 = .ok (.iload_n 3, 1) := by decide +kernel
theorem dL_bell_10 : decode cL_bell 10 = .ok (.imul, 1) := by decide +kernel
theorem dL_bell_11 : decode cL_bell 11 = .ok (.ishr, 1) := by decide +kernel
theorem dL_bell_12 : decode cL_bell 12 = .ok (.bipush 7, 2) := by decide +kernel
theorem dL_bell_14 : decode cL_bell 14 = .ok (.iand, 1) := by decide +kernel
theorem dL_bell_15 : decode cL_bell 15 = .ok (.iload_n 2, 1) := by decide +kernel
theorem dL_bell_16 : decode cL_bell 16 = .ok (.if_icmp .ne 5, 3) := by decide +kernel
theorem dL_bell_19 : decode cL_bell 19 = .ok (.iload_n 3, 1) := by decide +kernel
theorem dL_bell_20 : decode cL_bell 20 = .ok (.ireturn, 1) := by decide +kernel
theorem dL_bell_21 : decode cL_bell 21 = .ok (.iinc 3 1, 3) := by decide +kernel
theorem dL_bell_24 : decode cL_bell 24 = .ok (.goto (-22), 3) := by decide +kernel
theorem dL_bell_27 : decode cL_bell 27 = .ok (.iconst (-1), 1) := by decide +kernel
theorem dL_bell_28 : decode cL_bell 28 = .ok (.ireturn, 1) := by decide +kernel
theorem dL_number_0 : decode cL_number 0 = .ok (.iconst 0, 1) := by decide +kernel
theorem dL_number_1 : decode cL_number 1 = .ok (.istore_n 2, 1) := by decide +kernel
theorem dL_number_2 : decode cL_number 2 = .ok (.iload_n 1, 1) := by decide +kernel
theorem dL_number_3 : decode cL_number 3 = .ok (.iconst 4, 1) := by decide +kernel
theorem dL_number_4 : decode cL_number 4 = .ok (.if_icmp .ne 8, 3) := by decide +kernel
theorem dL_number_7 : decode cL_number 7 = .ok (.bipush 24, 2) := by decide +kernel
theorem dL_number_9 : decode cL_number 9 = .ok (.goto 16, 3) := by decide +kernel
theorem dL_number_12 : decode cL_number 12 = .ok (.iload_n 1, 1) := by decide +kernel
theorem dL_number_13 : decode cL_number 13 = .ok (.iconst 5, 1) := by decide +kernel
theorem dL_number_14 : decode cL_number 14 = .ok (.if_icmp .ne 8, 3) := by decide +kernel
theorem dL_number_17 : decode cL_number 17 = .ok (.bipush 120, 2) := by decide +kernel
theorem dL_number_19 : decode cL_number 19 = .ok (.goto 6, 3) := by decide +kernel
theorem dL_number_22 : decode cL_number 22 = .ok (.sipush 720, 3) := by decide +kernel
theorem dL_number_25 : decode cL_number 25 = .ok (.istore_n 3, 1) := by decide +kernel
theorem dL_number_26 : decode cL_number 26 = .ok (.iconst 0, 1) := by decide +kernel
theorem dL_number_27 : decode cL_number 27 = .ok (.istore 4, 2) := by decide +kernel
theorem dL_number_29 : decode cL_number 29 = .ok (.iload 4, 2) := by decide +kernel
theorem dL_number_31 : decode cL_number 31 = .ok (.iload_n 1, 1) := by decide +kernel
theorem dL_number_32 : decode cL_number 32 = .ok (.if_icmp .ge 63, 3) := by decide +kernel
theorem dL_number_35 : decode cL_number 35 = .ok (.iload_n 3, 1) := by decide +kernel
theorem dL_number_36 : decode cL_number 36 = .ok (.iload_n 1, 1) := by decide +kernel
theorem dL_number_37 : decode cL_number 37 = .ok (.iload 4, 2) := by decide +kernel
theorem dL_number_39 : decode cL_number 39 = .ok (.isub, 1) := by decide +kernel
theorem dL_number_40 : decode cL_number 40 = .ok (.idiv, 1) := by decide +kernel
theorem dL_number_41 : decode cL_number 41 = .ok (.istore_n 3, 1) := by decide +kernel
theorem dL_number_42 : decode cL_number 42 = .ok (.iload_n 0, 1) := by decide +kernel
theorem dL_number_43 : decode cL_number 43 = .ok (.iload_n 1, 1) := by decide +kernel
theorem dL_number_44 : decode cL_number 44 = .ok (.iload 4, 2) := by decide +kernel
theorem dL_number_46 : decode cL_number 46 = .ok (.invokestatic 144, 3) := by decide +kernel
theorem dL_number_49 : decode cL_number 49 = .ok (.istore 5, 2) := by decide +kernel
theorem dL_number_51 : decode cL_number 51 = .ok (.iconst 0, 1) := by decide +kernel
theorem dL_number_52 : decode cL_number 52 = .ok (.istore 6, 2) := by decide +kernel
theorem dL_number_54 : decode cL_number 54 = .ok (.iload 6, 2) := by decide +kernel
theorem dL_number_56 : decode cL_number 56 = .ok (.iload 5, 2) := by decide +kernel
theorem dL_number_58 : decode cL_number 58 = .ok (.if_icmp .ge 31, 3) := by decide +kernel
theorem dL_number_61 : decode cL_number 61 = .ok (.iload_n 2, 1) := by decide +kernel
theorem dL_number_62 : decode cL_number 62 = .ok (.iload_n 0, 1) := by decide +kernel
theorem dL_number_63 : decode cL_number 63 = .ok (.iconst 3, 1) := by decide +kernel
theorem dL_number_64 : decode cL_number 64 = .ok (.iload 6, 2) := by decide +kernel
theorem dL_number_66 : decode cL_number 66 = .ok (.imul, 1) := by decide +kernel
theorem dL_number_67 : decode cL_number 67 = .ok (.ishr, 1) := by decide +kernel
theorem dL_number_68 : decode cL_number 68 = .ok (.bipush 7, 2) := by decide +kernel
theorem dL_number_70 : decode cL_number 70 = .ok (.iand, 1) := by decide +kernel
theorem dL_number_71 : decode cL_number 71 = .ok (.iload 4, 2) := by decide +kernel
theorem dL_number_73 : decode cL_number 73 = .ok (.if_icmp .le 7, 3) := by decide +kernel
theorem dL_number_76 : decode cL_number 76 = .ok (.iload_n 3, 1) := by decide +kernel
theorem dL_number_77 : decode cL_number 77 = .ok (.goto 4, 3) := by decide +kernel
theorem dL_number_80 : decode cL_number 80 = .ok (.iconst 0, 1) := by decide +kernel
theorem dL_number_81 : decode cL_number 81 = .ok (.iadd, 1) := by decide +kernel
theorem dL_number_82 : decode cL_number 82 = .ok (.istore_n 2, 1) := by decide +kernel
theorem dL_number_83 : decode cL_number 83 = .ok (.iinc 6 1, 3) := by decide +kernel
theorem dL_number_86 : decode cL_number 86 = .ok (.goto (-32), 3) := by decide +kernel
theorem dL_number_89 : decode cL_number 89 = .ok (.iinc 4 1, 3) := by decide +kernel
theorem dL_number_92 : decode cL_number 92 = .ok (.goto (-63), 3) := by decide +kernel
theorem dL_number_95 : decode cL_number 95 = .ok (.iload_n 2, 1) := by decide +kernel
theorem dL_number_96 : decode cL_number 96 = .ok (.ireturn, 1) := by decide +kernel
theorem dL_stageOf_0 : decode cL_stageOf 0 = .ok (.lload_n 0, 1) := by decide +kernel
theorem dL_stageOf_1 : decode cL_stageOf 1 = .ok (.ldc2_w 147, 3) := by decide +kernel
theorem dL_stageOf_4 : decode cL_stageOf 4 = .ok (.land, 1) := by decide +kernel
theorem dL_stageOf_5 : decode cL_stageOf 5 = .ok (.l2i, 1) := by decide +kernel
theorem dL_stageOf_6 : decode cL_stageOf 6 = .ok (.ireturn, 1) := by decide +kernel
theorem dL_size_0 : decode cL_size 0 = .ok (.lload_n 0, 1) := by decide +kernel
theorem dL_size_1 : decode cL_size 1 = .ok (.iconst 3, 1) := by decide +kernel
theorem dL_size_2 : decode cL_size 2 = .ok (.lshr, 1) := by decide +kernel
theorem dL_size_3 : decode cL_size 3 = .ok (.ldc2_w 147, 3) := by decide +kernel
theorem dL_size_6 : decode cL_size 6 = .ok (.land, 1) := by decide +kernel
theorem dL_size_7 : decode cL_size 7 = .ok (.l2i, 1) := by decide +kernel
theorem dL_size_8 : decode cL_size 8 = .ok (.ireturn, 1) := by decide +kernel
theorem dL_its_0 : decode cL_its 0 = .ok (.iload_n 3, 1) := by decide +kernel
theorem dL_its_1 : decode cL_its 1 = .ok (.lload_n 0, 1) := by decide +kernel
theorem dL_its_2 : decode cL_its 2 = .ok (.invokestatic 149, 3) := by decide +kernel
theorem dL_its_5 : decode cL_its 5 = .ok (.iconst 1, 1) := by decide +kernel
theorem dL_its_6 : decode cL_its 6 = .ok (.isub, 1) := by decide +kernel
theorem dL_its_7 : decode cL_its 7 = .ok (.if_icmp .ne 17, 3) := by decide +kernel
theorem dL_its_10 : decode cL_its 10 = .ok (.iload_n 2, 1) := by decide +kernel
theorem dL_its_11 : decode cL_its 11 = .ok (.ifCond .le 13, 3) := by decide +kernel
theorem dL_its_14 : decode cL_its 14 = .ok (.bipush 24, 2) := by decide +kernel
theorem dL_its_16 : decode cL_its 16 = .ok (.bipush 6, 2) := by decide +kernel
theorem dL_its_18 : decode cL_its 18 = .ok (.iload_n 2, 1) := by decide +kernel
theorem dL_its_19 : decode cL_its 19 = .ok (.imul, 1) := by decide +kernel
theorem dL_its_20 : decode cL_its 20 = .ok (.iadd, 1) := by decide +kernel
theorem dL_its_21 : decode cL_its 21 = .ok (.goto 10, 3) := by decide +kernel
theorem dL_its_24 : decode cL_its 24 = .ok (.bipush 6, 2) := by decide +kernel
theorem dL_its_26 : decode cL_its 26 = .ok (.bipush 6, 2) := by decide +kernel
theorem dL_its_28 : decode cL_its 28 = .ok (.iload_n 3, 1) := by decide +kernel
theorem dL_its_29 : decode cL_its 29 = .ok (.imul, 1) := by decide +kernel
theorem dL_its_30 : decode cL_its 30 = .ok (.iadd, 1) := by decide +kernel
theorem dL_its_31 : decode cL_its 31 = .ok (.istore 4, 2) := by decide +kernel
theorem dL_its_33 : decode cL_its 33 = .ok (.lload_n 0, 1) := by decide +kernel
theorem dL_its_34 : decode cL_its 34 = .ok (.iload 4, 2) := by decide +kernel
theorem dL_its_36 : decode cL_its 36 = .ok (.lshr, 1) := by decide +kernel
theorem dL_its_37 : decode cL_its 37 = .ok (.ldc2_w 153, 3) := by decide +kernel
theorem dL_its_40 : decode cL_its 40 = .ok (.land, 1) := by decide +kernel
theorem dL_its_41 : decode cL_its 41 = .ok (.l2i, 1) := by decide +kernel
theorem dL_its_42 : decode cL_its 42 = .ok (.ireturn, 1) := by decide +kernel
theorem dL_behind_0 : decode cL_behind 0 = .ok (.iload_n 0, 1) := by decide +kernel
theorem dL_behind_1 : decode cL_behind 1 = .ok (.istore 4, 2) := by decide +kernel
theorem dL_behind_3 : decode cL_behind 3 = .ok (.iconst 0, 1) := by decide +kernel
theorem dL_behind_4 : decode cL_behind 4 = .ok (.istore 5, 2) := by decide +kernel
theorem dL_behind_6 : decode cL_behind 6 = .ok (.iload 5, 2) := by decide +kernel
theorem dL_behind_8 : decode cL_behind 8 = .ok (.lload_n 1, 1) := by decide +kernel
theorem dL_behind_9 : decode cL_behind 9 = .ok (.invokestatic 149, 3) := by decide +kernel
theorem dL_behind_12 : decode cL_behind 12 = .ok (.if_icmp .ge 27, 3) := by decide +kernel
theorem dL_behind_15 : decode cL_behind 15 = .ok (.iload 4, 2) := by decide +kernel
theorem dL_behind_17 : decode cL_behind 17 = .ok (.lload_n 1, 1) := by decide +kernel
theorem dL_behind_18 : decode cL_behind 18 = .ok (.invokestatic 155, 3) := by decide +kernel
theorem dL_behind_21 : decode cL_behind 21 = .ok (.lload_n 1, 1) := by decide +kernel
theorem dL_behind_22 : decode cL_behind 22 = .ok (.iload_n 3, 1) := by decide +kernel
theorem dL_behind_23 : decode cL_behind 23 = .ok (.iload 5, 2) := by decide +kernel
theorem dL_behind_25 : decode cL_behind 25 = .ok (.invokestatic 158, 3) := by decide +kernel
theorem dL_behind_28 : decode cL_behind 28 = .ok (.invokestatic 162, 3) := by decide +kernel
theorem dL_behind_31 : decode cL_behind 31 = .ok (.istore 4, 2) := by decide +kernel
theorem dL_behind_33 : decode cL_behind 33 = .ok (.iinc 5 1, 3) := by decide +kernel
theorem dL_behind_36 : decode cL_behind 36 = .ok (.goto (-30), 3) := by decide +kernel
theorem dL_behind_39 : decode cL_behind 39 = .ok (.iload 4, 2) := by decide +kernel
theorem dL_behind_41 : decode cL_behind 41 = .ok (.ireturn, 1) := by decide +kernel
theorem dL_stageIn_0 : decode cL_stageIn 0 = .ok (.aload_n 0, 1) := by decide +kernel
theorem dL_stageIn_1 : decode cL_stageIn 1 = .ok (.aload_n 1, 1) := by decide +kernel
theorem dL_stageIn_2 : decode cL_stageIn 2 = .ok (.iload_n 2, 1) := by decide +kernel
theorem dL_stageIn_3 : decode cL_stageIn 3 = .ok (.iaload, 1) := by decide +kernel
theorem dL_stageIn_4 : decode cL_stageIn 4 = .ok (.iconst 3, 1) := by decide +kernel
theorem dL_stageIn_5 : decode cL_stageIn 5 = .ok (.ishr, 1) := by decide +kernel
theorem dL_stageIn_6 : decode cL_stageIn 6 = .ok (.iconst 3, 1) := by decide +kernel
theorem dL_stageIn_7 : decode cL_stageIn 7 = .ok (.iand, 1) := by decide +kernel
theorem dL_stageIn_8 : decode cL_stageIn 8 = .ok (.laload, 1) := by decide +kernel
theorem dL_stageIn_9 : decode cL_stageIn 9 = .ok (.invokestatic 155, 3) := by decide +kernel
theorem dL_stageIn_12 : decode cL_stageIn 12 = .ok (.ireturn, 1) := by decide +kernel
theorem dL_lay_0 : decode cL_lay 0 = .ok (.iconst 0, 1) := by decide +kernel
theorem dL_lay_1 : decode cL_lay 1 = .ok (.istore_n 3, 1) := by decide +kernel
theorem dL_lay_2 : decode cL_lay 2 = .ok (.aload_n 0, 1) := by decide +kernel
theorem dL_lay_3 : decode cL_lay 3 = .ok (.iload_n 1, 1) := by decide +kernel
theorem dL_lay_4 : decode cL_lay 4 = .ok (.iconst 3, 1) := by decide +kernel
theorem dL_lay_5 : decode cL_lay 5 = .ok (.ishr, 1) := by decide +kernel
theorem dL_lay_6 : decode cL_lay 6 = .ok (.iconst 3, 1) := by decide +kernel
theorem dL_lay_7 : decode cL_lay 7 = .ok (.iand, 1) := by decide +kernel
theorem dL_lay_8 : decode cL_lay 8 = .ok (.laload, 1) := by decide +kernel
theorem dL_lay_9 : decode cL_lay 9 = .ok (.invokestatic 155, 3) := by decide +kernel
theorem dL_lay_12 : decode cL_lay 12 = .ok (.invokestatic 165, 3) := by decide +kernel
theorem dL_lay_15 : decode cL_lay 15 = .ok (.istore 4, 2) := by decide +kernel
theorem dL_lay_17 : decode cL_lay 17 = .ok (.iconst 0, 1) := by decide +kernel
theorem dL_lay_18 : decode cL_lay 18 = .ok (.istore 5, 2) := by decide +kernel
theorem dL_lay_20 : decode cL_lay 20 = .ok (.iload 5, 2) := by decide +kernel
theorem dL_lay_22 : decode cL_lay 22 = .ok (.iload_n 1, 1) := by decide +kernel
theorem dL_lay_23 : decode cL_lay 23 = .ok (.bipush 7, 2) := by decide +kernel
theorem dL_lay_25 : decode cL_lay 25 = .ok (.iand, 1) := by decide +kernel
theorem dL_lay_26 : decode cL_lay 26 = .ok (.if_icmp .ge 79, 3) := by decide +kernel
theorem dL_lay_29 : decode cL_lay 29 = .ok (.aload_n 0, 1) := by decide +kernel
theorem dL_lay_30 : decode cL_lay 30 = .ok (.iload_n 1, 1) := by decide +kernel
theorem dL_lay_31 : decode cL_lay 31 = .ok (.iconst 3, 1) := by decide +kernel
theorem dL_lay_32 : decode cL_lay 32 = .ok (.iconst 4, 1) := by decide +kernel
theorem dL_lay_33 : decode cL_lay 33 = .ok (.iload 5, 2) := by decide +kernel
theorem dL_lay_35 : decode cL_lay 35 = .ok (.imul, 1) := by decide +kernel
theorem dL_lay_36 : decode cL_lay 36 = .ok (.iadd, 1) := by decide +kernel
theorem dL_lay_37 : decode cL_lay 37 = .ok (.ishr, 1) := by decide +kernel
theorem dL_lay_38 : decode cL_lay 38 = .ok (.iconst 3, 1) := by decide +kernel
theorem dL_lay_39 : decode cL_lay 39 = .ok (.iand, 1) := by decide +kernel
theorem dL_lay_40 : decode cL_lay 40 = .ok (.laload, 1) := by decide +kernel
theorem dL_lay_41 : decode cL_lay 41 = .ok (.lstore 6, 2) := by decide +kernel
theorem dL_lay_43 : decode cL_lay 43 = .ok (.iconst 0, 1) := by decide +kernel
theorem dL_lay_44 : decode cL_lay 44 = .ok (.istore 8, 2) := by decide +kernel
theorem dL_lay_46 : decode cL_lay 46 = .ok (.iload 8, 2) := by decide +kernel
theorem dL_lay_48 : decode cL_lay 48 = .ok (.lload 6, 2) := by decide +kernel
theorem dL_lay_50 : decode cL_lay 50 = .ok (.invokestatic 149, 3) := by decide +kernel
theorem dL_lay_53 : decode cL_lay 53 = .ok (.if_icmp .ge 46, 3) := by decide +kernel
theorem dL_lay_56 : decode cL_lay 56 = .ok (.iload 4, 2) := by decide +kernel
theorem dL_lay_58 : decode cL_lay 58 = .ok (.lload 6, 2) := by decide +kernel
theorem dL_lay_60 : decode cL_lay 60 = .ok (.invokestatic 155, 3) := by decide +kernel
theorem dL_lay_63 : decode cL_lay 63 = .ok (.lload 6, 2) := by decide +kernel
theorem dL_lay_65 : decode cL_lay 65 = .ok (.iload_n 1, 1) := by decide +kernel
theorem dL_lay_66 : decode cL_lay 66 = .ok (.iconst 5, 1) := by decide +kernel
theorem dL_lay_67 : decode cL_lay 67 = .ok (.iconst 4, 1) := by decide +kernel
theorem dL_lay_68 : decode cL_lay 68 = .ok (.iload 5, 2) := by decide +kernel
theorem dL_lay_70 : decode cL_lay 70 = .ok (.imul, 1) := by decide +kernel
theorem dL_lay_71 : decode cL_lay 71 = .ok (.iadd, 1) := by decide +kernel
theorem dL_lay_72 : decode cL_lay 72 = .ok (.ishr, 1) := by decide +kernel
theorem dL_lay_73 : decode cL_lay 73 = .ok (.iconst 3, 1) := by decide +kernel
theorem dL_lay_74 : decode cL_lay 74 = .ok (.iand, 1) := by decide +kernel
theorem dL_lay_75 : decode cL_lay 75 = .ok (.iload 8, 2) := by decide +kernel
theorem dL_lay_77 : decode cL_lay 77 = .ok (.invokestatic 158, 3) := by decide +kernel
theorem dL_lay_80 : decode cL_lay 80 = .ok (.invokestatic 162, 3) := by decide +kernel
theorem dL_lay_83 : decode cL_lay 83 = .ok (.istore 4, 2) := by decide +kernel
theorem dL_lay_85 : decode cL_lay 85 = .ok (.aload_n 2, 1) := by decide +kernel
theorem dL_lay_86 : decode cL_lay 86 = .ok (.iload_n 3, 1) := by decide +kernel
theorem dL_lay_87 : decode cL_lay 87 = .ok (.iload 4, 2) := by decide +kernel
theorem dL_lay_89 : decode cL_lay 89 = .ok (.iastore, 1) := by decide +kernel
theorem dL_lay_90 : decode cL_lay 90 = .ok (.iinc 3 1, 3) := by decide +kernel
theorem dL_lay_93 : decode cL_lay 93 = .ok (.iinc 8 1, 3) := by decide +kernel
theorem dL_lay_96 : decode cL_lay 96 = .ok (.goto (-50), 3) := by decide +kernel
theorem dL_lay_99 : decode cL_lay 99 = .ok (.iinc 5 1, 3) := by decide +kernel
theorem dL_lay_102 : decode cL_lay 102 = .ok (.goto (-82), 3) := by decide +kernel
theorem dL_lay_105 : decode cL_lay 105 = .ok (.iload_n 3, 1) := by decide +kernel
theorem dL_lay_106 : decode cL_lay 106 = .ok (.ireturn, 1) := by decide +kernel
theorem dL_repeat_0 : decode cL_repeat 0 = .ok (.iconst 1, 1) := by decide +kernel
theorem dL_repeat_1 : decode cL_repeat 1 = .ok (.istore_n 2, 1) := by decide +kernel
theorem dL_repeat_2 : decode cL_repeat 2 = .ok (.iload_n 2, 1) := by decide +kernel
theorem dL_repeat_3 : decode cL_repeat 3 = .ok (.iload_n 1, 1) := by decide +kernel
theorem dL_repeat_4 : decode cL_repeat 4 = .ok (.if_icmp .ge 33, 3) := by decide +kernel
theorem dL_repeat_7 : decode cL_repeat 7 = .ok (.iconst 0, 1) := by decide +kernel
theorem dL_repeat_8 : decode cL_repeat 8 = .ok (.istore_n 3, 1) := by decide +kernel
theorem dL_repeat_9 : decode cL_repeat 9 = .ok (.iload_n 3, 1) := by decide +kernel
theorem dL_repeat_10 : decode cL_repeat 10 = .ok (.iload_n 2, 1) := by decide +kernel
theorem dL_repeat_11 : decode cL_repeat 11 = .ok (.if_icmp .ge 20, 3) := by decide +kernel
theorem dL_repeat_14 : decode cL_repeat 14 = .ok (.aload_n 0, 1) := by decide +kernel
theorem dL_repeat_15 : decode cL_repeat 15 = .ok (.iload_n 3, 1) := by decide +kernel
theorem dL_repeat_16 : decode cL_repeat 16 = .ok (.iaload, 1) := by decide +kernel
theorem dL_repeat_17 : decode cL_repeat 17 = .ok (.aload_n 0, 1) := by decide +kernel
theorem dL_repeat_18 : decode cL_repeat 18 = .ok (.iload_n 2, 1) := by decide +kernel
theorem dL_repeat_19 : decode cL_repeat 19 = .ok (.iaload, 1) := by decide +kernel
theorem dL_repeat_20 : decode cL_repeat 20 = .ok (.if_icmp .ne 5, 3) := by decide +kernel
theorem dL_repeat_23 : decode cL_repeat 23 = .ok (.iload_n 2, 1) := by decide +kernel
theorem dL_repeat_24 : decode cL_repeat 24 = .ok (.ireturn, 1) := by decide +kernel
theorem dL_repeat_25 : decode cL_repeat 25 = .ok (.iinc 3 1, 3) := by decide +kernel
theorem dL_repeat_28 : decode cL_repeat 28 = .ok (.goto (-19), 3) := by decide +kernel
theorem dL_repeat_31 : decode cL_repeat 31 = .ok (.iinc 2 1, 3) := by decide +kernel
theorem dL_repeat_34 : decode cL_repeat 34 = .ok (.goto (-32), 3) := by decide +kernel
theorem dL_repeat_37 : decode cL_repeat 37 = .ok (.iconst (-1), 1) := by decide +kernel
theorem dL_repeat_38 : decode cL_repeat 38 = .ok (.ireturn, 1) := by decide +kernel
theorem dL_isSound_0 : decode cL_isSound 0 = .ok (.aload_n 0, 1) := by decide +kernel
theorem dL_isSound_1 : decode cL_isSound 1 = .ok (.iload_n 1, 1) := by decide +kernel
theorem dL_isSound_2 : decode cL_isSound 2 = .ok (.aload_n 2, 1) := by decide +kernel
theorem dL_isSound_3 : decode cL_isSound 3 = .ok (.invokestatic 168, 3) := by decide +kernel
theorem dL_isSound_6 : decode cL_isSound 6 = .ok (.istore_n 3, 1) := by decide +kernel
theorem dL_isSound_7 : decode cL_isSound 7 = .ok (.aload_n 2, 1) := by decide +kernel
theorem dL_isSound_8 : decode cL_isSound 8 = .ok (.iload_n 3, 1) := by decide +kernel
theorem dL_isSound_9 : decode cL_isSound 9 = .ok (.invokestatic 172, 3) := by decide +kernel
theorem dL_isSound_12 : decode cL_isSound 12 = .ok (.ifCond .ge 28, 3) := by decide +kernel
theorem dL_isSound_15 : decode cL_isSound 15 = .ok (.aload_n 2, 1) := by decide +kernel
theorem dL_isSound_16 : decode cL_isSound 16 = .ok (.iload_n 3, 1) := by decide +kernel
theorem dL_isSound_17 : decode cL_isSound 17 = .ok (.iconst 1, 1) := by decide +kernel
theorem dL_isSound_18 : decode cL_isSound 18 = .ok (.isub, 1) := by decide +kernel
theorem dL_isSound_19 : decode cL_isSound 19 = .ok (.iaload, 1) := by decide +kernel
theorem dL_isSound_20 : decode cL_isSound 20 = .ok (.aload_n 0, 1) := by decide +kernel
theorem dL_isSound_21 : decode cL_isSound 21 = .ok (.iload_n 1, 1) := by decide +kernel
theorem dL_isSound_22 : decode cL_isSound 22 = .ok (.iconst 3, 1) := by decide +kernel
theorem dL_isSound_23 : decode cL_isSound 23 = .ok (.ishr, 1) := by decide +kernel
theorem dL_isSound_24 : decode cL_isSound 24 = .ok (.iconst 3, 1) := by decide +kernel
theorem dL_isSound_25 : decode cL_isSound 25 = .ok (.iand, 1) := by decide +kernel
theorem dL_isSound_26 : decode cL_isSound 26 = .ok (.laload, 1) := by decide +kernel
theorem dL_isSound_27 : decode cL_isSound 27 = .ok (.invokestatic 155, 3) := by decide +kernel
theorem dL_isSound_30 : decode cL_isSound 30 = .ok (.invokestatic 165, 3) := by decide +kernel
theorem dL_isSound_33 : decode cL_isSound 33 = .ok (.if_icmp .ne 7, 3) := by decide +kernel
theorem dL_isSound_36 : decode cL_isSound 36 = .ok (.iconst 1, 1) := by decide +kernel
theorem dL_isSound_37 : decode cL_isSound 37 = .ok (.goto 4, 3) := by decide +kernel
theorem dL_isSound_40 : decode cL_isSound 40 = .ok (.iconst 0, 1) := by decide +kernel
theorem dL_isSound_41 : decode cL_isSound 41 = .ok (.ireturn, 1) := by decide +kernel
theorem dL_areIn_0 : decode cL_areIn 0 = .ok (.iconst 0, 1) := by decide +kernel
theorem dL_areIn_1 : decode cL_areIn 1 = .ok (.istore_n 2, 1) := by decide +kernel
theorem dL_areIn_2 : decode cL_areIn 2 = .ok (.iload_n 2, 1) := by decide +kernel
theorem dL_areIn_3 : decode cL_areIn 3 = .ok (.iload_n 1, 1) := by decide +kernel
theorem dL_areIn_4 : decode cL_areIn 4 = .ok (.if_icmp .ge 17, 3) := by decide +kernel
theorem dL_areIn_7 : decode cL_areIn 7 = .ok (.aload_n 0, 1) := by decide +kernel
theorem dL_areIn_8 : decode cL_areIn 8 = .ok (.iload_n 2, 1) := by decide +kernel
theorem dL_areIn_9 : decode cL_areIn 9 = .ok (.iaload, 1) := by decide +kernel
theorem dL_areIn_10 : decode cL_areIn 10 = .ok (.ifCond .le 5, 3) := by decide +kernel
theorem dL_areIn_13 : decode cL_areIn 13 = .ok (.iconst 0, 1) := by decide +kernel
theorem dL_areIn_14 : decode cL_areIn 14 = .ok (.ireturn, 1) := by decide +kernel
theorem dL_areIn_15 : decode cL_areIn 15 = .ok (.iinc 2 1, 3) := by decide +kernel
theorem dL_areIn_18 : decode cL_areIn 18 = .ok (.goto (-16), 3) := by decide +kernel
theorem dL_areIn_21 : decode cL_areIn 21 = .ok (.iconst 1, 1) := by decide +kernel
theorem dL_areIn_22 : decode cL_areIn 22 = .ok (.ireturn, 1) := by decide +kernel
theorem dL_takePlan_0 : decode cL_takePlan 0 = .ok (.aload_n 0, 1) := by decide +kernel
theorem dL_takePlan_1 : decode cL_takePlan 1 = .ok (.iload_n 1, 1) := by decide +kernel
theorem dL_takePlan_2 : decode cL_takePlan 2 = .ok (.iaload, 1) := by decide +kernel
theorem dL_takePlan_3 : decode cL_takePlan 3 = .ok (.iconst 3, 1) := by decide +kernel
theorem dL_takePlan_4 : decode cL_takePlan 4 = .ok (.ishr, 1) := by decide +kernel
theorem dL_takePlan_5 : decode cL_takePlan 5 = .ok (.istore_n 3, 1) := by decide +kernel
theorem dL_takePlan_6 : decode cL_takePlan 6 = .ok (.iload_n 3, 1) := by decide +kernel
theorem dL_takePlan_7 : decode cL_takePlan 7 = .ok (.iconst 1, 1) := by decide +kernel
theorem dL_takePlan_8 : decode cL_takePlan 8 = .ok (.iconst 2, 1) := by decide +kernel
theorem dL_takePlan_9 : decode cL_takePlan 9 = .ok (.iload_n 2, 1) := by decide +kernel
theorem dL_takePlan_10 : decode cL_takePlan 10 = .ok (.imul, 1) := by decide +kernel
theorem dL_takePlan_11 : decode cL_takePlan 11 = .ok (.ishl, 1) := by decide +kernel
theorem dL_takePlan_12 : decode cL_takePlan 12 = .ok (.iconst 1, 1) := by decide +kernel
theorem dL_takePlan_13 : decode cL_takePlan 13 = .ok (.isub, 1) := by decide +kernel
theorem dL_takePlan_14 : decode cL_takePlan 14 = .ok (.iand, 1) := by decide +kernel
theorem dL_takePlan_15 : decode cL_takePlan 15 = .ok (.istore 4, 2) := by decide +kernel
theorem dL_takePlan_17 : decode cL_takePlan 17 = .ok (.aload_n 0, 1) := by decide +kernel
theorem dL_takePlan_18 : decode cL_takePlan 18 = .ok (.iload_n 1, 1) := by decide +kernel
theorem dL_takePlan_19 : decode cL_takePlan 19 = .ok (.aload_n 0, 1) := by decide +kernel
theorem dL_takePlan_20 : decode cL_takePlan 20 = .ok (.iload_n 1, 1) := by decide +kernel
theorem dL_takePlan_21 : decode cL_takePlan 21 = .ok (.iaload, 1) := by decide +kernel
theorem dL_takePlan_22 : decode cL_takePlan 22 = .ok (.bipush 7, 2) := by decide +kernel
theorem dL_takePlan_24 : decode cL_takePlan 24 = .ok (.iand, 1) := by decide +kernel
theorem dL_takePlan_25 : decode cL_takePlan 25 = .ok (.iconst 1, 1) := by decide +kernel
theorem dL_takePlan_26 : decode cL_takePlan 26 = .ok (.isub, 1) := by decide +kernel
theorem dL_takePlan_27 : decode cL_takePlan 27 = .ok (.bipush 8, 2) := by decide +kernel
theorem dL_takePlan_29 : decode cL_takePlan 29 = .ok (.iload 4, 2) := by decide +kernel
theorem dL_takePlan_31 : decode cL_takePlan 31 = .ok (.iload_n 3, 1) := by decide +kernel
theorem dL_takePlan_32 : decode cL_takePlan 32 = .ok (.iconst 2, 1) := by decide +kernel
theorem dL_takePlan_33 : decode cL_takePlan 33 = .ok (.iload_n 2, 1) := by decide +kernel
theorem dL_takePlan_34 : decode cL_takePlan 34 = .ok (.imul, 1) := by decide +kernel
theorem dL_takePlan_35 : decode cL_takePlan 35 = .ok (.iconst 2, 1) := by decide +kernel
theorem dL_takePlan_36 : decode cL_takePlan 36 = .ok (.iadd, 1) := by decide +kernel
theorem dL_takePlan_37 : decode cL_takePlan 37 = .ok (.ishr, 1) := by decide +kernel
theorem dL_takePlan_38 : decode cL_takePlan 38 = .ok (.iconst 2, 1) := by decide +kernel
theorem dL_takePlan_39 : decode cL_takePlan 39 = .ok (.iload_n 2, 1) := by decide +kernel
theorem dL_takePlan_40 : decode cL_takePlan 40 = .ok (.imul, 1) := by decide +kernel
theorem dL_takePlan_41 : decode cL_takePlan 41 = .ok (.ishl, 1) := by decide +kernel
theorem dL_takePlan_42 : decode cL_takePlan 42 = .ok (.ior, 1) := by decide +kernel
theorem dL_takePlan_43 : decode cL_takePlan 43 = .ok (.imul, 1) := by decide +kernel
theorem dL_takePlan_44 : decode cL_takePlan 44 = .ok (.iadd, 1) := by decide +kernel
theorem dL_takePlan_45 : decode cL_takePlan 45 = .ok (.iastore, 1) := by decide +kernel
theorem dL_takePlan_46 : decode cL_takePlan 46 = .ok (.return_, 1) := by decide +kernel
theorem dL_drop_0 : decode cL_drop 0 = .ok (.iconst 0, 1) := by decide +kernel
theorem dL_drop_1 : decode cL_drop 1 = .ok (.istore 6, 2) := by decide +kernel
theorem dL_drop_3 : decode cL_drop 3 = .ok (.aload 5, 2) := by decide +kernel
theorem dL_drop_5 : decode cL_drop 5 = .ok (.iconst 2, 1) := by decide +kernel
theorem dL_drop_6 : decode cL_drop 6 = .ok (.iaload, 1) := by decide +kernel
theorem dL_drop_7 : decode cL_drop 7 = .ok (.istore 7, 2) := by decide +kernel
theorem dL_drop_9 : decode cL_drop 9 = .ok (.iload 7, 2) := by decide +kernel
theorem dL_drop_11 : decode cL_drop 11 = .ok (.bipush 61, 2) := by decide +kernel
theorem dL_drop_13 : decode cL_drop 13 = .ok (.if_icmp .ge 89, 3) := by decide +kernel
theorem dL_drop_16 : decode cL_drop 16 = .ok (.iconst 0, 1) := by decide +kernel
theorem dL_drop_17 : decode cL_drop 17 = .ok (.istore 8, 2) := by decide +kernel
theorem dL_drop_19 : decode cL_drop 19 = .ok (.iload 8, 2) := by decide +kernel
theorem dL_drop_21 : decode cL_drop 21 = .ok (.aload_n 2, 1) := by decide +kernel
theorem dL_drop_22 : decode cL_drop 22 = .ok (.iload 7, 2) := by decide +kernel
theorem dL_drop_24 : decode cL_drop 24 = .ok (.iaload, 1) := by decide +kernel
theorem dL_drop_25 : decode cL_drop 25 = .ok (.bipush 7, 2) := by decide +kernel
theorem dL_drop_27 : decode cL_drop 27 = .ok (.iand, 1) := by decide +kernel
theorem dL_drop_28 : decode cL_drop 28 = .ok (.if_icmp .ge 68, 3) := by decide +kernel
theorem dL_drop_31 : decode cL_drop 31 = .ok (.aload_n 2, 1) := by decide +kernel
theorem dL_drop_32 : decode cL_drop 32 = .ok (.iload 7, 2) := by decide +kernel
theorem dL_drop_34 : decode cL_drop 34 = .ok (.iaload, 1) := by decide +kernel
theorem dL_drop_35 : decode cL_drop 35 = .ok (.iconst 3, 1) := by decide +kernel
theorem dL_drop_36 : decode cL_drop 36 = .ok (.iconst 2, 1) := by decide +kernel
theorem dL_drop_37 : decode cL_drop 37 = .ok (.iload 8, 2) := by decide +kernel
theorem dL_drop_39 : decode cL_drop 39 = .ok (.imul, 1) := by decide +kernel
theorem dL_drop_40 : decode cL_drop 40 = .ok (.iadd, 1) := by decide +kernel
theorem dL_drop_41 : decode cL_drop 41 = .ok (.ishr, 1) := by decide +kernel
theorem dL_drop_42 : decode cL_drop 42 = .ok (.iconst 3, 1) := by decide +kernel
theorem dL_drop_43 : decode cL_drop 43 = .ok (.iand, 1) := by decide +kernel
theorem dL_drop_44 : decode cL_drop 44 = .ok (.istore 9, 2) := by decide +kernel
theorem dL_drop_46 : decode cL_drop 46 = .ok (.aload_n 3, 1) := by decide +kernel
theorem dL_drop_47 : decode cL_drop 47 = .ok (.aload_n 0, 1) := by decide +kernel
theorem dL_drop_48 : decode cL_drop 48 = .ok (.aload_n 1, 1) := by decide +kernel
theorem dL_drop_49 : decode cL_drop 49 = .ok (.iload 9, 2) := by decide +kernel
theorem dL_drop_51 : decode cL_drop 51 = .ok (.invokestatic 176, 3) := by decide +kernel
theorem dL_drop_54 : decode cL_drop 54 = .ok (.invokestatic 180, 3) := by decide +kernel
theorem dL_drop_57 : decode cL_drop 57 = .ok (.ifCond .eq 19, 3) := by decide +kernel
theorem dL_drop_60 : decode cL_drop 60 = .ok (.aload_n 0, 1) := by decide +kernel
theorem dL_drop_61 : decode cL_drop 61 = .ok (.aload_n 1, 1) := by decide +kernel
theorem dL_drop_62 : decode cL_drop 62 = .ok (.iload 9, 2) := by decide +kernel
theorem dL_drop_64 : decode cL_drop 64 = .ok (.iaload, 1) := by decide +kernel
theorem dL_drop_65 : decode cL_drop 65 = .ok (.aload 4, 2) := by decide +kernel
theorem dL_drop_67 : decode cL_drop 67 = .ok (.invokestatic 184, 3) := by decide +kernel
theorem dL_drop_70 : decode cL_drop 70 = .ok (.ifCond .eq 6, 3) := by decide +kernel
theorem dL_drop_73 : decode cL_drop 73 = .ok (.goto 17, 3) := by decide +kernel
theorem dL_drop_76 : decode cL_drop 76 = .ok (.aload_n 2, 1) := by decide +kernel
theorem dL_drop_77 : decode cL_drop 77 = .ok (.iload 7, 2) := by decide +kernel
theorem dL_drop_79 : decode cL_drop 79 = .ok (.iload 8, 2) := by decide +kernel
theorem dL_drop_81 : decode cL_drop 81 = .ok (.invokestatic 188, 3) := by decide +kernel
theorem dL_drop_84 : decode cL_drop 84 = .ok (.iinc 8 (-1), 3) := by decide +kernel
theorem dL_drop_87 : decode cL_drop 87 = .ok (.iinc 6 1, 3) := by decide +kernel
theorem dL_drop_90 : decode cL_drop 90 = .ok (.iinc 8 1, 3) := by decide +kernel
theorem dL_drop_93 : decode cL_drop 93 = .ok (.goto (-74), 3) := by decide +kernel
theorem dL_drop_96 : decode cL_drop 96 = .ok (.iinc 7 1, 3) := by decide +kernel
theorem dL_drop_99 : decode cL_drop 99 = .ok (.goto (-90), 3) := by decide +kernel
theorem dL_drop_102 : decode cL_drop 102 = .ok (.aload 5, 2) := by decide +kernel
theorem dL_drop_104 : decode cL_drop 104 = .ok (.iconst 3, 1) := by decide +kernel
theorem dL_drop_105 : decode cL_drop 105 = .ok (.dup2, 1) := by decide +kernel
theorem dL_drop_106 : decode cL_drop 106 = .ok (.iaload, 1) := by decide +kernel
theorem dL_drop_107 : decode cL_drop 107 = .ok (.iload 6, 2) := by decide +kernel
theorem dL_drop_109 : decode cL_drop 109 = .ok (.iadd, 1) := by decide +kernel
theorem dL_drop_110 : decode cL_drop 110 = .ok (.iastore, 1) := by decide +kernel
theorem dL_drop_111 : decode cL_drop 111 = .ok (.iload 6, 2) := by decide +kernel
theorem dL_drop_113 : decode cL_drop 113 = .ok (.ireturn, 1) := by decide +kernel
theorem dL_look_0 : decode cL_look 0 = .ok (.iconst 0, 1) := by decide +kernel
theorem dL_look_1 : decode cL_look 1 = .ok (.istore 7, 2) := by decide +kernel
theorem dL_look_3 : decode cL_look 3 = .ok (.iload 7, 2) := by decide +kernel
theorem dL_look_5 : decode cL_look 5 = .ok (.bipush 6, 2) := by decide +kernel
theorem dL_look_7 : decode cL_look 7 = .ok (.if_icmp .ge 51, 3) := by decide +kernel
theorem dL_look_10 : decode cL_look 10 = .ok (.aload 4, 2) := by decide +kernel
theorem dL_look_12 : decode cL_look 12 = .ok (.iload 7, 2) := by decide +kernel
theorem dL_look_14 : decode cL_look 14 = .ok (.dup2, 1) := by decide +kernel
theorem dL_look_15 : decode cL_look 15 = .ok (.iaload, 1) := by decide +kernel
theorem dL_look_16 : decode cL_look 16 = .ok (.aload_n 3, 1) := by decide +kernel
theorem dL_look_17 : decode cL_look 17 = .ok (.iload 7, 2) := by decide +kernel
theorem dL_look_19 : decode cL_look 19 = .ok (.iaload, 1) := by decide +kernel
theorem dL_look_20 : decode cL_look 20 = .ok (.sipush 299, 3) := by decide +kernel
theorem dL_look_23 : decode cL_look 23 = .ok (.if_icmp .le 7, 3) := by decide +kernel
theorem dL_look_26 : decode cL_look 26 = .ok (.iconst 2, 1) := by decide +kernel
theorem dL_look_27 : decode cL_look 27 = .ok (.goto 4, 3) := by decide +kernel
theorem dL_look_30 : decode cL_look 30 = .ok (.iconst 0, 1) := by decide +kernel
theorem dL_look_31 : decode cL_look 31 = .ok (.aload_n 3, 1) := by decide +kernel
theorem dL_look_32 : decode cL_look 32 = .ok (.bipush 6, 2) := by decide +kernel
theorem dL_look_34 : decode cL_look 34 = .ok (.iload 7, 2) := by decide +kernel
theorem dL_look_36 : decode cL_look 36 = .ok (.iadd, 1) := by decide +kernel
theorem dL_look_37 : decode cL_look 37 = .ok (.iaload, 1) := by decide +kernel
theorem dL_look_38 : decode cL_look 38 = .ok (.sipush 199, 3) := by decide +kernel
theorem dL_look_41 : decode cL_look 41 = .ok (.if_icmp .le 7, 3) := by decide +kernel
theorem dL_look_44 : decode cL_look 44 = .ok (.iconst 4, 1) := by decide +kernel
theorem dL_look_45 : decode cL_look 45 = .ok (.goto 4, 3) := by decide +kernel
theorem dL_look_48 : decode cL_look 48 = .ok (.iconst 0, 1) := by decide +kernel
theorem dL_look_49 : decode cL_look 49 = .ok (.ior, 1) := by decide +kernel
theorem dL_look_50 : decode cL_look 50 = .ok (.ior, 1) := by decide +kernel
theorem dL_look_51 : decode cL_look 51 = .ok (.iastore, 1) := by decide +kernel
theorem dL_look_52 : decode cL_look 52 = .ok (.iinc 7 1, 3) := by decide +kernel
theorem dL_look_55 : decode cL_look 55 = .ok (.goto (-52), 3) := by decide +kernel
theorem dL_look_58 : decode cL_look 58 = .ok (.aload_n 0, 1) := by decide +kernel
theorem dL_look_59 : decode cL_look 59 = .ok (.aload_n 1, 1) := by decide +kernel
theorem dL_look_60 : decode cL_look 60 = .ok (.aload_n 2, 1) := by decide +kernel
theorem dL_look_61 : decode cL_look 61 = .ok (.aload 4, 2) := by decide +kernel
theorem dL_look_63 : decode cL_look 63 = .ok (.aload 5, 2) := by decide +kernel
theorem dL_look_65 : decode cL_look 65 = .ok (.aload 6, 2) := by decide +kernel
theorem dL_look_67 : decode cL_look 67 = .ok (.invokestatic 192, 3) := by decide +kernel
theorem dL_look_70 : decode cL_look 70 = .ok (.pop, 1) := by decide +kernel
theorem dL_look_71 : decode cL_look 71 = .ok (.return_, 1) := by decide +kernel
theorem dL_band_0 : decode cL_band 0 = .ok (.aload 4, 2) := by decide +kernel
theorem dL_band_2 : decode cL_band 2 = .ok (.iconst 4, 1) := by decide +kernel
theorem dL_band_3 : decode cL_band 3 = .ok (.iaload, 1) := by decide +kernel
theorem dL_band_4 : decode cL_band 4 = .ok (.istore 6, 2) := by decide +kernel
theorem dL_band_6 : decode cL_band 6 = .ok (.iconst (-1), 1) := by decide +kernel
theorem dL_band_7 : decode cL_band 7 = .ok (.istore 7, 2) := by decide +kernel
theorem dL_band_9 : decode cL_band 9 = .ok (.aload 4, 2) := by decide +kernel
theorem dL_band_11 : decode cL_band 11 = .ok (.iconst 2, 1) := by decide +kernel
theorem dL_band_12 : decode cL_band 12 = .ok (.iaload, 1) := by decide +kernel
theorem dL_band_13 : decode cL_band 13 = .ok (.istore 8, 2) := by decide +kernel
theorem dL_band_15 : decode cL_band 15 = .ok (.iload 8, 2) := by decide +kernel
theorem dL_band_17 : decode cL_band 17 = .ok (.iload 5, 2) := by decide +kernel
theorem dL_band_19 : decode cL_band 19 = .ok (.if_icmp .gt 162, 3) := by decide +kernel
theorem dL_band_22 : decode cL_band 22 = .ok (.iconst 0, 1) := by decide +kernel
theorem dL_band_23 : decode cL_band 23 = .ok (.istore 9, 2) := by decide +kernel
theorem dL_band_25 : decode cL_band 25 = .ok (.iconst 0, 1) := by decide +kernel
theorem dL_band_26 : decode cL_band 26 = .ok (.istore 10, 2) := by decide +kernel
theorem dL_band_28 : decode cL_band 28 = .ok (.iload 10, 2) := by decide +kernel
theorem dL_band_30 : decode cL_band 30 = .ok (.aload_n 2, 1) := by decide +kernel
theorem dL_band_31 : decode cL_band 31 = .ok (.iload 8, 2) := by decide +kernel
theorem dL_band_33 : decode cL_band 33 = .ok (.iaload, 1) := by decide +kernel
theorem dL_band_34 : decode cL_band 34 = .ok (.bipush 7, 2) := by decide +kernel
theorem dL_band_36 : decode cL_band 36 = .ok (.iand, 1) := by decide +kernel
theorem dL_band_37 : decode cL_band 37 = .ok (.if_icmp .ge 45, 3) := by decide +kernel
theorem dL_band_40 : decode cL_band 40 = .ok (.aload_n 0, 1) := by decide +kernel
theorem dL_band_41 : decode cL_band 41 = .ok (.aload_n 1, 1) := by decide +kernel
theorem dL_band_42 : decode cL_band 42 = .ok (.aload_n 2, 1) := by decide +kernel
theorem dL_band_43 : decode cL_band 43 = .ok (.iload 8, 2) := by decide +kernel
theorem dL_band_45 : decode cL_band 45 = .ok (.iaload, 1) := by decide +kernel
theorem dL_band_46 : decode cL_band 46 = .ok (.iconst 3, 1) := by decide +kernel
theorem dL_band_47 : decode cL_band 47 = .ok (.iconst 2, 1) := by decide +kernel
theorem dL_band_48 : decode cL_band 48 = .ok (.iload 10, 2) := by decide +kernel
theorem dL_band_50 : decode cL_band 50 = .ok (.imul, 1) := by decide +kernel
theorem dL_band_51 : decode cL_band 51 = .ok (.iadd, 1) := by decide +kernel
theorem dL_band_52 : decode cL_band 52 = .ok (.ishr, 1) := by decide +kernel
theorem dL_band_53 : decode cL_band 53 = .ok (.iconst 3, 1) := by decide +kernel
theorem dL_band_54 : decode cL_band 54 = .ok (.iand, 1) := by decide +kernel
theorem dL_band_55 : decode cL_band 55 = .ok (.invokestatic 176, 3) := by decide +kernel
theorem dL_band_58 : decode cL_band 58 = .ok (.istore 11, 2) := by decide +kernel
theorem dL_band_60 : decode cL_band 60 = .ok (.iload 11, 2) := by decide +kernel
theorem dL_band_62 : decode cL_band 62 = .ok (.iload 9, 2) := by decide +kernel
theorem dL_band_64 : decode cL_band 64 = .ok (.if_icmp .le 8, 3) := by decide +kernel
theorem dL_band_67 : decode cL_band 67 = .ok (.iload 11, 2) := by decide +kernel
theorem dL_band_69 : decode cL_band 69 = .ok (.goto 5, 3) := by decide +kernel
theorem dL_band_72 : decode cL_band 72 = .ok (.iload 9, 2) := by decide +kernel
theorem dL_band_74 : decode cL_band 74 = .ok (.istore 9, 2) := by decide +kernel
theorem dL_band_76 : decode cL_band 76 = .ok (.iinc 10 1, 3) := by decide +kernel
theorem dL_band_79 : decode cL_band 79 = .ok (.goto (-51), 3) := by decide +kernel
theorem dL_band_82 : decode cL_band 82 = .ok (.iconst (-1), 1) := by decide +kernel
theorem dL_band_83 : decode cL_band 83 = .ok (.istore 7, 2) := by decide +kernel
theorem dL_band_85 : decode cL_band 85 = .ok (.iconst 0, 1) := by decide +kernel
theorem dL_band_86 : decode cL_band 86 = .ok (.istore 10, 2) := by decide +kernel
theorem dL_band_88 : decode cL_band 88 = .ok (.iload 10, 2) := by decide +kernel
theorem dL_band_90 : decode cL_band 90 = .ok (.iconst 4, 1) := by decide +kernel
theorem dL_band_91 : decode cL_band 91 = .ok (.if_icmp .ge 42, 3) := by decide +kernel
theorem dL_band_94 : decode cL_band 94 = .ok (.iload 9, 2) := by decide +kernel
theorem dL_band_96 : decode cL_band 96 = .ok (.ifCond .le 37, 3) := by decide +kernel
theorem dL_band_99 : decode cL_band 99 = .ok (.iload 7, 2) := by decide +kernel
theorem dL_band_101 : decode cL_band 101 = .ok (.ifCond .ge 32, 3) := by decide +kernel
theorem dL_band_104 : decode cL_band 104 = .ok (.aload_n 3, 1) := by decide +kernel
theorem dL_band_105 : decode cL_band 105 = .ok (.iload 6, 2) := by decide +kernel
theorem dL_band_107 : decode cL_band 107 = .ok (.iload 10, 2) := by decide +kernel
theorem dL_band_109 : decode cL_band 109 = .ok (.iadd, 1) := by decide +kernel
theorem dL_band_110 : decode cL_band 110 = .ok (.iconst 4, 1) := by decide +kernel
theorem dL_band_111 : decode cL_band 111 = .ok (.irem, 1) := by decide +kernel
theorem dL_band_112 : decode cL_band 112 = .ok (.iaload, 1) := by decide +kernel
theorem dL_band_113 : decode cL_band 113 = .ok (.iload 9, 2) := by decide +kernel
theorem dL_band_115 : decode cL_band 115 = .ok (.if_icmp .lt 12, 3) := by decide +kernel
theorem dL_band_118 : decode cL_band 118 = .ok (.iload 6, 2) := by decide +kernel
theorem dL_band_120 : decode cL_band 120 = .ok (.iload 10, 2) := by decide +kernel
theorem dL_band_122 : decode cL_band 122 = .ok (.iadd, 1) := by decide +kernel
theorem dL_band_123 : decode cL_band 123 = .ok (.iconst 4, 1) := by decide +kernel
theorem dL_band_124 : decode cL_band 124 = .ok (.irem, 1) := by decide +kernel
theorem dL_band_125 : decode cL_band 125 = .ok (.istore 7, 2) := by decide +kernel
theorem dL_band_127 : decode cL_band 127 = .ok (.iinc 10 1, 3) := by decide +kernel
theorem dL_band_130 : decode cL_band 130 = .ok (.goto (-42), 3) := by decide +kernel
theorem dL_band_133 : decode cL_band 133 = .ok (.iload 8, 2) := by decide +kernel
theorem dL_band_135 : decode cL_band 135 = .ok (.aload 4, 2) := by decide +kernel
theorem dL_band_137 : decode cL_band 137 = .ok (.iconst 2, 1) := by decide +kernel
theorem dL_band_138 : decode cL_band 138 = .ok (.iaload, 1) := by decide +kernel
theorem dL_band_139 : decode cL_band 139 = .ok (.if_icmp .ne 18, 3) := by decide +kernel
theorem dL_band_142 : decode cL_band 142 = .ok (.aload 4, 2) := by decide +kernel
theorem dL_band_144 : decode cL_band 144 = .ok (.iconst 5, 1) := by decide +kernel
theorem dL_band_145 : decode cL_band 145 = .ok (.iaload, 1) := by decide +kernel
theorem dL_band_146 : decode cL_band 146 = .ok (.ifCond .le 11, 3) := by decide +kernel
theorem dL_band_149 : decode cL_band 149 = .ok (.aload 4, 2) := by decide +kernel
theorem dL_band_151 : decode cL_band 151 = .ok (.iconst 5, 1) := by decide +kernel
theorem dL_band_152 : decode cL_band 152 = .ok (.iaload, 1) := by decide +kernel
theorem dL_band_153 : decode cL_band 153 = .ok (.iconst 1, 1) := by decide +kernel
theorem dL_band_154 : decode cL_band 154 = .ok (.isub, 1) := by decide +kernel
theorem dL_band_155 : decode cL_band 155 = .ok (.istore 7, 2) := by decide +kernel
theorem dL_band_157 : decode cL_band 157 = .ok (.iload 7, 2) := by decide +kernel
theorem dL_band_159 : decode cL_band 159 = .ok (.ifCond .ge 8, 3) := by decide +kernel
theorem dL_band_162 : decode cL_band 162 = .ok (.iload 6, 2) := by decide +kernel
theorem dL_band_164 : decode cL_band 164 = .ok (.goto 9, 3) := by decide +kernel
theorem dL_band_167 : decode cL_band 167 = .ok (.iload 7, 2) := by decide +kernel
theorem dL_band_169 : decode cL_band 169 = .ok (.iconst 1, 1) := by decide +kernel
theorem dL_band_170 : decode cL_band 170 = .ok (.iadd, 1) := by decide +kernel
theorem dL_band_171 : decode cL_band 171 = .ok (.iconst 4, 1) := by decide +kernel
theorem dL_band_172 : decode cL_band 172 = .ok (.irem, 1) := by decide +kernel
theorem dL_band_173 : decode cL_band 173 = .ok (.istore 6, 2) := by decide +kernel
theorem dL_band_175 : decode cL_band 175 = .ok (.iinc 8 1, 3) := by decide +kernel
theorem dL_band_178 : decode cL_band 178 = .ok (.goto (-163), 3) := by decide +kernel
theorem dL_band_181 : decode cL_band 181 = .ok (.iload 7, 2) := by decide +kernel
theorem dL_band_183 : decode cL_band 183 = .ok (.ireturn, 1) := by decide +kernel
theorem dL_planAt_0 : decode cL_planAt 0 = .ok (.iconst 0, 1) := by decide +kernel
theorem dL_planAt_1 : decode cL_planAt 1 = .ok (.istore_n 3, 1) := by decide +kernel
theorem dL_planAt_2 : decode cL_planAt 2 = .ok (.iload_n 3, 1) := by decide +kernel
theorem dL_planAt_3 : decode cL_planAt 3 = .ok (.aload_n 0, 1) := by decide +kernel
theorem dL_planAt_4 : decode cL_planAt 4 = .ok (.iload_n 1, 1) := by decide +kernel
theorem dL_planAt_5 : decode cL_planAt 5 = .ok (.iaload, 1) := by decide +kernel
theorem dL_planAt_6 : decode cL_planAt 6 = .ok (.bipush 7, 2) := by decide +kernel
theorem dL_planAt_8 : decode cL_planAt 8 = .ok (.iand, 1) := by decide +kernel
theorem dL_planAt_9 : decode cL_planAt 9 = .ok (.if_icmp .ge 26, 3) := by decide +kernel
theorem dL_planAt_12 : decode cL_planAt 12 = .ok (.aload_n 0, 1) := by decide +kernel
theorem dL_planAt_13 : decode cL_planAt 13 = .ok (.iload_n 1, 1) := by decide +kernel
theorem dL_planAt_14 : decode cL_planAt 14 = .ok (.iaload, 1) := by decide +kernel
theorem dL_planAt_15 : decode cL_planAt 15 = .ok (.iconst 3, 1) := by decide +kernel
theorem dL_planAt_16 : decode cL_planAt 16 = .ok (.iconst 2, 1) := by decide +kernel
theorem dL_planAt_17 : decode cL_planAt 17 = .ok (.iload_n 3, 1) := by decide +kernel
theorem dL_planAt_18 : decode cL_planAt 18 = .ok (.imul, 1) := by decide +kernel
theorem dL_planAt_19 : decode cL_planAt 19 = .ok (.iadd, 1) := by decide +kernel
theorem dL_planAt_20 : decode cL_planAt 20 = .ok (.ishr, 1) := by decide +kernel
theorem dL_planAt_21 : decode cL_planAt 21 = .ok (.iconst 3, 1) := by decide +kernel
theorem dL_planAt_22 : decode cL_planAt 22 = .ok (.iand, 1) := by decide +kernel
theorem dL_planAt_23 : decode cL_planAt 23 = .ok (.iload_n 2, 1) := by decide +kernel
theorem dL_planAt_24 : decode cL_planAt 24 = .ok (.if_icmp .ne 5, 3) := by decide +kernel
theorem dL_planAt_27 : decode cL_planAt 27 = .ok (.iload_n 3, 1) := by decide +kernel
theorem dL_planAt_28 : decode cL_planAt 28 = .ok (.ireturn, 1) := by decide +kernel
theorem dL_planAt_29 : decode cL_planAt 29 = .ok (.iinc 3 1, 3) := by decide +kernel
theorem dL_planAt_32 : decode cL_planAt 32 = .ok (.goto (-30), 3) := by decide +kernel
theorem dL_planAt_35 : decode cL_planAt 35 = .ok (.iconst (-1), 1) := by decide +kernel
theorem dL_planAt_36 : decode cL_planAt 36 = .ok (.ireturn, 1) := by decide +kernel
theorem dL_when_0 : decode cL_when 0 = .ok (.aload_n 0, 1) := by decide +kernel
theorem dL_when_1 : decode cL_when 1 = .ok (.bipush 8, 2) := by decide +kernel
theorem dL_when_3 : decode cL_when 3 = .ok (.iload_n 1, 1) := by decide +kernel
theorem dL_when_4 : decode cL_when 4 = .ok (.imul, 1) := by decide +kernel
theorem dL_when_5 : decode cL_when 5 = .ok (.iload_n 2, 1) := by decide +kernel
theorem dL_when_6 : decode cL_when 6 = .ok (.iconst 2, 1) := by decide +kernel
theorem dL_when_7 : decode cL_when 7 = .ok (.idiv, 1) := by decide +kernel
theorem dL_when_8 : decode cL_when 8 = .ok (.iadd, 1) := by decide +kernel
theorem dL_when_9 : decode cL_when 9 = .ok (.laload, 1) := by decide +kernel
theorem dL_when_10 : decode cL_when 10 = .ok (.bipush 32, 2) := by decide +kernel
theorem dL_when_12 : decode cL_when 12 = .ok (.iload_n 2, 1) := by decide +kernel
theorem dL_when_13 : decode cL_when 13 = .ok (.iconst 2, 1) := by decide +kernel
theorem dL_when_14 : decode cL_when 14 = .ok (.irem, 1) := by decide +kernel
theorem dL_when_15 : decode cL_when 15 = .ok (.imul, 1) := by decide +kernel
theorem dL_when_16 : decode cL_when 16 = .ok (.lshr, 1) := by decide +kernel
theorem dL_when_17 : decode cL_when 17 = .ok (.ldc2_w 196, 3) := by decide +kernel
theorem dL_when_20 : decode cL_when 20 = .ok (.land, 1) := by decide +kernel
theorem dL_when_21 : decode cL_when 21 = .ok (.l2i, 1) := by decide +kernel
theorem dL_when_22 : decode cL_when 22 = .ok (.ireturn, 1) := by decide +kernel
theorem dL_isPulled_0 : decode cL_isPulled 0 = .ok (.iconst 0, 1) := by decide +kernel
theorem dL_isPulled_1 : decode cL_isPulled 1 = .ok (.istore_n 2, 1) := by decide +kernel
theorem dL_isPulled_2 : decode cL_isPulled 2 = .ok (.iload_n 2, 1) := by decide +kernel
theorem dL_isPulled_3 : decode cL_isPulled 3 = .ok (.bipush 6, 2) := by decide +kernel
theorem dL_isPulled_5 : decode cL_isPulled 5 = .ok (.if_icmp .ge 33, 3) := by decide +kernel
theorem dL_isPulled_8 : decode cL_isPulled 8 = .ok (.aload_n 0, 1) := by decide +kernel
theorem dL_isPulled_9 : decode cL_isPulled 9 = .ok (.bipush 8, 2) := by decide +kernel
theorem dL_isPulled_11 : decode cL_isPulled 11 = .ok (.iaload, 1) := by decide +kernel
theorem dL_isPulled_12 : decode cL_isPulled 12 = .ok (.iload_n 2, 1) := by decide +kernel
theorem dL_isPulled_13 : decode cL_isPulled 13 = .ok (.ishr, 1) := by decide +kernel
theorem dL_isPulled_14 : decode cL_isPulled 14 = .ok (.iconst 1, 1) := by decide +kernel
theorem dL_isPulled_15 : decode cL_isPulled 15 = .ok (.iand, 1) := by decide +kernel
theorem dL_isPulled_16 : decode cL_isPulled 16 = .ok (.iconst 1, 1) := by decide +kernel
theorem dL_isPulled_17 : decode cL_isPulled 17 = .ok (.if_icmp .ne 15, 3) := by decide +kernel
theorem dL_isPulled_20 : decode cL_isPulled 20 = .ok (.aload_n 0, 1) := by decide +kernel
theorem dL_isPulled_21 : decode cL_isPulled 21 = .ok (.bipush 16, 2) := by decide +kernel
theorem dL_isPulled_23 : decode cL_isPulled 23 = .ok (.iload_n 2, 1) := by decide +kernel
theorem dL_isPulled_24 : decode cL_isPulled 24 = .ok (.iadd, 1) := by decide +kernel
theorem dL_isPulled_25 : decode cL_isPulled 25 = .ok (.iaload, 1) := by decide +kernel
theorem dL_isPulled_26 : decode cL_isPulled 26 = .ok (.iload_n 1, 1) := by decide +kernel
theorem dL_isPulled_27 : decode cL_isPulled 27 = .ok (.if_icmp .gt 5, 3) := by decide +kernel
theorem dL_isPulled_30 : decode cL_isPulled 30 = .ok (.iconst 0, 1) := by decide +kernel
theorem dL_isPulled_31 : decode cL_isPulled 31 = .ok (.ireturn, 1) := by decide +kernel
theorem dL_isPulled_32 : decode cL_isPulled 32 = .ok (.iinc 2 1, 3) := by decide +kernel
theorem dL_isPulled_35 : decode cL_isPulled 35 = .ok (.goto (-33), 3) := by decide +kernel
theorem dL_isPulled_38 : decode cL_isPulled 38 = .ok (.iconst 1, 1) := by decide +kernel
theorem dL_isPulled_39 : decode cL_isPulled 39 = .ok (.ireturn, 1) := by decide +kernel
theorem dL_goOn_0 : decode cL_goOn 0 = .ok (.aload_n 0, 1) := by decide +kernel
theorem dL_goOn_1 : decode cL_goOn 1 = .ok (.aload_n 1, 1) := by decide +kernel
theorem dL_goOn_2 : decode cL_goOn 2 = .ok (.aload 7, 2) := by decide +kernel
theorem dL_goOn_4 : decode cL_goOn 4 = .ok (.bipush 7, 2) := by decide +kernel
theorem dL_goOn_6 : decode cL_goOn 6 = .ok (.iaload, 1) := by decide +kernel
theorem dL_goOn_7 : decode cL_goOn 7 = .ok (.invokestatic 176, 3) := by decide +kernel
theorem dL_goOn_10 : decode cL_goOn 10 = .ok (.istore 8, 2) := by decide +kernel
theorem dL_goOn_12 : decode cL_goOn 12 = .ok (.aload_n 0, 1) := by decide +kernel
theorem dL_goOn_13 : decode cL_goOn 13 = .ok (.aload_n 1, 1) := by decide +kernel
theorem dL_goOn_14 : decode cL_goOn 14 = .ok (.aload 7, 2) := by decide +kernel
theorem dL_goOn_16 : decode cL_goOn 16 = .ok (.bipush 7, 2) := by decide +kernel
theorem dL_goOn_18 : decode cL_goOn 18 = .ok (.iaload, 1) := by decide +kernel
theorem dL_goOn_19 : decode cL_goOn 19 = .ok (.iaload, 1) := by decide +kernel
theorem dL_goOn_20 : decode cL_goOn 20 = .ok (.aload 6, 2) := by decide +kernel
theorem dL_goOn_22 : decode cL_goOn 22 = .ok (.invokestatic 168, 3) := by decide +kernel
theorem dL_goOn_25 : decode cL_goOn 25 = .ok (.istore 9, 2) := by decide +kernel
theorem dL_goOn_27 : decode cL_goOn 27 = .ok (.aload 7, 2) := by decide +kernel
theorem dL_goOn_29 : decode cL_goOn 29 = .ok (.bipush 6, 2) := by decide +kernel
theorem dL_goOn_31 : decode cL_goOn 31 = .ok (.iaload, 1) := by decide +kernel
theorem dL_goOn_32 : decode cL_goOn 32 = .ok (.iconst 1, 1) := by decide +kernel
theorem dL_goOn_33 : decode cL_goOn 33 = .ok (.if_icmp .ne 334, 3) := by decide +kernel
theorem dL_goOn_36 : decode cL_goOn 36 = .ok (.aload 7, 2) := by decide +kernel
theorem dL_goOn_38 : decode cL_goOn 38 = .ok (.bipush 10, 2) := by decide +kernel
theorem dL_goOn_40 : decode cL_goOn 40 = .ok (.iaload, 1) := by decide +kernel
theorem dL_goOn_41 : decode cL_goOn 41 = .ok (.iload 9, 2) := by decide +kernel
theorem dL_goOn_43 : decode cL_goOn 43 = .ok (.if_icmp .ge 324, 3) := by decide +kernel
theorem dL_goOn_46 : decode cL_goOn 46 = .ok (.aload 7, 2) := by decide +kernel
theorem dL_goOn_48 : decode cL_goOn 48 = .ok (.aload 7, 2) := by decide +kernel
theorem dL_goOn_50 : decode cL_goOn 50 = .ok (.bipush 10, 2) := by decide +kernel
theorem dL_goOn_52 : decode cL_goOn 52 = .ok (.iaload, 1) := by decide +kernel
theorem dL_goOn_53 : decode cL_goOn 53 = .ok (.invokestatic 198, 3) := by decide +kernel
theorem dL_goOn_56 : decode cL_goOn 56 = .ok (.ifCond .eq 311, 3) := by decide +kernel
theorem dL_goOn_59 : decode cL_goOn 59 = .ok (.aload 6, 2) := by decide +kernel
theorem dL_goOn_61 : decode cL_goOn 61 = .ok (.aload 7, 2) := by decide +kernel
theorem dL_goOn_63 : decode cL_goOn 63 = .ok (.bipush 10, 2) := by decide +kernel
theorem dL_goOn_65 : decode cL_goOn 65 = .ok (.iaload, 1) := by decide +kernel
theorem dL_goOn_66 : decode cL_goOn 66 = .ok (.iaload, 1) := by decide +kernel
theorem dL_goOn_67 : decode cL_goOn 67 = .ok (.istore 10, 2) := by decide +kernel
theorem dL_goOn_69 : decode cL_goOn 69 = .ok (.iconst (-1), 1) := by decide +kernel
theorem dL_goOn_70 : decode cL_goOn 70 = .ok (.istore 11, 2) := by decide +kernel
theorem dL_goOn_72 : decode cL_goOn 72 = .ok (.iconst 0, 1) := by decide +kernel
theorem dL_goOn_73 : decode cL_goOn 73 = .ok (.istore 12, 2) := by decide +kernel
theorem dL_goOn_75 : decode cL_goOn 75 = .ok (.iconst 0, 1) := by decide +kernel
theorem dL_goOn_76 : decode cL_goOn 76 = .ok (.istore 13, 2) := by decide +kernel
theorem dL_goOn_78 : decode cL_goOn 78 = .ok (.iload 13, 2) := by decide +kernel
theorem dL_goOn_80 : decode cL_goOn 80 = .ok (.iload 8, 2) := by decide +kernel
theorem dL_goOn_82 : decode cL_goOn 82 = .ok (.if_icmp .ge 150, 3) := by decide +kernel
theorem dL_goOn_85 : decode cL_goOn 85 = .ok (.iload 10, 2) := by decide +kernel
theorem dL_goOn_87 : decode cL_goOn 87 = .ok (.iload 8, 2) := by decide +kernel
theorem dL_goOn_89 : decode cL_goOn 89 = .ok (.iload 13, 2) := by decide +kernel
theorem dL_goOn_91 : decode cL_goOn 91 = .ok (.invokestatic 144, 3) := by decide +kernel
theorem dL_goOn_94 : decode cL_goOn 94 = .ok (.istore 14, 2) := by decide +kernel
theorem dL_goOn_96 : decode cL_goOn 96 = .ok (.aload 7, 2) := by decide +kernel
theorem dL_goOn_98 : decode cL_goOn 98 = .ok (.bipush 8, 2) := by decide +kernel
theorem dL_goOn_100 : decode cL_goOn 100 = .ok (.iaload, 1) := by decide +kernel
theorem dL_goOn_101 : decode cL_goOn 101 = .ok (.iload 14, 2) := by decide +kernel
theorem dL_goOn_103 : decode cL_goOn 103 = .ok (.ishr, 1) := by decide +kernel
theorem dL_goOn_104 : decode cL_goOn 104 = .ok (.iconst 1, 1) := by decide +kernel
theorem dL_goOn_105 : decode cL_goOn 105 = .ok (.iand, 1) := by decide +kernel
theorem dL_goOn_106 : decode cL_goOn 106 = .ok (.iconst 1, 1) := by decide +kernel
theorem dL_goOn_107 : decode cL_goOn 107 = .ok (.if_icmp .ne 7, 3) := by decide +kernel
theorem dL_goOn_110 : decode cL_goOn 110 = .ok (.iconst 1, 1) := by decide +kernel
theorem dL_goOn_111 : decode cL_goOn 111 = .ok (.goto 4, 3) := by decide +kernel
theorem dL_goOn_114 : decode cL_goOn 114 = .ok (.iconst 0, 1) := by decide +kernel
theorem dL_goOn_115 : decode cL_goOn 115 = .ok (.istore 15, 2) := by decide +kernel
theorem dL_goOn_117 : decode cL_goOn 117 = .ok (.iload 15, 2) := by decide +kernel
theorem dL_goOn_119 : decode cL_goOn 119 = .ok (.ifCond .eq 18, 3) := by decide +kernel
theorem dL_goOn_122 : decode cL_goOn 122 = .ok (.aload 5, 2) := by decide +kernel
theorem dL_goOn_124 : decode cL_goOn 124 = .ok (.iload 14, 2) := by decide +kernel
theorem dL_goOn_126 : decode cL_goOn 126 = .ok (.aload 7, 2) := by decide +kernel
theorem dL_goOn_128 : decode cL_goOn 128 = .ok (.bipush 10, 2) := by decide +kernel
theorem dL_goOn_130 : decode cL_goOn 130 = .ok (.iaload, 1) := by decide +kernel
theorem dL_goOn_131 : decode cL_goOn 131 = .ok (.invokestatic 201, 3) := by decide +kernel
theorem dL_goOn_134 : decode cL_goOn 134 = .ok (.goto 34, 3) := by decide +kernel
theorem dL_goOn_137 : decode cL_goOn 137 = .ok (.aload 7, 2) := by decide +kernel
theorem dL_goOn_139 : decode cL_goOn 139 = .ok (.bipush 9, 2) := by decide +kernel
theorem dL_goOn_141 : decode cL_goOn 141 = .ok (.iaload, 1) := by decide +kernel
theorem dL_goOn_142 : decode cL_goOn 142 = .ok (.iload 8, 2) := by decide +kernel
theorem dL_goOn_144 : decode cL_goOn 144 = .ok (.aload 7, 2) := by decide +kernel
theorem dL_goOn_146 : decode cL_goOn 146 = .ok (.bipush 10, 2) := by decide +kernel
theorem dL_goOn_148 : decode cL_goOn 148 = .ok (.iaload, 1) := by decide +kernel
theorem dL_goOn_149 : decode cL_goOn 149 = .ok (.imul, 1) := by decide +kernel
theorem dL_goOn_150 : decode cL_goOn 150 = .ok (.iload 13, 2) := by decide +kernel
theorem dL_goOn_152 : decode cL_goOn 152 = .ok (.iadd, 1) := by decide +kernel
theorem dL_goOn_153 : decode cL_goOn 153 = .ok (.aload 7, 2) := by decide +kernel
theorem dL_goOn_155 : decode cL_goOn 155 = .ok (.bipush 10, 2) := by decide +kernel
theorem dL_goOn_157 : decode cL_goOn 157 = .ok (.iaload, 1) := by decide +kernel
theorem dL_goOn_158 : decode cL_goOn 158 = .ok (.iconst 2, 1) := by decide +kernel
theorem dL_goOn_159 : decode cL_goOn 159 = .ok (.idiv, 1) := by decide +kernel
theorem dL_goOn_160 : decode cL_goOn 160 = .ok (.iadd, 1) := by decide +kernel
theorem dL_goOn_161 : decode cL_goOn 161 = .ok (.imul, 1) := by decide +kernel
theorem dL_goOn_162 : decode cL_goOn 162 = .ok (.aload 7, 2) := by decide +kernel
theorem dL_goOn_164 : decode cL_goOn 164 = .ok (.bipush 11, 2) := by decide +kernel
theorem dL_goOn_166 : decode cL_goOn 166 = .ok (.iaload, 1) := by decide +kernel
theorem dL_goOn_167 : decode cL_goOn 167 = .ok (.iadd, 1) := by decide +kernel
theorem dL_goOn_168 : decode cL_goOn 168 = .ok (.istore 16, 2) := by decide +kernel
theorem dL_goOn_170 : decode cL_goOn 170 = .ok (.iload 12, 2) := by decide +kernel
theorem dL_goOn_172 : decode cL_goOn 172 = .ok (.iload 16, 2) := by decide +kernel
theorem dL_goOn_174 : decode cL_goOn 174 = .ok (.iload 11, 2) := by decide +kernel
theorem dL_goOn_176 : decode cL_goOn 176 = .ok (.if_icmp .gt 7, 3) := by decide +kernel
theorem dL_goOn_179 : decode cL_goOn 179 = .ok (.iconst 1, 1) := by decide +kernel
theorem dL_goOn_180 : decode cL_goOn 180 = .ok (.goto 4, 3) := by decide +kernel
theorem dL_goOn_183 : decode cL_goOn 183 = .ok (.iconst 0, 1) := by decide +kernel
theorem dL_goOn_184 : decode cL_goOn 184 = .ok (.ior, 1) := by decide +kernel
theorem dL_goOn_185 : decode cL_goOn 185 = .ok (.istore 12, 2) := by decide +kernel
theorem dL_goOn_187 : decode cL_goOn 187 = .ok (.iload 16, 2) := by decide +kernel
theorem dL_goOn_189 : decode cL_goOn 189 = .ok (.istore 11, 2) := by decide +kernel
theorem dL_goOn_191 : decode cL_goOn 191 = .ok (.iload 15, 2) := by decide +kernel
theorem dL_goOn_193 : decode cL_goOn 193 = .ok (.ifCond .eq 6, 3) := by decide +kernel
theorem dL_goOn_196 : decode cL_goOn 196 = .ok (.goto 30, 3) := by decide +kernel
theorem dL_goOn_199 : decode cL_goOn 199 = .ok (.aload_n 3, 1) := by decide +kernel
theorem dL_goOn_200 : decode cL_goOn 200 = .ok (.iload 14, 2) := by decide +kernel
theorem dL_goOn_202 : decode cL_goOn 202 = .ok (.dup2, 1) := by decide +kernel
theorem dL_goOn_203 : decode cL_goOn 203 = .ok (.iaload, 1) := by decide +kernel
theorem dL_goOn_204 : decode cL_goOn 204 = .ok (.iconst 1, 1) := by decide +kernel
theorem dL_goOn_205 : decode cL_goOn 205 = .ok (.aload 7, 2) := by decide +kernel
theorem dL_goOn_207 : decode cL_goOn 207 = .ok (.bipush 10, 2) := by decide +kernel
theorem dL_goOn_209 : decode cL_goOn 209 = .ok (.iaload, 1) := by decide +kernel
theorem dL_goOn_210 : decode cL_goOn 210 = .ok (.iconst 2, 1) := by decide +kernel
theorem dL_goOn_211 : decode cL_goOn 211 = .ok (.irem, 1) := by decide +kernel
theorem dL_goOn_212 : decode cL_goOn 212 = .ok (.iadd, 1) := by decide +kernel
theorem dL_goOn_213 : decode cL_goOn 213 = .ok (.iadd, 1) := by decide +kernel
theorem dL_goOn_214 : decode cL_goOn 214 = .ok (.iastore, 1) := by decide +kernel
theorem dL_goOn_215 : decode cL_goOn 215 = .ok (.aload_n 3, 1) := by decide +kernel
theorem dL_goOn_216 : decode cL_goOn 216 = .ok (.bipush 6, 2) := by decide +kernel
theorem dL_goOn_218 : decode cL_goOn 218 = .ok (.iload 14, 2) := by decide +kernel
theorem dL_goOn_220 : decode cL_goOn 220 = .ok (.iadd, 1) := by decide +kernel
theorem dL_goOn_221 : decode cL_goOn 221 = .ok (.dup2, 1) := by decide +kernel
theorem dL_goOn_222 : decode cL_goOn 222 = .ok (.iaload, 1) := by decide +kernel
theorem dL_goOn_223 : decode cL_goOn 223 = .ok (.iconst 1, 1) := by decide +kernel
theorem dL_goOn_224 : decode cL_goOn 224 = .ok (.iadd, 1) := by decide +kernel
theorem dL_goOn_225 : decode cL_goOn 225 = .ok (.iastore, 1) := by decide +kernel
theorem dL_goOn_226 : decode cL_goOn 226 = .ok (.iinc 13 1, 3) := by decide +kernel
theorem dL_goOn_229 : decode cL_goOn 229 = .ok (.goto (-151), 3) := by decide +kernel
theorem dL_goOn_232 : decode cL_goOn 232 = .ok (.aload 7, 2) := by decide +kernel
theorem dL_goOn_234 : decode cL_goOn 234 = .ok (.bipush 13, 2) := by decide +kernel
theorem dL_goOn_236 : decode cL_goOn 236 = .ok (.dup2, 1) := by decide +kernel
theorem dL_goOn_237 : decode cL_goOn 237 = .ok (.iaload, 1) := by decide +kernel
theorem dL_goOn_238 : decode cL_goOn 238 = .ok (.iload 12, 2) := by decide +kernel
theorem dL_goOn_240 : decode cL_goOn 240 = .ok (.ifCond .eq 7, 3) := by decide +kernel
theorem dL_goOn_243 : decode cL_goOn 243 = .ok (.iconst 1, 1) := by decide +kernel
theorem dL_goOn_244 : decode cL_goOn 244 = .ok (.goto 4, 3) := by decide +kernel
theorem dL_goOn_247 : decode cL_goOn 247 = .ok (.iconst 0, 1) := by decide +kernel
theorem dL_goOn_248 : decode cL_goOn 248 = .ok (.iadd, 1) := by decide +kernel
theorem dL_goOn_249 : decode cL_goOn 249 = .ok (.iastore, 1) := by decide +kernel
theorem dL_goOn_250 : decode cL_goOn 250 = .ok (.aload 7, 2) := by decide +kernel
theorem dL_goOn_252 : decode cL_goOn 252 = .ok (.bipush 10, 2) := by decide +kernel
theorem dL_goOn_254 : decode cL_goOn 254 = .ok (.dup2, 1) := by decide +kernel
theorem dL_goOn_255 : decode cL_goOn 255 = .ok (.iaload, 1) := by decide +kernel
theorem dL_goOn_256 : decode cL_goOn 256 = .ok (.iconst 1, 1) := by decide +kernel
theorem dL_goOn_257 : decode cL_goOn 257 = .ok (.iadd, 1) := by decide +kernel
theorem dL_goOn_258 : decode cL_goOn 258 = .ok (.iastore, 1) := by decide +kernel
theorem dL_goOn_259 : decode cL_goOn 259 = .ok (.aload_n 0, 1) := by decide +kernel
theorem dL_goOn_260 : decode cL_goOn 260 = .ok (.aload_n 1, 1) := by decide +kernel
theorem dL_goOn_261 : decode cL_goOn 261 = .ok (.aload_n 2, 1) := by decide +kernel
theorem dL_goOn_262 : decode cL_goOn 262 = .ok (.aload_n 3, 1) := by decide +kernel
theorem dL_goOn_263 : decode cL_goOn 263 = .ok (.aload 4, 2) := by decide +kernel
theorem dL_goOn_265 : decode cL_goOn 265 = .ok (.aload 6, 2) := by decide +kernel
theorem dL_goOn_267 : decode cL_goOn 267 = .ok (.aload 7, 2) := by decide +kernel
theorem dL_goOn_269 : decode cL_goOn 269 = .ok (.invokestatic 205, 3) := by decide +kernel
theorem dL_goOn_272 : decode cL_goOn 272 = .ok (.aload 4, 2) := by decide +kernel
theorem dL_goOn_274 : decode cL_goOn 274 = .ok (.iload 8, 2) := by decide +kernel
theorem dL_goOn_276 : decode cL_goOn 276 = .ok (.invokestatic 180, 3) := by decide +kernel
theorem dL_goOn_279 : decode cL_goOn 279 = .ok (.ifCond .ne 12, 3) := by decide +kernel
theorem dL_goOn_282 : decode cL_goOn 282 = .ok (.aload 7, 2) := by decide +kernel
theorem dL_goOn_284 : decode cL_goOn 284 = .ok (.bipush 6, 2) := by decide +kernel
theorem dL_goOn_286 : decode cL_goOn 286 = .ok (.iconst 0, 1) := by decide +kernel
theorem dL_goOn_287 : decode cL_goOn 287 = .ok (.iastore, 1) := by decide +kernel
theorem dL_goOn_288 : decode cL_goOn 288 = .ok (.goto 61, 3) := by decide +kernel
theorem dL_goOn_291 : decode cL_goOn 291 = .ok (.aload 7, 2) := by decide +kernel
theorem dL_goOn_293 : decode cL_goOn 293 = .ok (.bipush 10, 2) := by decide +kernel
theorem dL_goOn_295 : decode cL_goOn 295 = .ok (.iaload, 1) := by decide +kernel
theorem dL_goOn_296 : decode cL_goOn 296 = .ok (.iload 9, 2) := by decide +kernel
theorem dL_goOn_298 : decode cL_goOn 298 = .ok (.if_icmp .ne 51, 3) := by decide +kernel
theorem dL_goOn_301 : decode cL_goOn 301 = .ok (.aload 7, 2) := by decide +kernel
theorem dL_goOn_303 : decode cL_goOn 303 = .ok (.bipush 6, 2) := by decide +kernel
theorem dL_goOn_305 : decode cL_goOn 305 = .ok (.iconst 0, 1) := by decide +kernel
theorem dL_goOn_306 : decode cL_goOn 306 = .ok (.iastore, 1) := by decide +kernel
theorem dL_goOn_307 : decode cL_goOn 307 = .ok (.aload 7, 2) := by decide +kernel
theorem dL_goOn_309 : decode cL_goOn 309 = .ok (.bipush 14, 2) := by decide +kernel
theorem dL_goOn_311 : decode cL_goOn 311 = .ok (.dup2, 1) := by decide +kernel
theorem dL_goOn_312 : decode cL_goOn 312 = .ok (.iaload, 1) := by decide +kernel
theorem dL_goOn_313 : decode cL_goOn 313 = .ok (.iconst 1, 1) := by decide +kernel
theorem dL_goOn_314 : decode cL_goOn 314 = .ok (.iadd, 1) := by decide +kernel
theorem dL_goOn_315 : decode cL_goOn 315 = .ok (.iastore, 1) := by decide +kernel
theorem dL_goOn_316 : decode cL_goOn 316 = .ok (.aload 7, 2) := by decide +kernel
theorem dL_goOn_318 : decode cL_goOn 318 = .ok (.bipush 15, 2) := by decide +kernel
theorem dL_goOn_320 : decode cL_goOn 320 = .ok (.aload 7, 2) := by decide +kernel
theorem dL_goOn_322 : decode cL_goOn 322 = .ok (.bipush 7, 2) := by decide +kernel
theorem dL_goOn_324 : decode cL_goOn 324 = .ok (.iaload, 1) := by decide +kernel
theorem dL_goOn_325 : decode cL_goOn 325 = .ok (.iconst 1, 1) := by decide +kernel
theorem dL_goOn_326 : decode cL_goOn 326 = .ok (.iadd, 1) := by decide +kernel
theorem dL_goOn_327 : decode cL_goOn 327 = .ok (.iastore, 1) := by decide +kernel
theorem dL_goOn_328 : decode cL_goOn 328 = .ok (.aload_n 2, 1) := by decide +kernel
theorem dL_goOn_329 : decode cL_goOn 329 = .ok (.aload 7, 2) := by decide +kernel
theorem dL_goOn_331 : decode cL_goOn 331 = .ok (.iconst 2, 1) := by decide +kernel
theorem dL_goOn_332 : decode cL_goOn 332 = .ok (.iaload, 1) := by decide +kernel
theorem dL_goOn_333 : decode cL_goOn 333 = .ok (.aload_n 2, 1) := by decide +kernel
theorem dL_goOn_334 : decode cL_goOn 334 = .ok (.aload 7, 2) := by decide +kernel
theorem dL_goOn_336 : decode cL_goOn 336 = .ok (.iconst 2, 1) := by decide +kernel
theorem dL_goOn_337 : decode cL_goOn 337 = .ok (.iaload, 1) := by decide +kernel
theorem dL_goOn_338 : decode cL_goOn 338 = .ok (.aload 7, 2) := by decide +kernel
theorem dL_goOn_340 : decode cL_goOn 340 = .ok (.bipush 7, 2) := by decide +kernel
theorem dL_goOn_342 : decode cL_goOn 342 = .ok (.iaload, 1) := by decide +kernel
theorem dL_goOn_343 : decode cL_goOn 343 = .ok (.invokestatic 209, 3) := by decide +kernel
theorem dL_goOn_346 : decode cL_goOn 346 = .ok (.invokestatic 188, 3) := by decide +kernel
theorem dL_goOn_349 : decode cL_goOn 349 = .ok (.aload_n 0, 1) := by decide +kernel
theorem dL_goOn_350 : decode cL_goOn 350 = .ok (.aload_n 1, 1) := by decide +kernel
theorem dL_goOn_351 : decode cL_goOn 351 = .ok (.aload 7, 2) := by decide +kernel
theorem dL_goOn_353 : decode cL_goOn 353 = .ok (.bipush 7, 2) := by decide +kernel
theorem dL_goOn_355 : decode cL_goOn 355 = .ok (.iaload, 1) := by decide +kernel
theorem dL_goOn_356 : decode cL_goOn 356 = .ok (.iaload, 1) := by decide +kernel
theorem dL_goOn_357 : decode cL_goOn 357 = .ok (.aload 6, 2) := by decide +kernel
theorem dL_goOn_359 : decode cL_goOn 359 = .ok (.invokestatic 168, 3) := by decide +kernel
theorem dL_goOn_362 : decode cL_goOn 362 = .ok (.istore 9, 2) := by decide +kernel
theorem dL_goOn_364 : decode cL_goOn 364 = .ok (.goto (-337), 3) := by decide +kernel
theorem dL_goOn_367 : decode cL_goOn 367 = .ok (.aload 7, 2) := by decide +kernel
theorem dL_goOn_369 : decode cL_goOn 369 = .ok (.bipush 10, 2) := by decide +kernel
theorem dL_goOn_371 : decode cL_goOn 371 = .ok (.iaload, 1) := by decide +kernel
theorem dL_goOn_372 : decode cL_goOn 372 = .ok (.ireturn, 1) := by decide +kernel
theorem dL_methods_0 : decode cL_methods 0 = .ok (.iconst 4, 1) := by decide +kernel
theorem dL_methods_1 : decode cL_methods 1 = .ok (.iload_n 2, 1) := by decide +kernel
theorem dL_methods_2 : decode cL_methods 2 = .ok (.iconst 3, 1) := by decide +kernel
theorem dL_methods_3 : decode cL_methods 3 = .ok (.invokestatic 213, 3) := by decide +kernel
theorem dL_methods_6 : decode cL_methods 6 = .ok (.iadd, 1) := by decide +kernel
theorem dL_methods_7 : decode cL_methods 7 = .ok (.istore 10, 2) := by decide +kernel
theorem dL_methods_9 : decode cL_methods 9 = .ok (.iload_n 1, 1) := by decide +kernel
theorem dL_methods_10 : decode cL_methods 10 = .ok (.iconst 4, 1) := by decide +kernel
theorem dL_methods_11 : decode cL_methods 11 = .ok (.if_icmp .ge 188, 3) := by decide +kernel
theorem dL_methods_14 : decode cL_methods 14 = .ok (.iload_n 2, 1) := by decide +kernel
theorem dL_methods_15 : decode cL_methods 15 = .ok (.sipush 768, 3) := by decide +kernel
theorem dL_methods_18 : decode cL_methods 18 = .ok (.iand, 1) := by decide +kernel
theorem dL_methods_19 : decode cL_methods 19 = .ok (.ifCond .ne 12, 3) := by decide +kernel
theorem dL_methods_22 : decode cL_methods 22 = .ok (.iload_n 3, 1) := by decide +kernel
theorem dL_methods_23 : decode cL_methods 23 = .ok (.bipush 64, 2) := by decide +kernel
theorem dL_methods_25 : decode cL_methods 25 = .ok (.invokestatic 213, 3) := by decide +kernel
theorem dL_methods_28 : decode cL_methods 28 = .ok (.goto 58, 3) := by decide +kernel
theorem dL_methods_31 : decode cL_methods 31 = .ok (.iload_n 3, 1) := by decide +kernel
theorem dL_methods_32 : decode cL_methods 32 = .ok (.iconst 5, 1) := by decide +kernel
theorem dL_methods_33 : decode cL_methods 33 = .ok (.invokestatic 213, 3) := by decide +kernel
theorem dL_methods_36 : decode cL_methods 36 = .ok (.ifCond .ne 7, 3) := by decide +kernel
theorem dL_methods_39 : decode cL_methods 39 = .ok (.iconst 0, 1) := by decide +kernel
theorem dL_methods_40 : decode cL_methods 40 = .ok (.goto 46, 3) := by decide +kernel
theorem dL_methods_43 : decode cL_methods 43 = .ok (.iload_n 3, 1) := by decide +kernel
theorem dL_methods_44 : decode cL_methods 44 = .ok (.iconst 5, 1) := by decide +kernel
theorem dL_methods_45 : decode cL_methods 45 = .ok (.invokestatic 213, 3) := by decide +kernel
theorem dL_methods_48 : decode cL_methods 48 = .ok (.iconst 1, 1) := by decide +kernel
theorem dL_methods_49 : decode cL_methods 49 = .ok (.if_icmp .ne 8, 3) := by decide +kernel
theorem dL_methods_52 : decode cL_methods 52 = .ok (.bipush 9, 2) := by decide +kernel
theorem dL_methods_54 : decode cL_methods 54 = .ok (.goto 32, 3) := by decide +kernel
theorem dL_methods_57 : decode cL_methods 57 = .ok (.iload_n 3, 1) := by decide +kernel
theorem dL_methods_58 : decode cL_methods 58 = .ok (.iconst 5, 1) := by decide +kernel
theorem dL_methods_59 : decode cL_methods 59 = .ok (.invokestatic 213, 3) := by decide +kernel
theorem dL_methods_62 : decode cL_methods 62 = .ok (.iconst 2, 1) := by decide +kernel
theorem dL_methods_63 : decode cL_methods 63 = .ok (.if_icmp .ne 8, 3) := by decide +kernel
theorem dL_methods_66 : decode cL_methods 66 = .ok (.bipush 33, 2) := by decide +kernel
theorem dL_methods_68 : decode cL_methods 68 = .ok (.goto 18, 3) := by decide +kernel
theorem dL_methods_71 : decode cL_methods 71 = .ok (.iload_n 3, 1) := by decide +kernel
theorem dL_methods_72 : decode cL_methods 72 = .ok (.iconst 5, 1) := by decide +kernel
theorem dL_methods_73 : decode cL_methods 73 = .ok (.invokestatic 213, 3) := by decide +kernel
theorem dL_methods_76 : decode cL_methods 76 = .ok (.iconst 3, 1) := by decide +kernel
theorem dL_methods_77 : decode cL_methods 77 = .ok (.if_icmp .ne 7, 3) := by decide +kernel
theorem dL_methods_80 : decode cL_methods 80 = .ok (.iconst 1, 1) := by decide +kernel
theorem dL_methods_81 : decode cL_methods 81 = .ok (.goto 5, 3) := by decide +kernel
theorem dL_methods_84 : decode cL_methods 84 = .ok (.bipush 12, 2) := by decide +kernel
theorem dL_methods_86 : decode cL_methods 86 = .ok (.istore 11, 2) := by decide +kernel
theorem dL_methods_88 : decode cL_methods 88 = .ok (.aload_n 0, 1) := by decide +kernel
theorem dL_methods_89 : decode cL_methods 89 = .ok (.bipush 64, 2) := by decide +kernel
theorem dL_methods_91 : decode cL_methods 91 = .ok (.invokestatic 216, 3) := by decide +kernel
theorem dL_methods_94 : decode cL_methods 94 = .ok (.sipush (-7200), 3) := by decide +kernel
theorem dL_methods_97 : decode cL_methods 97 = .ok (.if_icmp .ne 14, 3) := by decide +kernel
theorem dL_methods_100 : decode cL_methods 100 = .ok (.aload_n 0, 1) := by decide +kernel
theorem dL_methods_101 : decode cL_methods 101 = .ok (.iconst (-1), 1) := by decide +kernel
theorem dL_methods_102 : decode cL_methods 102 = .ok (.invokestatic 216, 3) := by decide +kernel
theorem dL_methods_105 : decode cL_methods 105 = .ok (.sipush (-7200), 3) := by decide +kernel
theorem dL_methods_108 : decode cL_methods 108 = .ok (.if_icmp .eq 5, 3) := by decide +kernel
theorem dL_methods_111 : decode cL_methods 111 = .ok (.iconst 0, 1) := by decide +kernel
theorem dL_methods_112 : decode cL_methods 112 = .ok (.ireturn, 1) := by decide +kernel
theorem dL_methods_113 : decode cL_methods 113 = .ok (.aload 9, 2) := by decide +kernel
theorem dL_methods_115 : decode cL_methods 115 = .ok (.bipush 22, 2) := by decide +kernel
theorem dL_methods_117 : decode cL_methods 117 = .ok (.iaload, 1) := by decide +kernel
theorem dL_methods_118 : decode cL_methods 118 = .ok (.iconst 4, 1) := by decide +kernel
theorem dL_methods_119 : decode cL_methods 119 = .ok (.if_icmp .ne 32, 3) := by decide +kernel
theorem dL_methods_122 : decode cL_methods 122 = .ok (.aload_n 0, 1) := by decide +kernel
theorem dL_methods_123 : decode cL_methods 123 = .ok (.iconst 3, 1) := by decide +kernel
theorem dL_methods_124 : decode cL_methods 124 = .ok (.invokestatic 219, 3) := by decide +kernel
theorem dL_methods_127 : decode cL_methods 127 = .ok (.sipush (-7200), 3) := by decide +kernel
theorem dL_methods_130 : decode cL_methods 130 = .ok (.if_icmp .ne 19, 3) := by decide +kernel
theorem dL_methods_133 : decode cL_methods 133 = .ok (.aload_n 0, 1) := by decide +kernel
theorem dL_methods_134 : decode cL_methods 134 = .ok (.bipush 7, 2) := by decide +kernel
theorem dL_methods_136 : decode cL_methods 136 = .ok (.invokestatic 219, 3) := by decide +kernel
theorem dL_methods_139 : decode cL_methods 139 = .ok (.sipush (-7200), 3) := by decide +kernel
theorem dL_methods_142 : decode cL_methods 142 = .ok (.if_icmp .ne 7, 3) := by decide +kernel
theorem dL_methods_145 : decode cL_methods 145 = .ok (.iconst 1, 1) := by decide +kernel
theorem dL_methods_146 : decode cL_methods 146 = .ok (.goto 4, 3) := by decide +kernel
theorem dL_methods_149 : decode cL_methods 149 = .ok (.iconst 0, 1) := by decide +kernel
theorem dL_methods_150 : decode cL_methods 150 = .ok (.ireturn, 1) := by decide +kernel
theorem dL_methods_151 : decode cL_methods 151 = .ok (.aload 9, 2) := by decide +kernel
theorem dL_methods_153 : decode cL_methods 153 = .ok (.bipush 23, 2) := by decide +kernel
theorem dL_methods_155 : decode cL_methods 155 = .ok (.dup2, 1) := by decide +kernel
theorem dL_methods_156 : decode cL_methods 156 = .ok (.iaload, 1) := by decide +kernel
theorem dL_methods_157 : decode cL_methods 157 = .ok (.iload 11, 2) := by decide +kernel
theorem dL_methods_159 : decode cL_methods 159 = .ok (.bipush 6, 2) := by decide +kernel
theorem dL_methods_161 : decode cL_methods 161 = .ok (.aload 9, 2) := by decide +kernel
theorem dL_methods_163 : decode cL_methods 163 = .ok (.bipush 22, 2) := by decide +kernel
theorem dL_methods_165 : decode cL_methods 165 = .ok (.iaload, 1) := by decide +kernel
theorem dL_methods_166 : decode cL_methods 166 = .ok (.imul, 1) := by decide +kernel
theorem dL_methods_167 : decode cL_methods 167 = .ok (.ishl, 1) := by decide +kernel
theorem dL_methods_168 : decode cL_methods 168 = .ok (.ior, 1) := by decide +kernel
theorem dL_methods_169 : decode cL_methods 169 = .ok (.iastore, 1) := by decide +kernel
theorem dL_methods_170 : decode cL_methods 170 = .ok (.aload 9, 2) := by decide +kernel
theorem dL_methods_172 : decode cL_methods 172 = .ok (.bipush 22, 2) := by decide +kernel
theorem dL_methods_174 : decode cL_methods 174 = .ok (.dup2, 1) := by decide +kernel
theorem dL_methods_175 : decode cL_methods 175 = .ok (.iaload, 1) := by decide +kernel
theorem dL_methods_176 : decode cL_methods 176 = .ok (.iconst 1, 1) := by decide +kernel
theorem dL_methods_177 : decode cL_methods 177 = .ok (.iadd, 1) := by decide +kernel
theorem dL_methods_178 : decode cL_methods 178 = .ok (.iastore, 1) := by decide +kernel
theorem dL_methods_179 : decode cL_methods 179 = .ok (.aload_n 0, 1) := by decide +kernel
theorem dL_methods_180 : decode cL_methods 180 = .ok (.iload 11, 2) := by decide +kernel
theorem dL_methods_182 : decode cL_methods 182 = .ok (.invokestatic 216, 3) := by decide +kernel
theorem dL_methods_185 : decode cL_methods 185 = .ok (.aload 9, 2) := by decide +kernel
theorem dL_methods_187 : decode cL_methods 187 = .ok (.bipush 22, 2) := by decide +kernel
theorem dL_methods_189 : decode cL_methods 189 = .ok (.iaload, 1) := by decide +kernel
theorem dL_methods_190 : decode cL_methods 190 = .ok (.if_icmp .ne 7, 3) := by decide +kernel
theorem dL_methods_193 : decode cL_methods 193 = .ok (.iconst 1, 1) := by decide +kernel
theorem dL_methods_194 : decode cL_methods 194 = .ok (.goto 4, 3) := by decide +kernel
theorem dL_methods_197 : decode cL_methods 197 = .ok (.iconst 0, 1) := by decide +kernel
theorem dL_methods_198 : decode cL_methods 198 = .ok (.ireturn, 1) := by decide +kernel
theorem dL_methods_199 : decode cL_methods 199 = .ok (.iload_n 1, 1) := by decide +kernel
theorem dL_methods_200 : decode cL_methods 200 = .ok (.bipush 7, 2) := by decide +kernel
theorem dL_methods_202 : decode cL_methods 202 = .ok (.if_icmp .ge 265, 3) := by decide +kernel
theorem dL_methods_205 : decode cL_methods 205 = .ok (.aload 9, 2) := by decide +kernel
theorem dL_methods_207 : decode cL_methods 207 = .ok (.bipush 22, 2) := by decide +kernel
theorem dL_methods_209 : decode cL_methods 209 = .ok (.iaload, 1) := by decide +kernel
theorem dL_methods_210 : decode cL_methods 210 = .ok (.ifCond .le 7, 3) := by decide +kernel
theorem dL_methods_213 : decode cL_methods 213 = .ok (.iconst 1, 1) := by decide +kernel
theorem dL_methods_214 : decode cL_methods 214 = .ok (.goto 4, 3) := by decide +kernel
theorem dL_methods_217 : decode cL_methods 217 = .ok (.iconst 0, 1) := by decide +kernel
theorem dL_methods_218 : decode cL_methods 218 = .ok (.istore 11, 2) := by decide +kernel
theorem dL_methods_220 : decode cL_methods 220 = .ok (.iconst 0, 1) := by decide +kernel
theorem dL_methods_221 : decode cL_methods 221 = .ok (.istore 12, 2) := by decide +kernel
theorem dL_methods_223 : decode cL_methods 223 = .ok (.iload 12, 2) := by decide +kernel
theorem dL_methods_225 : decode cL_methods 225 = .ok (.aload 9, 2) := by decide +kernel
theorem dL_methods_227 : decode cL_methods 227 = .ok (.bipush 22, 2) := by decide +kernel
theorem dL_methods_229 : decode cL_methods 229 = .ok (.iaload, 1) := by decide +kernel
theorem dL_methods_230 : decode cL_methods 230 = .ok (.if_icmp .ge 33, 3) := by decide +kernel
theorem dL_methods_233 : decode cL_methods 233 = .ok (.iload 11, 2) := by decide +kernel
theorem dL_methods_235 : decode cL_methods 235 = .ok (.iload 10, 2) := by decide +kernel
theorem dL_methods_237 : decode cL_methods 237 = .ok (.aload 9, 2) := by decide +kernel
theorem dL_methods_239 : decode cL_methods 239 = .ok (.bipush 23, 2) := by decide +kernel
theorem dL_methods_241 : decode cL_methods 241 = .ok (.iaload, 1) := by decide +kernel
theorem dL_methods_242 : decode cL_methods 242 = .ok (.bipush 6, 2) := by decide +kernel
theorem dL_methods_244 : decode cL_methods 244 = .ok (.iload 12, 2) := by decide +kernel
theorem dL_methods_246 : decode cL_methods 246 = .ok (.imul, 1) := by decide +kernel
theorem dL_methods_247 : decode cL_methods 247 = .ok (.ishr, 1) := by decide +kernel
theorem dL_methods_248 : decode cL_methods 248 = .ok (.bipush 63, 2) := by decide +kernel
theorem dL_methods_250 : decode cL_methods 250 = .ok (.iand, 1) := by decide +kernel
theorem dL_methods_251 : decode cL_methods 251 = .ok (.invokestatic 221, 3) := by decide +kernel
theorem dL_methods_254 : decode cL_methods 254 = .ok (.iand, 1) := by decide +kernel
theorem dL_methods_255 : decode cL_methods 255 = .ok (.istore 11, 2) := by decide +kernel
theorem dL_methods_257 : decode cL_methods 257 = .ok (.iinc 12 1, 3) := by decide +kernel
theorem dL_methods_260 : decode cL_methods 260 = .ok (.goto (-37), 3) := by decide +kernel
theorem dL_methods_263 : decode cL_methods 263 = .ok (.iload 11, 2) := by decide +kernel
theorem dL_methods_265 : decode cL_methods 265 = .ok (.ifCond .ne 71, 3) := by decide +kernel
theorem dL_methods_268 : decode cL_methods 268 = .ok (.aload_n 0, 1) := by decide +kernel
theorem dL_methods_269 : decode cL_methods 269 = .ok (.iload 10, 2) := by decide +kernel
theorem dL_methods_271 : decode cL_methods 271 = .ok (.invokestatic 219, 3) := by decide +kernel
theorem dL_methods_274 : decode cL_methods 274 = .ok (.sipush (-7300), 3) := by decide +kernel
theorem dL_methods_277 : decode cL_methods 277 = .ok (.if_icmp .ne 7, 3) := by decide +kernel
theorem dL_methods_280 : decode cL_methods 280 = .ok (.iconst 1, 1) := by decide +kernel
theorem dL_methods_281 : decode cL_methods 281 = .ok (.goto 4, 3) := by decide +kernel
theorem dL_methods_284 : decode cL_methods 284 = .ok (.iconst 0, 1) := by decide +kernel
theorem dL_methods_285 : decode cL_methods 285 = .ok (.istore 12, 2) := by decide +kernel
theorem dL_methods_287 : decode cL_methods 287 = .ok (.iload_n 3, 1) := by decide +kernel
theorem dL_methods_288 : decode cL_methods 288 = .ok (.bipush 6, 2) := by decide +kernel
theorem dL_methods_290 : decode cL_methods 290 = .ok (.iand, 1) := by decide +kernel
theorem dL_methods_291 : decode cL_methods 291 = .ok (.ifCond .le 6, 3) := by decide +kernel
theorem dL_methods_294 : decode cL_methods 294 = .ok (.iload 12, 2) := by decide +kernel
theorem dL_methods_296 : decode cL_methods 296 = .ok (.ireturn, 1) := by decide +kernel
theorem dL_methods_297 : decode cL_methods 297 = .ok (.aload 9, 2) := by decide +kernel
theorem dL_methods_299 : decode cL_methods 299 = .ok (.bipush 22, 2) := by decide +kernel
theorem dL_methods_301 : decode cL_methods 301 = .ok (.iaload, 1) := by decide +kernel
theorem dL_methods_302 : decode cL_methods 302 = .ok (.istore 13, 2) := by decide +kernel
theorem dL_methods_304 : decode cL_methods 304 = .ok (.aload 9, 2) := by decide +kernel
theorem dL_methods_306 : decode cL_methods 306 = .ok (.bipush 22, 2) := by decide +kernel
theorem dL_methods_308 : decode cL_methods 308 = .ok (.iconst 0, 1) := by decide +kernel
theorem dL_methods_309 : decode cL_methods 309 = .ok (.iastore, 1) := by decide +kernel
theorem dL_methods_310 : decode cL_methods 310 = .ok (.aload 9, 2) := by decide +kernel
theorem dL_methods_312 : decode cL_methods 312 = .ok (.bipush 23, 2) := by decide +kernel
theorem dL_methods_314 : decode cL_methods 314 = .ok (.iconst 0, 1) := by decide +kernel
theorem dL_methods_315 : decode cL_methods 315 = .ok (.iastore, 1) := by decide +kernel
theorem dL_methods_316 : decode cL_methods 316 = .ok (.iload 12, 2) := by decide +kernel
theorem dL_methods_318 : decode cL_methods 318 = .ok (.ifCond .eq 16, 3) := by decide +kernel
theorem dL_methods_321 : decode cL_methods 321 = .ok (.aload_n 0, 1) := by decide +kernel
theorem dL_methods_322 : decode cL_methods 322 = .ok (.invokevirtual 224, 3) := by decide +kernel
theorem dL_methods_325 : decode cL_methods 325 = .ok (.iload 13, 2) := by decide +kernel
theorem dL_methods_327 : decode cL_methods 327 = .ok (.if_icmp .ne 7, 3) := by decide +kernel
theorem dL_methods_330 : decode cL_methods 330 = .ok (.iconst 1, 1) := by decide +kernel
theorem dL_methods_331 : decode cL_methods 331 = .ok (.goto 4, 3) := by decide +kernel
theorem dL_methods_334 : decode cL_methods 334 = .ok (.iconst 0, 1) := by decide +kernel
theorem dL_methods_335 : decode cL_methods 335 = .ok (.ireturn, 1) := by decide +kernel
theorem dL_methods_336 : decode cL_methods 336 = .ok (.aload 9, 2) := by decide +kernel
theorem dL_methods_338 : decode cL_methods 338 = .ok (.iconst 0, 1) := by decide +kernel
theorem dL_methods_339 : decode cL_methods 339 = .ok (.iaload, 1) := by decide +kernel
theorem dL_methods_340 : decode cL_methods 340 = .ok (.iconst 3, 1) := by decide +kernel
theorem dL_methods_341 : decode cL_methods 341 = .ok (.if_icmp .ne 20, 3) := by decide +kernel
theorem dL_methods_344 : decode cL_methods 344 = .ok (.aload_n 0, 1) := by decide +kernel
theorem dL_methods_345 : decode cL_methods 345 = .ok (.iconst 3, 1) := by decide +kernel
theorem dL_methods_346 : decode cL_methods 346 = .ok (.invokestatic 227, 3) := by decide +kernel
theorem dL_methods_349 : decode cL_methods 349 = .ok (.sipush (-7100), 3) := by decide +kernel
theorem dL_methods_352 : decode cL_methods 352 = .ok (.if_icmp .ne 7, 3) := by decide +kernel
theorem dL_methods_355 : decode cL_methods 355 = .ok (.iconst 1, 1) := by decide +kernel
theorem dL_methods_356 : decode cL_methods 356 = .ok (.goto 4, 3) := by decide +kernel
theorem dL_methods_359 : decode cL_methods 359 = .ok (.iconst 0, 1) := by decide +kernel
theorem dL_methods_360 : decode cL_methods 360 = .ok (.ireturn, 1) := by decide +kernel
theorem dL_methods_361 : decode cL_methods 361 = .ok (.aload 9, 2) := by decide +kernel
theorem dL_methods_363 : decode cL_methods 363 = .ok (.bipush 23, 2) := by decide +kernel
theorem dL_methods_365 : decode cL_methods 365 = .ok (.iaload, 1) := by decide +kernel
theorem dL_methods_366 : decode cL_methods 366 = .ok (.bipush 6, 2) := by decide +kernel
theorem dL_methods_368 : decode cL_methods 368 = .ok (.aload 9, 2) := by decide +kernel
theorem dL_methods_370 : decode cL_methods 370 = .ok (.bipush 22, 2) := by decide +kernel
theorem dL_methods_372 : decode cL_methods 372 = .ok (.iaload, 1) := by decide +kernel
theorem dL_methods_373 : decode cL_methods 373 = .ok (.iconst 1, 1) := by decide +kernel
theorem dL_methods_374 : decode cL_methods 374 = .ok (.isub, 1) := by decide +kernel
theorem dL_methods_375 : decode cL_methods 375 = .ok (.imul, 1) := by decide +kernel
theorem dL_methods_376 : decode cL_methods 376 = .ok (.ishr, 1) := by decide +kernel
theorem dL_methods_377 : decode cL_methods 377 = .ok (.bipush 63, 2) := by decide +kernel
theorem dL_methods_379 : decode cL_methods 379 = .ok (.iand, 1) := by decide +kernel
theorem dL_methods_380 : decode cL_methods 380 = .ok (.i2l, 1) := by decide +kernel
theorem dL_methods_381 : decode cL_methods 381 = .ok (.lstore 12, 2) := by decide +kernel
theorem dL_methods_383 : decode cL_methods 383 = .ok (.aload 4, 2) := by decide +kernel
theorem dL_methods_385 : decode cL_methods 385 = .ok (.aload 9, 2) := by decide +kernel
theorem dL_methods_387 : decode cL_methods 387 = .ok (.iconst 0, 1) := by decide +kernel
theorem dL_methods_388 : decode cL_methods 388 = .ok (.iaload, 1) := by decide +kernel
theorem dL_methods_389 : decode cL_methods 389 = .ok (.iload 10, 2) := by decide +kernel
theorem dL_methods_391 : decode cL_methods 391 = .ok (.i2l, 1) := by decide +kernel
theorem dL_methods_392 : decode cL_methods 392 = .ok (.ldc2_w 229, 3) := by decide +kernel
theorem dL_methods_395 : decode cL_methods 395 = .ok (.aload 9, 2) := by decide +kernel
theorem dL_methods_397 : decode cL_methods 397 = .ok (.bipush 22, 2) := by decide +kernel
theorem dL_methods_399 : decode cL_methods 399 = .ok (.iaload, 1) := by decide +kernel
theorem dL_methods_400 : decode cL_methods 400 = .ok (.i2l, 1) := by decide +kernel
theorem dL_methods_401 : decode cL_methods 401 = .ok (.lmul, 1) := by decide +kernel
theorem dL_methods_402 : decode cL_methods 402 = .ok (.ladd, 1) := by decide +kernel
theorem dL_methods_403 : decode cL_methods 403 = .ok (.aload 9, 2) := by decide +kernel
theorem dL_methods_405 : decode cL_methods 405 = .ok (.bipush 23, 2) := by decide +kernel
theorem dL_methods_407 : decode cL_methods 407 = .ok (.iaload, 1) := by decide +kernel
theorem dL_methods_408 : decode cL_methods 408 = .ok (.i2l, 1) := by decide +kernel
theorem dL_methods_409 : decode cL_methods 409 = .ok (.bipush 6, 2) := by decide +kernel
theorem dL_methods_411 : decode cL_methods 411 = .ok (.lshl, 1) := by decide +kernel
theorem dL_methods_412 : decode cL_methods 412 = .ok (.ladd, 1) := by decide +kernel
theorem dL_methods_413 : decode cL_methods 413 = .ok (.lload 12, 2) := by decide +kernel
theorem dL_methods_415 : decode cL_methods 415 = .ok (.bipush 30, 2) := by decide +kernel
theorem dL_methods_417 : decode cL_methods 417 = .ok (.lshl, 1) := by decide +kernel
theorem dL_methods_418 : decode cL_methods 418 = .ok (.ladd, 1) := by decide +kernel
theorem dL_methods_419 : decode cL_methods 419 = .ok (.lload 12, 2) := by decide +kernel
theorem dL_methods_421 : decode cL_methods 421 = .ok (.bipush 36, 2) := by decide +kernel
theorem dL_methods_423 : decode cL_methods 423 = .ok (.lshl, 1) := by decide +kernel
theorem dL_methods_424 : decode cL_methods 424 = .ok (.ladd, 1) := by decide +kernel
theorem dL_methods_425 : decode cL_methods 425 = .ok (.lastore, 1) := by decide +kernel
theorem dL_methods_426 : decode cL_methods 426 = .ok (.aload 9, 2) := by decide +kernel
theorem dL_methods_428 : decode cL_methods 428 = .ok (.iconst 0, 1) := by decide +kernel
theorem dL_methods_429 : decode cL_methods 429 = .ok (.dup2, 1) := by decide +kernel
theorem dL_methods_430 : decode cL_methods 430 = .ok (.iaload, 1) := by decide +kernel
theorem dL_methods_431 : decode cL_methods 431 = .ok (.iconst 1, 1) := by decide +kernel
theorem dL_methods_432 : decode cL_methods 432 = .ok (.iadd, 1) := by decide +kernel
theorem dL_methods_433 : decode cL_methods 433 = .ok (.iastore, 1) := by decide +kernel
theorem dL_methods_434 : decode cL_methods 434 = .ok (.aload 9, 2) := by decide +kernel
theorem dL_methods_436 : decode cL_methods 436 = .ok (.bipush 22, 2) := by decide +kernel
theorem dL_methods_438 : decode cL_methods 438 = .ok (.iconst 0, 1) := by decide +kernel
theorem dL_methods_439 : decode cL_methods 439 = .ok (.iastore, 1) := by decide +kernel
theorem dL_methods_440 : decode cL_methods 440 = .ok (.aload 9, 2) := by decide +kernel
theorem dL_methods_442 : decode cL_methods 442 = .ok (.bipush 23, 2) := by decide +kernel
theorem dL_methods_444 : decode cL_methods 444 = .ok (.iconst 0, 1) := by decide +kernel
theorem dL_methods_445 : decode cL_methods 445 = .ok (.iastore, 1) := by decide +kernel
theorem dL_methods_446 : decode cL_methods 446 = .ok (.aload_n 0, 1) := by decide +kernel
theorem dL_methods_447 : decode cL_methods 447 = .ok (.iload 10, 2) := by decide +kernel
theorem dL_methods_449 : decode cL_methods 449 = .ok (.invokestatic 219, 3) := by decide +kernel
theorem dL_methods_452 : decode cL_methods 452 = .ok (.aload 9, 2) := by decide +kernel
theorem dL_methods_454 : decode cL_methods 454 = .ok (.iconst 0, 1) := by decide +kernel
theorem dL_methods_455 : decode cL_methods 455 = .ok (.iaload, 1) := by decide +kernel
theorem dL_methods_456 : decode cL_methods 456 = .ok (.iconst 1, 1) := by decide +kernel
theorem dL_methods_457 : decode cL_methods 457 = .ok (.isub, 1) := by decide +kernel
theorem dL_methods_458 : decode cL_methods 458 = .ok (.if_icmp .ne 7, 3) := by decide +kernel
theorem dL_methods_461 : decode cL_methods 461 = .ok (.iconst 1, 1) := by decide +kernel
theorem dL_methods_462 : decode cL_methods 462 = .ok (.goto 4, 3) := by decide +kernel
theorem dL_methods_465 : decode cL_methods 465 = .ok (.iconst 0, 1) := by decide +kernel
theorem dL_methods_466 : decode cL_methods 466 = .ok (.ireturn, 1) := by decide +kernel
theorem dL_methods_467 : decode cL_methods 467 = .ok (.iload_n 2, 1) := by decide +kernel
theorem dL_methods_468 : decode cL_methods 468 = .ok (.aload 9, 2) := by decide +kernel
theorem dL_methods_470 : decode cL_methods 470 = .ok (.iconst 0, 1) := by decide +kernel
theorem dL_methods_471 : decode cL_methods 471 = .ok (.iaload, 1) := by decide +kernel
theorem dL_methods_472 : decode cL_methods 472 = .ok (.iconst 1, 1) := by decide +kernel
theorem dL_methods_473 : decode cL_methods 473 = .ok (.iadd, 1) := by decide +kernel
theorem dL_methods_474 : decode cL_methods 474 = .ok (.invokestatic 213, 3) := by decide +kernel
theorem dL_methods_477 : decode cL_methods 477 = .ok (.istore 11, 2) := by decide +kernel
theorem dL_methods_479 : decode cL_methods 479 = .ok (.iload 11, 2) := by decide +kernel
theorem dL_methods_481 : decode cL_methods 481 = .ok (.aload 9, 2) := by decide +kernel
theorem dL_methods_483 : decode cL_methods 483 = .ok (.iconst 0, 1) := by decide +kernel
theorem dL_methods_484 : decode cL_methods 484 = .ok (.iaload, 1) := by decide +kernel
theorem dL_methods_485 : decode cL_methods 485 = .ok (.if_icmp .ne 64, 3) := by decide +kernel
theorem dL_methods_488 : decode cL_methods 488 = .ok (.aload_n 0, 1) := by decide +kernel
theorem dL_methods_489 : decode cL_methods 489 = .ok (.iload 11, 2) := by decide +kernel
theorem dL_methods_491 : decode cL_methods 491 = .ok (.iconst 0, 1) := by decide +kernel
theorem dL_methods_492 : decode cL_methods 492 = .ok (.bipush 64, 2) := by decide +kernel
theorem dL_methods_494 : decode cL_methods 494 = .ok (.invokestatic 231, 3) := by decide +kernel
theorem dL_methods_497 : decode cL_methods 497 = .ok (.sipush (-7100), 3) := by decide +kernel
theorem dL_methods_500 : decode cL_methods 500 = .ok (.if_icmp .ne 47, 3) := by decide +kernel
theorem dL_methods_503 : decode cL_methods 503 = .ok (.aload_n 0, 1) := by decide +kernel
theorem dL_methods_504 : decode cL_methods 504 = .ok (.iload 11, 2) := by decide +kernel
theorem dL_methods_506 : decode cL_methods 506 = .ok (.iconst 3, 1) := by decide +kernel
theorem dL_methods_507 : decode cL_methods 507 = .ok (.invokestatic 234, 3) := by decide +kernel
theorem dL_methods_510 : decode cL_methods 510 = .ok (.sipush (-7100), 3) := by decide +kernel
theorem dL_methods_513 : decode cL_methods 513 = .ok (.if_icmp .ne 34, 3) := by decide +kernel
theorem dL_methods_516 : decode cL_methods 516 = .ok (.aload_n 0, 1) := by decide +kernel
theorem dL_methods_517 : decode cL_methods 517 = .ok (.iload 11, 2) := by decide +kernel
theorem dL_methods_519 : decode cL_methods 519 = .ok (.iconst 0, 1) := by decide +kernel
theorem dL_methods_520 : decode cL_methods 520 = .ok (.invokestatic 237, 3) := by decide +kernel
theorem dL_methods_523 : decode cL_methods 523 = .ok (.sipush (-7100), 3) := by decide +kernel
theorem dL_methods_526 : decode cL_methods 526 = .ok (.if_icmp .ne 21, 3) := by decide +kernel
theorem dL_methods_529 : decode cL_methods 529 = .ok (.aload_n 0, 1) := by decide +kernel
theorem dL_methods_530 : decode cL_methods 530 = .ok (.iload 11, 2) := by decide +kernel
theorem dL_methods_532 : decode cL_methods 532 = .ok (.iconst 3, 1) := by decide +kernel
theorem dL_methods_533 : decode cL_methods 533 = .ok (.iconst 0, 1) := by decide +kernel
theorem dL_methods_534 : decode cL_methods 534 = .ok (.invokestatic 239, 3) := by decide +kernel
theorem dL_methods_537 : decode cL_methods 537 = .ok (.sipush (-7100), 3) := by decide +kernel
theorem dL_methods_540 : decode cL_methods 540 = .ok (.if_icmp .ne 7, 3) := by decide +kernel
theorem dL_methods_543 : decode cL_methods 543 = .ok (.iconst 1, 1) := by decide +kernel
theorem dL_methods_544 : decode cL_methods 544 = .ok (.goto 4, 3) := by decide +kernel
theorem dL_methods_547 : decode cL_methods 547 = .ok (.iconst 0, 1) := by decide +kernel
theorem dL_methods_548 : decode cL_methods 548 = .ok (.ireturn, 1) := by decide +kernel
theorem dL_methods_549 : decode cL_methods 549 = .ok (.aload 4, 2) := by decide +kernel
theorem dL_methods_551 : decode cL_methods 551 = .ok (.iload 11, 2) := by decide +kernel
theorem dL_methods_553 : decode cL_methods 553 = .ok (.laload, 1) := by decide +kernel
theorem dL_methods_554 : decode cL_methods 554 = .ok (.invokestatic 155, 3) := by decide +kernel
theorem dL_methods_557 : decode cL_methods 557 = .ok (.istore 12, 2) := by decide +kernel
theorem dL_methods_559 : decode cL_methods 559 = .ok (.iload_n 1, 1) := by decide +kernel
theorem dL_methods_560 : decode cL_methods 560 = .ok (.bipush 7, 2) := by decide +kernel
theorem dL_methods_562 : decode cL_methods 562 = .ok (.if_icmp .ne 255, 3) := by decide +kernel
theorem dL_methods_565 : decode cL_methods 565 = .ok (.iconst 1, 1) := by decide +kernel
theorem dL_methods_566 : decode cL_methods 566 = .ok (.iload_n 3, 1) := by decide +kernel
theorem dL_methods_567 : decode cL_methods 567 = .ok (.iconst 1, 1) := by decide +kernel
theorem dL_methods_568 : decode cL_methods 568 = .ok (.iand, 1) := by decide +kernel
theorem dL_methods_569 : decode cL_methods 569 = .ok (.iadd, 1) := by decide +kernel
theorem dL_methods_570 : decode cL_methods 570 = .ok (.istore 13, 2) := by decide +kernel
theorem dL_methods_572 : decode cL_methods 572 = .ok (.iload_n 3, 1) := by decide +kernel
theorem dL_methods_573 : decode cL_methods 573 = .ok (.iconst 1, 1) := by decide +kernel
theorem dL_methods_574 : decode cL_methods 574 = .ok (.ishr, 1) := by decide +kernel
theorem dL_methods_575 : decode cL_methods 575 = .ok (.bipush 64, 2) := by decide +kernel
theorem dL_methods_577 : decode cL_methods 577 = .ok (.invokestatic 213, 3) := by decide +kernel
theorem dL_methods_580 : decode cL_methods 580 = .ok (.istore 14, 2) := by decide +kernel
theorem dL_methods_582 : decode cL_methods 582 = .ok (.iconst 0, 1) := by decide +kernel
theorem dL_methods_583 : decode cL_methods 583 = .ok (.istore 15, 2) := by decide +kernel
theorem dL_methods_585 : decode cL_methods 585 = .ok (.iload 15, 2) := by decide +kernel
theorem dL_methods_587 : decode cL_methods 587 = .ok (.bipush 64, 2) := by decide +kernel
theorem dL_methods_589 : decode cL_methods 589 = .ok (.if_icmp .ge 36, 3) := by decide +kernel
theorem dL_methods_592 : decode cL_methods 592 = .ok (.iload_n 3, 1) := by decide +kernel
theorem dL_methods_593 : decode cL_methods 593 = .ok (.sipush 1536, 3) := by decide +kernel
theorem dL_methods_596 : decode cL_methods 596 = .ok (.iand, 1) := by decide +kernel
theorem dL_methods_597 : decode cL_methods 597 = .ok (.ifCond .le 28, 3) := by decide +kernel
theorem dL_methods_600 : decode cL_methods 600 = .ok (.iload 12, 2) := by decide +kernel
theorem dL_methods_602 : decode cL_methods 602 = .ok (.iload 14, 2) := by decide +kernel
theorem dL_methods_604 : decode cL_methods 604 = .ok (.invokestatic 221, 3) := by decide +kernel
theorem dL_methods_607 : decode cL_methods 607 = .ok (.ifCond .ne 18, 3) := by decide +kernel
theorem dL_methods_610 : decode cL_methods 610 = .ok (.iload 14, 2) := by decide +kernel
theorem dL_methods_612 : decode cL_methods 612 = .ok (.iconst 1, 1) := by decide +kernel
theorem dL_methods_613 : decode cL_methods 613 = .ok (.iadd, 1) := by decide +kernel
theorem dL_methods_614 : decode cL_methods 614 = .ok (.bipush 64, 2) := by decide +kernel
theorem dL_methods_616 : decode cL_methods 616 = .ok (.irem, 1) := by decide +kernel
theorem dL_methods_617 : decode cL_methods 617 = .ok (.istore 14, 2) := by decide +kernel
theorem dL_methods_619 : decode cL_methods 619 = .ok (.iinc 15 1, 3) := by decide +kernel
theorem dL_methods_622 : decode cL_methods 622 = .ok (.goto (-37), 3) := by decide +kernel
theorem dL_methods_625 : decode cL_methods 625 = .ok (.aload_n 0, 1) := by decide +kernel
theorem dL_methods_626 : decode cL_methods 626 = .ok (.iload 11, 2) := by decide +kernel
theorem dL_methods_628 : decode cL_methods 628 = .ok (.iconst 0, 1) := by decide +kernel
theorem dL_methods_629 : decode cL_methods 629 = .ok (.iconst 0, 1) := by decide +kernel
theorem dL_methods_630 : decode cL_methods 630 = .ok (.invokestatic 231, 3) := by decide +kernel
theorem dL_methods_633 : decode cL_methods 633 = .ok (.sipush (-7200), 3) := by decide +kernel
