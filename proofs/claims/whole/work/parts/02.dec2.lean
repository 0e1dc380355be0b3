theorem dX12_drift_29 : decode cX12_drift 29 = .ok (.aload_n 0, 1) := by decide +kernel
theorem dX12_drift_30 : decode cX12_drift 30 = .ok (.aload_n 0, 1) := by decide +kernel
theorem dX12_drift_31 : decode cX12_drift 31 = .ok (.getfield 35, 3) := by decide +kernel
theorem dX12_drift_34 : decode cX12_drift 34 = .ok (.invokevirtual 226, 3) := by decide +kernel
theorem dX12_drift_37 : decode cX12_drift 37 = .ok (.iinc 3 1, 3) := by decide +kernel
theorem dX12_drift_40 : decode cX12_drift 40 = .ok (.goto (-20), 3) := by decide +kernel
theorem dX12_drift_43 : decode cX12_drift 43 = .ok (.aload_n 0, 1) := by decide +kernel
theorem dX12_drift_44 : decode cX12_drift 44 = .ok (.aload_n 0, 1) := by decide +kernel
theorem dX12_drift_45 : decode cX12_drift 45 = .ok (.getfield 35, 3) := by decide +kernel
theorem dX12_drift_48 : decode cX12_drift 48 = .ok (.invokevirtual 182, 3) := by decide +kernel
theorem dX12_drift_51 : decode cX12_drift 51 = .ok (.ireturn, 1) := by decide +kernel
theorem dX12_undo_0 : decode cX12_undo 0 = .ok (.aload_n 0, 1) := by decide +kernel
theorem dX12_undo_1 : decode cX12_undo 1 = .ok (.getfield 179, 3) := by decide +kernel
theorem dX12_undo_4 : decode cX12_undo 4 = .ok (.ifCond .ne 6, 3) := by decide +kernel
theorem dX12_undo_7 : decode cX12_undo 7 = .ok (.ldc 196, 2) := by decide +kernel
theorem dX12_undo_9 : decode cX12_undo 9 = .ok (.ireturn, 1) := by decide +kernel
theorem dX12_undo_10 : decode cX12_undo 10 = .ok (.aload_n 0, 1) := by decide +kernel
theorem dX12_undo_11 : decode cX12_undo 11 = .ok (.dup, 1) := by decide +kernel
theorem dX12_undo_12 : decode cX12_undo 12 = .ok (.getfield 179, 3) := by decide +kernel
theorem dX12_undo_15 : decode cX12_undo 15 = .ok (.iconst 1, 1) := by decide +kernel
theorem dX12_undo_16 : decode cX12_undo 16 = .ok (.isub, 1) := by decide +kernel
theorem dX12_undo_17 : decode cX12_undo 17 = .ok (.putfield 179, 3) := by decide +kernel
theorem dX12_undo_20 : decode cX12_undo 20 = .ok (.aload_n 0, 1) := by decide +kernel
theorem dX12_undo_21 : decode cX12_undo 21 = .ok (.getfield 41, 3) := by decide +kernel
theorem dX12_undo_24 : decode cX12_undo 24 = .ok (.bipush 23, 2) := by decide +kernel
theorem dX12_undo_26 : decode cX12_undo 26 = .ok (.aload_n 0, 1) := by decide +kernel
theorem dX12_undo_27 : decode cX12_undo 27 = .ok (.getfield 179, 3) := by decide +kernel
theorem dX12_undo_30 : decode cX12_undo 30 = .ok (.imul, 1) := by decide +kernel
theorem dX12_undo_31 : decode cX12_undo 31 = .ok (.aload_n 0, 1) := by decide +kernel
theorem dX12_undo_32 : decode cX12_undo 32 = .ok (.getfield 35, 3) := by decide +kernel
theorem dX12_undo_35 : decode cX12_undo 35 = .ok (.iconst 0, 1) := by decide +kernel
theorem dX12_undo_36 : decode cX12_undo 36 = .ok (.bipush 23, 2) := by decide +kernel
theorem dX12_undo_38 : decode cX12_undo 38 = .ok (.invokestatic 159, 3) := by decide +kernel
theorem dX12_undo_41 : decode cX12_undo 41 = .ok (.aload_n 0, 1) := by decide +kernel
theorem dX12_undo_42 : decode cX12_undo 42 = .ok (.getfield 179, 3) := by decide +kernel
theorem dX12_undo_45 : decode cX12_undo 45 = .ok (.ireturn, 1) := by decide +kernel
theorem dX12_begin_0 : decode cX12_begin 0 = .ok (.aload_n 0, 1) := by decide +kernel
theorem dX12_begin_1 : decode cX12_begin 1 = .ok (.getfield 35, 3) := by decide +kernel
theorem dX12_begin_4 : decode cX12_begin 4 = .ok (.iconst 0, 1) := by decide +kernel
theorem dX12_begin_5 : decode cX12_begin 5 = .ok (.aload_n 0, 1) := by decide +kernel
theorem dX12_begin_6 : decode cX12_begin 6 = .ok (.getfield 38, 3) := by decide +kernel
theorem dX12_begin_9 : decode cX12_begin 9 = .ok (.iconst 0, 1) := by decide +kernel
theorem dX12_begin_10 : decode cX12_begin 10 = .ok (.bipush 23, 2) := by decide +kernel
theorem dX12_begin_12 : decode cX12_begin 12 = .ok (.invokestatic 159, 3) := by decide +kernel
theorem dX12_begin_15 : decode cX12_begin 15 = .ok (.return_, 1) := by decide +kernel
theorem dX12_goOn_0 : decode cX12_goOn 0 = .ok (.iconst 0, 1) := by decide +kernel
theorem dX12_goOn_1 : decode cX12_goOn 1 = .ok (.istore_n 2, 1) := by decide +kernel
theorem dX12_goOn_2 : decode cX12_goOn 2 = .ok (.iload_n 2, 1) := by decide +kernel
theorem dX12_goOn_3 : decode cX12_goOn 3 = .ok (.iload_n 1, 1) := by decide +kernel
theorem dX12_goOn_4 : decode cX12_goOn 4 = .ok (.if_icmp .ge 17, 3) := by decide +kernel
theorem dX12_goOn_7 : decode cX12_goOn 7 = .ok (.aload_n 0, 1) := by decide +kernel
theorem dX12_goOn_8 : decode cX12_goOn 8 = .ok (.aload_n 0, 1) := by decide +kernel
theorem dX12_goOn_9 : decode cX12_goOn 9 = .ok (.getfield 38, 3) := by decide +kernel
theorem dX12_goOn_12 : decode cX12_goOn 12 = .ok (.invokevirtual 226, 3) := by decide +kernel
theorem dX12_goOn_15 : decode cX12_goOn 15 = .ok (.iinc 2 1, 3) := by decide +kernel
theorem dX12_goOn_18 : decode cX12_goOn 18 = .ok (.goto (-16), 3) := by decide +kernel
theorem dX12_goOn_21 : decode cX12_goOn 21 = .ok (.return_, 1) := by decide +kernel
theorem dX12_rowAt_0 : decode cX12_rowAt 0 = .ok (.iload_n 1, 1) := by decide +kernel
theorem dX12_rowAt_1 : decode cX12_rowAt 1 = .ok (.iconst 0, 1) := by decide +kernel
theorem dX12_rowAt_2 : decode cX12_rowAt 2 = .ok (.sipush 500, 3) := by decide +kernel
theorem dX12_rowAt_5 : decode cX12_rowAt 5 = .ok (.invokestatic 75, 3) := by decide +kernel
theorem dX12_rowAt_8 : decode cX12_rowAt 8 = .ok (.ifCond .ne 6, 3) := by decide +kernel
theorem dX12_rowAt_11 : decode cX12_rowAt 11 = .ok (.ldc 82, 2) := by decide +kernel
theorem dX12_rowAt_13 : decode cX12_rowAt 13 = .ok (.ireturn, 1) := by decide +kernel
theorem dX12_rowAt_14 : decode cX12_rowAt 14 = .ok (.aload_n 0, 1) := by decide +kernel
theorem dX12_rowAt_15 : decode cX12_rowAt 15 = .ok (.invokevirtual 193, 3) := by decide +kernel
theorem dX12_rowAt_18 : decode cX12_rowAt 18 = .ok (.ifCond .ne 6, 3) := by decide +kernel
theorem dX12_rowAt_21 : decode cX12_rowAt 21 = .ok (.ldc 196, 2) := by decide +kernel
theorem dX12_rowAt_23 : decode cX12_rowAt 23 = .ok (.ireturn, 1) := by decide +kernel
theorem dX12_rowAt_24 : decode cX12_rowAt 24 = .ok (.aload_n 0, 1) := by decide +kernel
theorem dX12_rowAt_25 : decode cX12_rowAt 25 = .ok (.invokevirtual 249, 3) := by decide +kernel
theorem dX12_rowAt_28 : decode cX12_rowAt 28 = .ok (.aload_n 0, 1) := by decide +kernel
theorem dX12_rowAt_29 : decode cX12_rowAt 29 = .ok (.iload_n 1, 1) := by decide +kernel
theorem dX12_rowAt_30 : decode cX12_rowAt 30 = .ok (.invokevirtual 252, 3) := by decide +kernel
theorem dX12_rowAt_33 : decode cX12_rowAt 33 = .ok (.aload_n 0, 1) := by decide +kernel
theorem dX12_rowAt_34 : decode cX12_rowAt 34 = .ok (.aload_n 0, 1) := by decide +kernel
theorem dX12_rowAt_35 : decode cX12_rowAt 35 = .ok (.getfield 38, 3) := by decide +kernel
theorem dX12_rowAt_38 : decode cX12_rowAt 38 = .ok (.invokevirtual 182, 3) := by decide +kernel
theorem dX12_rowAt_41 : decode cX12_rowAt 41 = .ok (.ireturn, 1) := by decide +kernel
theorem dX12_placeAt_0 : decode cX12_placeAt 0 = .ok (.aload_n 0, 1) := by decide +kernel
theorem dX12_placeAt_1 : decode cX12_placeAt 1 = .ok (.iload_n 1, 1) := by decide +kernel
theorem dX12_placeAt_2 : decode cX12_placeAt 2 = .ok (.invokevirtual 197, 3) := by decide +kernel
theorem dX12_placeAt_5 : decode cX12_placeAt 5 = .ok (.ifCond .ne 6, 3) := by decide +kernel
theorem dX12_placeAt_8 : decode cX12_placeAt 8 = .ok (.ldc 200, 2) := by decide +kernel
theorem dX12_placeAt_10 : decode cX12_placeAt 10 = .ok (.ireturn, 1) := by decide +kernel
theorem dX12_placeAt_11 : decode cX12_placeAt 11 = .ok (.iload_n 2, 1) := by decide +kernel
theorem dX12_placeAt_12 : decode cX12_placeAt 12 = .ok (.iconst 0, 1) := by decide +kernel
theorem dX12_placeAt_13 : decode cX12_placeAt 13 = .ok (.sipush 500, 3) := by decide +kernel
theorem dX12_placeAt_16 : decode cX12_placeAt 16 = .ok (.invokestatic 75, 3) := by decide +kernel
theorem dX12_placeAt_19 : decode cX12_placeAt 19 = .ok (.ifCond .ne 6, 3) := by decide +kernel
theorem dX12_placeAt_22 : decode cX12_placeAt 22 = .ok (.ldc 82, 2) := by decide +kernel
theorem dX12_placeAt_24 : decode cX12_placeAt 24 = .ok (.ireturn, 1) := by decide +kernel
theorem dX12_placeAt_25 : decode cX12_placeAt 25 = .ok (.aload_n 0, 1) := by decide +kernel
theorem dX12_placeAt_26 : decode cX12_placeAt 26 = .ok (.invokevirtual 249, 3) := by decide +kernel
theorem dX12_placeAt_29 : decode cX12_placeAt 29 = .ok (.aload_n 0, 1) := by decide +kernel
theorem dX12_placeAt_30 : decode cX12_placeAt 30 = .ok (.iload_n 2, 1) := by decide +kernel
theorem dX12_placeAt_31 : decode cX12_placeAt 31 = .ok (.invokevirtual 252, 3) := by decide +kernel
theorem dX12_placeAt_34 : decode cX12_placeAt 34 = .ok (.aload_n 0, 1) := by decide +kernel
theorem dX12_placeAt_35 : decode cX12_placeAt 35 = .ok (.aload_n 0, 1) := by decide +kernel
theorem dX12_placeAt_36 : decode cX12_placeAt 36 = .ok (.getfield 38, 3) := by decide +kernel
theorem dX12_placeAt_39 : decode cX12_placeAt 39 = .ok (.iload_n 1, 1) := by decide +kernel
theorem dX12_placeAt_40 : decode cX12_placeAt 40 = .ok (.invokevirtual 201, 3) := by decide +kernel
theorem dX12_placeAt_43 : decode cX12_placeAt 43 = .ok (.ireturn, 1) := by decide +kernel
theorem dX12_roundsNow_0 : decode cX12_roundsNow 0 = .ok (.iconst 0, 1) := by decide +kernel
theorem dX12_roundsNow_1 : decode cX12_roundsNow 1 = .ok (.istore_n 1, 1) := by decide +kernel
theorem dX12_roundsNow_2 : decode cX12_roundsNow 2 = .ok (.iconst 0, 1) := by decide +kernel
theorem dX12_roundsNow_3 : decode cX12_roundsNow 3 = .ok (.istore_n 2, 1) := by decide +kernel
theorem dX12_roundsNow_4 : decode cX12_roundsNow 4 = .ok (.iload_n 2, 1) := by decide +kernel
theorem dX12_roundsNow_5 : decode cX12_roundsNow 5 = .ok (.aload_n 0, 1) := by decide +kernel
theorem dX12_roundsNow_6 : decode cX12_roundsNow 6 = .ok (.getfield 72, 3) := by decide +kernel
theorem dX12_roundsNow_9 : decode cX12_roundsNow 9 = .ok (.if_icmp .ge 18, 3) := by decide +kernel
theorem dX12_roundsNow_12 : decode cX12_roundsNow 12 = .ok (.bipush 10, 2) := by decide +kernel
theorem dX12_roundsNow_14 : decode cX12_roundsNow 14 = .ok (.iload_n 1, 1) := by decide +kernel
theorem dX12_roundsNow_15 : decode cX12_roundsNow 15 = .ok (.imul, 1) := by decide +kernel
theorem dX12_roundsNow_16 : decode cX12_roundsNow 16 = .ok (.iload_n 2, 1) := by decide +kernel
theorem dX12_roundsNow_17 : decode cX12_roundsNow 17 = .ok (.iadd, 1) := by decide +kernel
theorem dX12_roundsNow_18 : decode cX12_roundsNow 18 = .ok (.iconst 1, 1) := by decide +kernel
theorem dX12_roundsNow_19 : decode cX12_roundsNow 19 = .ok (.iadd, 1) := by decide +kernel
theorem dX12_roundsNow_20 : decode cX12_roundsNow 20 = .ok (.istore_n 1, 1) := by decide +kernel
theorem dX12_roundsNow_21 : decode cX12_roundsNow 21 = .ok (.iinc 2 1, 3) := by decide +kernel
theorem dX12_roundsNow_24 : decode cX12_roundsNow 24 = .ok (.goto (-20), 3) := by decide +kernel
theorem dX12_roundsNow_27 : decode cX12_roundsNow 27 = .ok (.iload_n 1, 1) := by decide +kernel
theorem dX12_roundsNow_28 : decode cX12_roundsNow 28 = .ok (.ireturn, 1) := by decide +kernel
theorem dX12_round_0 : decode cX12_round 0 = .ok (.aload_n 0, 1) := by decide +kernel
theorem dX12_round_1 : decode cX12_round 1 = .ok (.invokevirtual 193, 3) := by decide +kernel
theorem dX12_round_4 : decode cX12_round 4 = .ok (.ifCond .ne 6, 3) := by decide +kernel
theorem dX12_round_7 : decode cX12_round 7 = .ok (.ldc 196, 2) := by decide +kernel
theorem dX12_round_9 : decode cX12_round 9 = .ok (.ireturn, 1) := by decide +kernel
theorem dX12_round_10 : decode cX12_round 10 = .ok (.aload_n 0, 1) := by decide +kernel
theorem dX12_round_11 : decode cX12_round 11 = .ok (.invokevirtual 249, 3) := by decide +kernel
theorem dX12_round_14 : decode cX12_round 14 = .ok (.iconst 1, 1) := by decide +kernel
theorem dX12_round_15 : decode cX12_round 15 = .ok (.istore_n 1, 1) := by decide +kernel
theorem dX12_round_16 : decode cX12_round 16 = .ok (.iload_n 1, 1) := by decide +kernel
theorem dX12_round_17 : decode cX12_round 17 = .ok (.sipush 1000, 3) := by decide +kernel
theorem dX12_round_20 : decode cX12_round 20 = .ok (.if_icmp .gt 31, 3) := by decide +kernel
theorem dX12_round_23 : decode cX12_round 23 = .ok (.aload_n 0, 1) := by decide +kernel
theorem dX12_round_24 : decode cX12_round 24 = .ok (.iconst 1, 1) := by decide +kernel
theorem dX12_round_25 : decode cX12_round 25 = .ok (.invokevirtual 252, 3) := by decide +kernel
theorem dX12_round_28 : decode cX12_round 28 = .ok (.aload_n 0, 1) := by decide +kernel
theorem dX12_round_29 : decode cX12_round 29 = .ok (.aload_n 0, 1) := by decide +kernel
theorem dX12_round_30 : decode cX12_round 30 = .ok (.getfield 38, 3) := by decide +kernel
theorem dX12_round_33 : decode cX12_round 33 = .ok (.invokevirtual 182, 3) := by decide +kernel
theorem dX12_round_36 : decode cX12_round 36 = .ok (.aload_n 0, 1) := by decide +kernel
theorem dX12_round_37 : decode cX12_round 37 = .ok (.invokevirtual 256, 3) := by decide +kernel
theorem dX12_round_40 : decode cX12_round 40 = .ok (.if_icmp .ne 5, 3) := by decide +kernel
theorem dX12_round_43 : decode cX12_round 43 = .ok (.iload_n 1, 1) := by decide +kernel
theorem dX12_round_44 : decode cX12_round 44 = .ok (.ireturn, 1) := by decide +kernel
theorem dX12_round_45 : decode cX12_round 45 = .ok (.iinc 1 1, 3) := by decide +kernel
theorem dX12_round_48 : decode cX12_round 48 = .ok (.goto (-32), 3) := by decide +kernel
theorem dX12_round_51 : decode cX12_round 51 = .ok (.iconst (-1), 1) := by decide +kernel
theorem dX12_round_52 : decode cX12_round 52 = .ok (.ireturn, 1) := by decide +kernel
theorem dX12_isNew_0 : decode cX12_isNew 0 = .ok (.iconst 0, 1) := by decide +kernel
theorem dX12_isNew_1 : decode cX12_isNew 1 = .ok (.istore_n 2, 1) := by decide +kernel
theorem dX12_isNew_2 : decode cX12_isNew 2 = .ok (.iload_n 2, 1) := by decide +kernel
theorem dX12_isNew_3 : decode cX12_isNew 3 = .ok (.aload_n 0, 1) := by decide +kernel
theorem dX12_isNew_4 : decode cX12_isNew 4 = .ok (.getfield 259, 3) := by decide +kernel
theorem dX12_isNew_7 : decode cX12_isNew 7 = .ok (.if_icmp .ge 21, 3) := by decide +kernel
theorem dX12_isNew_10 : decode cX12_isNew 10 = .ok (.aload_n 0, 1) := by decide +kernel
theorem dX12_isNew_11 : decode cX12_isNew 11 = .ok (.getfield 60, 3) := by decide +kernel
theorem dX12_isNew_14 : decode cX12_isNew 14 = .ok (.iload_n 2, 1) := by decide +kernel
theorem dX12_isNew_15 : decode cX12_isNew 15 = .ok (.iaload, 1) := by decide +kernel
theorem dX12_isNew_16 : decode cX12_isNew 16 = .ok (.iload_n 1, 1) := by decide +kernel
theorem dX12_isNew_17 : decode cX12_isNew 17 = .ok (.if_icmp .ne 5, 3) := by decide +kernel
theorem dX12_isNew_20 : decode cX12_isNew 20 = .ok (.iconst 0, 1) := by decide +kernel
theorem dX12_isNew_21 : decode cX12_isNew 21 = .ok (.ireturn, 1) := by decide +kernel
theorem dX12_isNew_22 : decode cX12_isNew 22 = .ok (.iinc 2 1, 3) := by decide +kernel
theorem dX12_isNew_25 : decode cX12_isNew 25 = .ok (.goto (-23), 3) := by decide +kernel
theorem dX12_isNew_28 : decode cX12_isNew 28 = .ok (.aload_n 0, 1) := by decide +kernel
theorem dX12_isNew_29 : decode cX12_isNew 29 = .ok (.getfield 60, 3) := by decide +kernel
theorem dX12_isNew_32 : decode cX12_isNew 32 = .ok (.aload_n 0, 1) := by decide +kernel
theorem dX12_isNew_33 : decode cX12_isNew 33 = .ok (.getfield 259, 3) := by decide +kernel
theorem dX12_isNew_36 : decode cX12_isNew 36 = .ok (.iload_n 1, 1) := by decide +kernel
theorem dX12_isNew_37 : decode cX12_isNew 37 = .ok (.iastore, 1) := by decide +kernel
theorem dX12_isNew_38 : decode cX12_isNew 38 = .ok (.aload_n 0, 1) := by decide +kernel
theorem dX12_isNew_39 : decode cX12_isNew 39 = .ok (.dup, 1) := by decide +kernel
theorem dX12_isNew_40 : decode cX12_isNew 40 = .ok (.getfield 259, 3) := by decide +kernel
theorem dX12_isNew_43 : decode cX12_isNew 43 = .ok (.iconst 1, 1) := by decide +kernel
theorem dX12_isNew_44 : decode cX12_isNew 44 = .ok (.iadd, 1) := by decide +kernel
theorem dX12_isNew_45 : decode cX12_isNew 45 = .ok (.putfield 259, 3) := by decide +kernel
theorem dX12_isNew_48 : decode cX12_isNew 48 = .ok (.iconst 1, 1) := by decide +kernel
theorem dX12_isNew_49 : decode cX12_isNew 49 = .ok (.ireturn, 1) := by decide +kernel
theorem dX12_trueFor_0 : decode cX12_trueFor 0 = .ok (.aload_n 0, 1) := by decide +kernel
theorem dX12_trueFor_1 : decode cX12_trueFor 1 = .ok (.invokevirtual 193, 3) := by decide +kernel
theorem dX12_trueFor_4 : decode cX12_trueFor 4 = .ok (.ifCond .ne 6, 3) := by decide +kernel
theorem dX12_trueFor_7 : decode cX12_trueFor 7 = .ok (.ldc 196, 2) := by decide +kernel
theorem dX12_trueFor_9 : decode cX12_trueFor 9 = .ok (.ireturn, 1) := by decide +kernel
theorem dX12_trueFor_10 : decode cX12_trueFor 10 = .ok (.aload_n 0, 1) := by decide +kernel
theorem dX12_trueFor_11 : decode cX12_trueFor 11 = .ok (.invokevirtual 249, 3) := by decide +kernel
theorem dX12_trueFor_14 : decode cX12_trueFor 14 = .ok (.aload_n 0, 1) := by decide +kernel
theorem dX12_trueFor_15 : decode cX12_trueFor 15 = .ok (.iconst 0, 1) := by decide +kernel
theorem dX12_trueFor_16 : decode cX12_trueFor 16 = .ok (.putfield 259, 3) := by decide +kernel
theorem dX12_trueFor_19 : decode cX12_trueFor 19 = .ok (.iconst 0, 1) := by decide +kernel
theorem dX12_trueFor_20 : decode cX12_trueFor 20 = .ok (.istore_n 1, 1) := by decide +kernel
theorem dX12_trueFor_21 : decode cX12_trueFor 21 = .ok (.aload_n 0, 1) := by decide +kernel
theorem dX12_trueFor_22 : decode cX12_trueFor 22 = .ok (.aload_n 0, 1) := by decide +kernel
theorem dX12_trueFor_23 : decode cX12_trueFor 23 = .ok (.aload_n 0, 1) := by decide +kernel
theorem dX12_trueFor_24 : decode cX12_trueFor 24 = .ok (.getfield 38, 3) := by decide +kernel
theorem dX12_trueFor_27 : decode cX12_trueFor 27 = .ok (.invokevirtual 182, 3) := by decide +kernel
theorem dX12_trueFor_30 : decode cX12_trueFor 30 = .ok (.invokevirtual 262, 3) := by decide +kernel
theorem dX12_trueFor_33 : decode cX12_trueFor 33 = .ok (.istore_n 2, 1) := by decide +kernel
theorem dX12_trueFor_34 : decode cX12_trueFor 34 = .ok (.iload_n 2, 1) := by decide +kernel
theorem dX12_trueFor_35 : decode cX12_trueFor 35 = .ok (.ifCond .eq 36, 3) := by decide +kernel
theorem dX12_trueFor_38 : decode cX12_trueFor 38 = .ok (.aload_n 0, 1) := by decide +kernel
theorem dX12_trueFor_39 : decode cX12_trueFor 39 = .ok (.iconst 1, 1) := by decide +kernel
theorem dX12_trueFor_40 : decode cX12_trueFor 40 = .ok (.invokevirtual 252, 3) := by decide +kernel
theorem dX12_trueFor_43 : decode cX12_trueFor 43 = .ok (.aload_n 0, 1) := by decide +kernel
theorem dX12_trueFor_44 : decode cX12_trueFor 44 = .ok (.aload_n 0, 1) := by decide +kernel
theorem dX12_trueFor_45 : decode cX12_trueFor 45 = .ok (.aload_n 0, 1) := by decide +kernel
theorem dX12_trueFor_46 : decode cX12_trueFor 46 = .ok (.getfield 38, 3) := by decide +kernel
theorem dX12_trueFor_49 : decode cX12_trueFor 49 = .ok (.invokevirtual 182, 3) := by decide +kernel
theorem dX12_trueFor_52 : decode cX12_trueFor 52 = .ok (.invokevirtual 262, 3) := by decide +kernel
theorem dX12_trueFor_55 : decode cX12_trueFor 55 = .ok (.istore_n 2, 1) := by decide +kernel
theorem dX12_trueFor_56 : decode cX12_trueFor 56 = .ok (.iload_n 1, 1) := by decide +kernel
theorem dX12_trueFor_57 : decode cX12_trueFor 57 = .ok (.iload_n 2, 1) := by decide +kernel
theorem dX12_trueFor_58 : decode cX12_trueFor 58 = .ok (.ifCond .eq 7, 3) := by decide +kernel
theorem dX12_trueFor_61 : decode cX12_trueFor 61 = .ok (.iconst 1, 1) := by decide +kernel
theorem dX12_trueFor_62 : decode cX12_trueFor 62 = .ok (.goto 4, 3) := by decide +kernel
theorem dX12_trueFor_65 : decode cX12_trueFor 65 = .ok (.iconst 0, 1) := by decide +kernel
theorem dX12_trueFor_66 : decode cX12_trueFor 66 = .ok (.iadd, 1) := by decide +kernel
theorem dX12_trueFor_67 : decode cX12_trueFor 67 = .ok (.istore_n 1, 1) := by decide +kernel
theorem dX12_trueFor_68 : decode cX12_trueFor 68 = .ok (.goto (-34), 3) := by decide +kernel
theorem dX12_trueFor_71 : decode cX12_trueFor 71 = .ok (.iload_n 1, 1) := by decide +kernel
theorem dX12_trueFor_72 : decode cX12_trueFor 72 = .ok (.ireturn, 1) := by decide +kernel
theorem dX12_isTouch_0 : decode cX12_isTouch 0 = .ok (.aload_n 0, 1) := by decide +kernel
theorem dX12_isTouch_1 : decode cX12_isTouch 1 = .ok (.invokevirtual 249, 3) := by decide +kernel
theorem dX12_isTouch_4 : decode cX12_isTouch 4 = .ok (.aload_n 0, 1) := by decide +kernel
theorem dX12_isTouch_5 : decode cX12_isTouch 5 = .ok (.getfield 38, 3) := by decide +kernel
theorem dX12_isTouch_8 : decode cX12_isTouch 8 = .ok (.invokestatic 169, 3) := by decide +kernel
theorem dX12_isTouch_11 : decode cX12_isTouch 11 = .ok (.aload_n 0, 1) := by decide +kernel
theorem dX12_isTouch_12 : decode cX12_isTouch 12 = .ok (.iconst 0, 1) := by decide +kernel
theorem dX12_isTouch_13 : decode cX12_isTouch 13 = .ok (.putfield 259, 3) := by decide +kernel
theorem dX12_isTouch_16 : decode cX12_isTouch 16 = .ok (.iconst 1, 1) := by decide +kernel
theorem dX12_isTouch_17 : decode cX12_isTouch 17 = .ok (.istore_n 3, 1) := by decide +kernel
theorem dX12_isTouch_18 : decode cX12_isTouch 18 = .ok (.iconst 0, 1) := by decide +kernel
theorem dX12_isTouch_19 : decode cX12_isTouch 19 = .ok (.istore 4, 2) := by decide +kernel
theorem dX12_isTouch_21 : decode cX12_isTouch 21 = .ok (.iload 4, 2) := by decide +kernel
theorem dX12_isTouch_23 : decode cX12_isTouch 23 = .ok (.iload_n 1, 1) := by decide +kernel
theorem dX12_isTouch_24 : decode cX12_isTouch 24 = .ok (.aload_n 0, 1) := by decide +kernel
theorem dX12_isTouch_25 : decode cX12_isTouch 25 = .ok (.getfield 163, 3) := by decide +kernel
theorem dX12_isTouch_28 : decode cX12_isTouch 28 = .ok (.imul, 1) := by decide +kernel
theorem dX12_isTouch_29 : decode cX12_isTouch 29 = .ok (.if_icmp .ge 72, 3) := by decide +kernel
theorem dX12_isTouch_32 : decode cX12_isTouch 32 = .ok (.iload_n 3, 1) := by decide +kernel
theorem dX12_isTouch_33 : decode cX12_isTouch 33 = .ok (.ifCond .eq 68, 3) := by decide +kernel
theorem dX12_isTouch_36 : decode cX12_isTouch 36 = .ok (.aload_n 0, 1) := by decide +kernel
theorem dX12_isTouch_37 : decode cX12_isTouch 37 = .ok (.aload_n 0, 1) := by decide +kernel
theorem dX12_isTouch_38 : decode cX12_isTouch 38 = .ok (.aload_n 0, 1) := by decide +kernel
theorem dX12_isTouch_39 : decode cX12_isTouch 39 = .ok (.getfield 38, 3) := by decide +kernel
theorem dX12_isTouch_42 : decode cX12_isTouch 42 = .ok (.invokevirtual 182, 3) := by decide +kernel
theorem dX12_isTouch_45 : decode cX12_isTouch 45 = .ok (.invokevirtual 262, 3) := by decide +kernel
theorem dX12_isTouch_48 : decode cX12_isTouch 48 = .ok (.istore_n 3, 1) := by decide +kernel
theorem dX12_isTouch_49 : decode cX12_isTouch 49 = .ok (.aload_n 0, 1) := by decide +kernel
theorem dX12_isTouch_50 : decode cX12_isTouch 50 = .ok (.getfield 38, 3) := by decide +kernel
theorem dX12_isTouch_53 : decode cX12_isTouch 53 = .ok (.iconst 2, 1) := by decide +kernel
theorem dX12_isTouch_54 : decode cX12_isTouch 54 = .ok (.iload 4, 2) := by decide +kernel
theorem dX12_isTouch_56 : decode cX12_isTouch 56 = .ok (.aload_n 0, 1) := by decide +kernel
theorem dX12_isTouch_57 : decode cX12_isTouch 57 = .ok (.getfield 163, 3) := by decide +kernel
theorem dX12_isTouch_60 : decode cX12_isTouch 60 = .ok (.irem, 1) := by decide +kernel
theorem dX12_isTouch_61 : decode cX12_isTouch 61 = .ok (.aload_n 0, 1) := by decide +kernel
theorem dX12_isTouch_62 : decode cX12_isTouch 62 = .ok (.getfield 163, 3) := by decide +kernel
theorem dX12_isTouch_65 : decode cX12_isTouch 65 = .ok (.iconst 1, 1) := by decide +kernel
theorem dX12_isTouch_66 : decode cX12_isTouch 66 = .ok (.isub, 1) := by decide +kernel
theorem dX12_isTouch_67 : decode cX12_isTouch 67 = .ok (.if_icmp .ne 21, 3) := by decide +kernel
theorem dX12_isTouch_70 : decode cX12_isTouch 70 = .ok (.iload_n 2, 1) := by decide +kernel
theorem dX12_isTouch_71 : decode cX12_isTouch 71 = .ok (.iload 4, 2) := by decide +kernel
theorem dX12_isTouch_73 : decode cX12_isTouch 73 = .ok (.aload_n 0, 1) := by decide +kernel
theorem dX12_isTouch_74 : decode cX12_isTouch 74 = .ok (.getfield 163, 3) := by decide +kernel
theorem dX12_isTouch_77 : decode cX12_isTouch 77 = .ok (.idiv, 1) := by decide +kernel
theorem dX12_isTouch_78 : decode cX12_isTouch 78 = .ok (.invokestatic 112, 3) := by decide +kernel
theorem dX12_isTouch_81 : decode cX12_isTouch 81 = .ok (.ifCond .eq 7, 3) := by decide +kernel
theorem dX12_isTouch_84 : decode cX12_isTouch 84 = .ok (.iconst 1, 1) := by decide +kernel
theorem dX12_isTouch_85 : decode cX12_isTouch 85 = .ok (.goto 4, 3) := by decide +kernel
theorem dX12_isTouch_88 : decode cX12_isTouch 88 = .ok (.iconst 0, 1) := by decide +kernel
theorem dX12_isTouch_89 : decode cX12_isTouch 89 = .ok (.iastore, 1) := by decide +kernel
theorem dX12_isTouch_90 : decode cX12_isTouch 90 = .ok (.aload_n 0, 1) := by decide +kernel
theorem dX12_isTouch_91 : decode cX12_isTouch 91 = .ok (.iconst 1, 1) := by decide +kernel
theorem dX12_isTouch_92 : decode cX12_isTouch 92 = .ok (.invokevirtual 252, 3) := by decide +kernel
theorem dX12_isTouch_95 : decode cX12_isTouch 95 = .ok (.iinc 4 1, 3) := by decide +kernel
theorem dX12_isTouch_98 : decode cX12_isTouch 98 = .ok (.goto (-77), 3) := by decide +kernel
theorem dX12_isTouch_101 : decode cX12_isTouch 101 = .ok (.iload_n 3, 1) := by decide +kernel
theorem dX12_isTouch_102 : decode cX12_isTouch 102 = .ok (.ifCond .eq 22, 3) := by decide +kernel
theorem dX12_isTouch_105 : decode cX12_isTouch 105 = .ok (.aload_n 0, 1) := by decide +kernel
theorem dX12_isTouch_106 : decode cX12_isTouch 106 = .ok (.aload_n 0, 1) := by decide +kernel
theorem dX12_isTouch_107 : decode cX12_isTouch 107 = .ok (.getfield 38, 3) := by decide +kernel
theorem dX12_isTouch_110 : decode cX12_isTouch 110 = .ok (.invokevirtual 182, 3) := by decide +kernel
theorem dX12_isTouch_113 : decode cX12_isTouch 113 = .ok (.aload_n 0, 1) := by decide +kernel
theorem dX12_isTouch_114 : decode cX12_isTouch 114 = .ok (.invokevirtual 256, 3) := by decide +kernel
theorem dX12_isTouch_117 : decode cX12_isTouch 117 = .ok (.if_icmp .ne 7, 3) := by decide +kernel
theorem dX12_isTouch_120 : decode cX12_isTouch 120 = .ok (.iconst 1, 1) := by decide +kernel
theorem dX12_isTouch_121 : decode cX12_isTouch 121 = .ok (.goto 4, 3) := by decide +kernel
theorem dX12_isTouch_124 : decode cX12_isTouch 124 = .ok (.iconst 0, 1) := by decide +kernel
theorem dX12_isTouch_125 : decode cX12_isTouch 125 = .ok (.ireturn, 1) := by decide +kernel
theorem dX12_touch_0 : decode cX12_touch 0 = .ok (.iload_n 1, 1) := by decide +kernel
theorem dX12_touch_1 : decode cX12_touch 1 = .ok (.iconst 1, 1) := by decide +kernel
theorem dX12_touch_2 : decode cX12_touch 2 = .ok (.bipush 8, 2) := by decide +kernel
theorem dX12_touch_4 : decode cX12_touch 4 = .ok (.invokestatic 75, 3) := by decide +kernel
theorem dX12_touch_7 : decode cX12_touch 7 = .ok (.ifCond .eq 12, 3) := by decide +kernel
theorem dX12_touch_10 : decode cX12_touch 10 = .ok (.iload_n 2, 1) := by decide +kernel
theorem dX12_touch_11 : decode cX12_touch 11 = .ok (.iconst 0, 1) := by decide +kernel
theorem dX12_touch_12 : decode cX12_touch 12 = .ok (.iconst 1, 1) := by decide +kernel
theorem dX12_touch_13 : decode cX12_touch 13 = .ok (.invokestatic 75, 3) := by decide +kernel
theorem dX12_touch_16 : decode cX12_touch 16 = .ok (.ifCond .ne 6, 3) := by decide +kernel
theorem dX12_touch_19 : decode cX12_touch 19 = .ok (.ldc 82, 2) := by decide +kernel
theorem dX12_touch_21 : decode cX12_touch 21 = .ok (.ireturn, 1) := by decide +kernel
theorem dX12_touch_22 : decode cX12_touch 22 = .ok (.aload_n 0, 1) := by decide +kernel
theorem dX12_touch_23 : decode cX12_touch 23 = .ok (.invokevirtual 193, 3) := by decide +kernel
theorem dX12_touch_26 : decode cX12_touch 26 = .ok (.ifCond .ne 6, 3) := by decide +kernel
theorem dX12_touch_29 : decode cX12_touch 29 = .ok (.ldc 196, 2) := by decide +kernel
theorem dX12_touch_31 : decode cX12_touch 31 = .ok (.ireturn, 1) := by decide +kernel
theorem dX12_touch_32 : decode cX12_touch 32 = .ok (.iconst 0, 1) := by decide +kernel
theorem dX12_touch_33 : decode cX12_touch 33 = .ok (.istore_n 3, 1) := by decide +kernel
theorem dX12_touch_34 : decode cX12_touch 34 = .ok (.iconst (-1), 1) := by decide +kernel
theorem dX12_touch_35 : decode cX12_touch 35 = .ok (.istore 4, 2) := by decide +kernel
theorem dX12_touch_37 : decode cX12_touch 37 = .ok (.iconst 1, 1) := by decide +kernel
theorem dX12_touch_38 : decode cX12_touch 38 = .ok (.iload_n 1, 1) := by decide +kernel
theorem dX12_touch_39 : decode cX12_touch 39 = .ok (.ishl, 1) := by decide +kernel
theorem dX12_touch_40 : decode cX12_touch 40 = .ok (.iconst 1, 1) := by decide +kernel
theorem dX12_touch_41 : decode cX12_touch 41 = .ok (.isub, 1) := by decide +kernel
theorem dX12_touch_42 : decode cX12_touch 42 = .ok (.istore 5, 2) := by decide +kernel
theorem dX12_touch_44 : decode cX12_touch 44 = .ok (.iload 5, 2) := by decide +kernel
theorem dX12_touch_46 : decode cX12_touch 46 = .ok (.ifCond .lt 45, 3) := by decide +kernel
theorem dX12_touch_49 : decode cX12_touch 49 = .ok (.aload_n 0, 1) := by decide +kernel
theorem dX12_touch_50 : decode cX12_touch 50 = .ok (.iload_n 1, 1) := by decide +kernel
theorem dX12_touch_51 : decode cX12_touch 51 = .ok (.iload 5, 2) := by decide +kernel
theorem dX12_touch_53 : decode cX12_touch 53 = .ok (.invokevirtual 265, 3) := by decide +kernel
theorem dX12_touch_56 : decode cX12_touch 56 = .ok (.istore 6, 2) := by decide +kernel
theorem dX12_touch_58 : decode cX12_touch 58 = .ok (.iload_n 3, 1) := by decide +kernel
theorem dX12_touch_59 : decode cX12_touch 59 = .ok (.iload 6, 2) := by decide +kernel
theorem dX12_touch_61 : decode cX12_touch 61 = .ok (.ifCond .eq 7, 3) := by decide +kernel
theorem dX12_touch_64 : decode cX12_touch 64 = .ok (.iconst 1, 1) := by decide +kernel
theorem dX12_touch_65 : decode cX12_touch 65 = .ok (.goto 4, 3) := by decide +kernel
theorem dX12_touch_68 : decode cX12_touch 68 = .ok (.iconst 0, 1) := by decide +kernel
theorem dX12_touch_69 : decode cX12_touch 69 = .ok (.iadd, 1) := by decide +kernel
theorem dX12_touch_70 : decode cX12_touch 70 = .ok (.istore_n 3, 1) := by decide +kernel
theorem dX12_touch_71 : decode cX12_touch 71 = .ok (.iload 6, 2) := by decide +kernel
theorem dX12_touch_73 : decode cX12_touch 73 = .ok (.ifCond .eq 8, 3) := by decide +kernel
theorem dX12_touch_76 : decode cX12_touch 76 = .ok (.iload 5, 2) := by decide +kernel
theorem dX12_touch_78 : decode cX12_touch 78 = .ok (.goto 5, 3) := by decide +kernel
theorem dX12_touch_81 : decode cX12_touch 81 = .ok (.iload 4, 2) := by decide +kernel
theorem dX12_touch_83 : decode cX12_touch 83 = .ok (.istore 4, 2) := by decide +kernel
theorem dX12_touch_85 : decode cX12_touch 85 = .ok (.iinc 5 (-1), 3) := by decide +kernel
theorem dX12_touch_88 : decode cX12_touch 88 = .ok (.goto (-44), 3) := by decide +kernel
theorem dX12_touch_91 : decode cX12_touch 91 = .ok (.iload_n 2, 1) := by decide +kernel
theorem dX12_touch_92 : decode cX12_touch 92 = .ok (.ifCond .ne 7, 3) := by decide +kernel
theorem dX12_touch_95 : decode cX12_touch 95 = .ok (.iload_n 3, 1) := by decide +kernel
theorem dX12_touch_96 : decode cX12_touch 96 = .ok (.goto 5, 3) := by decide +kernel
theorem dX12_touch_99 : decode cX12_touch 99 = .ok (.iload 4, 2) := by decide +kernel
theorem dX12_touch_101 : decode cX12_touch 101 = .ok (.ireturn, 1) := by decide +kernel
theorem dX12_layPerm_0 : decode cX12_layPerm 0 = .ok (.iload_n 1, 1) := by decide +kernel
theorem dX12_layPerm_1 : decode cX12_layPerm 1 = .ok (.istore_n 2, 1) := by decide +kernel
theorem dX12_layPerm_2 : decode cX12_layPerm 2 = .ok (.iconst 0, 1) := by decide +kernel
theorem dX12_layPerm_3 : decode cX12_layPerm 3 = .ok (.istore_n 3, 1) := by decide +kernel
theorem dX12_layPerm_4 : decode cX12_layPerm 4 = .ok (.aload_n 0, 1) := by decide +kernel
theorem dX12_layPerm_5 : decode cX12_layPerm 5 = .ok (.getfield 79, 3) := by decide +kernel
theorem dX12_layPerm_8 : decode cX12_layPerm 8 = .ok (.iconst 1, 1) := by decide +kernel
theorem dX12_layPerm_9 : decode cX12_layPerm 9 = .ok (.isub, 1) := by decide +kernel
theorem dX12_layPerm_10 : decode cX12_layPerm 10 = .ok (.istore 4, 2) := by decide +kernel
theorem dX12_layPerm_12 : decode cX12_layPerm 12 = .ok (.iload 4, 2) := by decide +kernel
theorem dX12_layPerm_14 : decode cX12_layPerm 14 = .ok (.ifCond .lt 37, 3) := by decide +kernel
theorem dX12_layPerm_17 : decode cX12_layPerm 17 = .ok (.aload_n 0, 1) := by decide +kernel
theorem dX12_layPerm_18 : decode cX12_layPerm 18 = .ok (.getfield 63, 3) := by decide +kernel
theorem dX12_layPerm_21 : decode cX12_layPerm 21 = .ok (.iload 4, 2) := by decide +kernel
theorem dX12_layPerm_23 : decode cX12_layPerm 23 = .ok (.iload_n 2, 1) := by decide +kernel
theorem dX12_layPerm_24 : decode cX12_layPerm 24 = .ok (.bipush 6, 2) := by decide +kernel
theorem dX12_layPerm_26 : decode cX12_layPerm 26 = .ok (.irem, 1) := by decide +kernel
theorem dX12_layPerm_27 : decode cX12_layPerm 27 = .ok (.iastore, 1) := by decide +kernel
theorem dX12_layPerm_28 : decode cX12_layPerm 28 = .ok (.iload_n 2, 1) := by decide +kernel
theorem dX12_layPerm_29 : decode cX12_layPerm 29 = .ok (.bipush 6, 2) := by decide +kernel
theorem dX12_layPerm_31 : decode cX12_layPerm 31 = .ok (.idiv, 1) := by decide +kernel
theorem dX12_layPerm_32 : decode cX12_layPerm 32 = .ok (.istore_n 2, 1) := by decide +kernel
theorem dX12_layPerm_33 : decode cX12_layPerm 33 = .ok (.iload_n 3, 1) := by decide +kernel
theorem dX12_layPerm_34 : decode cX12_layPerm 34 = .ok (.iconst 1, 1) := by decide +kernel
theorem dX12_layPerm_35 : decode cX12_layPerm 35 = .ok (.aload_n 0, 1) := by decide +kernel
theorem dX12_layPerm_36 : decode cX12_layPerm 36 = .ok (.getfield 63, 3) := by decide +kernel
theorem dX12_layPerm_39 : decode cX12_layPerm 39 = .ok (.iload 4, 2) := by decide +kernel
theorem dX12_layPerm_41 : decode cX12_layPerm 41 = .ok (.iaload, 1) := by decide +kernel
theorem dX12_layPerm_42 : decode cX12_layPerm 42 = .ok (.ishl, 1) := by decide +kernel
theorem dX12_layPerm_43 : decode cX12_layPerm 43 = .ok (.ior, 1) := by decide +kernel
theorem dX12_layPerm_44 : decode cX12_layPerm 44 = .ok (.istore_n 3, 1) := by decide +kernel
theorem dX12_layPerm_45 : decode cX12_layPerm 45 = .ok (.iinc 4 (-1), 3) := by decide +kernel
theorem dX12_layPerm_48 : decode cX12_layPerm 48 = .ok (.goto (-36), 3) := by decide +kernel
theorem dX12_layPerm_51 : decode cX12_layPerm 51 = .ok (.iload_n 3, 1) := by decide +kernel
theorem dX12_layPerm_52 : decode cX12_layPerm 52 = .ok (.iconst 1, 1) := by decide +kernel
theorem dX12_layPerm_53 : decode cX12_layPerm 53 = .ok (.aload_n 0, 1) := by decide +kernel
theorem dX12_layPerm_54 : decode cX12_layPerm 54 = .ok (.getfield 79, 3) := by decide +kernel
theorem dX12_layPerm_57 : decode cX12_layPerm 57 = .ok (.ishl, 1) := by decide +kernel
theorem dX12_layPerm_58 : decode cX12_layPerm 58 = .ok (.iconst 1, 1) := by decide +kernel
theorem dX12_layPerm_59 : decode cX12_layPerm 59 = .ok (.isub, 1) := by decide +kernel
theorem dX12_layPerm_60 : decode cX12_layPerm 60 = .ok (.if_icmp .ne 7, 3) := by decide +kernel
theorem dX12_layPerm_63 : decode cX12_layPerm 63 = .ok (.iconst 1, 1) := by decide +kernel
theorem dX12_layPerm_64 : decode cX12_layPerm 64 = .ok (.goto 4, 3) := by decide +kernel
theorem dX12_layPerm_67 : decode cX12_layPerm 67 = .ok (.iconst 0, 1) := by decide +kernel
theorem dX12_layPerm_68 : decode cX12_layPerm 68 = .ok (.ireturn, 1) := by decide +kernel
theorem dX12_layRopes_0 : decode cX12_layRopes 0 = .ok (.iconst 1, 1) := by decide +kernel
theorem dX12_layRopes_1 : decode cX12_layRopes 1 = .ok (.istore_n 1, 1) := by decide +kernel
theorem dX12_layRopes_2 : decode cX12_layRopes 2 = .ok (.iconst 0, 1) := by decide +kernel
theorem dX12_layRopes_3 : decode cX12_layRopes 3 = .ok (.istore_n 2, 1) := by decide +kernel
theorem dX12_layRopes_4 : decode cX12_layRopes 4 = .ok (.iload_n 2, 1) := by decide +kernel
theorem dX12_layRopes_5 : decode cX12_layRopes 5 = .ok (.aload_n 0, 1) := by decide +kernel
theorem dX12_layRopes_6 : decode cX12_layRopes 6 = .ok (.getfield 79, 3) := by decide +kernel
theorem dX12_layRopes_9 : decode cX12_layRopes 9 = .ok (.if_icmp .ge 14, 3) := by decide +kernel
theorem dX12_layRopes_12 : decode cX12_layRopes 12 = .ok (.iload_n 1, 1) := by decide +kernel
theorem dX12_layRopes_13 : decode cX12_layRopes 13 = .ok (.bipush 6, 2) := by decide +kernel
theorem dX12_layRopes_15 : decode cX12_layRopes 15 = .ok (.imul, 1) := by decide +kernel
theorem dX12_layRopes_16 : decode cX12_layRopes 16 = .ok (.istore_n 1, 1) := by decide +kernel
theorem dX12_layRopes_17 : decode cX12_layRopes 17 = .ok (.iinc 2 1, 3) := by decide +kernel
theorem dX12_layRopes_20 : decode cX12_layRopes 20 = .ok (.goto (-16), 3) := by decide +kernel
theorem dX12_layRopes_23 : decode cX12_layRopes 23 = .ok (.iconst (-1), 1) := by decide +kernel
theorem dX12_layRopes_24 : decode cX12_layRopes 24 = .ok (.istore_n 2, 1) := by decide +kernel
theorem dX12_layRopes_25 : decode cX12_layRopes 25 = .ok (.iconst 0, 1) := by decide +kernel
theorem dX12_layRopes_26 : decode cX12_layRopes 26 = .ok (.istore_n 3, 1) := by decide +kernel
theorem dX12_layRopes_27 : decode cX12_layRopes 27 = .ok (.iload_n 3, 1) := by decide +kernel
theorem dX12_layRopes_28 : decode cX12_layRopes 28 = .ok (.iload_n 1, 1) := by decide +kernel
theorem dX12_layRopes_29 : decode cX12_layRopes 29 = .ok (.if_icmp .ge 105, 3) := by decide +kernel
theorem dX12_layRopes_32 : decode cX12_layRopes 32 = .ok (.aload_n 0, 1) := by decide +kernel
theorem dX12_layRopes_33 : decode cX12_layRopes 33 = .ok (.iload_n 3, 1) := by decide +kernel
theorem dX12_layRopes_34 : decode cX12_layRopes 34 = .ok (.invokevirtual 268, 3) := by decide +kernel
theorem dX12_layRopes_37 : decode cX12_layRopes 37 = .ok (.ifCond .eq 91, 3) := by decide +kernel
theorem dX12_layRopes_40 : decode cX12_layRopes 40 = .ok (.iconst 0, 1) := by decide +kernel
theorem dX12_layRopes_41 : decode cX12_layRopes 41 = .ok (.istore 4, 2) := by decide +kernel
theorem dX12_layRopes_43 : decode cX12_layRopes 43 = .ok (.iconst 0, 1) := by decide +kernel
theorem dX12_layRopes_44 : decode cX12_layRopes 44 = .ok (.istore 5, 2) := by decide +kernel
theorem dX12_layRopes_46 : decode cX12_layRopes 46 = .ok (.iload 5, 2) := by decide +kernel
theorem dX12_layRopes_48 : decode cX12_layRopes 48 = .ok (.aload_n 0, 1) := by decide +kernel
theorem dX12_layRopes_49 : decode cX12_layRopes 49 = .ok (.getfield 79, 3) := by decide +kernel
theorem dX12_layRopes_52 : decode cX12_layRopes 52 = .ok (.if_icmp .ge 47, 3) := by decide +kernel
theorem dX12_layRopes_55 : decode cX12_layRopes 55 = .ok (.aload_n 0, 1) := by decide +kernel
theorem dX12_layRopes_56 : decode cX12_layRopes 56 = .ok (.getfield 26, 3) := by decide +kernel
theorem dX12_layRopes_59 : decode cX12_layRopes 59 = .ok (.aload_n 0, 1) := by decide +kernel
theorem dX12_layRopes_60 : decode cX12_layRopes 60 = .ok (.getfield 63, 3) := by decide +kernel
theorem dX12_layRopes_63 : decode cX12_layRopes 63 = .ok (.iload 5, 2) := by decide +kernel
theorem dX12_layRopes_65 : decode cX12_layRopes 65 = .ok (.iaload, 1) := by decide +kernel
theorem dX12_layRopes_66 : decode cX12_layRopes 66 = .ok (.iaload, 1) := by decide +kernel
theorem dX12_layRopes_67 : decode cX12_layRopes 67 = .ok (.aload_n 0, 1) := by decide +kernel
theorem dX12_layRopes_68 : decode cX12_layRopes 68 = .ok (.getfield 32, 3) := by decide +kernel
theorem dX12_layRopes_71 : decode cX12_layRopes 71 = .ok (.iload 5, 2) := by decide +kernel
theorem dX12_layRopes_73 : decode cX12_layRopes 73 = .ok (.iaload, 1) := by decide +kernel
theorem dX12_layRopes_74 : decode cX12_layRopes 74 = .ok (.isub, 1) := by decide +kernel
theorem dX12_layRopes_75 : decode cX12_layRopes 75 = .ok (.istore 6, 2) := by decide +kernel
theorem dX12_layRopes_77 : decode cX12_layRopes 77 = .ok (.iload 4, 2) := by decide +kernel
theorem dX12_layRopes_79 : decode cX12_layRopes 79 = .ok (.iload 6, 2) := by decide +kernel
theorem dX12_layRopes_81 : decode cX12_layRopes 81 = .ok (.ifCond .le 8, 3) := by decide +kernel
theorem dX12_layRopes_84 : decode cX12_layRopes 84 = .ok (.iload 6, 2) := by decide +kernel
theorem dX12_layRopes_86 : decode cX12_layRopes 86 = .ok (.goto 4, 3) := by decide +kernel
theorem dX12_layRopes_89 : decode cX12_layRopes 89 = .ok (.iconst 0, 1) := by decide +kernel
theorem dX12_layRopes_90 : decode cX12_layRopes 90 = .ok (.iadd, 1) := by decide +kernel
theorem dX12_layRopes_91 : decode cX12_layRopes 91 = .ok (.istore 4, 2) := by decide +kernel
theorem dX12_layRopes_93 : decode cX12_layRopes 93 = .ok (.iinc 5 1, 3) := by decide +kernel
theorem dX12_layRopes_96 : decode cX12_layRopes 96 = .ok (.goto (-50), 3) := by decide +kernel
theorem dX12_layRopes_99 : decode cX12_layRopes 99 = .ok (.iload_n 2, 1) := by decide +kernel
theorem dX12_layRopes_100 : decode cX12_layRopes 100 = .ok (.iconst (-1), 1) := by decide +kernel
theorem dX12_layRopes_101 : decode cX12_layRopes 101 = .ok (.if_icmp .eq 9, 3) := by decide +kernel
theorem dX12_layRopes_104 : decode cX12_layRopes 104 = .ok (.iload 4, 2) := by decide +kernel
theorem dX12_layRopes_106 : decode cX12_layRopes 106 = .ok (.iload_n 2, 1) := by decide +kernel
theorem dX12_layRopes_107 : decode cX12_layRopes 107 = .ok (.if_icmp .ge 21, 3) := by decide +kernel
theorem dX12_layRopes_110 : decode cX12_layRopes 110 = .ok (.iload 4, 2) := by decide +kernel
theorem dX12_layRopes_112 : decode cX12_layRopes 112 = .ok (.istore_n 2, 1) := by decide +kernel
theorem dX12_layRopes_113 : decode cX12_layRopes 113 = .ok (.aload_n 0, 1) := by decide +kernel
theorem dX12_layRopes_114 : decode cX12_layRopes 114 = .ok (.getfield 63, 3) := by decide +kernel
theorem dX12_layRopes_117 : decode cX12_layRopes 117 = .ok (.iconst 0, 1) := by decide +kernel
theorem dX12_layRopes_118 : decode cX12_layRopes 118 = .ok (.aload_n 0, 1) := by decide +kernel
theorem dX12_layRopes_119 : decode cX12_layRopes 119 = .ok (.getfield 66, 3) := by decide +kernel
theorem dX12_layRopes_122 : decode cX12_layRopes 122 = .ok (.iconst 0, 1) := by decide +kernel
theorem dX12_layRopes_123 : decode cX12_layRopes 123 = .ok (.bipush 6, 2) := by decide +kernel
theorem dX12_layRopes_125 : decode cX12_layRopes 125 = .ok (.invokestatic 159, 3) := by decide +kernel
theorem dX12_layRopes_128 : decode cX12_layRopes 128 = .ok (.iinc 3 1, 3) := by decide +kernel
theorem dX12_layRopes_131 : decode cX12_layRopes 131 = .ok (.goto (-104), 3) := by decide +kernel
theorem dX12_layRopes_134 : decode cX12_layRopes 134 = .ok (.iload_n 2, 1) := by decide +kernel
theorem dX12_layRopes_135 : decode cX12_layRopes 135 = .ok (.ireturn, 1) := by decide +kernel
theorem dX12_ropes_0 : decode cX12_ropes 0 = .ok (.iload_n 1, 1) := by decide +kernel
theorem dX12_ropes_1 : decode cX12_ropes 1 = .ok (.iconst (-1), 1) := by decide +kernel
theorem dX12_ropes_2 : decode cX12_ropes 2 = .ok (.if_icmp .eq 14, 3) := by decide +kernel
theorem dX12_ropes_5 : decode cX12_ropes 5 = .ok (.aload_n 0, 1) := by decide +kernel
theorem dX12_ropes_6 : decode cX12_ropes 6 = .ok (.iload_n 1, 1) := by decide +kernel
theorem dX12_ropes_7 : decode cX12_ropes 7 = .ok (.invokevirtual 209, 3) := by decide +kernel
theorem dX12_ropes_10 : decode cX12_ropes 10 = .ok (.ifCond .ne 6, 3) := by decide +kernel
theorem dX12_ropes_13 : decode cX12_ropes 13 = .ok (.ldc 200, 2) := by decide +kernel
theorem dX12_ropes_15 : decode cX12_ropes 15 = .ok (.ireturn, 1) := by decide +kernel
theorem dX12_ropes_16 : decode cX12_ropes 16 = .ok (.aload_n 0, 1) := by decide +kernel
theorem dX12_ropes_17 : decode cX12_ropes 17 = .ok (.invokevirtual 271, 3) := by decide +kernel
theorem dX12_ropes_20 : decode cX12_ropes 20 = .ok (.istore_n 2, 1) := by decide +kernel
theorem dX12_ropes_21 : decode cX12_ropes 21 = .ok (.iload_n 1, 1) := by decide +kernel
theorem dX12_ropes_22 : decode cX12_ropes 22 = .ok (.iconst (-1), 1) := by decide +kernel
theorem dX12_ropes_23 : decode cX12_ropes 23 = .ok (.if_icmp .ne 7, 3) := by decide +kernel
theorem dX12_ropes_26 : decode cX12_ropes 26 = .ok (.iload_n 2, 1) := by decide +kernel
theorem dX12_ropes_27 : decode cX12_ropes 27 = .ok (.goto 9, 3) := by decide +kernel
theorem dX12_ropes_30 : decode cX12_ropes 30 = .ok (.aload_n 0, 1) := by decide +kernel
theorem dX12_ropes_31 : decode cX12_ropes 31 = .ok (.getfield 66, 3) := by decide +kernel
theorem dX12_ropes_34 : decode cX12_ropes 34 = .ok (.iload_n 1, 1) := by decide +kernel
theorem dX12_ropes_35 : decode cX12_ropes 35 = .ok (.iaload, 1) := by decide +kernel
theorem dX12_ropes_36 : decode cX12_ropes 36 = .ok (.ireturn, 1) := by decide +kernel
theorem dX12_last_0 : decode cX12_last 0 = .ok (.aload_n 0, 1) := by decide +kernel
theorem dX12_last_1 : decode cX12_last 1 = .ok (.iload_n 1, 1) := by decide +kernel
theorem dX12_last_2 : decode cX12_last 2 = .ok (.invokevirtual 197, 3) := by decide +kernel
theorem dX12_last_5 : decode cX12_last 5 = .ok (.ifCond .ne 6, 3) := by decide +kernel
theorem dX12_last_8 : decode cX12_last 8 = .ok (.ldc 200, 2) := by decide +kernel
theorem dX12_last_10 : decode cX12_last 10 = .ok (.ireturn, 1) := by decide +kernel
theorem dX12_last_11 : decode cX12_last 11 = .ok (.iload_n 2, 1) := by decide +kernel
theorem dX12_last_12 : decode cX12_last 12 = .ok (.iconst 1, 1) := by decide +kernel
theorem dX12_last_13 : decode cX12_last 13 = .ok (.sipush 500, 3) := by decide +kernel
theorem dX12_last_16 : decode cX12_last 16 = .ok (.invokestatic 75, 3) := by decide +kernel
theorem dX12_last_19 : decode cX12_last 19 = .ok (.ifCond .ne 6, 3) := by decide +kernel
theorem dX12_last_22 : decode cX12_last 22 = .ok (.ldc 82, 2) := by decide +kernel
theorem dX12_last_24 : decode cX12_last 24 = .ok (.ireturn, 1) := by decide +kernel
theorem dX12_last_25 : decode cX12_last 25 = .ok (.aload_n 0, 1) := by decide +kernel
theorem dX12_last_26 : decode cX12_last 26 = .ok (.invokevirtual 249, 3) := by decide +kernel
theorem dX12_last_29 : decode cX12_last 29 = .ok (.iconst 0, 1) := by decide +kernel
theorem dX12_last_30 : decode cX12_last 30 = .ok (.istore_n 3, 1) := by decide +kernel
theorem dX12_last_31 : decode cX12_last 31 = .ok (.iconst 0, 1) := by decide +kernel
theorem dX12_last_32 : decode cX12_last 32 = .ok (.istore 4, 2) := by decide +kernel
theorem dX12_last_34 : decode cX12_last 34 = .ok (.iload 4, 2) := by decide +kernel
theorem dX12_last_36 : decode cX12_last 36 = .ok (.iload_n 2, 1) := by decide +kernel
theorem dX12_last_37 : decode cX12_last 37 = .ok (.if_icmp .ge 39, 3) := by decide +kernel
theorem dX12_last_40 : decode cX12_last 40 = .ok (.aload_n 0, 1) := by decide +kernel
theorem dX12_last_41 : decode cX12_last 41 = .ok (.iconst 1, 1) := by decide +kernel
theorem dX12_last_42 : decode cX12_last 42 = .ok (.invokevirtual 252, 3) := by decide +kernel
theorem dX12_last_45 : decode cX12_last 45 = .ok (.iload_n 3, 1) := by decide +kernel
theorem dX12_last_46 : decode cX12_last 46 = .ok (.aload_n 0, 1) := by decide +kernel
theorem dX12_last_47 : decode cX12_last 47 = .ok (.getfield 38, 3) := by decide +kernel
theorem dX12_last_50 : decode cX12_last 50 = .ok (.iconst 5, 1) := by decide +kernel
theorem dX12_last_51 : decode cX12_last 51 = .ok (.aload_n 0, 1) := by decide +kernel
theorem dX12_last_52 : decode cX12_last 52 = .ok (.getfield 72, 3) := by decide +kernel
theorem dX12_last_55 : decode cX12_last 55 = .ok (.iadd, 1) := by decide +kernel
theorem dX12_last_56 : decode cX12_last 56 = .ok (.iconst 1, 1) := by decide +kernel
theorem dX12_last_57 : decode cX12_last 57 = .ok (.isub, 1) := by decide +kernel
theorem dX12_last_58 : decode cX12_last 58 = .ok (.iaload, 1) := by decide +kernel
theorem dX12_last_59 : decode cX12_last 59 = .ok (.iload_n 1, 1) := by decide +kernel
theorem dX12_last_60 : decode cX12_last 60 = .ok (.if_icmp .ne 7, 3) := by decide +kernel
theorem dX12_last_63 : decode cX12_last 63 = .ok (.iconst 1, 1) := by decide +kernel
theorem dX12_last_64 : decode cX12_last 64 = .ok (.goto 4, 3) := by decide +kernel
theorem dX12_last_67 : decode cX12_last 67 = .ok (.iconst 0, 1) := by decide +kernel
theorem dX12_last_68 : decode cX12_last 68 = .ok (.iadd, 1) := by decide +kernel
theorem dX12_last_69 : decode cX12_last 69 = .ok (.istore_n 3, 1) := by decide +kernel
theorem dX12_last_70 : decode cX12_last 70 = .ok (.iinc 4 1, 3) := by decide +kernel
theorem dX12_last_73 : decode cX12_last 73 = .ok (.goto (-39), 3) := by decide +kernel
theorem dX12_last_76 : decode cX12_last 76 = .ok (.iload_n 3, 1) := by decide +kernel
theorem dX12_last_77 : decode cX12_last 77 = .ok (.ireturn, 1) := by decide +kernel
theorem dX12_nextOut_0 : decode cX12_nextOut 0 = .ok (.aload_n 0, 1) := by decide +kernel
theorem dX12_nextOut_1 : decode cX12_nextOut 1 = .ok (.invokevirtual 249, 3) := by decide +kernel
theorem dX12_nextOut_4 : decode cX12_nextOut 4 = .ok (.iconst 0, 1) := by decide +kernel
theorem dX12_nextOut_5 : decode cX12_nextOut 5 = .ok (.istore_n 1, 1) := by decide +kernel
theorem dX12_nextOut_6 : decode cX12_nextOut 6 = .ok (.iload_n 1, 1) := by decide +kernel
theorem dX12_nextOut_7 : decode cX12_nextOut 7 = .ok (.sipush 500, 3) := by decide +kernel
theorem dX12_nextOut_10 : decode cX12_nextOut 10 = .ok (.if_icmp .ge 61, 3) := by decide +kernel
theorem dX12_nextOut_13 : decode cX12_nextOut 13 = .ok (.aload_n 0, 1) := by decide +kernel
theorem dX12_nextOut_14 : decode cX12_nextOut 14 = .ok (.invokevirtual 193, 3) := by decide +kernel
theorem dX12_nextOut_17 : decode cX12_nextOut 17 = .ok (.ifCond .eq 54, 3) := by decide +kernel
theorem dX12_nextOut_20 : decode cX12_nextOut 20 = .ok (.aload_n 0, 1) := by decide +kernel
theorem dX12_nextOut_21 : decode cX12_nextOut 21 = .ok (.iconst 1, 1) := by decide +kernel
theorem dX12_nextOut_22 : decode cX12_nextOut 22 = .ok (.invokevirtual 252, 3) := by decide +kernel
theorem dX12_nextOut_25 : decode cX12_nextOut 25 = .ok (.iconst 0, 1) := by decide +kernel
theorem dX12_nextOut_26 : decode cX12_nextOut 26 = .ok (.istore_n 2, 1) := by decide +kernel
theorem dX12_nextOut_27 : decode cX12_nextOut 27 = .ok (.iload_n 2, 1) := by decide +kernel
theorem dX12_nextOut_28 : decode cX12_nextOut 28 = .ok (.aload_n 0, 1) := by decide +kernel
theorem dX12_nextOut_29 : decode cX12_nextOut 29 = .ok (.getfield 79, 3) := by decide +kernel
theorem dX12_nextOut_32 : decode cX12_nextOut 32 = .ok (.if_icmp .ge 33, 3) := by decide +kernel
theorem dX12_nextOut_35 : decode cX12_nextOut 35 = .ok (.aload_n 0, 1) := by decide +kernel
theorem dX12_nextOut_36 : decode cX12_nextOut 36 = .ok (.getfield 38, 3) := by decide +kernel
theorem dX12_nextOut_39 : decode cX12_nextOut 39 = .ok (.iconst 4, 1) := by decide +kernel
theorem dX12_nextOut_40 : decode cX12_nextOut 40 = .ok (.iaload, 1) := by decide +kernel
theorem dX12_nextOut_41 : decode cX12_nextOut 41 = .ok (.aload_n 0, 1) := by decide +kernel
theorem dX12_nextOut_42 : decode cX12_nextOut 42 = .ok (.getfield 35, 3) := by decide +kernel
theorem dX12_nextOut_45 : decode cX12_nextOut 45 = .ok (.iconst 4, 1) := by decide +kernel
theorem dX12_nextOut_46 : decode cX12_nextOut 46 = .ok (.iaload, 1) := by decide +kernel
theorem dX12_nextOut_47 : decode cX12_nextOut 47 = .ok (.iconst (-1), 1) := by decide +kernel
theorem dX12_nextOut_48 : decode cX12_nextOut 48 = .ok (.ixor, 1) := by decide +kernel
theorem dX12_nextOut_49 : decode cX12_nextOut 49 = .ok (.iand, 1) := by decide +kernel
theorem dX12_nextOut_50 : decode cX12_nextOut 50 = .ok (.iload_n 2, 1) := by decide +kernel
theorem dX12_nextOut_51 : decode cX12_nextOut 51 = .ok (.invokestatic 112, 3) := by decide +kernel
theorem dX12_nextOut_54 : decode cX12_nextOut 54 = .ok (.ifCond .eq 5, 3) := by decide +kernel
theorem dX12_nextOut_57 : decode cX12_nextOut 57 = .ok (.iload_n 2, 1) := by decide +kernel
theorem dX12_nextOut_58 : decode cX12_nextOut 58 = .ok (.ireturn, 1) := by decide +kernel
theorem dX12_nextOut_59 : decode cX12_nextOut 59 = .ok (.iinc 2 1, 3) := by decide +kernel
theorem dX12_nextOut_62 : decode cX12_nextOut 62 = .ok (.goto (-35), 3) := by decide +kernel
theorem dX12_nextOut_65 : decode cX12_nextOut 65 = .ok (.iinc 1 1, 3) := by decide +kernel
theorem dX12_nextOut_68 : decode cX12_nextOut 68 = .ok (.goto (-62), 3) := by decide +kernel
theorem dX12_nextOut_71 : decode cX12_nextOut 71 = .ok (.iconst (-1), 1) := by decide +kernel
theorem dX12_nextOut_72 : decode cX12_nextOut 72 = .ok (.ireturn, 1) := by decide +kernel
theorem dX12_layRow_0 : decode cX12_layRow 0 = .ok (.iload_n 1, 1) := by decide +kernel
theorem dX12_layRow_1 : decode cX12_layRow 1 = .ok (.istore_n 2, 1) := by decide +kernel
theorem dX12_layRow_2 : decode cX12_layRow 2 = .ok (.iconst 0, 1) := by decide +kernel
theorem dX12_layRow_3 : decode cX12_layRow 3 = .ok (.istore_n 3, 1) := by decide +kernel
theorem dX12_layRow_4 : decode cX12_layRow 4 = .ok (.aload_n 0, 1) := by decide +kernel
theorem dX12_layRow_5 : decode cX12_layRow 5 = .ok (.getfield 72, 3) := by decide +kernel
theorem dX12_layRow_8 : decode cX12_layRow 8 = .ok (.iconst 1, 1) := by decide +kernel
theorem dX12_layRow_9 : decode cX12_layRow 9 = .ok (.isub, 1) := by decide +kernel
theorem dX12_layRow_10 : decode cX12_layRow 10 = .ok (.istore 4, 2) := by decide +kernel
theorem dX12_layRow_12 : decode cX12_layRow 12 = .ok (.iload 4, 2) := by decide +kernel
theorem dX12_layRow_14 : decode cX12_layRow 14 = .ok (.ifCond .lt 53, 3) := by decide +kernel
theorem dX12_layRow_17 : decode cX12_layRow 17 = .ok (.iload_n 2, 1) := by decide +kernel
theorem dX12_layRow_18 : decode cX12_layRow 18 = .ok (.bipush 10, 2) := by decide +kernel
theorem dX12_layRow_20 : decode cX12_layRow 20 = .ok (.irem, 1) := by decide +kernel
theorem dX12_layRow_21 : decode cX12_layRow 21 = .ok (.iconst 1, 1) := by decide +kernel
theorem dX12_layRow_22 : decode cX12_layRow 22 = .ok (.isub, 1) := by decide +kernel
theorem dX12_layRow_23 : decode cX12_layRow 23 = .ok (.istore 5, 2) := by decide +kernel
theorem dX12_layRow_25 : decode cX12_layRow 25 = .ok (.iload_n 2, 1) := by decide +kernel
theorem dX12_layRow_26 : decode cX12_layRow 26 = .ok (.bipush 10, 2) := by decide +kernel
theorem dX12_layRow_28 : decode cX12_layRow 28 = .ok (.idiv, 1) := by decide +kernel
theorem dX12_layRow_29 : decode cX12_layRow 29 = .ok (.istore_n 2, 1) := by decide +kernel
theorem dX12_layRow_30 : decode cX12_layRow 30 = .ok (.iload_n 3, 1) := by decide +kernel
theorem dX12_layRow_31 : decode cX12_layRow 31 = .ok (.aload_n 0, 1) := by decide +kernel
theorem dX12_layRow_32 : decode cX12_layRow 32 = .ok (.iload 5, 2) := by decide +kernel
theorem dX12_layRow_34 : decode cX12_layRow 34 = .ok (.invokevirtual 197, 3) := by decide +kernel
theorem dX12_layRow_37 : decode cX12_layRow 37 = .ok (.ifCond .eq 10, 3) := by decide +kernel
theorem dX12_layRow_40 : decode cX12_layRow 40 = .ok (.iconst 1, 1) := by decide +kernel
theorem dX12_layRow_41 : decode cX12_layRow 41 = .ok (.iload 5, 2) := by decide +kernel
theorem dX12_layRow_43 : decode cX12_layRow 43 = .ok (.ishl, 1) := by decide +kernel
theorem dX12_layRow_44 : decode cX12_layRow 44 = .ok (.goto 4, 3) := by decide +kernel
theorem dX12_layRow_47 : decode cX12_layRow 47 = .ok (.iconst 0, 1) := by decide +kernel
theorem dX12_layRow_48 : decode cX12_layRow 48 = .ok (.ior, 1) := by decide +kernel
theorem dX12_layRow_49 : decode cX12_layRow 49 = .ok (.istore_n 3, 1) := by decide +kernel
theorem dX12_layRow_50 : decode cX12_layRow 50 = .ok (.aload_n 0, 1) := by decide +kernel
theorem dX12_layRow_51 : decode cX12_layRow 51 = .ok (.getfield 38, 3) := by decide +kernel
theorem dX12_layRow_54 : decode cX12_layRow 54 = .ok (.iconst 5, 1) := by decide +kernel
theorem dX12_layRow_55 : decode cX12_layRow 55 = .ok (.iload 4, 2) := by decide +kernel
theorem dX12_layRow_57 : decode cX12_layRow 57 = .ok (.iadd, 1) := by decide +kernel
theorem dX12_layRow_58 : decode cX12_layRow 58 = .ok (.iload 5, 2) := by decide +kernel
theorem dX12_layRow_60 : decode cX12_layRow 60 = .ok (.iastore, 1) := by decide +kernel
theorem dX12_layRow_61 : decode cX12_layRow 61 = .ok (.iinc 4 (-1), 3) := by decide +kernel
theorem dX12_layRow_64 : decode cX12_layRow 64 = .ok (.goto (-52), 3) := by decide +kernel
theorem dX12_layRow_67 : decode cX12_layRow 67 = .ok (.aload_n 0, 1) := by decide +kernel
theorem dX12_layRow_68 : decode cX12_layRow 68 = .ok (.invokevirtual 193, 3) := by decide +kernel
theorem dX12_layRow_71 : decode cX12_layRow 71 = .ok (.ifCond .eq 27, 3) := by decide +kernel
theorem dX12_layRow_74 : decode cX12_layRow 74 = .ok (.iload_n 1, 1) := by decide +kernel
theorem dX12_layRow_75 : decode cX12_layRow 75 = .ok (.ifCond .le 23, 3) := by decide +kernel
theorem dX12_layRow_78 : decode cX12_layRow 78 = .ok (.iload_n 2, 1) := by decide +kernel
theorem dX12_layRow_79 : decode cX12_layRow 79 = .ok (.ifCond .ne 19, 3) := by decide +kernel
theorem dX12_layRow_82 : decode cX12_layRow 82 = .ok (.iload_n 3, 1) := by decide +kernel
theorem dX12_layRow_83 : decode cX12_layRow 83 = .ok (.iconst 1, 1) := by decide +kernel
theorem dX12_layRow_84 : decode cX12_layRow 84 = .ok (.aload_n 0, 1) := by decide +kernel
theorem dX12_layRow_85 : decode cX12_layRow 85 = .ok (.getfield 72, 3) := by decide +kernel
theorem dX12_layRow_88 : decode cX12_layRow 88 = .ok (.ishl, 1) := by decide +kernel
theorem dX12_layRow_89 : decode cX12_layRow 89 = .ok (.iconst 1, 1) := by decide +kernel
theorem dX12_layRow_90 : decode cX12_layRow 90 = .ok (.isub, 1) := by decide +kernel
theorem dX12_layRow_91 : decode cX12_layRow 91 = .ok (.if_icmp .ne 7, 3) := by decide +kernel
theorem dX12_layRow_94 : decode cX12_layRow 94 = .ok (.iconst 1, 1) := by decide +kernel
theorem dX12_layRow_95 : decode cX12_layRow 95 = .ok (.goto 4, 3) := by decide +kernel
theorem dX12_layRow_98 : decode cX12_layRow 98 = .ok (.iconst 0, 1) := by decide +kernel
theorem dX12_layRow_99 : decode cX12_layRow 99 = .ok (.ireturn, 1) := by decide +kernel
theorem dX12_change_0 : decode cX12_change 0 = .ok (.aload_n 0, 1) := by decide +kernel
theorem dX12_change_1 : decode cX12_change 1 = .ok (.iload_n 1, 1) := by decide +kernel
theorem dX12_change_2 : decode cX12_change 2 = .ok (.invokevirtual 274, 3) := by decide +kernel
theorem dX12_change_5 : decode cX12_change 5 = .ok (.ifCond .eq 11, 3) := by decide +kernel
theorem dX12_change_8 : decode cX12_change 8 = .ok (.aload_n 0, 1) := by decide +kernel
theorem dX12_change_9 : decode cX12_change 9 = .ok (.iload_n 2, 1) := by decide +kernel
theorem dX12_change_10 : decode cX12_change 10 = .ok (.invokevirtual 274, 3) := by decide +kernel
theorem dX12_change_13 : decode cX12_change 13 = .ok (.ifCond .ne 6, 3) := by decide +kernel
theorem dX12_change_16 : decode cX12_change 16 = .ok (.ldc 82, 2) := by decide +kernel
theorem dX12_change_18 : decode cX12_change 18 = .ok (.ireturn, 1) := by decide +kernel
theorem dX12_change_19 : decode cX12_change 19 = .ok (.iconst 0, 1) := by decide +kernel
theorem dX12_change_20 : decode cX12_change 20 = .ok (.istore_n 3, 1) := by decide +kernel
theorem dX12_change_21 : decode cX12_change 21 = .ok (.iconst 0, 1) := by decide +kernel
theorem dX12_change_22 : decode cX12_change 22 = .ok (.istore 4, 2) := by decide +kernel
theorem dX12_change_24 : decode cX12_change 24 = .ok (.iload 4, 2) := by decide +kernel
theorem dX12_change_26 : decode cX12_change 26 = .ok (.aload_n 0, 1) := by decide +kernel
theorem dX12_change_27 : decode cX12_change 27 = .ok (.getfield 72, 3) := by decide +kernel
theorem dX12_change_30 : decode cX12_change 30 = .ok (.if_icmp .ge 25, 3) := by decide +kernel
theorem dX12_change_33 : decode cX12_change 33 = .ok (.aload_n 0, 1) := by decide +kernel
theorem dX12_change_34 : decode cX12_change 34 = .ok (.getfield 63, 3) := by decide +kernel
theorem dX12_change_37 : decode cX12_change 37 = .ok (.iload 4, 2) := by decide +kernel
theorem dX12_change_39 : decode cX12_change 39 = .ok (.aload_n 0, 1) := by decide +kernel
theorem dX12_change_40 : decode cX12_change 40 = .ok (.getfield 38, 3) := by decide +kernel
theorem dX12_change_43 : decode cX12_change 43 = .ok (.iconst 5, 1) := by decide +kernel
theorem dX12_change_44 : decode cX12_change 44 = .ok (.iload 4, 2) := by decide +kernel
theorem dX12_change_46 : decode cX12_change 46 = .ok (.iadd, 1) := by decide +kernel
theorem dX12_change_47 : decode cX12_change 47 = .ok (.iaload, 1) := by decide +kernel
theorem dX12_change_48 : decode cX12_change 48 = .ok (.iastore, 1) := by decide +kernel
theorem dX12_change_49 : decode cX12_change 49 = .ok (.iinc 4 1, 3) := by decide +kernel
theorem dX12_change_52 : decode cX12_change 52 = .ok (.goto (-28), 3) := by decide +kernel
theorem dX12_change_55 : decode cX12_change 55 = .ok (.aload_n 0, 1) := by decide +kernel
theorem dX12_change_56 : decode cX12_change 56 = .ok (.iload_n 1, 1) := by decide +kernel
theorem dX12_change_57 : decode cX12_change 57 = .ok (.invokevirtual 274, 3) := by decide +kernel
theorem dX12_change_60 : decode cX12_change 60 = .ok (.pop, 1) := by decide +kernel
theorem dX12_change_61 : decode cX12_change 61 = .ok (.iconst 0, 1) := by decide +kernel
theorem dX12_change_62 : decode cX12_change 62 = .ok (.istore 4, 2) := by decide +kernel
theorem dX12_change_64 : decode cX12_change 64 = .ok (.iload 4, 2) := by decide +kernel
theorem dX12_change_66 : decode cX12_change 66 = .ok (.aload_n 0, 1) := by decide +kernel
theorem dX12_change_67 : decode cX12_change 67 = .ok (.getfield 72, 3) := by decide +kernel
theorem dX12_change_70 : decode cX12_change 70 = .ok (.if_icmp .ge 39, 3) := by decide +kernel
theorem dX12_change_73 : decode cX12_change 73 = .ok (.iload_n 3, 1) := by decide +kernel
theorem dX12_change_74 : decode cX12_change 74 = .ok (.aload_n 0, 1) := by decide +kernel
theorem dX12_change_75 : decode cX12_change 75 = .ok (.getfield 38, 3) := by decide +kernel
theorem dX12_change_78 : decode cX12_change 78 = .ok (.iconst 5, 1) := by decide +kernel
theorem dX12_change_79 : decode cX12_change 79 = .ok (.iload 4, 2) := by decide +kernel
theorem dX12_change_81 : decode cX12_change 81 = .ok (.iadd, 1) := by decide +kernel
theorem dX12_change_82 : decode cX12_change 82 = .ok (.iaload, 1) := by decide +kernel
theorem dX12_change_83 : decode cX12_change 83 = .ok (.aload_n 0, 1) := by decide +kernel
theorem dX12_change_84 : decode cX12_change 84 = .ok (.getfield 63, 3) := by decide +kernel
theorem dX12_change_87 : decode cX12_change 87 = .ok (.iload 4, 2) := by decide +kernel
theorem dX12_change_89 : decode cX12_change 89 = .ok (.iaload, 1) := by decide +kernel
theorem dX12_change_90 : decode cX12_change 90 = .ok (.if_icmp .ne 10, 3) := by decide +kernel
theorem dX12_change_93 : decode cX12_change 93 = .ok (.iconst 1, 1) := by decide +kernel
theorem dX12_change_94 : decode cX12_change 94 = .ok (.iload 4, 2) := by decide +kernel
theorem dX12_change_96 : decode cX12_change 96 = .ok (.ishl, 1) := by decide +kernel
theorem dX12_change_97 : decode cX12_change 97 = .ok (.goto 4, 3) := by decide +kernel
theorem dX12_change_100 : decode cX12_change 100 = .ok (.iconst 0, 1) := by decide +kernel
theorem dX12_change_101 : decode cX12_change 101 = .ok (.ior, 1) := by decide +kernel
theorem dX12_change_102 : decode cX12_change 102 = .ok (.istore_n 3, 1) := by decide +kernel
theorem dX12_change_103 : decode cX12_change 103 = .ok (.iinc 4 1, 3) := by decide +kernel
theorem dX12_change_106 : decode cX12_change 106 = .ok (.goto (-42), 3) := by decide +kernel
theorem dX12_change_109 : decode cX12_change 109 = .ok (.iload_n 3, 1) := by decide +kernel
theorem dX12_change_110 : decode cX12_change 110 = .ok (.aload_n 0, 1) := by decide +kernel
theorem dX12_change_111 : decode cX12_change 111 = .ok (.getfield 72, 3) := by decide +kernel
theorem dX12_change_114 : decode cX12_change 114 = .ok (.invokestatic 122, 3) := by decide +kernel
theorem dX12_change_117 : decode cX12_change 117 = .ok (.ifCond .ne 5, 3) := by decide +kernel
theorem dX12_change_120 : decode cX12_change 120 = .ok (.iconst (-1), 1) := by decide +kernel
theorem dX12_change_121 : decode cX12_change 121 = .ok (.ireturn, 1) := by decide +kernel
theorem dX12_change_122 : decode cX12_change 122 = .ok (.aload_n 0, 1) := by decide +kernel
theorem dX12_change_123 : decode cX12_change 123 = .ok (.aload_n 0, 1) := by decide +kernel
theorem dX12_change_124 : decode cX12_change 124 = .ok (.getfield 38, 3) := by decide +kernel
theorem dX12_change_127 : decode cX12_change 127 = .ok (.iload_n 3, 1) := by decide +kernel
theorem dX12_change_128 : decode cX12_change 128 = .ok (.invokevirtual 212, 3) := by decide +kernel
theorem dX12_change_131 : decode cX12_change 131 = .ok (.aload_n 0, 1) := by decide +kernel
theorem dX12_change_132 : decode cX12_change 132 = .ok (.aload_n 0, 1) := by decide +kernel
theorem dX12_change_133 : decode cX12_change 133 = .ok (.getfield 38, 3) := by decide +kernel
theorem dX12_change_136 : decode cX12_change 136 = .ok (.invokevirtual 182, 3) := by decide +kernel
theorem dX12_change_139 : decode cX12_change 139 = .ok (.iload_n 2, 1) := by decide +kernel
theorem dX12_change_140 : decode cX12_change 140 = .ok (.if_icmp .ne 7, 3) := by decide +kernel
theorem dX12_change_143 : decode cX12_change 143 = .ok (.iload_n 3, 1) := by decide +kernel
theorem dX12_change_144 : decode cX12_change 144 = .ok (.goto 4, 3) := by decide +kernel
theorem dX12_change_147 : decode cX12_change 147 = .ok (.iconst (-1), 1) := by decide +kernel
theorem dX12_change_148 : decode cX12_change 148 = .ok (.ireturn, 1) := by decide +kernel
theorem dX12_follow_0 : decode cX12_follow 0 = .ok (.aload_n 0, 1) := by decide +kernel
theorem dX12_follow_1 : decode cX12_follow 1 = .ok (.invokevirtual 193, 3) := by decide +kernel
theorem dX12_follow_4 : decode cX12_follow 4 = .ok (.ifCond .ne 6, 3) := by decide +kernel
theorem dX12_follow_7 : decode cX12_follow 7 = .ok (.ldc 196, 2) := by decide +kernel
theorem dX12_follow_9 : decode cX12_follow 9 = .ok (.ireturn, 1) := by decide +kernel
theorem dX12_follow_10 : decode cX12_follow 10 = .ok (.iconst 0, 1) := by decide +kernel
theorem dX12_follow_11 : decode cX12_follow 11 = .ok (.istore_n 1, 1) := by decide +kernel
theorem dX12_follow_12 : decode cX12_follow 12 = .ok (.iconst 0, 1) := by decide +kernel
theorem dX12_follow_13 : decode cX12_follow 13 = .ok (.istore_n 2, 1) := by decide +kernel
theorem dX12_follow_14 : decode cX12_follow 14 = .ok (.iload_n 2, 1) := by decide +kernel
theorem dX12_follow_15 : decode cX12_follow 15 = .ok (.iconst 1, 1) := by decide +kernel
theorem dX12_follow_16 : decode cX12_follow 16 = .ok (.aload_n 0, 1) := by decide +kernel
theorem dX12_follow_17 : decode cX12_follow 17 = .ok (.getfield 72, 3) := by decide +kernel
theorem dX12_follow_20 : decode cX12_follow 20 = .ok (.ishl, 1) := by decide +kernel
theorem dX12_follow_21 : decode cX12_follow 21 = .ok (.iconst 1, 1) := by decide +kernel
theorem dX12_follow_22 : decode cX12_follow 22 = .ok (.isub, 1) := by decide +kernel
theorem dX12_follow_23 : decode cX12_follow 23 = .ok (.if_icmp .ge 28, 3) := by decide +kernel
theorem dX12_follow_26 : decode cX12_follow 26 = .ok (.iload_n 1, 1) := by decide +kernel
theorem dX12_follow_27 : decode cX12_follow 27 = .ok (.iload_n 2, 1) := by decide +kernel
theorem dX12_follow_28 : decode cX12_follow 28 = .ok (.aload_n 0, 1) := by decide +kernel
theorem dX12_follow_29 : decode cX12_follow 29 = .ok (.getfield 72, 3) := by decide +kernel
theorem dX12_follow_32 : decode cX12_follow 32 = .ok (.invokestatic 122, 3) := by decide +kernel
theorem dX12_follow_35 : decode cX12_follow 35 = .ok (.ifCond .eq 7, 3) := by decide +kernel
theorem dX12_follow_38 : decode cX12_follow 38 = .ok (.iconst 1, 1) := by decide +kernel
theorem dX12_follow_39 : decode cX12_follow 39 = .ok (.goto 4, 3) := by decide +kernel
theorem dX12_follow_42 : decode cX12_follow 42 = .ok (.iconst 0, 1) := by decide +kernel
theorem dX12_follow_43 : decode cX12_follow 43 = .ok (.iadd, 1) := by decide +kernel
theorem dX12_follow_44 : decode cX12_follow 44 = .ok (.istore_n 1, 1) := by decide +kernel
theorem dX12_follow_45 : decode cX12_follow 45 = .ok (.iinc 2 1, 3) := by decide +kernel
theorem dX12_follow_48 : decode cX12_follow 48 = .ok (.goto (-34), 3) := by decide +kernel
theorem dX12_follow_51 : decode cX12_follow 51 = .ok (.iload_n 1, 1) := by decide +kernel
theorem dX12_follow_52 : decode cX12_follow 52 = .ok (.ireturn, 1) := by decide +kernel
theorem dX12_without_0 : decode cX12_without 0 = .ok (.iconst 0, 1) := by decide +kernel
theorem dX12_without_1 : decode cX12_without 1 = .ok (.istore_n 2, 1) := by decide +kernel
theorem dX12_without_2 : decode cX12_without 2 = .ok (.iconst 0, 1) := by decide +kernel
theorem dX12_without_3 : decode cX12_without 3 = .ok (.istore_n 3, 1) := by decide +kernel
theorem dX12_without_4 : decode cX12_without 4 = .ok (.iload_n 3, 1) := by decide +kernel
theorem dX12_without_5 : decode cX12_without 5 = .ok (.aload_n 0, 1) := by decide +kernel
theorem dX12_without_6 : decode cX12_without 6 = .ok (.getfield 72, 3) := by decide +kernel
theorem dX12_without_9 : decode cX12_without 9 = .ok (.if_icmp .ge 41, 3) := by decide +kernel
theorem dX12_without_12 : decode cX12_without 12 = .ok (.aload_n 0, 1) := by decide +kernel
theorem dX12_without_13 : decode cX12_without 13 = .ok (.getfield 38, 3) := by decide +kernel
theorem dX12_without_16 : decode cX12_without 16 = .ok (.iconst 5, 1) := by decide +kernel
theorem dX12_without_17 : decode cX12_without 17 = .ok (.iload_n 3, 1) := by decide +kernel
theorem dX12_without_18 : decode cX12_without 18 = .ok (.iadd, 1) := by decide +kernel
theorem dX12_without_19 : decode cX12_without 19 = .ok (.iaload, 1) := by decide +kernel
theorem dX12_without_20 : decode cX12_without 20 = .ok (.iload_n 1, 1) := by decide +kernel
theorem dX12_without_21 : decode cX12_without 21 = .ok (.if_icmp .ne 7, 3) := by decide +kernel
theorem dX12_without_24 : decode cX12_without 24 = .ok (.iload_n 2, 1) := by decide +kernel
theorem dX12_without_25 : decode cX12_without 25 = .ok (.goto 18, 3) := by decide +kernel
theorem dX12_without_28 : decode cX12_without 28 = .ok (.bipush 10, 2) := by decide +kernel
theorem dX12_without_30 : decode cX12_without 30 = .ok (.iload_n 2, 1) := by decide +kernel
theorem dX12_without_31 : decode cX12_without 31 = .ok (.imul, 1) := by decide +kernel
theorem dX12_without_32 : decode cX12_without 32 = .ok (.aload_n 0, 1) := by decide +kernel
theorem dX12_without_33 : decode cX12_without 33 = .ok (.getfield 38, 3) := by decide +kernel
theorem dX12_without_36 : decode cX12_without 36 = .ok (.iconst 5, 1) := by decide +kernel
theorem dX12_without_37 : decode cX12_without 37 = .ok (.iload_n 3, 1) := by decide +kernel
theorem dX12_without_38 : decode cX12_without 38 = .ok (.iadd, 1) := by decide +kernel
theorem dX12_without_39 : decode cX12_without 39 = .ok (.iaload, 1) := by decide +kernel
theorem dX12_without_40 : decode cX12_without 40 = .ok (.iadd, 1) := by decide +kernel
theorem dX12_without_41 : decode cX12_without 41 = .ok (.iconst 1, 1) := by decide +kernel
theorem dX12_without_42 : decode cX12_without 42 = .ok (.iadd, 1) := by decide +kernel
theorem dX12_without_43 : decode cX12_without 43 = .ok (.istore_n 2, 1) := by decide +kernel
theorem dX12_without_44 : decode cX12_without 44 = .ok (.iinc 3 1, 3) := by decide +kernel
theorem dX12_without_47 : decode cX12_without 47 = .ok (.goto (-43), 3) := by decide +kernel
theorem dX12_without_50 : decode cX12_without 50 = .ok (.iload_n 2, 1) := by decide +kernel
theorem dX12_without_51 : decode cX12_without 51 = .ok (.ireturn, 1) := by decide +kernel
theorem dX12_gap_0 : decode cX12_gap 0 = .ok (.aload_n 0, 1) := by decide +kernel
theorem dX12_gap_1 : decode cX12_gap 1 = .ok (.iload_n 1, 1) := by decide +kernel
theorem dX12_gap_2 : decode cX12_gap 2 = .ok (.invokevirtual 197, 3) := by decide +kernel
theorem dX12_gap_5 : decode cX12_gap 5 = .ok (.ifCond .ne 6, 3) := by decide +kernel
theorem dX12_gap_8 : decode cX12_gap 8 = .ok (.ldc 200, 2) := by decide +kernel
theorem dX12_gap_10 : decode cX12_gap 10 = .ok (.ireturn, 1) := by decide +kernel
theorem dX12_gap_11 : decode cX12_gap 11 = .ok (.iload_n 2, 1) := by decide +kernel
theorem dX12_gap_12 : decode cX12_gap 12 = .ok (.iconst 1, 1) := by decide +kernel
theorem dX12_gap_13 : decode cX12_gap 13 = .ok (.sipush 500, 3) := by decide +kernel
theorem dX12_gap_16 : decode cX12_gap 16 = .ok (.invokestatic 75, 3) := by decide +kernel
theorem dX12_gap_19 : decode cX12_gap 19 = .ok (.ifCond .ne 6, 3) := by decide +kernel
theorem dX12_gap_22 : decode cX12_gap 22 = .ok (.ldc 82, 2) := by decide +kernel
theorem dX12_gap_24 : decode cX12_gap 24 = .ok (.ireturn, 1) := by decide +kernel
theorem dX12_gap_25 : decode cX12_gap 25 = .ok (.aload_n 0, 1) := by decide +kernel
theorem dX12_gap_26 : decode cX12_gap 26 = .ok (.invokevirtual 249, 3) := by decide +kernel
theorem dX12_gap_29 : decode cX12_gap 29 = .ok (.aload_n 0, 1) := by decide +kernel
theorem dX12_gap_30 : decode cX12_gap 30 = .ok (.iconst 0, 1) := by decide +kernel
theorem dX12_gap_31 : decode cX12_gap 31 = .ok (.putfield 259, 3) := by decide +kernel
theorem dX12_gap_34 : decode cX12_gap 34 = .ok (.aload_n 0, 1) := by decide +kernel
theorem dX12_gap_35 : decode cX12_gap 35 = .ok (.aload_n 0, 1) := by decide +kernel
theorem dX12_gap_36 : decode cX12_gap 36 = .ok (.iload_n 1, 1) := by decide +kernel
theorem dX12_gap_37 : decode cX12_gap 37 = .ok (.invokevirtual 277, 3) := by decide +kernel
theorem dX12_gap_40 : decode cX12_gap 40 = .ok (.invokevirtual 262, 3) := by decide +kernel
theorem dX12_gap_43 : decode cX12_gap 43 = .ok (.ifCond .eq 7, 3) := by decide +kernel
theorem dX12_gap_46 : decode cX12_gap 46 = .ok (.iconst 1, 1) := by decide +kernel
theorem dX12_gap_47 : decode cX12_gap 47 = .ok (.goto 4, 3) := by decide +kernel
theorem dX12_gap_50 : decode cX12_gap 50 = .ok (.iconst 0, 1) := by decide +kernel
theorem dX12_gap_51 : decode cX12_gap 51 = .ok (.istore_n 3, 1) := by decide +kernel
theorem dX12_gap_52 : decode cX12_gap 52 = .ok (.iconst 0, 1) := by decide +kernel
theorem dX12_gap_53 : decode cX12_gap 53 = .ok (.istore 4, 2) := by decide +kernel
theorem dX12_gap_55 : decode cX12_gap 55 = .ok (.iload 4, 2) := by decide +kernel
theorem dX12_gap_57 : decode cX12_gap 57 = .ok (.iload_n 2, 1) := by decide +kernel
theorem dX12_gap_58 : decode cX12_gap 58 = .ok (.if_icmp .ge 34, 3) := by decide +kernel
theorem dX12_gap_61 : decode cX12_gap 61 = .ok (.aload_n 0, 1) := by decide +kernel
theorem dX12_gap_62 : decode cX12_gap 62 = .ok (.iconst 1, 1) := by decide +kernel
theorem dX12_gap_63 : decode cX12_gap 63 = .ok (.invokevirtual 252, 3) := by decide +kernel
theorem dX12_gap_66 : decode cX12_gap 66 = .ok (.iload_n 3, 1) := by decide +kernel
theorem dX12_gap_67 : decode cX12_gap 67 = .ok (.aload_n 0, 1) := by decide +kernel
theorem dX12_gap_68 : decode cX12_gap 68 = .ok (.aload_n 0, 1) := by decide +kernel
theorem dX12_gap_69 : decode cX12_gap 69 = .ok (.iload_n 1, 1) := by decide +kernel
theorem dX12_gap_70 : decode cX12_gap 70 = .ok (.invokevirtual 277, 3) := by decide +kernel
theorem dX12_gap_73 : decode cX12_gap 73 = .ok (.invokevirtual 262, 3) := by decide +kernel
theorem dX12_gap_76 : decode cX12_gap 76 = .ok (.ifCond .eq 7, 3) := by decide +kernel
theorem dX12_gap_79 : decode cX12_gap 79 = .ok (.iconst 1, 1) := by decide +kernel
theorem dX12_gap_80 : decode cX12_gap 80 = .ok (.goto 4, 3) := by decide +kernel
theorem dX12_gap_83 : decode cX12_gap 83 = .ok (.iconst 0, 1) := by decide +kernel
theorem dX12_gap_84 : decode cX12_gap 84 = .ok (.iadd, 1) := by decide +kernel
theorem dX12_gap_85 : decode cX12_gap 85 = .ok (.istore_n 3, 1) := by decide +kernel
theorem dX12_gap_86 : decode cX12_gap 86 = .ok (.iinc 4 1, 3) := by decide +kernel
theorem dX12_gap_89 : decode cX12_gap 89 = .ok (.goto (-34), 3) := by decide +kernel
theorem dX12_gap_92 : decode cX12_gap 92 = .ok (.iload_n 3, 1) := by decide +kernel
theorem dX12_gap_93 : decode cX12_gap 93 = .ok (.ireturn, 1) := by decide +kernel
theorem dX12_dry_0 : decode cX12_dry 0 = .ok (.iload_n 1, 1) := by decide +kernel
theorem dX12_dry_1 : decode cX12_dry 1 = .ok (.iconst 0, 1) := by decide +kernel
theorem dX12_dry_2 : decode cX12_dry 2 = .ok (.bipush 60, 2) := by decide +kernel
theorem dX12_dry_4 : decode cX12_dry 4 = .ok (.invokestatic 75, 3) := by decide +kernel
theorem dX12_dry_7 : decode cX12_dry 7 = .ok (.ifCond .eq 13, 3) := by decide +kernel
theorem dX12_dry_10 : decode cX12_dry 10 = .ok (.iload_n 2, 1) := by decide +kernel
theorem dX12_dry_11 : decode cX12_dry 11 = .ok (.iconst 0, 1) := by decide +kernel
theorem dX12_dry_12 : decode cX12_dry 12 = .ok (.bipush 100, 2) := by decide +kernel
theorem dX12_dry_14 : decode cX12_dry 14 = .ok (.invokestatic 75, 3) := by decide +kernel
theorem dX12_dry_17 : decode cX12_dry 17 = .ok (.ifCond .ne 6, 3) := by decide +kernel
theorem dX12_dry_20 : decode cX12_dry 20 = .ok (.ldc 82, 2) := by decide +kernel
theorem dX12_dry_22 : decode cX12_dry 22 = .ok (.ireturn, 1) := by decide +kernel
theorem dX12_dry_23 : decode cX12_dry 23 = .ok (.ldc2_w 280, 3) := by decide +kernel
theorem dX12_dry_26 : decode cX12_dry 26 = .ok (.lstore_n 3, 1) := by decide +kernel
theorem dX12_dry_27 : decode cX12_dry 27 = .ok (.iconst 0, 1) := by decide +kernel
theorem dX12_dry_28 : decode cX12_dry 28 = .ok (.istore 5, 2) := by decide +kernel
theorem dX12_dry_30 : decode cX12_dry 30 = .ok (.iload 5, 2) := by decide +kernel
theorem dX12_dry_32 : decode cX12_dry 32 = .ok (.iload_n 1, 1) := by decide +kernel
theorem dX12_dry_33 : decode cX12_dry 33 = .ok (.if_icmp .ge 18, 3) := by decide +kernel
theorem dX12_dry_36 : decode cX12_dry 36 = .ok (.lload_n 3, 1) := by decide +kernel
theorem dX12_dry_37 : decode cX12_dry 37 = .ok (.iload_n 2, 1) := by decide +kernel
theorem dX12_dry_38 : decode cX12_dry 38 = .ok (.i2l, 1) := by decide +kernel
theorem dX12_dry_39 : decode cX12_dry 39 = .ok (.lmul, 1) := by decide +kernel
theorem dX12_dry_40 : decode cX12_dry 40 = .ok (.ldc2_w 282, 3) := by decide +kernel
theorem dX12_dry_43 : decode cX12_dry 43 = .ok (.ldiv, 1) := by decide +kernel
theorem dX12_dry_44 : decode cX12_dry 44 = .ok (.lstore_n 3, 1) := by decide +kernel
theorem dX12_dry_45 : decode cX12_dry 45 = .ok (.iinc 5 1, 3) := by decide +kernel
theorem dX12_dry_48 : decode cX12_dry 48 = .ok (.goto (-18), 3) := by decide +kernel
theorem dX12_dry_51 : decode cX12_dry 51 = .ok (.lload_n 3, 1) := by decide +kernel
theorem dX12_dry_52 : decode cX12_dry 52 = .ok (.l2i, 1) := by decide +kernel
theorem dX12_dry_53 : decode cX12_dry 53 = .ok (.ireturn, 1) := by decide +kernel
theorem dX12_hear_0 : decode cX12_hear 0 = .ok (.iload_n 1, 1) := by decide +kernel
theorem dX12_hear_1 : decode cX12_hear 1 = .ok (.iconst 0, 1) := by decide +kernel
theorem dX12_hear_2 : decode cX12_hear 2 = .ok (.sipush 500, 3) := by decide +kernel
theorem dX12_hear_5 : decode cX12_hear 5 = .ok (.invokestatic 75, 3) := by decide +kernel
theorem dX12_hear_8 : decode cX12_hear 8 = .ok (.ifCond .eq 11, 3) := by decide +kernel
theorem dX12_hear_11 : decode cX12_hear 11 = .ok (.aload_n 0, 1) := by decide +kernel
theorem dX12_hear_12 : decode cX12_hear 12 = .ok (.iload_n 2, 1) := by decide +kernel
theorem dX12_hear_13 : decode cX12_hear 13 = .ok (.invokevirtual 274, 3) := by decide +kernel
theorem dX12_hear_16 : decode cX12_hear 16 = .ok (.ifCond .ne 6, 3) := by decide +kernel
theorem dX12_hear_19 : decode cX12_hear 19 = .ok (.ldc 82, 2) := by decide +kernel
theorem dX12_hear_21 : decode cX12_hear 21 = .ok (.ireturn, 1) := by decide +kernel
theorem dX12_hear_22 : decode cX12_hear 22 = .ok (.aload_n 0, 1) := by decide +kernel
theorem dX12_hear_23 : decode cX12_hear 23 = .ok (.getfield 173, 3) := by decide +kernel
theorem dX12_hear_26 : decode cX12_hear 26 = .ok (.bipush 6, 2) := by decide +kernel
theorem dX12_hear_28 : decode cX12_hear 28 = .ok (.if_icmp .ne 6, 3) := by decide +kernel
theorem dX12_hear_31 : decode cX12_hear 31 = .ok (.ldc 86, 2) := by decide +kernel
theorem dX12_hear_33 : decode cX12_hear 33 = .ok (.ireturn, 1) := by decide +kernel
theorem dX12_hear_34 : decode cX12_hear 34 = .ok (.aload_n 0, 1) := by decide +kernel
theorem dX12_hear_35 : decode cX12_hear 35 = .ok (.getfield 54, 3) := by decide +kernel
theorem dX12_hear_38 : decode cX12_hear 38 = .ok (.iconst 2, 1) := by decide +kernel
theorem dX12_hear_39 : decode cX12_hear 39 = .ok (.aload_n 0, 1) := by decide +kernel
theorem dX12_hear_40 : decode cX12_hear 40 = .ok (.getfield 173, 3) := by decide +kernel
theorem dX12_hear_43 : decode cX12_hear 43 = .ok (.imul, 1) := by decide +kernel
theorem dX12_hear_44 : decode cX12_hear 44 = .ok (.iload_n 1, 1) := by decide +kernel
theorem dX12_hear_45 : decode cX12_hear 45 = .ok (.iastore, 1) := by decide +kernel
theorem dX12_hear_46 : decode cX12_hear 46 = .ok (.aload_n 0, 1) := by decide +kernel
theorem dX12_hear_47 : decode cX12_hear 47 = .ok (.getfield 54, 3) := by decide +kernel
theorem dX12_hear_50 : decode cX12_hear 50 = .ok (.iconst 2, 1) := by decide +kernel
theorem dX12_hear_51 : decode cX12_hear 51 = .ok (.aload_n 0, 1) := by decide +kernel
theorem dX12_hear_52 : decode cX12_hear 52 = .ok (.getfield 173, 3) := by decide +kernel
theorem dX12_hear_55 : decode cX12_hear 55 = .ok (.imul, 1) := by decide +kernel
theorem dX12_hear_56 : decode cX12_hear 56 = .ok (.iconst 1, 1) := by decide +kernel
theorem dX12_hear_57 : decode cX12_hear 57 = .ok (.iadd, 1) := by decide +kernel
theorem dX12_hear_58 : decode cX12_hear 58 = .ok (.iload_n 2, 1) := by decide +kernel
theorem dX12_hear_59 : decode cX12_hear 59 = .ok (.iastore, 1) := by decide +kernel
theorem dX12_hear_60 : decode cX12_hear 60 = .ok (.aload_n 0, 1) := by decide +kernel
theorem dX12_hear_61 : decode cX12_hear 61 = .ok (.dup, 1) := by decide +kernel
theorem dX12_hear_62 : decode cX12_hear 62 = .ok (.getfield 173, 3) := by decide +kernel
theorem dX12_hear_65 : decode cX12_hear 65 = .ok (.iconst 1, 1) := by decide +kernel
theorem dX12_hear_66 : decode cX12_hear 66 = .ok (.iadd, 1) := by decide +kernel
theorem dX12_hear_67 : decode cX12_hear 67 = .ok (.putfield 173, 3) := by decide +kernel
theorem dX12_hear_70 : decode cX12_hear 70 = .ok (.aload_n 0, 1) := by decide +kernel
theorem dX12_hear_71 : decode cX12_hear 71 = .ok (.getfield 173, 3) := by decide +kernel
theorem dX12_hear_74 : decode cX12_hear 74 = .ok (.ireturn, 1) := by decide +kernel
theorem dX12_layTrue_0 : decode cX12_layTrue 0 = .ok (.aload_n 0, 1) := by decide +kernel
theorem dX12_layTrue_1 : decode cX12_layTrue 1 = .ok (.getfield 38, 3) := by decide +kernel
theorem dX12_layTrue_4 : decode cX12_layTrue 4 = .ok (.invokestatic 169, 3) := by decide +kernel
theorem dX12_layTrue_7 : decode cX12_layTrue 7 = .ok (.iconst 0, 1) := by decide +kernel
theorem dX12_layTrue_8 : decode cX12_layTrue 8 = .ok (.istore_n 2, 1) := by decide +kernel
theorem dX12_layTrue_9 : decode cX12_layTrue 9 = .ok (.iload_n 2, 1) := by decide +kernel
theorem dX12_layTrue_10 : decode cX12_layTrue 10 = .ok (.iload_n 1, 1) := by decide +kernel
theorem dX12_layTrue_11 : decode cX12_layTrue 11 = .ok (.if_icmp .ge 28, 3) := by decide +kernel
theorem dX12_layTrue_14 : decode cX12_layTrue 14 = .ok (.aload_n 0, 1) := by decide +kernel
theorem dX12_layTrue_15 : decode cX12_layTrue 15 = .ok (.aload_n 0, 1) := by decide +kernel
theorem dX12_layTrue_16 : decode cX12_layTrue 16 = .ok (.getfield 38, 3) := by decide +kernel
theorem dX12_layTrue_19 : decode cX12_layTrue 19 = .ok (.aload_n 0, 1) := by decide +kernel
theorem dX12_layTrue_20 : decode cX12_layTrue 20 = .ok (.getfield 29, 3) := by decide +kernel
theorem dX12_layTrue_23 : decode cX12_layTrue 23 = .ok (.iload_n 2, 1) := by decide +kernel
theorem dX12_layTrue_24 : decode cX12_layTrue 24 = .ok (.aload_n 0, 1) := by decide +kernel
theorem dX12_layTrue_25 : decode cX12_layTrue 25 = .ok (.getfield 163, 3) := by decide +kernel
theorem dX12_layTrue_28 : decode cX12_layTrue 28 = .ok (.irem, 1) := by decide +kernel
theorem dX12_layTrue_29 : decode cX12_layTrue 29 = .ok (.iaload, 1) := by decide +kernel
theorem dX12_layTrue_30 : decode cX12_layTrue 30 = .ok (.invokevirtual 212, 3) := by decide +kernel
theorem dX12_layTrue_33 : decode cX12_layTrue 33 = .ok (.iinc 2 1, 3) := by decide +kernel
theorem dX12_layTrue_36 : decode cX12_layTrue 36 = .ok (.goto (-27), 3) := by decide +kernel
theorem dX12_layTrue_39 : decode cX12_layTrue 39 = .ok (.return_, 1) := by decide +kernel
theorem dX12_heardOf_0 : decode cX12_heardOf 0 = .ok (.aload_n 0, 1) := by decide +kernel
theorem dX12_heardOf_1 : decode cX12_heardOf 1 = .ok (.aload_n 0, 1) := by decide +kernel
theorem dX12_heardOf_2 : decode cX12_heardOf 2 = .ok (.getfield 38, 3) := by decide +kernel
theorem dX12_heardOf_5 : decode cX12_heardOf 5 = .ok (.iload_n 1, 1) := by decide +kernel
theorem dX12_heardOf_6 : decode cX12_heardOf 6 = .ok (.invokevirtual 201, 3) := by decide +kernel
theorem dX12_heardOf_9 : decode cX12_heardOf 9 = .ok (.istore_n 2, 1) := by decide +kernel
theorem dX12_heardOf_10 : decode cX12_heardOf 10 = .ok (.iload_n 2, 1) := by decide +kernel
theorem dX12_heardOf_11 : decode cX12_heardOf 11 = .ok (.aload_n 0, 1) := by decide +kernel
theorem dX12_heardOf_12 : decode cX12_heardOf 12 = .ok (.getfield 72, 3) := by decide +kernel
theorem dX12_heardOf_15 : decode cX12_heardOf 15 = .ok (.iconst 1, 1) := by decide +kernel
theorem dX12_heardOf_16 : decode cX12_heardOf 16 = .ok (.isub, 1) := by decide +kernel
theorem dX12_heardOf_17 : decode cX12_heardOf 17 = .ok (.if_icmp .ne 12, 3) := by decide +kernel
theorem dX12_heardOf_20 : decode cX12_heardOf 20 = .ok (.aload_n 0, 1) := by decide +kernel
theorem dX12_heardOf_21 : decode cX12_heardOf 21 = .ok (.aload_n 0, 1) := by decide +kernel
theorem dX12_heardOf_22 : decode cX12_heardOf 22 = .ok (.getfield 38, 3) := by decide +kernel
theorem dX12_heardOf_25 : decode cX12_heardOf 25 = .ok (.invokevirtual 182, 3) := by decide +kernel
theorem dX12_heardOf_28 : decode cX12_heardOf 28 = .ok (.ireturn, 1) := by decide +kernel
theorem dX12_heardOf_29 : decode cX12_heardOf 29 = .ok (.aload_n 0, 1) := by decide +kernel
theorem dX12_heardOf_30 : decode cX12_heardOf 30 = .ok (.getfield 38, 3) := by decide +kernel
theorem dX12_heardOf_33 : decode cX12_heardOf 33 = .ok (.iconst 5, 1) := by decide +kernel
theorem dX12_heardOf_34 : decode cX12_heardOf 34 = .ok (.iload_n 2, 1) := by decide +kernel
theorem dX12_heardOf_35 : decode cX12_heardOf 35 = .ok (.iadd, 1) := by decide +kernel
theorem dX12_heardOf_36 : decode cX12_heardOf 36 = .ok (.aload_n 0, 1) := by decide +kernel
theorem dX12_heardOf_37 : decode cX12_heardOf 37 = .ok (.getfield 38, 3) := by decide +kernel
theorem dX12_heardOf_40 : decode cX12_heardOf 40 = .ok (.iconst 5, 1) := by decide +kernel
theorem dX12_heardOf_41 : decode cX12_heardOf 41 = .ok (.iload_n 2, 1) := by decide +kernel
theorem dX12_heardOf_42 : decode cX12_heardOf 42 = .ok (.iadd, 1) := by decide +kernel
theorem dX12_heardOf_43 : decode cX12_heardOf 43 = .ok (.iconst 1, 1) := by decide +kernel
theorem dX12_heardOf_44 : decode cX12_heardOf 44 = .ok (.iadd, 1) := by decide +kernel
theorem dX12_heardOf_45 : decode cX12_heardOf 45 = .ok (.iaload, 1) := by decide +kernel
theorem dX12_heardOf_46 : decode cX12_heardOf 46 = .ok (.iastore, 1) := by decide +kernel
theorem dX12_heardOf_47 : decode cX12_heardOf 47 = .ok (.aload_n 0, 1) := by decide +kernel
theorem dX12_heardOf_48 : decode cX12_heardOf 48 = .ok (.getfield 38, 3) := by decide +kernel
theorem dX12_heardOf_51 : decode cX12_heardOf 51 = .ok (.iconst 5, 1) := by decide +kernel
theorem dX12_heardOf_52 : decode cX12_heardOf 52 = .ok (.iload_n 2, 1) := by decide +kernel
theorem dX12_heardOf_53 : decode cX12_heardOf 53 = .ok (.iadd, 1) := by decide +kernel
theorem dX12_heardOf_54 : decode cX12_heardOf 54 = .ok (.iconst 1, 1) := by decide +kernel
theorem dX12_heardOf_55 : decode cX12_heardOf 55 = .ok (.iadd, 1) := by decide +kernel
theorem dX12_heardOf_56 : decode cX12_heardOf 56 = .ok (.iload_n 1, 1) := by decide +kernel
theorem dX12_heardOf_57 : decode cX12_heardOf 57 = .ok (.iastore, 1) := by decide +kernel
theorem dX12_heardOf_58 : decode cX12_heardOf 58 = .ok (.aload_n 0, 1) := by decide +kernel
theorem dX12_heardOf_59 : decode cX12_heardOf 59 = .ok (.aload_n 0, 1) := by decide +kernel
theorem dX12_heardOf_60 : decode cX12_heardOf 60 = .ok (.getfield 38, 3) := by decide +kernel
theorem dX12_heardOf_63 : decode cX12_heardOf 63 = .ok (.invokevirtual 182, 3) := by decide +kernel
theorem dX12_heardOf_66 : decode cX12_heardOf 66 = .ok (.istore_n 3, 1) := by decide +kernel
theorem dX12_heardOf_67 : decode cX12_heardOf 67 = .ok (.aload_n 0, 1) := by decide +kernel
theorem dX12_heardOf_68 : decode cX12_heardOf 68 = .ok (.getfield 38, 3) := by decide +kernel
theorem dX12_heardOf_71 : decode cX12_heardOf 71 = .ok (.iconst 5, 1) := by decide +kernel
theorem dX12_heardOf_72 : decode cX12_heardOf 72 = .ok (.iload_n 2, 1) := by decide +kernel
theorem dX12_heardOf_73 : decode cX12_heardOf 73 = .ok (.iadd, 1) := by decide +kernel
theorem dX12_heardOf_74 : decode cX12_heardOf 74 = .ok (.iconst 1, 1) := by decide +kernel
theorem dX12_heardOf_75 : decode cX12_heardOf 75 = .ok (.iadd, 1) := by decide +kernel
theorem dX12_heardOf_76 : decode cX12_heardOf 76 = .ok (.aload_n 0, 1) := by decide +kernel
theorem dX12_heardOf_77 : decode cX12_heardOf 77 = .ok (.getfield 38, 3) := by decide +kernel
theorem dX12_heardOf_80 : decode cX12_heardOf 80 = .ok (.iconst 5, 1) := by decide +kernel
theorem dX12_heardOf_81 : decode cX12_heardOf 81 = .ok (.iload_n 2, 1) := by decide +kernel
theorem dX12_heardOf_82 : decode cX12_heardOf 82 = .ok (.iadd, 1) := by decide +kernel
theorem dX12_heardOf_83 : decode cX12_heardOf 83 = .ok (.iaload, 1) := by decide +kernel
theorem dX12_heardOf_84 : decode cX12_heardOf 84 = .ok (.iastore, 1) := by decide +kernel
theorem dX12_heardOf_85 : decode cX12_heardOf 85 = .ok (.aload_n 0, 1) := by decide +kernel
theorem dX12_heardOf_86 : decode cX12_heardOf 86 = .ok (.getfield 38, 3) := by decide +kernel
theorem dX12_heardOf_89 : decode cX12_heardOf 89 = .ok (.iconst 5, 1) := by decide +kernel
theorem dX12_heardOf_90 : decode cX12_heardOf 90 = .ok (.iload_n 2, 1) := by decide +kernel
theorem dX12_heardOf_91 : decode cX12_heardOf 91 = .ok (.iadd, 1) := by decide +kernel
theorem dX12_heardOf_92 : decode cX12_heardOf 92 = .ok (.iload_n 1, 1) := by decide +kernel
theorem dX12_heardOf_93 : decode cX12_heardOf 93 = .ok (.iastore, 1) := by decide +kernel
theorem dX12_heardOf_94 : decode cX12_heardOf 94 = .ok (.iload_n 3, 1) := by decide +kernel
theorem dX12_heardOf_95 : decode cX12_heardOf 95 = .ok (.ireturn, 1) := by decide +kernel
theorem dX12_lateOnes_0 : decode cX12_lateOnes 0 = .ok (.iconst 1, 1) := by decide +kernel
theorem dX12_lateOnes_1 : decode cX12_lateOnes 1 = .ok (.aload_n 0, 1) := by decide +kernel
theorem dX12_lateOnes_2 : decode cX12_lateOnes 2 = .ok (.getfield 72, 3) := by decide +kernel
theorem dX12_lateOnes_5 : decode cX12_lateOnes 5 = .ok (.ishl, 1) := by decide +kernel
theorem dX12_lateOnes_6 : decode cX12_lateOnes 6 = .ok (.iconst 1, 1) := by decide +kernel
theorem dX12_lateOnes_7 : decode cX12_lateOnes 7 = .ok (.isub, 1) := by decide +kernel
theorem dX12_lateOnes_8 : decode cX12_lateOnes 8 = .ok (.istore_n 1, 1) := by decide +kernel
theorem dX12_lateOnes_9 : decode cX12_lateOnes 9 = .ok (.iconst 0, 1) := by decide +kernel
theorem dX12_lateOnes_10 : decode cX12_lateOnes 10 = .ok (.istore_n 2, 1) := by decide +kernel
theorem dX12_lateOnes_11 : decode cX12_lateOnes 11 = .ok (.iload_n 2, 1) := by decide +kernel
theorem dX12_lateOnes_12 : decode cX12_lateOnes 12 = .ok (.aload_n 0, 1) := by decide +kernel
theorem dX12_lateOnes_13 : decode cX12_lateOnes 13 = .ok (.getfield 173, 3) := by decide +kernel
theorem dX12_lateOnes_16 : decode cX12_lateOnes 16 = .ok (.if_icmp .ge 67, 3) := by decide +kernel
theorem dX12_lateOnes_19 : decode cX12_lateOnes 19 = .ok (.aload_n 0, 1) := by decide +kernel
theorem dX12_lateOnes_20 : decode cX12_lateOnes 20 = .ok (.aload_n 0, 1) := by decide +kernel
theorem dX12_lateOnes_21 : decode cX12_lateOnes 21 = .ok (.getfield 54, 3) := by decide +kernel
theorem dX12_lateOnes_24 : decode cX12_lateOnes 24 = .ok (.iconst 2, 1) := by decide +kernel
theorem dX12_lateOnes_25 : decode cX12_lateOnes 25 = .ok (.iload_n 2, 1) := by decide +kernel
theorem dX12_lateOnes_26 : decode cX12_lateOnes 26 = .ok (.imul, 1) := by decide +kernel
theorem dX12_lateOnes_27 : decode cX12_lateOnes 27 = .ok (.iaload, 1) := by decide +kernel
theorem dX12_lateOnes_28 : decode cX12_lateOnes 28 = .ok (.invokevirtual 284, 3) := by decide +kernel
theorem dX12_lateOnes_31 : decode cX12_lateOnes 31 = .ok (.iconst 0, 1) := by decide +kernel
theorem dX12_lateOnes_32 : decode cX12_lateOnes 32 = .ok (.istore_n 3, 1) := by decide +kernel
theorem dX12_lateOnes_33 : decode cX12_lateOnes 33 = .ok (.iload_n 3, 1) := by decide +kernel
theorem dX12_lateOnes_34 : decode cX12_lateOnes 34 = .ok (.aload_n 0, 1) := by decide +kernel
theorem dX12_lateOnes_35 : decode cX12_lateOnes 35 = .ok (.getfield 72, 3) := by decide +kernel
theorem dX12_lateOnes_38 : decode cX12_lateOnes 38 = .ok (.if_icmp .ge 39, 3) := by decide +kernel
theorem dX12_lateOnes_41 : decode cX12_lateOnes 41 = .ok (.aload_n 0, 1) := by decide +kernel
theorem dX12_lateOnes_42 : decode cX12_lateOnes 42 = .ok (.iload_n 3, 1) := by decide +kernel
theorem dX12_lateOnes_43 : decode cX12_lateOnes 43 = .ok (.invokevirtual 287, 3) := by decide +kernel
theorem dX12_lateOnes_46 : decode cX12_lateOnes 46 = .ok (.aload_n 0, 1) := by decide +kernel
theorem dX12_lateOnes_47 : decode cX12_lateOnes 47 = .ok (.getfield 54, 3) := by decide +kernel
theorem dX12_lateOnes_50 : decode cX12_lateOnes 50 = .ok (.iconst 2, 1) := by decide +kernel
theorem dX12_lateOnes_51 : decode cX12_lateOnes 51 = .ok (.iload_n 2, 1) := by decide +kernel
theorem dX12_lateOnes_52 : decode cX12_lateOnes 52 = .ok (.imul, 1) := by decide +kernel
theorem dX12_lateOnes_53 : decode cX12_lateOnes 53 = .ok (.iconst 1, 1) := by decide +kernel
theorem dX12_lateOnes_54 : decode cX12_lateOnes 54 = .ok (.iadd, 1) := by decide +kernel
theorem dX12_lateOnes_55 : decode cX12_lateOnes 55 = .ok (.iaload, 1) := by decide +kernel
theorem dX12_lateOnes_56 : decode cX12_lateOnes 56 = .ok (.if_icmp .ne 7, 3) := by decide +kernel
theorem dX12_lateOnes_59 : decode cX12_lateOnes 59 = .ok (.iload_n 1, 1) := by decide +kernel
theorem dX12_lateOnes_60 : decode cX12_lateOnes 60 = .ok (.goto 10, 3) := by decide +kernel
theorem dX12_lateOnes_63 : decode cX12_lateOnes 63 = .ok (.iload_n 1, 1) := by decide +kernel
theorem dX12_lateOnes_64 : decode cX12_lateOnes 64 = .ok (.iconst 1, 1) := by decide +kernel
theorem dX12_lateOnes_65 : decode cX12_lateOnes 65 = .ok (.iload_n 3, 1) := by decide +kernel
theorem dX12_lateOnes_66 : decode cX12_lateOnes 66 = .ok (.ishl, 1) := by decide +kernel
theorem dX12_lateOnes_67 : decode cX12_lateOnes 67 = .ok (.iconst (-1), 1) := by decide +kernel
theorem dX12_lateOnes_68 : decode cX12_lateOnes 68 = .ok (.ixor, 1) := by decide +kernel
theorem dX12_lateOnes_69 : decode cX12_lateOnes 69 = .ok (.iand, 1) := by decide +kernel
theorem dX12_lateOnes_70 : decode cX12_lateOnes 70 = .ok (.istore_n 1, 1) := by decide +kernel
theorem dX12_lateOnes_71 : decode cX12_lateOnes 71 = .ok (.iinc 3 1, 3) := by decide +kernel
theorem dX12_lateOnes_74 : decode cX12_lateOnes 74 = .ok (.goto (-41), 3) := by decide +kernel
theorem dX12_lateOnes_77 : decode cX12_lateOnes 77 = .ok (.iinc 2 1, 3) := by decide +kernel
theorem dX12_lateOnes_80 : decode cX12_lateOnes 80 = .ok (.goto (-69), 3) := by decide +kernel
theorem dX12_lateOnes_83 : decode cX12_lateOnes 83 = .ok (.iload_n 1, 1) := by decide +kernel
theorem dX12_lateOnes_84 : decode cX12_lateOnes 84 = .ok (.ireturn, 1) := by decide +kernel
theorem dX12_listen_0 : decode cX12_listen 0 = .ok (.aload_n 0, 1) := by decide +kernel
theorem dX12_listen_1 : decode cX12_listen 1 = .ok (.invokevirtual 193, 3) := by decide +kernel
theorem dX12_listen_4 : decode cX12_listen 4 = .ok (.ifCond .ne 6, 3) := by decide +kernel
theorem dX12_listen_7 : decode cX12_listen 7 = .ok (.ldc 196, 2) := by decide +kernel
theorem dX12_listen_9 : decode cX12_listen 9 = .ok (.ireturn, 1) := by decide +kernel
theorem dX12_listen_10 : decode cX12_listen 10 = .ok (.aload_n 0, 1) := by decide +kernel
theorem dX12_listen_11 : decode cX12_listen 11 = .ok (.invokevirtual 189, 3) := by decide +kernel
theorem dX12_listen_14 : decode cX12_listen 14 = .ok (.istore_n 1, 1) := by decide +kernel
theorem dX12_listen_15 : decode cX12_listen 15 = .ok (.iconst (-1), 1) := by decide +kernel
theorem dX12_listen_16 : decode cX12_listen 16 = .ok (.istore_n 2, 1) := by decide +kernel
theorem dX12_listen_17 : decode cX12_listen 17 = .ok (.iload_n 1, 1) := by decide +kernel
theorem dX12_listen_18 : decode cX12_listen 18 = .ok (.invokestatic 290, 3) := by decide +kernel
theorem dX12_listen_21 : decode cX12_listen 21 = .ok (.istore_n 3, 1) := by decide +kernel
theorem dX12_listen_22 : decode cX12_listen 22 = .ok (.iconst 0, 1) := by decide +kernel
theorem dX12_listen_23 : decode cX12_listen 23 = .ok (.istore 4, 2) := by decide +kernel
theorem dX12_listen_25 : decode cX12_listen 25 = .ok (.iload 4, 2) := by decide +kernel
theorem dX12_listen_27 : decode cX12_listen 27 = .ok (.bipush 100, 2) := by decide +kernel
theorem dX12_listen_29 : decode cX12_listen 29 = .ok (.if_icmp .ge 175, 3) := by decide +kernel
theorem dX12_listen_32 : decode cX12_listen 32 = .ok (.aload_n 0, 1) := by decide +kernel
theorem dX12_listen_33 : decode cX12_listen 33 = .ok (.iload 4, 2) := by decide +kernel
theorem dX12_listen_35 : decode cX12_listen 35 = .ok (.invokevirtual 284, 3) := by decide +kernel
theorem dX12_listen_38 : decode cX12_listen 38 = .ok (.iconst 0, 1) := by decide +kernel
theorem dX12_listen_39 : decode cX12_listen 39 = .ok (.istore 5, 2) := by decide +kernel
theorem dX12_listen_41 : decode cX12_listen 41 = .ok (.iload 5, 2) := by decide +kernel
theorem dX12_listen_43 : decode cX12_listen 43 = .ok (.aload_n 0, 1) := by decide +kernel
theorem dX12_listen_44 : decode cX12_listen 44 = .ok (.getfield 72, 3) := by decide +kernel
theorem dX12_listen_47 : decode cX12_listen 47 = .ok (.if_icmp .ge 22, 3) := by decide +kernel
theorem dX12_listen_50 : decode cX12_listen 50 = .ok (.aload_n 0, 1) := by decide +kernel
theorem dX12_listen_51 : decode cX12_listen 51 = .ok (.getfield 69, 3) := by decide +kernel
theorem dX12_listen_54 : decode cX12_listen 54 = .ok (.iload 5, 2) := by decide +kernel
theorem dX12_listen_56 : decode cX12_listen 56 = .ok (.aload_n 0, 1) := by decide +kernel
theorem dX12_listen_57 : decode cX12_listen 57 = .ok (.iload 5, 2) := by decide +kernel
theorem dX12_listen_59 : decode cX12_listen 59 = .ok (.invokevirtual 287, 3) := by decide +kernel
theorem dX12_listen_62 : decode cX12_listen 62 = .ok (.iastore, 1) := by decide +kernel
theorem dX12_listen_63 : decode cX12_listen 63 = .ok (.iinc 5 1, 3) := by decide +kernel
theorem dX12_listen_66 : decode cX12_listen 66 = .ok (.goto (-25), 3) := by decide +kernel
theorem dX12_listen_69 : decode cX12_listen 69 = .ok (.iconst 0, 1) := by decide +kernel
theorem dX12_listen_70 : decode cX12_listen 70 = .ok (.istore 5, 2) := by decide +kernel
theorem dX12_listen_72 : decode cX12_listen 72 = .ok (.iconst 0, 1) := by decide +kernel
theorem dX12_listen_73 : decode cX12_listen 73 = .ok (.istore 6, 2) := by decide +kernel
theorem dX12_listen_75 : decode cX12_listen 75 = .ok (.iload 6, 2) := by decide +kernel
theorem dX12_listen_77 : decode cX12_listen 77 = .ok (.aload_n 0, 1) := by decide +kernel
theorem dX12_listen_78 : decode cX12_listen 78 = .ok (.getfield 72, 3) := by decide +kernel
theorem dX12_listen_81 : decode cX12_listen 81 = .ok (.if_icmp .ge 91, 3) := by decide +kernel
theorem dX12_listen_84 : decode cX12_listen 84 = .ok (.iconst 0, 1) := by decide +kernel
theorem dX12_listen_85 : decode cX12_listen 85 = .ok (.istore 7, 2) := by decide +kernel
theorem dX12_listen_87 : decode cX12_listen 87 = .ok (.iconst 0, 1) := by decide +kernel
theorem dX12_listen_88 : decode cX12_listen 88 = .ok (.istore 8, 2) := by decide +kernel
theorem dX12_listen_90 : decode cX12_listen 90 = .ok (.iload 8, 2) := by decide +kernel
theorem dX12_listen_92 : decode cX12_listen 92 = .ok (.aload_n 0, 1) := by decide +kernel
theorem dX12_listen_93 : decode cX12_listen 93 = .ok (.getfield 72, 3) := by decide +kernel
theorem dX12_listen_96 : decode cX12_listen 96 = .ok (.if_icmp .ge 54, 3) := by decide +kernel
theorem dX12_listen_99 : decode cX12_listen 99 = .ok (.iload 7, 2) := by decide +kernel
theorem dX12_listen_101 : decode cX12_listen 101 = .ok (.iload_n 1, 1) := by decide +kernel
theorem dX12_listen_102 : decode cX12_listen 102 = .ok (.iload 6, 2) := by decide +kernel
theorem dX12_listen_104 : decode cX12_listen 104 = .ok (.invokestatic 112, 3) := by decide +kernel
theorem dX12_listen_107 : decode cX12_listen 107 = .ok (.ifCond .eq 33, 3) := by decide +kernel
theorem dX12_listen_110 : decode cX12_listen 110 = .ok (.iload_n 1, 1) := by decide +kernel
theorem dX12_listen_111 : decode cX12_listen 111 = .ok (.iload 8, 2) := by decide +kernel
theorem dX12_listen_113 : decode cX12_listen 113 = .ok (.invokestatic 112, 3) := by decide +kernel
theorem dX12_listen_116 : decode cX12_listen 116 = .ok (.ifCond .eq 24, 3) := by decide +kernel
theorem dX12_listen_119 : decode cX12_listen 119 = .ok (.aload_n 0, 1) := by decide +kernel
theorem dX12_listen_120 : decode cX12_listen 120 = .ok (.getfield 69, 3) := by decide +kernel
theorem dX12_listen_123 : decode cX12_listen 123 = .ok (.iload 6, 2) := by decide +kernel
theorem dX12_listen_125 : decode cX12_listen 125 = .ok (.iaload, 1) := by decide +kernel
theorem dX12_listen_126 : decode cX12_listen 126 = .ok (.aload_n 0, 1) := by decide +kernel
theorem dX12_listen_127 : decode cX12_listen 127 = .ok (.getfield 69, 3) := by decide +kernel
theorem dX12_listen_130 : decode cX12_listen 130 = .ok (.iload 8, 2) := by decide +kernel
theorem dX12_listen_132 : decode cX12_listen 132 = .ok (.iaload, 1) := by decide +kernel
theorem dX12_listen_133 : decode cX12_listen 133 = .ok (.if_icmp .ne 7, 3) := by decide +kernel
theorem dX12_listen_136 : decode cX12_listen 136 = .ok (.iconst 1, 1) := by decide +kernel
theorem dX12_listen_137 : decode cX12_listen 137 = .ok (.goto 4, 3) := by decide +kernel
theorem dX12_listen_140 : decode cX12_listen 140 = .ok (.iconst 0, 1) := by decide +kernel
theorem dX12_listen_141 : decode cX12_listen 141 = .ok (.iadd, 1) := by decide +kernel
theorem dX12_listen_142 : decode cX12_listen 142 = .ok (.istore 7, 2) := by decide +kernel
theorem dX12_listen_144 : decode cX12_listen 144 = .ok (.iinc 8 1, 3) := by decide +kernel
theorem dX12_listen_147 : decode cX12_listen 147 = .ok (.goto (-57), 3) := by decide +kernel
theorem dX12_listen_150 : decode cX12_listen 150 = .ok (.iload 7, 2) := by decide +kernel
theorem dX12_listen_152 : decode cX12_listen 152 = .ok (.iload 5, 2) := by decide +kernel
theorem dX12_listen_154 : decode cX12_listen 154 = .ok (.if_icmp .le 8, 3) := by decide +kernel
theorem dX12_listen_157 : decode cX12_listen 157 = .ok (.iload 7, 2) := by decide +kernel
theorem dX12_listen_159 : decode cX12_listen 159 = .ok (.goto 5, 3) := by decide +kernel
theorem dX12_listen_162 : decode cX12_listen 162 = .ok (.iload 5, 2) := by decide +kernel
theorem dX12_listen_164 : decode cX12_listen 164 = .ok (.istore 5, 2) := by decide +kernel
theorem dX12_listen_166 : decode cX12_listen 166 = .ok (.iinc 6 1, 3) := by decide +kernel
theorem dX12_listen_169 : decode cX12_listen 169 = .ok (.goto (-94), 3) := by decide +kernel
theorem dX12_listen_172 : decode cX12_listen 172 = .ok (.iload 5, 2) := by decide +kernel
theorem dX12_listen_174 : decode cX12_listen 174 = .ok (.iload_n 3, 1) := by decide +kernel
theorem dX12_listen_175 : decode cX12_listen 175 = .ok (.if_icmp .ge 8, 3) := by decide +kernel
theorem dX12_listen_178 : decode cX12_listen 178 = .ok (.iload 4, 2) := by decide +kernel
theorem dX12_listen_180 : decode cX12_listen 180 = .ok (.goto 4, 3) := by decide +kernel
theorem dX12_listen_183 : decode cX12_listen 183 = .ok (.iload_n 2, 1) := by decide +kernel
theorem dX12_listen_184 : decode cX12_listen 184 = .ok (.istore_n 2, 1) := by decide +kernel
theorem dX12_listen_185 : decode cX12_listen 185 = .ok (.iload 5, 2) := by decide +kernel
theorem dX12_listen_187 : decode cX12_listen 187 = .ok (.iload_n 3, 1) := by decide +kernel
theorem dX12_listen_188 : decode cX12_listen 188 = .ok (.if_icmp .ge 8, 3) := by decide +kernel
theorem dX12_listen_191 : decode cX12_listen 191 = .ok (.iload 5, 2) := by decide +kernel
theorem dX12_listen_193 : decode cX12_listen 193 = .ok (.goto 4, 3) := by decide +kernel
theorem dX12_listen_196 : decode cX12_listen 196 = .ok (.iload_n 3, 1) := by decide +kernel
theorem dX12_listen_197 : decode cX12_listen 197 = .ok (.istore_n 3, 1) := by decide +kernel
theorem dX12_listen_198 : decode cX12_listen 198 = .ok (.iinc 4 1, 3) := by decide +kernel
theorem dX12_listen_201 : decode cX12_listen 201 = .ok (.goto (-176), 3) := by decide +kernel
theorem dX12_listen_204 : decode cX12_listen 204 = .ok (.iload_n 2, 1) := by decide +kernel
theorem dX12_listen_205 : decode cX12_listen 205 = .ok (.ireturn, 1) := by decide +kernel
theorem dX12_write_0 : decode cX12_write 0 = .ok (.aload_n 0, 1) := by decide +kernel
theorem dX12_write_1 : decode cX12_write 1 = .ok (.iload_n 1, 1) := by decide +kernel
theorem dX12_write_2 : decode cX12_write 2 = .ok (.invokevirtual 197, 3) := by decide +kernel
theorem dX12_write_5 : decode cX12_write 5 = .ok (.ifCond .eq 11, 3) := by decide +kernel
theorem dX12_write_8 : decode cX12_write 8 = .ok (.aload_n 0, 1) := by decide +kernel
theorem dX12_write_9 : decode cX12_write 9 = .ok (.iload_n 2, 1) := by decide +kernel
theorem dX12_write_10 : decode cX12_write 10 = .ok (.invokevirtual 197, 3) := by decide +kernel
theorem dX12_write_13 : decode cX12_write 13 = .ok (.ifCond .ne 6, 3) := by decide +kernel
theorem dX12_write_16 : decode cX12_write 16 = .ok (.ldc 200, 2) := by decide +kernel
theorem dX12_write_18 : decode cX12_write 18 = .ok (.ireturn, 1) := by decide +kernel
theorem dX12_write_19 : decode cX12_write 19 = .ok (.aload_n 0, 1) := by decide +kernel
theorem dX12_write_20 : decode cX12_write 20 = .ok (.getfield 176, 3) := by decide +kernel
theorem dX12_write_23 : decode cX12_write 23 = .ok (.bipush 15, 2) := by decide +kernel
theorem dX12_write_25 : decode cX12_write 25 = .ok (.if_icmp .ne 6, 3) := by decide +kernel
theorem dX12_write_28 : decode cX12_write 28 = .ok (.ldc 86, 2) := by decide +kernel
theorem dX12_write_30 : decode cX12_write 30 = .ok (.ireturn, 1) := by decide +kernel
theorem dX12_write_31 : decode cX12_write 31 = .ok (.aload_n 0, 1) := by decide +kernel
theorem dX12_write_32 : decode cX12_write 32 = .ok (.getfield 57, 3) := by decide +kernel
theorem dX12_write_35 : decode cX12_write 35 = .ok (.iconst 2, 1) := by decide +kernel
theorem dX12_write_36 : decode cX12_write 36 = .ok (.aload_n 0, 1) := by decide +kernel
theorem dX12_write_37 : decode cX12_write 37 = .ok (.getfield 176, 3) := by decide +kernel
theorem dX12_write_40 : decode cX12_write 40 = .ok (.imul, 1) := by decide +kernel
theorem dX12_write_41 : decode cX12_write 41 = .ok (.iload_n 1, 1) := by decide +kernel
theorem dX12_write_42 : decode cX12_write 42 = .ok (.iastore, 1) := by decide +kernel
theorem dX12_write_43 : decode cX12_write 43 = .ok (.aload_n 0, 1) := by decide +kernel
theorem dX12_write_44 : decode cX12_write 44 = .ok (.getfield 57, 3) := by decide +kernel
theorem dX12_write_47 : decode cX12_write 47 = .ok (.iconst 2, 1) := by decide +kernel
theorem dX12_write_48 : decode cX12_write 48 = .ok (.aload_n 0, 1) := by decide +kernel
theorem dX12_write_49 : decode cX12_write 49 = .ok (.getfield 176, 3) := by decide +kernel
theorem dX12_write_52 : decode cX12_write 52 = .ok (.imul, 1) := by decide +kernel
theorem dX12_write_53 : decode cX12_write 53 = .ok (.iconst 1, 1) := by decide +kernel
theorem dX12_write_54 : decode cX12_write 54 = .ok (.iadd, 1) := by decide +kernel
theorem dX12_write_55 : decode cX12_write 55 = .ok (.iload_n 2, 1) := by decide +kernel
theorem dX12_write_56 : decode cX12_write 56 = .ok (.iastore, 1) := by decide +kernel
theorem dX12_write_57 : decode cX12_write 57 = .ok (.aload_n 0, 1) := by decide +kernel
theorem dX12_write_58 : decode cX12_write 58 = .ok (.dup, 1) := by decide +kernel
theorem dX12_write_59 : decode cX12_write 59 = .ok (.getfield 176, 3) := by decide +kernel
theorem dX12_write_62 : decode cX12_write 62 = .ok (.iconst 1, 1) := by decide +kernel
theorem dX12_write_63 : decode cX12_write 63 = .ok (.iadd, 1) := by decide +kernel
theorem dX12_write_64 : decode cX12_write 64 = .ok (.putfield 176, 3) := by decide +kernel
theorem dX12_write_67 : decode cX12_write 67 = .ok (.aload_n 0, 1) := by decide +kernel
theorem dX12_write_68 : decode cX12_write 68 = .ok (.getfield 176, 3) := by decide +kernel
theorem dX12_write_71 : decode cX12_write 71 = .ok (.ireturn, 1) := by decide +kernel
theorem dX12_tear_0 : decode cX12_tear 0 = .ok (.aload_n 0, 1) := by decide +kernel
theorem dX12_tear_1 : decode cX12_tear 1 = .ok (.getfield 173, 3) := by decide +kernel
theorem dX12_tear_4 : decode cX12_tear 4 = .ok (.aload_n 0, 1) := by decide +kernel
theorem dX12_tear_5 : decode cX12_tear 5 = .ok (.getfield 176, 3) := by decide +kernel
theorem dX12_tear_8 : decode cX12_tear 8 = .ok (.iadd, 1) := by decide +kernel
theorem dX12_tear_9 : decode cX12_tear 9 = .ok (.istore_n 1, 1) := by decide +kernel
theorem dX12_tear_10 : decode cX12_tear 10 = .ok (.aload_n 0, 1) := by decide +kernel
theorem dX12_tear_11 : decode cX12_tear 11 = .ok (.iconst 0, 1) := by decide +kernel
theorem dX12_tear_12 : decode cX12_tear 12 = .ok (.putfield 173, 3) := by decide +kernel
theorem dX12_tear_15 : decode cX12_tear 15 = .ok (.aload_n 0, 1) := by decide +kernel
theorem dX12_tear_16 : decode cX12_tear 16 = .ok (.iconst 0, 1) := by decide +kernel
theorem dX12_tear_17 : decode cX12_tear 17 = .ok (.putfield 176, 3) := by decide +kernel
theorem dX12_tear_20 : decode cX12_tear 20 = .ok (.iload_n 1, 1) := by decide +kernel
theorem dX12_tear_21 : decode cX12_tear 21 = .ok (.ireturn, 1) := by decide +kernel
theorem dX12_judge_0 : decode cX12_judge 0 = .ok (.iconst 0, 1) := by decide +kernel
theorem dX12_judge_1 : decode cX12_judge 1 = .ok (.istore_n 1, 1) := by decide +kernel
theorem dX12_judge_2 : decode cX12_judge 2 = .ok (.iload_n 1, 1) := by decide +kernel
theorem dX12_judge_3 : decode cX12_judge 3 = .ok (.aload_n 0, 1) := by decide +kernel
theorem dX12_judge_4 : decode cX12_judge 4 = .ok (.getfield 176, 3) := by decide +kernel
theorem dX12_judge_7 : decode cX12_judge 7 = .ok (.if_icmp .ge 40, 3) := by decide +kernel
theorem dX12_judge_10 : decode cX12_judge 10 = .ok (.aload_n 0, 1) := by decide +kernel
theorem dX12_judge_11 : decode cX12_judge 11 = .ok (.aload_n 0, 1) := by decide +kernel
theorem dX12_judge_12 : decode cX12_judge 12 = .ok (.getfield 35, 3) := by decide +kernel
theorem dX12_judge_15 : decode cX12_judge 15 = .ok (.aload_n 0, 1) := by decide +kernel
theorem dX12_judge_16 : decode cX12_judge 16 = .ok (.getfield 57, 3) := by decide +kernel
theorem dX12_judge_19 : decode cX12_judge 19 = .ok (.iconst 2, 1) := by decide +kernel
theorem dX12_judge_20 : decode cX12_judge 20 = .ok (.iload_n 1, 1) := by decide +kernel
theorem dX12_judge_21 : decode cX12_judge 21 = .ok (.imul, 1) := by decide +kernel
theorem dX12_judge_22 : decode cX12_judge 22 = .ok (.iaload, 1) := by decide +kernel
theorem dX12_judge_23 : decode cX12_judge 23 = .ok (.invokevirtual 201, 3) := by decide +kernel
theorem dX12_judge_26 : decode cX12_judge 26 = .ok (.aload_n 0, 1) := by decide +kernel
theorem dX12_judge_27 : decode cX12_judge 27 = .ok (.getfield 57, 3) := by decide +kernel
theorem dX12_judge_30 : decode cX12_judge 30 = .ok (.iconst 2, 1) := by decide +kernel
theorem dX12_judge_31 : decode cX12_judge 31 = .ok (.iload_n 1, 1) := by decide +kernel
theorem dX12_judge_32 : decode cX12_judge 32 = .ok (.imul, 1) := by decide +kernel
theorem dX12_judge_33 : decode cX12_judge 33 = .ok (.iconst 1, 1) := by decide +kernel
theorem dX12_judge_34 : decode cX12_judge 34 = .ok (.iadd, 1) := by decide +kernel
theorem dX12_judge_35 : decode cX12_judge 35 = .ok (.iaload, 1) := by decide +kernel
theorem dX12_judge_36 : decode cX12_judge 36 = .ok (.if_icmp .eq 5, 3) := by decide +kernel
theorem dX12_judge_39 : decode cX12_judge 39 = .ok (.iload_n 1, 1) := by decide +kernel
theorem dX12_judge_40 : decode cX12_judge 40 = .ok (.ireturn, 1) := by decide +kernel
theorem dX12_judge_41 : decode cX12_judge 41 = .ok (.iinc 1 1, 3) := by decide +kernel
theorem dX12_judge_44 : decode cX12_judge 44 = .ok (.goto (-42), 3) := by decide +kernel
theorem dX12_judge_47 : decode cX12_judge 47 = .ok (.iconst (-1), 1) := by decide +kernel
theorem dX12_judge_48 : decode cX12_judge 48 = .ok (.ireturn, 1) := by decide +kernel
theorem dX12_seed_0 : decode cX12_seed 0 = .ok (.iload_n 1, 1) := by decide +kernel
theorem dX12_seed_1 : decode cX12_seed 1 = .ok (.ifCond .ge 6, 3) := by decide +kernel
theorem dX12_seed_4 : decode cX12_seed 4 = .ok (.ldc 82, 2) := by decide +kernel
theorem dX12_seed_6 : decode cX12_seed 6 = .ok (.ireturn, 1) := by decide +kernel
theorem dX12_seed_7 : decode cX12_seed 7 = .ok (.aload_n 0, 1) := by decide +kernel
theorem dX12_seed_8 : decode cX12_seed 8 = .ok (.getfield 233, 3) := by decide +kernel
theorem dX12_seed_11 : decode cX12_seed 11 = .ok (.istore_n 2, 1) := by decide +kernel
theorem dX12_seed_12 : decode cX12_seed 12 = .ok (.aload_n 0, 1) := by decide +kernel
theorem dX12_seed_13 : decode cX12_seed 13 = .ok (.iload_n 1, 1) := by decide +kernel
theorem dX12_seed_14 : decode cX12_seed 14 = .ok (.putfield 233, 3) := by decide +kernel
theorem dX12_seed_17 : decode cX12_seed 17 = .ok (.iload_n 2, 1) := by decide +kernel
theorem dX12_seed_18 : decode cX12_seed 18 = .ok (.ireturn, 1) := by decide +kernel
theorem dX12_keep_0 : decode cX12_keep 0 = .ok (.iload_n 1, 1) := by decide +kernel
theorem dX12_keep_1 : decode cX12_keep 1 = .ok (.iconst 0, 1) := by decide +kernel
theorem dX12_keep_2 : decode cX12_keep 2 = .ok (.iconst 1, 1) := by decide +kernel
theorem dX12_keep_3 : decode cX12_keep 3 = .ok (.invokestatic 75, 3) := by decide +kernel
theorem dX12_keep_6 : decode cX12_keep 6 = .ok (.ifCond .ne 6, 3) := by decide +kernel
theorem dX12_keep_9 : decode cX12_keep 9 = .ok (.ldc 200, 2) := by decide +kernel
theorem dX12_keep_11 : decode cX12_keep 11 = .ok (.ireturn, 1) := by decide +kernel
theorem dX12_keep_12 : decode cX12_keep 12 = .ok (.aload_n 0, 1) := by decide +kernel
theorem dX12_keep_13 : decode cX12_keep 13 = .ok (.getfield 35, 3) := by decide +kernel
theorem dX12_keep_16 : decode cX12_keep 16 = .ok (.iconst 0, 1) := by decide +kernel
theorem dX12_keep_17 : decode cX12_keep 17 = .ok (.aload_n 0, 1) := by decide +kernel
theorem dX12_keep_18 : decode cX12_keep 18 = .ok (.getfield 44, 3) := by decide +kernel
theorem dX12_keep_21 : decode cX12_keep 21 = .ok (.bipush 23, 2) := by decide +kernel
theorem dX12_keep_23 : decode cX12_keep 23 = .ok (.iload_n 1, 1) := by decide +kernel
theorem dX12_keep_24 : decode cX12_keep 24 = .ok (.imul, 1) := by decide +kernel
theorem dX12_keep_25 : decode cX12_keep 25 = .ok (.bipush 23, 2) := by decide +kernel
theorem dX12_keep_27 : decode cX12_keep 27 = .ok (.invokestatic 159, 3) := by decide +kernel
theorem dX12_keep_30 : decode cX12_keep 30 = .ok (.aload_n 0, 1) := by decide +kernel
theorem dX12_keep_31 : decode cX12_keep 31 = .ok (.getfield 47, 3) := by decide +kernel
theorem dX12_keep_34 : decode cX12_keep 34 = .ok (.iload_n 1, 1) := by decide +kernel
theorem dX12_keep_35 : decode cX12_keep 35 = .ok (.aload_n 0, 1) := by decide +kernel
theorem dX12_keep_36 : decode cX12_keep 36 = .ok (.getfield 233, 3) := by decide +kernel
theorem dX12_keep_39 : decode cX12_keep 39 = .ok (.iastore, 1) := by decide +kernel
theorem dX12_keep_40 : decode cX12_keep 40 = .ok (.aload_n 0, 1) := by decide +kernel
theorem dX12_keep_41 : decode cX12_keep 41 = .ok (.getfield 50, 3) := by decide +kernel
theorem dX12_keep_44 : decode cX12_keep 44 = .ok (.iload_n 1, 1) := by decide +kernel
theorem dX12_keep_45 : decode cX12_keep 45 = .ok (.iconst 1, 1) := by decide +kernel
theorem dX12_keep_46 : decode cX12_keep 46 = .ok (.bastore, 1) := by decide +kernel
theorem dX12_keep_47 : decode cX12_keep 47 = .ok (.aload_n 0, 1) := by decide +kernel
theorem dX12_keep_48 : decode cX12_keep 48 = .ok (.iconst 0, 1) := by decide +kernel
theorem dX12_keep_49 : decode cX12_keep 49 = .ok (.putfield 179, 3) := by decide +kernel
theorem dX12_keep_52 : decode cX12_keep 52 = .ok (.iconst 1, 1) := by decide +kernel
theorem dX12_keep_53 : decode cX12_keep 53 = .ok (.ireturn, 1) := by decide +kernel
theorem dX12_goBack_0 : decode cX12_goBack 0 = .ok (.iload_n 1, 1) := by decide +kernel
theorem dX12_goBack_1 : decode cX12_goBack 1 = .ok (.iconst 0, 1) := by decide +kernel
theorem dX12_goBack_2 : decode cX12_goBack 2 = .ok (.iconst 1, 1) := by decide +kernel
theorem dX12_goBack_3 : decode cX12_goBack 3 = .ok (.invokestatic 75, 3) := by decide +kernel
theorem dX12_goBack_6 : decode cX12_goBack 6 = .ok (.ifCond .ne 6, 3) := by decide +kernel
theorem dX12_goBack_9 : decode cX12_goBack 9 = .ok (.ldc 200, 2) := by decide +kernel
theorem dX12_goBack_11 : decode cX12_goBack 11 = .ok (.ireturn, 1) := by decide +kernel
theorem dX12_goBack_12 : decode cX12_goBack 12 = .ok (.aload_n 0, 1) := by decide +kernel
theorem dX12_goBack_13 : decode cX12_goBack 13 = .ok (.getfield 50, 3) := by decide +kernel
theorem dX12_goBack_16 : decode cX12_goBack 16 = .ok (.iload_n 1, 1) := by decide +kernel
theorem dX12_goBack_17 : decode cX12_goBack 17 = .ok (.baload, 1) := by decide +kernel
theorem dX12_goBack_18 : decode cX12_goBack 18 = .ok (.ifCond .ne 6, 3) := by decide +kernel
theorem dX12_goBack_21 : decode cX12_goBack 21 = .ok (.ldc 196, 2) := by decide +kernel
theorem dX12_goBack_23 : decode cX12_goBack 23 = .ok (.ireturn, 1) := by decide +kernel
theorem dX12_goBack_24 : decode cX12_goBack 24 = .ok (.aload_n 0, 1) := by decide +kernel
theorem dX12_goBack_25 : decode cX12_goBack 25 = .ok (.getfield 44, 3) := by decide +kernel
theorem dX12_goBack_28 : decode cX12_goBack 28 = .ok (.bipush 23, 2) := by decide +kernel
theorem dX12_goBack_30 : decode cX12_goBack 30 = .ok (.iload_n 1, 1) := by decide +kernel
theorem dX12_goBack_31 : decode cX12_goBack 31 = .ok (.imul, 1) := by decide +kernel
theorem dX12_goBack_32 : decode cX12_goBack 32 = .ok (.aload_n 0, 1) := by decide +kernel
theorem dX12_goBack_33 : decode cX12_goBack 33 = .ok (.getfield 35, 3) := by decide +kernel
theorem dX12_goBack_36 : decode cX12_goBack 36 = .ok (.iconst 0, 1) := by decide +kernel
theorem dX12_goBack_37 : decode cX12_goBack 37 = .ok (.bipush 23, 2) := by decide +kernel
theorem dX12_goBack_39 : decode cX12_goBack 39 = .ok (.invokestatic 159, 3) := by decide +kernel
theorem dX12_goBack_42 : decode cX12_goBack 42 = .ok (.aload_n 0, 1) := by decide +kernel
theorem dX12_goBack_43 : decode cX12_goBack 43 = .ok (.aload_n 0, 1) := by decide +kernel
theorem dX12_goBack_44 : decode cX12_goBack 44 = .ok (.getfield 47, 3) := by decide +kernel
theorem dX12_goBack_47 : decode cX12_goBack 47 = .ok (.iload_n 1, 1) := by decide +kernel
theorem dX12_goBack_48 : decode cX12_goBack 48 = .ok (.iaload, 1) := by decide +kernel
theorem dX12_goBack_49 : decode cX12_goBack 49 = .ok (.putfield 233, 3) := by decide +kernel
theorem dX12_goBack_52 : decode cX12_goBack 52 = .ok (.aload_n 0, 1) := by decide +kernel
theorem dX12_goBack_53 : decode cX12_goBack 53 = .ok (.iconst 0, 1) := by decide +kernel
theorem dX12_goBack_54 : decode cX12_goBack 54 = .ok (.putfield 179, 3) := by decide +kernel
theorem dX12_goBack_57 : decode cX12_goBack 57 = .ok (.iconst 1, 1) := by decide +kernel
theorem dX12_goBack_58 : decode cX12_goBack 58 = .ok (.ireturn, 1) := by decide +kernel
theorem dJ6_numberOfTrailingZeros_0f7a4_0 : decode cJ6_numberOfTrailingZeros_0f7a4 0 = .ok (.iload_n 0, 1) := by decide +kernel
theorem dJ6_numberOfTrailingZeros_0f7a4_1 : decode cJ6_numberOfTrailingZeros_0f7a4 1 = .ok (.iconst (-1), 1) := by decide +kernel
theorem dJ6_numberOfTrailingZeros_0f7a4_2 : decode cJ6_numberOfTrailingZeros_0f7a4 2 = .ok (.ixor, 1) := by decide +kernel
theorem dJ6_numberOfTrailingZeros_0f7a4_3 : decode cJ6_numberOfTrailingZeros_0f7a4 3 = .ok (.iload_n 0, 1) := by decide +kernel
theorem dJ6_numberOfTrailingZeros_0f7a4_4 : decode cJ6_numberOfTrailingZeros_0f7a4 4 = .ok (.iconst 1, 1) := by decide +kernel
theorem dJ6_numberOfTrailingZeros_0f7a4_5 : decode cJ6_numberOfTrailingZeros_0f7a4 5 = .ok (.isub, 1) := by decide +kernel
theorem dJ6_numberOfTrailingZeros_0f7a4_6 : decode cJ6_numberOfTrailingZeros_0f7a4 6 = .ok (.iand, 1) := by decide +kernel
theorem dJ6_numberOfTrailingZeros_0f7a4_7 : decode cJ6_numberOfTrailingZeros_0f7a4 7 = .ok (.istore_n 0, 1) := by decide +kernel
theorem dJ6_numberOfTrailingZeros_0f7a4_8 : decode cJ6_numberOfTrailingZeros_0f7a4 8 = .ok (.iload_n 0, 1) := by decide +kernel
theorem dJ6_numberOfTrailingZeros_0f7a4_9 : decode cJ6_numberOfTrailingZeros_0f7a4 9 = .ok (.ifCond .gt 8, 3) := by decide +kernel
theorem dJ6_numberOfTrailingZeros_0f7a4_12 : decode cJ6_numberOfTrailingZeros_0f7a4 12 = .ok (.iload_n 0, 1) := by decide +kernel
theorem dJ6_numberOfTrailingZeros_0f7a4_13 : decode cJ6_numberOfTrailingZeros_0f7a4 13 = .ok (.bipush 32, 2) := by decide +kernel
theorem dJ6_numberOfTrailingZeros_0f7a4_15 : decode cJ6_numberOfTrailingZeros_0f7a4 15 = .ok (.iand, 1) := by decide +kernel
theorem dJ6_numberOfTrailingZeros_0f7a4_16 : decode cJ6_numberOfTrailingZeros_0f7a4 16 = .ok (.ireturn, 1) := by decide +kernel
theorem dJ6_numberOfTrailingZeros_0f7a4_17 : decode cJ6_numberOfTrailingZeros_0f7a4 17 = .ok (.iconst 1, 1) := by decide +kernel
theorem dJ6_numberOfTrailingZeros_0f7a4_18 : decode cJ6_numberOfTrailingZeros_0f7a4 18 = .ok (.istore_n 1, 1) := by decide +kernel
theorem dJ6_numberOfTrailingZeros_0f7a4_19 : decode cJ6_numberOfTrailingZeros_0f7a4 19 = .ok (.iload_n 0, 1) := by decide +kernel
theorem dJ6_numberOfTrailingZeros_0f7a4_20 : decode cJ6_numberOfTrailingZeros_0f7a4 20 = .ok (.ldc_w 264, 3) := by decide +kernel
theorem dJ6_numberOfTrailingZeros_0f7a4_23 : decode cJ6_numberOfTrailingZeros_0f7a4 23 = .ok (.if_icmp .le 11, 3) := by decide +kernel
theorem dJ6_numberOfTrailingZeros_0f7a4_26 : decode cJ6_numberOfTrailingZeros_0f7a4 26 = .ok (.iinc 1 16, 3) := by decide +kernel
theorem dJ6_numberOfTrailingZeros_0f7a4_29 : decode cJ6_numberOfTrailingZeros_0f7a4 29 = .ok (.iload_n 0, 1) := by decide +kernel
theorem dJ6_numberOfTrailingZeros_0f7a4_30 : decode cJ6_numberOfTrailingZeros_0f7a4 30 = .ok (.bipush 16, 2) := by decide +kernel
theorem dJ6_numberOfTrailingZeros_0f7a4_32 : decode cJ6_numberOfTrailingZeros_0f7a4 32 = .ok (.iushr, 1) := by decide +kernel
theorem dJ6_numberOfTrailingZeros_0f7a4_33 : decode cJ6_numberOfTrailingZeros_0f7a4 33 = .ok (.istore_n 0, 1) := by decide +kernel
theorem dJ6_numberOfTrailingZeros_0f7a4_34 : decode cJ6_numberOfTrailingZeros_0f7a4 34 = .ok (.iload_n 0, 1) := by decide +kernel
theorem dJ6_numberOfTrailingZeros_0f7a4_35 : decode cJ6_numberOfTrailingZeros_0f7a4 35 = .ok (.sipush 256, 3) := by decide +kernel
theorem dJ6_numberOfTrailingZeros_0f7a4_38 : decode cJ6_numberOfTrailingZeros_0f7a4 38 = .ok (.if_icmp .le 11, 3) := by decide +kernel
theorem dJ6_numberOfTrailingZeros_0f7a4_41 : decode cJ6_numberOfTrailingZeros_0f7a4 41 = .ok (.iinc 1 8, 3) := by decide +kernel
theorem dJ6_numberOfTrailingZeros_0f7a4_44 : decode cJ6_numberOfTrailingZeros_0f7a4 44 = .ok (.iload_n 0, 1) := by decide +kernel
theorem dJ6_numberOfTrailingZeros_0f7a4_45 : decode cJ6_numberOfTrailingZeros_0f7a4 45 = .ok (.bipush 8, 2) := by decide +kernel
theorem dJ6_numberOfTrailingZeros_0f7a4_47 : decode cJ6_numberOfTrailingZeros_0f7a4 47 = .ok (.iushr, 1) := by decide +kernel
theorem dJ6_numberOfTrailingZeros_0f7a4_48 : decode cJ6_numberOfTrailingZeros_0f7a4 48 = .ok (.istore_n 0, 1) := by decide +kernel
theorem dJ6_numberOfTrailingZeros_0f7a4_49 : decode cJ6_numberOfTrailingZeros_0f7a4 49 = .ok (.iload_n 0, 1) := by decide +kernel
theorem dJ6_numberOfTrailingZeros_0f7a4_50 : decode cJ6_numberOfTrailingZeros_0f7a4 50 = .ok (.bipush 16, 2) := by decide +kernel
theorem dJ6_numberOfTrailingZeros_0f7a4_52 : decode cJ6_numberOfTrailingZeros_0f7a4 52 = .ok (.if_icmp .le 10, 3) := by decide +kernel
theorem dJ6_numberOfTrailingZeros_0f7a4_55 : decode cJ6_numberOfTrailingZeros_0f7a4 55 = .ok (.iinc 1 4, 3) := by decide +kernel
theorem dJ6_numberOfTrailingZeros_0f7a4_58 : decode cJ6_numberOfTrailingZeros_0f7a4 58 = .ok (.iload_n 0, 1) := by decide +kernel
theorem dJ6_numberOfTrailingZeros_0f7a4_59 : decode cJ6_numberOfTrailingZeros_0f7a4 59 = .ok (.iconst 4, 1) := by decide +kernel
theorem dJ6_numberOfTrailingZeros_0f7a4_60 : decode cJ6_numberOfTrailingZeros_0f7a4 60 = .ok (.iushr, 1) := by decide +kernel
theorem dJ6_numberOfTrailingZeros_0f7a4_61 : decode cJ6_numberOfTrailingZeros_0f7a4 61 = .ok (.istore_n 0, 1) := by decide +kernel
theorem dJ6_numberOfTrailingZeros_0f7a4_62 : decode cJ6_numberOfTrailingZeros_0f7a4 62 = .ok (.iload_n 0, 1) := by decide +kernel
theorem dJ6_numberOfTrailingZeros_0f7a4_63 : decode cJ6_numberOfTrailingZeros_0f7a4 63 = .ok (.iconst 4, 1) := by decide +kernel
theorem dJ6_numberOfTrailingZeros_0f7a4_64 : decode cJ6_numberOfTrailingZeros_0f7a4 64 = .ok (.if_icmp .le 10, 3) := by decide +kernel
theorem dJ6_numberOfTrailingZeros_0f7a4_67 : decode cJ6_numberOfTrailingZeros_0f7a4 67 = .ok (.iinc 1 2, 3) := by decide +kernel
theorem dJ6_numberOfTrailingZeros_0f7a4_70 : decode cJ6_numberOfTrailingZeros_0f7a4 70 = .ok (.iload_n 0, 1) := by decide +kernel
theorem dJ6_numberOfTrailingZeros_0f7a4_71 : decode cJ6_numberOfTrailingZeros_0f7a4 71 = .ok (.iconst 2, 1) := by decide +kernel
theorem dJ6_numberOfTrailingZeros_0f7a4_72 : decode cJ6_numberOfTrailingZeros_0f7a4 72 = .ok (.iushr, 1) := by decide +kernel
theorem dJ6_numberOfTrailingZeros_0f7a4_73 : decode cJ6_numberOfTrailingZeros_0f7a4 73 = .ok (.istore_n 0, 1) := by decide +kernel
theorem dJ6_numberOfTrailingZeros_0f7a4_74 : decode cJ6_numberOfTrailingZeros_0f7a4 74 = .ok (.iload_n 1, 1) := by decide +kernel
theorem dJ6_numberOfTrailingZeros_0f7a4_75 : decode cJ6_numberOfTrailingZeros_0f7a4 75 = .ok (.iload_n 0, 1) := by decide +kernel
theorem dJ6_numberOfTrailingZeros_0f7a4_76 : decode cJ6_numberOfTrailingZeros_0f7a4 76 = .ok (.iconst 1, 1) := by decide +kernel
theorem dJ6_numberOfTrailingZeros_0f7a4_77 : decode cJ6_numberOfTrailingZeros_0f7a4 77 = .ok (.iushr, 1) := by decide +kernel
theorem dJ6_numberOfTrailingZeros_0f7a4_78 : decode cJ6_numberOfTrailingZeros_0f7a4 78 = .ok (.iadd, 1) := by decide +kernel
theorem dJ6_numberOfTrailingZeros_0f7a4_79 : decode cJ6_numberOfTrailingZeros_0f7a4 79 = .ok (.ireturn, 1) := by decide +kernel
theorem dJ6_bitCount_0f7a4_0 : decode cJ6_bitCount_0f7a4 0 = .ok (.iload_n 0, 1) := by decide +kernel
theorem dJ6_bitCount_0f7a4_1 : decode cJ6_bitCount_0f7a4 1 = .ok (.iload_n 0, 1) := by decide +kernel
theorem dJ6_bitCount_0f7a4_2 : decode cJ6_bitCount_0f7a4 2 = .ok (.iconst 1, 1) := by decide +kernel
theorem dJ6_bitCount_0f7a4_3 : decode cJ6_bitCount_0f7a4 3 = .ok (.iushr, 1) := by decide +kernel
theorem dJ6_bitCount_0f7a4_4 : decode cJ6_bitCount_0f7a4 4 = .ok (.ldc_w 265, 3) := by decide +kernel
theorem dJ6_bitCount_0f7a4_7 : decode cJ6_bitCount_0f7a4 7 = .ok (.iand, 1) := by decide +kernel
theorem dJ6_bitCount_0f7a4_8 : decode cJ6_bitCount_0f7a4 8 = .ok (.isub, 1) := by decide +kernel
theorem dJ6_bitCount_0f7a4_9 : decode cJ6_bitCount_0f7a4 9 = .ok (.istore_n 0, 1) := by decide +kernel
theorem dJ6_bitCount_0f7a4_10 : decode cJ6_bitCount_0f7a4 10 = .ok (.iload_n 0, 1) := by decide +kernel
theorem dJ6_bitCount_0f7a4_11 : decode cJ6_bitCount_0f7a4 11 = .ok (.ldc_w 266, 3) := by decide +kernel
theorem dJ6_bitCount_0f7a4_14 : decode cJ6_bitCount_0f7a4 14 = .ok (.iand, 1) := by decide +kernel
theorem dJ6_bitCount_0f7a4_15 : decode cJ6_bitCount_0f7a4 15 = .ok (.iload_n 0, 1) := by decide +kernel
theorem dJ6_bitCount_0f7a4_16 : decode cJ6_bitCount_0f7a4 16 = .ok (.iconst 2, 1) := by decide +kernel
theorem dJ6_bitCount_0f7a4_17 : decode cJ6_bitCount_0f7a4 17 = .ok (.iushr, 1) := by decide +kernel
theorem dJ6_bitCount_0f7a4_18 : decode cJ6_bitCount_0f7a4 18 = .ok (.ldc_w 266, 3) := by decide +kernel
theorem dJ6_bitCount_0f7a4_21 : decode cJ6_bitCount_0f7a4 21 = .ok (.iand, 1) := by decide +kernel
theorem dJ6_bitCount_0f7a4_22 : decode cJ6_bitCount_0f7a4 22 = .ok (.iadd, 1) := by decide +kernel
theorem dJ6_bitCount_0f7a4_23 : decode cJ6_bitCount_0f7a4 23 = .ok (.istore_n 0, 1) := by decide +kernel
theorem dJ6_bitCount_0f7a4_24 : decode cJ6_bitCount_0f7a4 24 = .ok (.iload_n 0, 1) := by decide +kernel
theorem dJ6_bitCount_0f7a4_25 : decode cJ6_bitCount_0f7a4 25 = .ok (.iload_n 0, 1) := by decide +kernel
theorem dJ6_bitCount_0f7a4_26 : decode cJ6_bitCount_0f7a4 26 = .ok (.iconst 4, 1) := by decide +kernel
theorem dJ6_bitCount_0f7a4_27 : decode cJ6_bitCount_0f7a4 27 = .ok (.iushr, 1) := by decide +kernel
theorem dJ6_bitCount_0f7a4_28 : decode cJ6_bitCount_0f7a4 28 = .ok (.iadd, 1) := by decide +kernel
theorem dJ6_bitCount_0f7a4_29 : decode cJ6_bitCount_0f7a4 29 = .ok (.ldc_w 267, 3) := by decide +kernel
theorem dJ6_bitCount_0f7a4_32 : decode cJ6_bitCount_0f7a4 32 = .ok (.iand, 1) := by decide +kernel
theorem dJ6_bitCount_0f7a4_33 : decode cJ6_bitCount_0f7a4 33 = .ok (.istore_n 0, 1) := by decide +kernel
theorem dJ6_bitCount_0f7a4_34 : decode cJ6_bitCount_0f7a4 34 = .ok (.iload_n 0, 1) := by decide +kernel
theorem dJ6_bitCount_0f7a4_35 : decode cJ6_bitCount_0f7a4 35 = .ok (.iload_n 0, 1) := by decide +kernel
theorem dJ6_bitCount_0f7a4_36 : decode cJ6_bitCount_0f7a4 36 = .ok (.bipush 8, 2) := by decide +kernel
theorem dJ6_bitCount_0f7a4_38 : decode cJ6_bitCount_0f7a4 38 = .ok (.iushr, 1) := by decide +kernel
theorem dJ6_bitCount_0f7a4_39 : decode cJ6_bitCount_0f7a4 39 = .ok (.iadd, 1) := by decide +kernel
theorem dJ6_bitCount_0f7a4_40 : decode cJ6_bitCount_0f7a4 40 = .ok (.istore_n 0, 1) := by decide +kernel
theorem dJ6_bitCount_0f7a4_41 : decode cJ6_bitCount_0f7a4 41 = .ok (.iload_n 0, 1) := by decide +kernel
theorem dJ6_bitCount_0f7a4_42 : decode cJ6_bitCount_0f7a4 42 = .ok (.iload_n 0, 1) := by decide +kernel
theorem dJ6_bitCount_0f7a4_43 : decode cJ6_bitCount_0f7a4 43 = .ok (.bipush 16, 2) := by decide +kernel
theorem dJ6_bitCount_0f7a4_45 : decode cJ6_bitCount_0f7a4 45 = .ok (.iushr, 1) := by decide +kernel
theorem dJ6_bitCount_0f7a4_46 : decode cJ6_bitCount_0f7a4 46 = .ok (.iadd, 1) := by decide +kernel
theorem dJ6_bitCount_0f7a4_47 : decode cJ6_bitCount_0f7a4 47 = .ok (.istore_n 0, 1) := by decide +kernel
theorem dJ6_bitCount_0f7a4_48 : decode cJ6_bitCount_0f7a4 48 = .ok (.iload_n 0, 1) := by decide +kernel
theorem dJ6_bitCount_0f7a4_49 : decode cJ6_bitCount_0f7a4 49 = .ok (.bipush 63, 2) := by decide +kernel
theorem dJ6_bitCount_0f7a4_51 : decode cJ6_bitCount_0f7a4 51 = .ok (.iand, 1) := by decide +kernel
theorem dJ6_bitCount_0f7a4_52 : decode cJ6_bitCount_0f7a4 52 = .ok (.ireturn, 1) := by decide +kernel
theorem dJ9_max_7cf53_0 : decode cJ9_max_7cf53 0 = .ok (.iload_n 0, 1) := by decide +kernel
theorem dJ9_max_7cf53_1 : decode cJ9_max_7cf53 1 = .ok (.iload_n 1, 1) := by decide +kernel
theorem dJ9_max_7cf53_2 : decode cJ9_max_7cf53 2 = .ok (.if_icmp .lt 7, 3) := by decide +kernel
theorem dJ9_max_7cf53_5 : decode cJ9_max_7cf53 5 = .ok (.iload_n 0, 1) := by decide +kernel
theorem dJ9_max_7cf53_6 : decode cJ9_max_7cf53 6 = .ok (.goto 4, 3) := by decide +kernel
theorem dJ9_max_7cf53_9 : decode cJ9_max_7cf53 9 = .ok (.iload_n 1, 1) := by decide +kernel
theorem dJ9_max_7cf53_10 : decode cJ9_max_7cf53 10 = .ok (.ireturn, 1) := by decide +kernel
theorem dJ9_min_7cf53_0 : decode cJ9_min_7cf53 0 = .ok (.iload_n 0, 1) := by decide +kernel
theorem dJ9_min_7cf53_1 : decode cJ9_min_7cf53 1 = .ok (.iload_n 1, 1) := by decide +kernel
theorem dJ9_min_7cf53_2 : decode cJ9_min_7cf53 2 = .ok (.if_icmp .gt 7, 3) := by decide +kernel
theorem dJ9_min_7cf53_5 : decode cJ9_min_7cf53 5 = .ok (.iload_n 0, 1) := by decide +kernel
theorem dJ9_min_7cf53_6 : decode cJ9_min_7cf53 6 = .ok (.goto 4, 3) := by decide +kernel
theorem dJ9_min_7cf53_9 : decode cJ9_min_7cf53 9 = .ok (.iload_n 1, 1) := by decide +kernel
theorem dJ9_min_7cf53_10 : decode cJ9_min_7cf53 10 = .ok (.ireturn, 1) := by decide +kernel
theorem dJ7_fill_53178_0 : decode cJ7_fill_53178 0 = .ok (.iconst 0, 1) := by decide +kernel
theorem dJ7_fill_53178_1 : decode cJ7_fill_53178 1 = .ok (.istore_n 2, 1) := by decide +kernel
theorem dJ7_fill_53178_2 : decode cJ7_fill_53178 2 = .ok (.aload_n 0, 1) := by decide +kernel
theorem dJ7_fill_53178_3 : decode cJ7_fill_53178 3 = .ok (.arraylength, 1) := by decide +kernel
theorem dJ7_fill_53178_4 : decode cJ7_fill_53178 4 = .ok (.istore_n 3, 1) := by decide +kernel
theorem dJ7_fill_53178_5 : decode cJ7_fill_53178 5 = .ok (.iload_n 2, 1) := by decide +kernel
theorem dJ7_fill_53178_6 : decode cJ7_fill_53178 6 = .ok (.iload_n 3, 1) := by decide +kernel
theorem dJ7_fill_53178_7 : decode cJ7_fill_53178 7 = .ok (.if_icmp .ge 13, 3) := by decide +kernel
theorem dJ7_fill_53178_10 : decode cJ7_fill_53178 10 = .ok (.aload_n 0, 1) := by decide +kernel
theorem dJ7_fill_53178_11 : decode cJ7_fill_53178 11 = .ok (.iload_n 2, 1) := by decide +kernel
theorem dJ7_fill_53178_12 : decode cJ7_fill_53178 12 = .ok (.iload_n 1, 1) := by decide +kernel
theorem dJ7_fill_53178_13 : decode cJ7_fill_53178 13 = .ok (.iastore, 1) := by decide +kernel
theorem dJ7_fill_53178_14 : decode cJ7_fill_53178 14 = .ok (.iinc 2 1, 3) := by decide +kernel
theorem dJ7_fill_53178_17 : decode cJ7_fill_53178 17 = .ok (.goto (-12), 3) := by decide +kernel
theorem dJ7_fill_53178_20 : decode cJ7_fill_53178 20 = .ok (.return_, 1) := by decide +kernel
theorem dL_law_0 : decode cL_law 0 = .ok (.new 7, 3) := by decide +kernel
theorem dL_law_3 : decode cL_law 3 = .ok (.dup, 1) := by decide +kernel
theorem dL_law_4 : decode cL_law 4 = .ok (.invokespecial 9, 3) := by decide +kernel
theorem dL_law_7 : decode cL_law 7 = .ok (.astore_n 1, 1) := by decide +kernel
theorem dL_law_8 : decode cL_law 8 = .ok (.new 10, 3) := by decide +kernel
theorem dL_law_11 : decode cL_law 11 = .ok (.dup, 1) := by decide +kernel
theorem dL_law_12 : decode cL_law 12 = .ok (.invokespecial 12, 3) := by decide +kernel
theorem dL_law_15 : decode cL_law 15 = .ok (.astore_n 2, 1) := by decide +kernel
theorem dL_law_16 : decode cL_law 16 = .ok (.iconst 0, 1) := by decide +kernel
theorem dL_law_17 : decode cL_law 17 = .ok (.istore_n 3, 1) := by decide +kernel
theorem dL_law_18 : decode cL_law 18 = .ok (.iload_n 3, 1) := by decide +kernel
theorem dL_law_19 : decode cL_law 19 = .ok (.aload_n 0, 1) := by decide +kernel
theorem dL_law_20 : decode cL_law 20 = .ok (.arraylength, 1) := by decide +kernel
theorem dL_law_21 : decode cL_law 21 = .ok (.iconst 3, 1) := by decide +kernel
theorem dL_law_22 : decode cL_law 22 = .ok (.isub, 1) := by decide +kernel
theorem dL_law_23 : decode cL_law 23 = .ok (.if_icmp .gt 982, 3) := by decide +kernel
theorem dL_law_26 : decode cL_law 26 = .ok (.aload_n 0, 1) := by decide +kernel
theorem dL_law_27 : decode cL_law 27 = .ok (.iload_n 3, 1) := by decide +kernel
theorem dL_law_28 : decode cL_law 28 = .ok (.iaload, 1) := by decide +kernel
theorem dL_law_29 : decode cL_law 29 = .ok (.bipush 63, 2) := by decide +kernel
theorem dL_law_31 : decode cL_law 31 = .ok (.iand, 1) := by decide +kernel
theorem dL_law_32 : decode cL_law 32 = .ok (.tableswitch 967 0 34 #[156, 179, 192, 205, 228, 251, 284, 317, 340, 353, 386, 399, 438, 461, 484, 497, 520, 553, 566, 579, 612, 635, 668, 681, 714, 727, 760, 793, 826, 839, 872, 885, 898, 921, 944], 156) := by decide +kernel
theorem dL_law_188 : decode cL_law 188 = .ok (.aload_n 1, 1) := by decide +kernel
theorem dL_law_189 : decode cL_law 189 = .ok (.aload_n 0, 1) := by decide +kernel
theorem dL_law_190 : decode cL_law 190 = .ok (.iload_n 3, 1) := by decide +kernel
theorem dL_law_191 : decode cL_law 191 = .ok (.iconst 1, 1) := by decide +kernel
theorem dL_law_192 : decode cL_law 192 = .ok (.iadd, 1) := by decide +kernel
theorem dL_law_193 : decode cL_law 193 = .ok (.iaload, 1) := by decide +kernel
theorem dL_law_194 : decode cL_law 194 = .ok (.invokevirtual 13, 3) := by decide +kernel
theorem dL_law_197 : decode cL_law 197 = .ok (.aload_n 2, 1) := by decide +kernel
theorem dL_law_198 : decode cL_law 198 = .ok (.aload_n 0, 1) := by decide +kernel
theorem dL_law_199 : decode cL_law 199 = .ok (.iload_n 3, 1) := by decide +kernel
theorem dL_law_200 : decode cL_law 200 = .ok (.iconst 1, 1) := by decide +kernel
theorem dL_law_201 : decode cL_law 201 = .ok (.iadd, 1) := by decide +kernel
theorem dL_law_202 : decode cL_law 202 = .ok (.iaload, 1) := by decide +kernel
theorem dL_law_203 : decode cL_law 203 = .ok (.invokevirtual 17, 3) := by decide +kernel
theorem dL_law_206 : decode cL_law 206 = .ok (.if_icmp .eq 793, 3) := by decide +kernel
theorem dL_law_209 : decode cL_law 209 = .ok (.iconst 0, 1) := by decide +kernel
theorem dL_law_210 : decode cL_law 210 = .ok (.ireturn, 1) := by decide +kernel
theorem dL_law_211 : decode cL_law 211 = .ok (.aload_n 1, 1) := by decide +kernel
theorem dL_law_212 : decode cL_law 212 = .ok (.invokevirtual 18, 3) := by decide +kernel
theorem dL_law_215 : decode cL_law 215 = .ok (.aload_n 2, 1) := by decide +kernel
theorem dL_law_216 : decode cL_law 216 = .ok (.invokevirtual 22, 3) := by decide +kernel
theorem dL_law_219 : decode cL_law 219 = .ok (.if_icmp .eq 780, 3) := by decide +kernel
theorem dL_law_222 : decode cL_law 222 = .ok (.iconst 0, 1) := by decide +kernel
theorem dL_law_223 : decode cL_law 223 = .ok (.ireturn, 1) := by decide +kernel
theorem dL_law_224 : decode cL_law 224 = .ok (.aload_n 1, 1) := by decide +kernel
theorem dL_law_225 : decode cL_law 225 = .ok (.invokevirtual 23, 3) := by decide +kernel
theorem dL_law_228 : decode cL_law 228 = .ok (.aload_n 2, 1) := by decide +kernel
theorem dL_law_229 : decode cL_law 229 = .ok (.invokevirtual 26, 3) := by decide +kernel
theorem dL_law_232 : decode cL_law 232 = .ok (.if_icmp .eq 767, 3) := by decide +kernel
theorem dL_law_235 : decode cL_law 235 = .ok (.iconst 0, 1) := by decide +kernel
theorem dL_law_236 : decode cL_law 236 = .ok (.ireturn, 1) := by decide +kernel
theorem dL_law_237 : decode cL_law 237 = .ok (.aload_n 1, 1) := by decide +kernel
theorem dL_law_238 : decode cL_law 238 = .ok (.aload_n 0, 1) := by decide +kernel
theorem dL_law_239 : decode cL_law 239 = .ok (.iload_n 3, 1) := by decide +kernel
theorem dL_law_240 : decode cL_law 240 = .ok (.iconst 1, 1) := by decide +kernel
theorem dL_law_241 : decode cL_law 241 = .ok (.iadd, 1) := by decide +kernel
theorem dL_law_242 : decode cL_law 242 = .ok (.iaload, 1) := by decide +kernel
theorem dL_law_243 : decode cL_law 243 = .ok (.invokevirtual 27, 3) := by decide +kernel
theorem dL_law_246 : decode cL_law 246 = .ok (.aload_n 2, 1) := by decide +kernel
theorem dL_law_247 : decode cL_law 247 = .ok (.aload_n 0, 1) := by decide +kernel
theorem dL_law_248 : decode cL_law 248 = .ok (.iload_n 3, 1) := by decide +kernel
theorem dL_law_249 : decode cL_law 249 = .ok (.iconst 1, 1) := by decide +kernel
theorem dL_law_250 : decode cL_law 250 = .ok (.iadd, 1) := by decide +kernel
theorem dL_law_251 : decode cL_law 251 = .ok (.iaload, 1) := by decide +kernel
theorem dL_law_252 : decode cL_law 252 = .ok (.invokevirtual 30, 3) := by decide +kernel
theorem dL_law_255 : decode cL_law 255 = .ok (.if_icmp .eq 744, 3) := by decide +kernel
theorem dL_law_258 : decode cL_law 258 = .ok (.iconst 0, 1) := by decide +kernel
theorem dL_law_259 : decode cL_law 259 = .ok (.ireturn, 1) := by decide +kernel
theorem dL_law_260 : decode cL_law 260 = .ok (.aload_n 1, 1) := by decide +kernel
theorem dL_law_261 : decode cL_law 261 = .ok (.aload_n 0, 1) := by decide +kernel
theorem dL_law_262 : decode cL_law 262 = .ok (.iload_n 3, 1) := by decide +kernel
theorem dL_law_263 : decode cL_law 263 = .ok (.iconst 1, 1) := by decide +kernel
theorem dL_law_264 : decode cL_law 264 = .ok (.iadd, 1) := by decide +kernel
theorem dL_law_265 : decode cL_law 265 = .ok (.iaload, 1) := by decide +kernel
theorem dL_law_266 : decode cL_law 266 = .ok (.invokevirtual 31, 3) := by decide +kernel
theorem dL_law_269 : decode cL_law 269 = .ok (.aload_n 2, 1) := by decide +kernel
theorem dL_law_270 : decode cL_law 270 = .ok (.aload_n 0, 1) := by decide +kernel
theorem dL_law_271 : decode cL_law 271 = .ok (.iload_n 3, 1) := by decide +kernel
theorem dL_law_272 : decode cL_law 272 = .ok (.iconst 1, 1) := by decide +kernel
theorem dL_law_273 : decode cL_law 273 = .ok (.iadd, 1) := by decide +kernel
theorem dL_law_274 : decode cL_law 274 = .ok (.iaload, 1) := by decide +kernel
theorem dL_law_275 : decode cL_law 275 = .ok (.invokevirtual 34, 3) := by decide +kernel
theorem dL_law_278 : decode cL_law 278 = .ok (.if_icmp .eq 721, 3) := by decide +kernel
theorem dL_law_281 : decode cL_law 281 = .ok (.iconst 0, 1) := by decide +kernel
theorem dL_law_282 : decode cL_law 282 = .ok (.ireturn, 1) := by decide +kernel
theorem dL_law_283 : decode cL_law 283 = .ok (.aload_n 1, 1) := by decide +kernel
theorem dL_law_284 : decode cL_law 284 = .ok (.aload_n 0, 1) := by decide +kernel
theorem dL_law_285 : decode cL_law 285 = .ok (.iload_n 3, 1) := by decide +kernel
theorem dL_law_286 : decode cL_law 286 = .ok (.iconst 1, 1) := by decide +kernel
theorem dL_law_287 : decode cL_law 287 = .ok (.iadd, 1) := by decide +kernel
theorem dL_law_288 : decode cL_law 288 = .ok (.iaload, 1) := by decide +kernel
theorem dL_law_289 : decode cL_law 289 = .ok (.aload_n 0, 1) := by decide +kernel
theorem dL_law_290 : decode cL_law 290 = .ok (.iload_n 3, 1) := by decide +kernel
theorem dL_law_291 : decode cL_law 291 = .ok (.iconst 2, 1) := by decide +kernel
theorem dL_law_292 : decode cL_law 292 = .ok (.iadd, 1) := by decide +kernel
theorem dL_law_293 : decode cL_law 293 = .ok (.iaload, 1) := by decide +kernel
theorem dL_law_294 : decode cL_law 294 = .ok (.invokevirtual 35, 3) := by decide +kernel
theorem dL_law_297 : decode cL_law 297 = .ok (.aload_n 2, 1) := by decide +kernel
theorem dL_law_298 : decode cL_law 298 = .ok (.aload_n 0, 1) := by decide +kernel
theorem dL_law_299 : decode cL_law 299 = .ok (.iload_n 3, 1) := by decide +kernel
theorem dL_law_300 : decode cL_law 300 = .ok (.iconst 1, 1) := by decide +kernel
theorem dL_law_301 : decode cL_law 301 = .ok (.iadd, 1) := by decide +kernel
theorem dL_law_302 : decode cL_law 302 = .ok (.iaload, 1) := by decide +kernel
theorem dL_law_303 : decode cL_law 303 = .ok (.aload_n 0, 1) := by decide +kernel
theorem dL_law_304 : decode cL_law 304 = .ok (.iload_n 3, 1) := by decide +kernel
theorem dL_law_305 : decode cL_law 305 = .ok (.iconst 2, 1) := by decide +kernel
theorem dL_law_306 : decode cL_law 306 = .ok (.iadd, 1) := by decide +kernel
theorem dL_law_307 : decode cL_law 307 = .ok (.iaload, 1) := by decide +kernel
theorem dL_law_308 : decode cL_law 308 = .ok (.invokevirtual 39, 3) := by decide +kernel
theorem dL_law_311 : decode cL_law 311 = .ok (.if_icmp .eq 688, 3) := by decide +kernel
theorem dL_law_314 : decode cL_law 314 = .ok (.iconst 0, 1) := by decide +kernel
theorem dL_law_315 : decode cL_law 315 = .ok (.ireturn, 1) := by decide +kernel
theorem dL_law_316 : decode cL_law 316 = .ok (.aload_n 1, 1) := by decide +kernel
theorem dL_law_317 : decode cL_law 317 = .ok (.aload_n 0, 1) := by decide +kernel
theorem dL_law_318 : decode cL_law 318 = .ok (.iload_n 3, 1) := by decide +kernel
theorem dL_law_319 : decode cL_law 319 = .ok (.iconst 1, 1) := by decide +kernel
theorem dL_law_320 : decode cL_law 320 = .ok (.iadd, 1) := by decide +kernel
theorem dL_law_321 : decode cL_law 321 = .ok (.iaload, 1) := by decide +kernel
theorem dL_law_322 : decode cL_law 322 = .ok (.aload_n 0, 1) := by decide +kernel
theorem dL_law_323 : decode cL_law 323 = .ok (.iload_n 3, 1) := by decide +kernel
theorem dL_law_324 : decode cL_law 324 = .ok (.iconst 2, 1) := by decide +kernel
theorem dL_law_325 : decode cL_law 325 = .ok (.iadd, 1) := by decide +kernel
theorem dL_law_326 : decode cL_law 326 = .ok (.iaload, 1) := by decide +kernel
theorem dL_law_327 : decode cL_law 327 = .ok (.invokevirtual 40, 3) := by decide +kernel
theorem dL_law_330 : decode cL_law 330 = .ok (.aload_n 2, 1) := by decide +kernel
theorem dL_law_331 : decode cL_law 331 = .ok (.aload_n 0, 1) := by decide +kernel
theorem dL_law_332 : decode cL_law 332 = .ok (.iload_n 3, 1) := by decide +kernel
theorem dL_law_333 : decode cL_law 333 = .ok (.iconst 1, 1) := by decide +kernel
theorem dL_law_334 : decode cL_law 334 = .ok (.iadd, 1) := by decide +kernel
theorem dL_law_335 : decode cL_law 335 = .ok (.iaload, 1) := by decide +kernel
theorem dL_law_336 : decode cL_law 336 = .ok (.aload_n 0, 1) := by decide +kernel
theorem dL_law_337 : decode cL_law 337 = .ok (.iload_n 3, 1) := by decide +kernel
theorem dL_law_338 : decode cL_law 338 = .ok (.iconst 2, 1) := by decide +kernel
theorem dL_law_339 : decode cL_law 339 = .ok (.iadd, 1) := by decide +kernel
theorem dL_law_340 : decode cL_law 340 = .ok (.iaload, 1) := by decide +kernel
theorem dL_law_341 : decode cL_law 341 = .ok (.invokevirtual 43, 3) := by decide +kernel
theorem dL_law_344 : decode cL_law 344 = .ok (.if_icmp .eq 655, 3) := by decide +kernel
theorem dL_law_347 : decode cL_law 347 = .ok (.iconst 0, 1) := by decide +kernel
theorem dL_law_348 : decode cL_law 348 = .ok (.ireturn, 1) := by decide +kernel
theorem dL_law_349 : decode cL_law 349 = .ok (.aload_n 1, 1) := by decide +kernel
theorem dL_law_350 : decode cL_law 350 = .ok (.aload_n 0, 1) := by decide +kernel
theorem dL_law_351 : decode cL_law 351 = .ok (.iload_n 3, 1) := by decide +kernel
theorem dL_law_352 : decode cL_law 352 = .ok (.iconst 1, 1) := by decide +kernel
theorem dL_law_353 : decode cL_law 353 = .ok (.iadd, 1) := by decide +kernel
theorem dL_law_354 : decode cL_law 354 = .ok (.iaload, 1) := by decide +kernel
theorem dL_law_355 : decode cL_law 355 = .ok (.invokevirtual 44, 3) := by decide +kernel
theorem dL_law_358 : decode cL_law 358 = .ok (.aload_n 2, 1) := by decide +kernel
theorem dL_law_359 : decode cL_law 359 = .ok (.aload_n 0, 1) := by decide +kernel
theorem dL_law_360 : decode cL_law 360 = .ok (.iload_n 3, 1) := by decide +kernel
theorem dL_law_361 : decode cL_law 361 = .ok (.iconst 1, 1) := by decide +kernel
theorem dL_law_362 : decode cL_law 362 = .ok (.iadd, 1) := by decide +kernel
theorem dL_law_363 : decode cL_law 363 = .ok (.iaload, 1) := by decide +kernel
theorem dL_law_364 : decode cL_law 364 = .ok (.invokevirtual 47, 3) := by decide +kernel
theorem dL_law_367 : decode cL_law 367 = .ok (.if_icmp .eq 632, 3) := by decide +kernel
theorem dL_law_370 : decode cL_law 370 = .ok (.iconst 0, 1) := by decide +kernel
theorem dL_law_371 : decode cL_law 371 = .ok (.ireturn, 1) := by decide +kernel
theorem dL_law_372 : decode cL_law 372 = .ok (.aload_n 1, 1) := by decide +kernel
theorem dL_law_373 : decode cL_law 373 = .ok (.invokevirtual 48, 3) := by decide +kernel
theorem dL_law_376 : decode cL_law 376 = .ok (.aload_n 2, 1) := by decide +kernel
theorem dL_law_377 : decode cL_law 377 = .ok (.invokevirtual 51, 3) := by decide +kernel
theorem dL_law_380 : decode cL_law 380 = .ok (.if_icmp .eq 619, 3) := by decide +kernel
theorem dL_law_383 : decode cL_law 383 = .ok (.iconst 0, 1) := by decide +kernel
theorem dL_law_384 : decode cL_law 384 = .ok (.ireturn, 1) := by decide +kernel
theorem dL_law_385 : decode cL_law 385 = .ok (.aload_n 1, 1) := by decide +kernel
theorem dL_law_386 : decode cL_law 386 = .ok (.aload_n 0, 1) := by decide +kernel
theorem dL_law_387 : decode cL_law 387 = .ok (.iload_n 3, 1) := by decide +kernel
theorem dL_law_388 : decode cL_law 388 = .ok (.iconst 1, 1) := by decide +kernel
theorem dL_law_389 : decode cL_law 389 = .ok (.iadd, 1) := by decide +kernel
theorem dL_law_390 : decode cL_law 390 = .ok (.iaload, 1) := by decide +kernel
theorem dL_law_391 : decode cL_law 391 = .ok (.aload_n 0, 1) := by decide +kernel
theorem dL_law_392 : decode cL_law 392 = .ok (.iload_n 3, 1) := by decide +kernel
theorem dL_law_393 : decode cL_law 393 = .ok (.iconst 2, 1) := by decide +kernel
theorem dL_law_394 : decode cL_law 394 = .ok (.iadd, 1) := by decide +kernel
theorem dL_law_395 : decode cL_law 395 = .ok (.iaload, 1) := by decide +kernel
theorem dL_law_396 : decode cL_law 396 = .ok (.invokevirtual 52, 3) := by decide +kernel
theorem dL_law_399 : decode cL_law 399 = .ok (.aload_n 2, 1) := by decide +kernel
theorem dL_law_400 : decode cL_law 400 = .ok (.aload_n 0, 1) := by decide +kernel
theorem dL_law_401 : decode cL_law 401 = .ok (.iload_n 3, 1) := by decide +kernel
theorem dL_law_402 : decode cL_law 402 = .ok (.iconst 1, 1) := by decide +kernel
theorem dL_law_403 : decode cL_law 403 = .ok (.iadd, 1) := by decide +kernel
theorem dL_law_404 : decode cL_law 404 = .ok (.iaload, 1) := by decide +kernel
theorem dL_law_405 : decode cL_law 405 = .ok (.aload_n 0, 1) := by decide +kernel
theorem dL_law_406 : decode cL_law 406 = .ok (.iload_n 3, 1) := by decide +kernel
theorem dL_law_407 : decode cL_law 407 = .ok (.iconst 2, 1) := by decide +kernel
theorem dL_law_408 : decode cL_law 408 = .ok (.iadd, 1) := by decide +kernel
theorem dL_law_409 : decode cL_law 409 = .ok (.iaload, 1) := by decide +kernel
theorem dL_law_410 : decode cL_law 410 = .ok (.invokevirtual 55, 3) := by decide +kernel
theorem dL_law_413 : decode cL_law 413 = .ok (.if_icmp .eq 586, 3) := by decide +kernel
theorem dL_law_416 : decode cL_law 416 = .ok (.iconst 0, 1) := by decide +kernel
theorem dL_law_417 : decode cL_law 417 = .ok (.ireturn, 1) := by decide +kernel
theorem dL_law_418 : decode cL_law 418 = .ok (.aload_n 1, 1) := by decide +kernel
theorem dL_law_419 : decode cL_law 419 = .ok (.invokevirtual 56, 3) := by decide +kernel
theorem dL_law_422 : decode cL_law 422 = .ok (.aload_n 2, 1) := by decide +kernel
theorem dL_law_423 : decode cL_law 423 = .ok (.invokevirtual 59, 3) := by decide +kernel
theorem dL_law_426 : decode cL_law 426 = .ok (.if_icmp .eq 573, 3) := by decide +kernel
theorem dL_law_429 : decode cL_law 429 = .ok (.iconst 0, 1) := by decide +kernel
theorem dL_law_430 : decode cL_law 430 = .ok (.ireturn, 1) := by decide +kernel
theorem dL_law_431 : decode cL_law 431 = .ok (.aload_n 1, 1) := by decide +kernel
theorem dL_law_432 : decode cL_law 432 = .ok (.aload_n 0, 1) := by decide +kernel
theorem dL_law_433 : decode cL_law 433 = .ok (.iload_n 3, 1) := by decide +kernel
theorem dL_law_434 : decode cL_law 434 = .ok (.iconst 1, 1) := by decide +kernel
theorem dL_law_435 : decode cL_law 435 = .ok (.iadd, 1) := by decide +kernel
theorem dL_law_436 : decode cL_law 436 = .ok (.iaload, 1) := by decide +kernel
theorem dL_law_437 : decode cL_law 437 = .ok (.ifCond .eq 7, 3) := by decide +kernel
theorem dL_law_440 : decode cL_law 440 = .ok (.iconst 1, 1) := by decide +kernel
theorem dL_law_441 : decode cL_law 441 = .ok (.goto 4, 3) := by decide +kernel
theorem dL_law_444 : decode cL_law 444 = .ok (.iconst 0, 1) := by decide +kernel
theorem dL_law_445 : decode cL_law 445 = .ok (.invokevirtual 60, 3) := by decide +kernel
theorem dL_law_448 : decode cL_law 448 = .ok (.aload_n 2, 1) := by decide +kernel
theorem dL_law_449 : decode cL_law 449 = .ok (.aload_n 0, 1) := by decide +kernel
theorem dL_law_450 : decode cL_law 450 = .ok (.iload_n 3, 1) := by decide +kernel
theorem dL_law_451 : decode cL_law 451 = .ok (.iconst 1, 1) := by decide +kernel
theorem dL_law_452 : decode cL_law 452 = .ok (.iadd, 1) := by decide +kernel
theorem dL_law_453 : decode cL_law 453 = .ok (.iaload, 1) := by decide +kernel
theorem dL_law_454 : decode cL_law 454 = .ok (.ifCond .eq 7, 3) := by decide +kernel
theorem dL_law_457 : decode cL_law 457 = .ok (.iconst 1, 1) := by decide +kernel
theorem dL_law_458 : decode cL_law 458 = .ok (.goto 4, 3) := by decide +kernel
theorem dL_law_461 : decode cL_law 461 = .ok (.iconst 0, 1) := by decide +kernel
theorem dL_law_462 : decode cL_law 462 = .ok (.invokevirtual 64, 3) := by decide +kernel
theorem dL_law_465 : decode cL_law 465 = .ok (.if_icmp .eq 534, 3) := by decide +kernel
theorem dL_law_468 : decode cL_law 468 = .ok (.iconst 0, 1) := by decide +kernel
theorem dL_law_469 : decode cL_law 469 = .ok (.ireturn, 1) := by decide +kernel
theorem dL_law_470 : decode cL_law 470 = .ok (.aload_n 1, 1) := by decide +kernel
theorem dL_law_471 : decode cL_law 471 = .ok (.aload_n 0, 1) := by decide +kernel
theorem dL_law_472 : decode cL_law 472 = .ok (.iload_n 3, 1) := by decide +kernel
theorem dL_law_473 : decode cL_law 473 = .ok (.iconst 1, 1) := by decide +kernel
theorem dL_law_474 : decode cL_law 474 = .ok (.iadd, 1) := by decide +kernel
theorem dL_law_475 : decode cL_law 475 = .ok (.iaload, 1) := by decide +kernel
theorem dL_law_476 : decode cL_law 476 = .ok (.invokevirtual 65, 3) := by decide +kernel
theorem dL_law_479 : decode cL_law 479 = .ok (.aload_n 2, 1) := by decide +kernel
theorem dL_law_480 : decode cL_law 480 = .ok (.aload_n 0, 1) := by decide +kernel
theorem dL_law_481 : decode cL_law 481 = .ok (.iload_n 3, 1) := by decide +kernel
theorem dL_law_482 : decode cL_law 482 = .ok (.iconst 1, 1) := by decide +kernel
theorem dL_law_483 : decode cL_law 483 = .ok (.iadd, 1) := by decide +kernel
theorem dL_law_484 : decode cL_law 484 = .ok (.iaload, 1) := by decide +kernel
theorem dL_law_485 : decode cL_law 485 = .ok (.invokevirtual 68, 3) := by decide +kernel
theorem dL_law_488 : decode cL_law 488 = .ok (.if_icmp .eq 511, 3) := by decide +kernel
theorem dL_law_491 : decode cL_law 491 = .ok (.iconst 0, 1) := by decide +kernel
theorem dL_law_492 : decode cL_law 492 = .ok (.ireturn, 1) := by decide +kernel
theorem dL_law_493 : decode cL_law 493 = .ok (.aload_n 1, 1) := by decide +kernel
theorem dL_law_494 : decode cL_law 494 = .ok (.aload_n 0, 1) := by decide +kernel
theorem dL_law_495 : decode cL_law 495 = .ok (.iload_n 3, 1) := by decide +kernel
theorem dL_law_496 : decode cL_law 496 = .ok (.iconst 1, 1) := by decide +kernel
theorem dL_law_497 : decode cL_law 497 = .ok (.iadd, 1) := by decide +kernel
theorem dL_law_498 : decode cL_law 498 = .ok (.iaload, 1) := by decide +kernel
theorem dL_law_499 : decode cL_law 499 = .ok (.invokevirtual 69, 3) := by decide +kernel
theorem dL_law_502 : decode cL_law 502 = .ok (.aload_n 2, 1) := by decide +kernel
theorem dL_law_503 : decode cL_law 503 = .ok (.aload_n 0, 1) := by decide +kernel
theorem dL_law_504 : decode cL_law 504 = .ok (.iload_n 3, 1) := by decide +kernel
theorem dL_law_505 : decode cL_law 505 = .ok (.iconst 1, 1) := by decide +kernel
theorem dL_law_506 : decode cL_law 506 = .ok (.iadd, 1) := by decide +kernel
theorem dL_law_507 : decode cL_law 507 = .ok (.iaload, 1) := by decide +kernel
theorem dL_law_508 : decode cL_law 508 = .ok (.invokevirtual 72, 3) := by decide +kernel
theorem dL_law_511 : decode cL_law 511 = .ok (.if_icmp .eq 488, 3) := by decide +kernel
theorem dL_law_514 : decode cL_law 514 = .ok (.iconst 0, 1) := by decide +kernel
theorem dL_law_515 : decode cL_law 515 = .ok (.ireturn, 1) := by decide +kernel
theorem dL_law_516 : decode cL_law 516 = .ok (.aload_n 1, 1) := by decide +kernel
theorem dL_law_517 : decode cL_law 517 = .ok (.invokevirtual 73, 3) := by decide +kernel
theorem dL_law_520 : decode cL_law 520 = .ok (.aload_n 2, 1) := by decide +kernel
theorem dL_law_521 : decode cL_law 521 = .ok (.invokevirtual 76, 3) := by decide +kernel
theorem dL_law_524 : decode cL_law 524 = .ok (.if_icmp .eq 475, 3) := by decide +kernel
theorem dL_law_527 : decode cL_law 527 = .ok (.iconst 0, 1) := by decide +kernel
theorem dL_law_528 : decode cL_law 528 = .ok (.ireturn, 1) := by decide +kernel
theorem dL_law_529 : decode cL_law 529 = .ok (.aload_n 1, 1) := by decide +kernel
theorem dL_law_530 : decode cL_law 530 = .ok (.aload_n 0, 1) := by decide +kernel
theorem dL_law_531 : decode cL_law 531 = .ok (.iload_n 3, 1) := by decide +kernel
theorem dL_law_532 : decode cL_law 532 = .ok (.iconst 1, 1) := by decide +kernel
theorem dL_law_533 : decode cL_law 533 = .ok (.iadd, 1) := by decide +kernel
theorem dL_law_534 : decode cL_law 534 = .ok (.iaload, 1) := by decide +kernel
theorem dL_law_535 : decode cL_law 535 = .ok (.invokevirtual 77, 3) := by decide +kernel
theorem dL_law_538 : decode cL_law 538 = .ok (.aload_n 2, 1) := by decide +kernel
theorem dL_law_539 : decode cL_law 539 = .ok (.aload_n 0, 1) := by decide +kernel
theorem dL_law_540 : decode cL_law 540 = .ok (.iload_n 3, 1) := by decide +kernel
theorem dL_law_541 : decode cL_law 541 = .ok (.iconst 1, 1) := by decide +kernel
theorem dL_law_542 : decode cL_law 542 = .ok (.iadd, 1) := by decide +kernel
theorem dL_law_543 : decode cL_law 543 = .ok (.iaload, 1) := by decide +kernel
theorem dL_law_544 : decode cL_law 544 = .ok (.invokevirtual 80, 3) := by decide +kernel
theorem dL_law_547 : decode cL_law 547 = .ok (.if_icmp .eq 452, 3) := by decide +kernel
theorem dL_law_550 : decode cL_law 550 = .ok (.iconst 0, 1) := by decide +kernel
theorem dL_law_551 : decode cL_law 551 = .ok (.ireturn, 1) := by decide +kernel
theorem dL_law_552 : decode cL_law 552 = .ok (.aload_n 1, 1) := by decide +kernel
theorem dL_law_553 : decode cL_law 553 = .ok (.aload_n 0, 1) := by decide +kernel
theorem dL_law_554 : decode cL_law 554 = .ok (.iload_n 3, 1) := by decide +kernel
theorem dL_law_555 : decode cL_law 555 = .ok (.iconst 1, 1) := by decide +kernel
theorem dL_law_556 : decode cL_law 556 = .ok (.iadd, 1) := by decide +kernel
theorem dL_law_557 : decode cL_law 557 = .ok (.iaload, 1) := by decide +kernel
theorem dL_law_558 : decode cL_law 558 = .ok (.aload_n 0, 1) := by decide +kernel
theorem dL_law_559 : decode cL_law 559 = .ok (.iload_n 3, 1) := by decide +kernel
theorem dL_law_560 : decode cL_law 560 = .ok (.iconst 2, 1) := by decide +kernel
theorem dL_law_561 : decode cL_law 561 = .ok (.iadd, 1) := by decide +kernel
theorem dL_law_562 : decode cL_law 562 = .ok (.iaload, 1) := by decide +kernel
theorem dL_law_563 : decode cL_law 563 = .ok (.invokevirtual 81, 3) := by decide +kernel
theorem dL_law_566 : decode cL_law 566 = .ok (.aload_n 2, 1) := by decide +kernel
theorem dL_law_567 : decode cL_law 567 = .ok (.aload_n 0, 1) := by decide +kernel
theorem dL_law_568 : decode cL_law 568 = .ok (.iload_n 3, 1) := by decide +kernel
theorem dL_law_569 : decode cL_law 569 = .ok (.iconst 1, 1) := by decide +kernel
theorem dL_law_570 : decode cL_law 570 = .ok (.iadd, 1) := by decide +kernel
theorem dL_law_571 : decode cL_law 571 = .ok (.iaload, 1) := by decide +kernel
theorem dL_law_572 : decode cL_law 572 = .ok (.aload_n 0, 1) := by decide +kernel
theorem dL_law_573 : decode cL_law 573 = .ok (.iload_n 3, 1) := by decide +kernel
theorem dL_law_574 : decode cL_law 574 = .ok (.iconst 2, 1) := by decide +kernel
theorem dL_law_575 : decode cL_law 575 = .ok (.iadd, 1) := by decide +kernel
theorem dL_law_576 : decode cL_law 576 = .ok (.iaload, 1) := by decide +kernel
theorem dL_law_577 : decode cL_law 577 = .ok (.invokevirtual 84, 3) := by decide +kernel
theorem dL_law_580 : decode cL_law 580 = .ok (.if_icmp .eq 419, 3) := by decide +kernel
theorem dL_law_583 : decode cL_law 583 = .ok (.iconst 0, 1) := by decide +kernel
theorem dL_law_584 : decode cL_law 584 = .ok (.ireturn, 1) := by decide +kernel
theorem dL_law_585 : decode cL_law 585 = .ok (.aload_n 1, 1) := by decide +kernel
theorem dL_law_586 : decode cL_law 586 = .ok (.invokevirtual 85, 3) := by decide +kernel
theorem dL_law_589 : decode cL_law 589 = .ok (.aload_n 2, 1) := by decide +kernel
theorem dL_law_590 : decode cL_law 590 = .ok (.invokevirtual 88, 3) := by decide +kernel
theorem dL_law_593 : decode cL_law 593 = .ok (.if_icmp .eq 406, 3) := by decide +kernel
theorem dL_law_596 : decode cL_law 596 = .ok (.iconst 0, 1) := by decide +kernel
theorem dL_law_597 : decode cL_law 597 = .ok (.ireturn, 1) := by decide +kernel
theorem dL_law_598 : decode cL_law 598 = .ok (.aload_n 1, 1) := by decide +kernel
theorem dL_law_599 : decode cL_law 599 = .ok (.invokevirtual 89, 3) := by decide +kernel
theorem dL_law_602 : decode cL_law 602 = .ok (.aload_n 2, 1) := by decide +kernel
theorem dL_law_603 : decode cL_law 603 = .ok (.invokevirtual 92, 3) := by decide +kernel
theorem dL_law_606 : decode cL_law 606 = .ok (.if_icmp .eq 393, 3) := by decide +kernel
theorem dL_law_609 : decode cL_law 609 = .ok (.iconst 0, 1) := by decide +kernel
theorem dL_law_610 : decode cL_law 610 = .ok (.ireturn, 1) := by decide +kernel
theorem dL_law_611 : decode cL_law 611 = .ok (.aload_n 1, 1) := by decide +kernel
theorem dL_law_612 : decode cL_law 612 = .ok (.aload_n 0, 1) := by decide +kernel
theorem dL_law_613 : decode cL_law 613 = .ok (.iload_n 3, 1) := by decide +kernel
theorem dL_law_614 : decode cL_law 614 = .ok (.iconst 1, 1) := by decide +kernel
theorem dL_law_615 : decode cL_law 615 = .ok (.iadd, 1) := by decide +kernel
theorem dL_law_616 : decode cL_law 616 = .ok (.iaload, 1) := by decide +kernel
theorem dL_law_617 : decode cL_law 617 = .ok (.aload_n 0, 1) := by decide +kernel
theorem dL_law_618 : decode cL_law 618 = .ok (.iload_n 3, 1) := by decide +kernel
theorem dL_law_619 : decode cL_law 619 = .ok (.iconst 2, 1) := by decide +kernel
theorem dL_law_620 : decode cL_law 620 = .ok (.iadd, 1) := by decide +kernel
theorem dL_law_621 : decode cL_law 621 = .ok (.iaload, 1) := by decide +kernel
theorem dL_law_622 : decode cL_law 622 = .ok (.invokevirtual 93, 3) := by decide +kernel
theorem dL_law_625 : decode cL_law 625 = .ok (.aload_n 2, 1) := by decide +kernel
theorem dL_law_626 : decode cL_law 626 = .ok (.aload_n 0, 1) := by decide +kernel
theorem dL_law_627 : decode cL_law 627 = .ok (.iload_n 3, 1) := by decide +kernel
theorem dL_law_628 : decode cL_law 628 = .ok (.iconst 1, 1) := by decide +kernel
theorem dL_law_629 : decode cL_law 629 = .ok (.iadd, 1) := by decide +kernel
theorem dL_law_630 : decode cL_law 630 = .ok (.iaload, 1) := by decide +kernel
theorem dL_law_631 : decode cL_law 631 = .ok (.aload_n 0, 1) := by decide +kernel
theorem dL_law_632 : decode cL_law 632 = .ok (.iload_n 3, 1) := by decide +kernel
theorem dL_law_633 : decode cL_law 633 = .ok (.iconst 2, 1) := by decide +kernel
theorem dL_law_634 : decode cL_law 634 = .ok (.iadd, 1) := by decide +kernel
theorem dL_law_635 : decode cL_law 635 = .ok (.iaload, 1) := by decide +kernel
theorem dL_law_636 : decode cL_law 636 = .ok (.invokevirtual 96, 3) := by decide +kernel
theorem dL_law_639 : decode cL_law 639 = .ok (.if_icmp .eq 360, 3) := by decide +kernel
theorem dL_law_642 : decode cL_law 642 = .ok (.iconst 0, 1) := by decide +kernel
theorem dL_law_643 : decode cL_law 643 = .ok (.ireturn, 1) := by decide +kernel
theorem dL_law_644 : decode cL_law 644 = .ok (.aload_n 1, 1) := by decide +kernel
theorem dL_law_645 : decode cL_law 645 = .ok (.aload_n 0, 1) := by decide +kernel
theorem dL_law_646 : decode cL_law 646 = .ok (.iload_n 3, 1) := by decide +kernel
theorem dL_law_647 : decode cL_law 647 = .ok (.iconst 1, 1) := by decide +kernel
theorem dL_law_648 : decode cL_law 648 = .ok (.iadd, 1) := by decide +kernel
theorem dL_law_649 : decode cL_law 649 = .ok (.iaload, 1) := by decide +kernel
theorem dL_law_650 : decode cL_law 650 = .ok (.invokevirtual 97, 3) := by decide +kernel
theorem dL_law_653 : decode cL_law 653 = .ok (.aload_n 2, 1) := by decide +kernel
theorem dL_law_654 : decode cL_law 654 = .ok (.aload_n 0, 1) := by decide +kernel
theorem dL_law_655 : decode cL_law 655 = .ok (.iload_n 3, 1) := by decide +kernel
theorem dL_law_656 : decode cL_law 656 = .ok (.iconst 1, 1) := by decide +kernel
theorem dL_law_657 : decode cL_law 657 = .ok (.iadd, 1) := by decide +kernel
theorem dL_law_658 : decode cL_law 658 = .ok (.iaload, 1) := by decide +kernel
theorem dL_law_659 : decode cL_law 659 = .ok (.invokevirtual 100, 3) := by decide +kernel
theorem dL_law_662 : decode cL_law 662 = .ok (.if_icmp .eq 337, 3) := by decide +kernel
theorem dL_law_665 : decode cL_law 665 = .ok (.iconst 0, 1) := by decide +kernel
theorem dL_law_666 : decode cL_law 666 = .ok (.ireturn, 1) := by decide +kernel
theorem dL_law_667 : decode cL_law 667 = .ok (.aload_n 1, 1) := by decide +kernel
theorem dL_law_668 : decode cL_law 668 = .ok (.aload_n 0, 1) := by decide +kernel
theorem dL_law_669 : decode cL_law 669 = .ok (.iload_n 3, 1) := by decide +kernel
theorem dL_law_670 : decode cL_law 670 = .ok (.iconst 1, 1) := by decide +kernel
theorem dL_law_671 : decode cL_law 671 = .ok (.iadd, 1) := by decide +kernel
theorem dL_law_672 : decode cL_law 672 = .ok (.iaload, 1) := by decide +kernel
theorem dL_law_673 : decode cL_law 673 = .ok (.aload_n 0, 1) := by decide +kernel
theorem dL_law_674 : decode cL_law 674 = .ok (.iload_n 3, 1) := by decide +kernel
theorem dL_law_675 : decode cL_law 675 = .ok (.iconst 2, 1) := by decide +kernel
theorem dL_law_676 : decode cL_law 676 = .ok (.iadd, 1) := by decide +kernel
theorem dL_law_677 : decode cL_law 677 = .ok (.iaload, 1) := by decide +kernel
theorem dL_law_678 : decode cL_law 678 = .ok (.invokevirtual 101, 3) := by decide +kernel
theorem dL_law_681 : decode cL_law 681 = .ok (.aload_n 2, 1) := by decide +kernel
theorem dL_law_682 : decode cL_law 682 = .ok (.aload_n 0, 1) := by decide +kernel
theorem dL_law_683 : decode cL_law 683 = .ok (.iload_n 3, 1) := by decide +kernel
theorem dL_law_684 : decode cL_law 684 = .ok (.iconst 1, 1) := by decide +kernel
theorem dL_law_685 : decode cL_law 685 = .ok (.iadd, 1) := by decide +kernel
theorem dL_law_686 : decode cL_law 686 = .ok (.iaload, 1) := by decide +kernel
theorem dL_law_687 : decode cL_law 687 = .ok (.aload_n 0, 1) := by decide +kernel
theorem dL_law_688 : decode cL_law 688 = .ok (.iload_n 3, 1) := by decide +kernel
theorem dL_law_689 : decode cL_law 689 = .ok (.iconst 2, 1) := by decide +kernel
theorem dL_law_690 : decode cL_law 690 = .ok (.iadd, 1) := by decide +kernel
theorem dL_law_691 : decode cL_law 691 = .ok (.iaload, 1) := by decide +kernel
theorem dL_law_692 : decode cL_law 692 = .ok (.invokevirtual 104, 3) := by decide +kernel
theorem dL_law_695 : decode cL_law 695 = .ok (.if_icmp .eq 304, 3) := by decide +kernel
theorem dL_law_698 : decode cL_law 698 = .ok (.iconst 0, 1) := by decide +kernel
theorem dL_law_699 : decode cL_law 699 = .ok (.ireturn, 1) := by decide +kernel
theorem dL_law_700 : decode cL_law 700 = .ok (.aload_n 1, 1) := by decide +kernel
theorem dL_law_701 : decode cL_law 701 = .ok (.invokevirtual 105, 3) := by decide +kernel
theorem dL_law_704 : decode cL_law 704 = .ok (.aload_n 2, 1) := by decide +kernel
theorem dL_law_705 : decode cL_law 705 = .ok (.invokevirtual 108, 3) := by decide +kernel
theorem dL_law_708 : decode cL_law 708 = .ok (.if_icmp .eq 291, 3) := by decide +kernel
theorem dL_law_711 : decode cL_law 711 = .ok (.iconst 0, 1) := by decide +kernel
theorem dL_law_712 : decode cL_law 712 = .ok (.ireturn, 1) := by decide +kernel
theorem dL_law_713 : decode cL_law 713 = .ok (.aload_n 1, 1) := by decide +kernel
theorem dL_law_714 : decode cL_law 714 = .ok (.aload_n 0, 1) := by decide +kernel
theorem dL_law_715 : decode cL_law 715 = .ok (.iload_n 3, 1) := by decide +kernel
theorem dL_law_716 : decode cL_law 716 = .ok (.iconst 1, 1) := by decide +kernel
theorem dL_law_717 : decode cL_law 717 = .ok (.iadd, 1) := by decide +kernel
theorem dL_law_718 : decode cL_law 718 = .ok (.iaload, 1) := by decide +kernel
theorem dL_law_719 : decode cL_law 719 = .ok (.aload_n 0, 1) := by decide +kernel
theorem dL_law_720 : decode cL_law 720 = .ok (.iload_n 3, 1) := by decide +kernel
theorem dL_law_721 : decode cL_law 721 = .ok (.iconst 2, 1) := by decide +kernel
theorem dL_law_722 : decode cL_law 722 = .ok (.iadd, 1) := by decide +kernel
theorem dL_law_723 : decode cL_law 723 = .ok (.iaload, 1) := by decide +kernel
theorem dL_law_724 : decode cL_law 724 = .ok (.invokevirtual 109, 3) := by decide +kernel
theorem dL_law_727 : decode cL_law 727 = .ok (.aload_n 2, 1) := by decide +kernel
theorem dL_law_728 : decode cL_law 728 = .ok (.aload_n 0, 1) := by decide +kernel
theorem dL_law_729 : decode cL_law 729 = .ok (.iload_n 3, 1) := by decide +kernel
theorem dL_law_730 : decode cL_law 730 = .ok (.iconst 1, 1) := by decide +kernel
theorem dL_law_731 : decode cL_law 731 = .ok (.iadd, 1) := by decide +kernel
theorem dL_law_732 : decode cL_law 732 = .ok (.iaload, 1) := by decide +kernel
theorem dL_law_733 : decode cL_law 733 = .ok (.aload_n 0, 1) := by decide +kernel
theorem dL_law_734 : decode cL_law 734 = .ok (.iload_n 3, 1) := by decide +kernel
theorem dL_law_735 : decode cL_law 735 = .ok (.iconst 2, 1) := by decide +kernel
theorem dL_law_736 : decode cL_law 736 = .ok (.iadd, 1) := by decide +kernel
theorem dL_law_737 : decode cL_law 737 = .ok (.iaload, 1) := by decide +kernel
theorem dL_law_738 : decode cL_law 738 = .ok (.invokevirtual 112, 3) := by decide +kernel
theorem dL_law_741 : decode cL_law 741 = .ok (.if_icmp .eq 258, 3) := by decide +kernel
theorem dL_law_744 : decode cL_law 744 = .ok (.iconst 0, 1) := by decide +kernel
theorem dL_law_745 : decode cL_law 745 = .ok (.ireturn, 1) := by decide +kernel
theorem dL_law_746 : decode cL_law 746 = .ok (.aload_n 1, 1) := by decide +kernel
theorem dL_law_747 : decode cL_law 747 = .ok (.invokevirtual 113, 3) := by decide +kernel
theorem dL_law_750 : decode cL_law 750 = .ok (.aload_n 2, 1) := by decide +kernel
theorem dL_law_751 : decode cL_law 751 = .ok (.invokevirtual 116, 3) := by decide +kernel
theorem dL_law_754 : decode cL_law 754 = .ok (.if_icmp .eq 245, 3) := by decide +kernel
theorem dL_law_757 : decode cL_law 757 = .ok (.iconst 0, 1) := by decide +kernel
theorem dL_law_758 : decode cL_law 758 = .ok (.ireturn, 1) := by decide +kernel
theorem dL_law_759 : decode cL_law 759 = .ok (.aload_n 1, 1) := by decide +kernel
theorem dL_law_760 : decode cL_law 760 = .ok (.aload_n 0, 1) := by decide +kernel
theorem dL_law_761 : decode cL_law 761 = .ok (.iload_n 3, 1) := by decide +kernel
theorem dL_law_762 : decode cL_law 762 = .ok (.iconst 1, 1) := by decide +kernel
theorem dL_law_763 : decode cL_law 763 = .ok (.iadd, 1) := by decide +kernel
theorem dL_law_764 : decode cL_law 764 = .ok (.iaload, 1) := by decide +kernel
theorem dL_law_765 : decode cL_law 765 = .ok (.aload_n 0, 1) := by decide +kernel
theorem dL_law_766 : decode cL_law 766 = .ok (.iload_n 3, 1) := by decide +kernel
theorem dL_law_767 : decode cL_law 767 = .ok (.iconst 2, 1) := by decide +kernel
theorem dL_law_768 : decode cL_law 768 = .ok (.iadd, 1) := by decide +kernel
theorem dL_law_769 : decode cL_law 769 = .ok (.iaload, 1) := by decide +kernel
theorem dL_law_770 : decode cL_law 770 = .ok (.invokevirtual 117, 3) := by decide +kernel
theorem dL_law_773 : decode cL_law 773 = .ok (.aload_n 2, 1) := by decide +kernel
theorem dL_law_774 : decode cL_law 774 = .ok (.aload_n 0, 1) := by decide +kernel
theorem dL_law_775 : decode cL_law 775 = .ok (.iload_n 3, 1) := by decide +kernel
theorem dL_law_776 : decode cL_law 776 = .ok (.iconst 1, 1) := by decide +kernel
theorem dL_law_777 : decode cL_law 777 = .ok (.iadd, 1) := by decide +kernel
theorem dL_law_778 : decode cL_law 778 = .ok (.iaload, 1) := by decide +kernel
theorem dL_law_779 : decode cL_law 779 = .ok (.aload_n 0, 1) := by decide +kernel
theorem dL_law_780 : decode cL_law 780 = .ok (.iload_n 3, 1) := by decide +kernel
theorem dL_law_781 : decode cL_law 781 = .ok (.iconst 2, 1) := by decide +kernel
theorem dL_law_782 : decode cL_law 782 = .ok (.iadd, 1) := by decide +kernel
theorem dL_law_783 : decode cL_law 783 = .ok (.iaload, 1) := by decide +kernel
theorem dL_law_784 : decode cL_law 784 = .ok (.invokevirtual 120, 3) := by decide +kernel
theorem dL_law_787 : decode cL_law 787 = .ok (.if_icmp .eq 212, 3) := by decide +kernel
theorem dL_law_790 : decode cL_law 790 = .ok (.iconst 0, 1) := by decide +kernel
theorem dL_law_791 : decode cL_law 791 = .ok (.ireturn, 1) := by decide +kernel
theorem dL_law_792 : decode cL_law 792 = .ok (.aload_n 1, 1) := by decide +kernel
theorem dL_law_793 : decode cL_law 793 = .ok (.aload_n 0, 1) := by decide +kernel
theorem dL_law_794 : decode cL_law 794 = .ok (.iload_n 3, 1) := by decide +kernel
theorem dL_law_795 : decode cL_law 795 = .ok (.iconst 1, 1) := by decide +kernel
theorem dL_law_796 : decode cL_law 796 = .ok (.iadd, 1) := by decide +kernel
theorem dL_law_797 : decode cL_law 797 = .ok (.iaload, 1) := by decide +kernel
theorem dL_law_798 : decode cL_law 798 = .ok (.aload_n 0, 1) := by decide +kernel
theorem dL_law_799 : decode cL_law 799 = .ok (.iload_n 3, 1) := by decide +kernel
theorem dL_law_800 : decode cL_law 800 = .ok (.iconst 2, 1) := by decide +kernel
theorem dL_law_801 : decode cL_law 801 = .ok (.iadd, 1) := by decide +kernel
theorem dL_law_802 : decode cL_law 802 = .ok (.iaload, 1) := by decide +kernel
theorem dL_law_803 : decode cL_law 803 = .ok (.invokevirtual 121, 3) := by decide +kernel
theorem dL_law_806 : decode cL_law 806 = .ok (.aload_n 2, 1) := by decide +kernel
theorem dL_law_807 : decode cL_law 807 = .ok (.aload_n 0, 1) := by decide +kernel
theorem dL_law_808 : decode cL_law 808 = .ok (.iload_n 3, 1) := by decide +kernel
theorem dL_law_809 : decode cL_law 809 = .ok (.iconst 1, 1) := by decide +kernel
theorem dL_law_810 : decode cL_law 810 = .ok (.iadd, 1) := by decide +kernel
theorem dL_law_811 : decode cL_law 811 = .ok (.iaload, 1) := by decide +kernel
theorem dL_law_812 : decode cL_law 812 = .ok (.aload_n 0, 1) := by decide +kernel
theorem dL_law_813 : decode cL_law 813 = .ok (.iload_n 3, 1) := by decide +kernel
theorem dL_law_814 : decode cL_law 814 = .ok (.iconst 2, 1) := by decide +kernel
theorem dL_law_815 : decode cL_law 815 = .ok (.iadd, 1) := by decide +kernel
theorem dL_law_816 : decode cL_law 816 = .ok (.iaload, 1) := by decide +kernel
theorem dL_law_817 : decode cL_law 817 = .ok (.invokevirtual 124, 3) := by decide +kernel
theorem dL_law_820 : decode cL_law 820 = .ok (.if_icmp .eq 179, 3) := by decide +kernel
theorem dL_law_823 : decode cL_law 823 = .ok (.iconst 0, 1) := by decide +kernel
theorem dL_law_824 : decode cL_law 824 = .ok (.ireturn, 1) := by decide +kernel
theorem dL_law_825 : decode cL_law 825 = .ok (.aload_n 1, 1) := by decide +kernel
theorem dL_law_826 : decode cL_law 826 = .ok (.aload_n 0, 1) := by decide +kernel
theorem dL_law_827 : decode cL_law 827 = .ok (.iload_n 3, 1) := by decide +kernel
theorem dL_law_828 : decode cL_law 828 = .ok (.iconst 1, 1) := by decide +kernel
theorem dL_law_829 : decode cL_law 829 = .ok (.iadd, 1) := by decide +kernel
theorem dL_law_830 : decode cL_law 830 = .ok (.iaload, 1) := by decide +kernel
theorem dL_law_831 : decode cL_law 831 = .ok (.aload_n 0, 1) := by decide +kernel
theorem dL_law_832 : decode cL_law 832 = .ok (.iload_n 3, 1) := by decide +kernel
theorem dL_law_833 : decode cL_law 833 = .ok (.iconst 2, 1) := by decide +kernel
theorem dL_law_834 : decode cL_law 834 = .ok (.iadd, 1) := by decide +kernel
theorem dL_law_835 : decode cL_law 835 = .ok (.iaload, 1) := by decide +kernel
theorem dL_law_836 : decode cL_law 836 = .ok (.invokevirtual 125, 3) := by decide +kernel
theorem dL_law_839 : decode cL_law 839 = .ok (.aload_n 2, 1) := by decide +kernel
theorem dL_law_840 : decode cL_law 840 = .ok (.aload_n 0, 1) := by decide +kernel
theorem dL_law_841 : decode cL_law 841 = .ok (.iload_n 3, 1) := by decide +kernel
theorem dL_law_842 : decode cL_law 842 = .ok (.iconst 1, 1) := by decide +kernel
theorem dL_law_843 : decode cL_law 843 = .ok (.iadd, 1) := by decide +kernel
theorem dL_law_844 : decode cL_law 844 = .ok (.iaload, 1) := by decide +kernel
theorem dL_law_845 : decode cL_law 845 = .ok (.aload_n 0, 1) := by decide +kernel
theorem dL_law_846 : decode cL_law 846 = .ok (.iload_n 3, 1) := by decide +kernel
theorem dL_law_847 : decode cL_law 847 = .ok (.iconst 2, 1) := by decide +kernel
theorem dL_law_848 : decode cL_law 848 = .ok (.iadd, 1) := by decide +kernel
theorem dL_law_849 : decode cL_law 849 = .ok (.iaload, 1) := by decide +kernel
theorem dL_law_850 : decode cL_law 850 = .ok (.invokevirtual 128, 3) := by decide +kernel
theorem dL_law_853 : decode cL_law 853 = .ok (.if_icmp .eq 146, 3) := by decide +kernel
theorem dL_law_856 : decode cL_law 856 = .ok (.iconst 0, 1) := by decide +kernel
theorem dL_law_857 : decode cL_law 857 = .ok (.ireturn, 1) := by decide +kernel
theorem dL_law_858 : decode cL_law 858 = .ok (.aload_n 1, 1) := by decide +kernel
theorem dL_law_859 : decode cL_law 859 = .ok (.invokevirtual 129, 3) := by decide +kernel
theorem dL_law_862 : decode cL_law 862 = .ok (.aload_n 2, 1) := by decide +kernel
theorem dL_law_863 : decode cL_law 863 = .ok (.invokevirtual 132, 3) := by decide +kernel
theorem dL_law_866 : decode cL_law 866 = .ok (.if_icmp .eq 133, 3) := by decide +kernel
theorem dL_law_869 : decode cL_law 869 = .ok (.iconst 0, 1) := by decide +kernel
theorem dL_law_870 : decode cL_law 870 = .ok (.ireturn, 1) := by decide +kernel
theorem dL_law_871 : decode cL_law 871 = .ok (.aload_n 1, 1) := by decide +kernel
theorem dL_law_872 : decode cL_law 872 = .ok (.aload_n 0, 1) := by decide +kernel
theorem dL_law_873 : decode cL_law 873 = .ok (.iload_n 3, 1) := by decide +kernel
theorem dL_law_874 : decode cL_law 874 = .ok (.iconst 1, 1) := by decide +kernel
theorem dL_law_875 : decode cL_law 875 = .ok (.iadd, 1) := by decide +kernel
theorem dL_law_876 : decode cL_law 876 = .ok (.iaload, 1) := by decide +kernel
theorem dL_law_877 : decode cL_law 877 = .ok (.aload_n 0, 1) := by decide +kernel
theorem dL_law_878 : decode cL_law 878 = .ok (.iload_n 3, 1) := by decide +kernel
theorem dL_law_879 : decode cL_law 879 = .ok (.iconst 2, 1) := by decide +kernel
theorem dL_law_880 : decode cL_law 880 = .ok (.iadd, 1) := by decide +kernel
theorem dL_law_881 : decode cL_law 881 = .ok (.iaload, 1) := by decide +kernel
theorem dL_law_882 : decode cL_law 882 = .ok (.invokevirtual 133, 3) := by decide +kernel
theorem dL_law_885 : decode cL_law 885 = .ok (.aload_n 2, 1) := by decide +kernel
theorem dL_law_886 : decode cL_law 886 = .ok (.aload_n 0, 1) := by decide +kernel
theorem dL_law_887 : decode cL_law 887 = .ok (.iload_n 3, 1) := by decide +kernel
theorem dL_law_888 : decode cL_law 888 = .ok (.iconst 1, 1) := by decide +kernel
theorem dL_law_889 : decode cL_law 889 = .ok (.iadd, 1) := by decide +kernel
theorem dL_law_890 : decode cL_law 890 = .ok (.iaload, 1) := by decide +kernel
theorem dL_law_891 : decode cL_law 891 = .ok (.aload_n 0, 1) := by decide +kernel
theorem dL_law_892 : decode cL_law 892 = .ok (.iload_n 3, 1) := by decide +kernel
theorem dL_law_893 : decode cL_law 893 = .ok (.iconst 2, 1) := by decide +kernel
theorem dL_law_894 : decode cL_law 894 = .ok (.iadd, 1) := by decide +kernel
theorem dL_law_895 : decode cL_law 895 = .ok (.iaload, 1) := by decide +kernel
theorem dL_law_896 : decode cL_law 896 = .ok (.invokevirtual 136, 3) := by decide +kernel
theorem dL_law_899 : decode cL_law 899 = .ok (.if_icmp .eq 100, 3) := by decide +kernel
theorem dL_law_902 : decode cL_law 902 = .ok (.iconst 0, 1) := by decide +kernel
theorem dL_law_903 : decode cL_law 903 = .ok (.ireturn, 1) := by decide +kernel
theorem dL_law_904 : decode cL_law 904 = .ok (.aload_n 1, 1) := by decide +kernel
theorem dL_law_905 : decode cL_law 905 = .ok (.invokevirtual 137, 3) := by decide +kernel
theorem dL_law_908 : decode cL_law 908 = .ok (.aload_n 2, 1) := by decide +kernel
theorem dL_law_909 : decode cL_law 909 = .ok (.invokevirtual 140, 3) := by decide +kernel
theorem dL_law_912 : decode cL_law 912 = .ok (.if_icmp .eq 87, 3) := by decide +kernel
theorem dL_law_915 : decode cL_law 915 = .ok (.iconst 0, 1) := by decide +kernel
theorem dL_law_916 : decode cL_law 916 = .ok (.ireturn, 1) := by decide +kernel
theorem dL_law_917 : decode cL_law 917 = .ok (.aload_n 1, 1) := by decide +kernel
theorem dL_law_918 : decode cL_law 918 = .ok (.invokevirtual 141, 3) := by decide +kernel
theorem dL_law_921 : decode cL_law 921 = .ok (.aload_n 2, 1) := by decide +kernel
theorem dL_law_922 : decode cL_law 922 = .ok (.invokevirtual 144, 3) := by decide +kernel
theorem dL_law_925 : decode cL_law 925 = .ok (.if_icmp .eq 74, 3) := by decide +kernel
theorem dL_law_928 : decode cL_law 928 = .ok (.iconst 0, 1) := by decide +kernel
theorem dL_law_929 : decode cL_law 929 = .ok (.ireturn, 1) := by decide +kernel
theorem dL_law_930 : decode cL_law 930 = .ok (.aload_n 1, 1) := by decide +kernel
theorem dL_law_931 : decode cL_law 931 = .ok (.aload_n 0, 1) := by decide +kernel
theorem dL_law_932 : decode cL_law 932 = .ok (.iload_n 3, 1) := by decide +kernel
theorem dL_law_933 : decode cL_law 933 = .ok (.iconst 1, 1) := by decide +kernel
theorem dL_law_934 : decode cL_law 934 = .ok (.iadd, 1) := by decide +kernel
theorem dL_law_935 : decode cL_law 935 = .ok (.iaload, 1) := by decide +kernel
theorem dL_law_936 : decode cL_law 936 = .ok (.invokevirtual 145, 3) := by decide +kernel
theorem dL_law_939 : decode cL_law 939 = .ok (.aload_n 2, 1) := by decide +kernel
theorem dL_law_940 : decode cL_law 940 = .ok (.aload_n 0, 1) := by decide +kernel
theorem dL_law_941 : decode cL_law 941 = .ok (.iload_n 3, 1) := by decide +kernel
theorem dL_law_942 : decode cL_law 942 = .ok (.iconst 1, 1) := by decide +kernel
theorem dL_law_943 : decode cL_law 943 = .ok (.iadd, 1) := by decide +kernel
theorem dL_law_944 : decode cL_law 944 = .ok (.iaload, 1) := by decide +kernel
theorem dL_law_945 : decode cL_law 945 = .ok (.invokevirtual 148, 3) := by decide +kernel
theorem dL_law_948 : decode cL_law 948 = .ok (.if_icmp .eq 51, 3) := by decide +kernel
theorem dL_law_951 : decode cL_law 951 = .ok (.iconst 0, 1) := by decide +kernel
theorem dL_law_952 : decode cL_law 952 = .ok (.ireturn, 1) := by decide +kernel
theorem dL_law_953 : decode cL_law 953 = .ok (.aload_n 1, 1) := by decide +kernel
theorem dL_law_954 : decode cL_law 954 = .ok (.aload_n 0, 1) := by decide +kernel
theorem dL_law_955 : decode cL_law 955 = .ok (.iload_n 3, 1) := by decide +kernel
theorem dL_law_956 : decode cL_law 956 = .ok (.iconst 1, 1) := by decide +kernel
theorem dL_law_957 : decode cL_law 957 = .ok (.iadd, 1) := by decide +kernel
theorem dL_law_958 : decode cL_law 958 = .ok (.iaload, 1) := by decide +kernel
theorem dL_law_959 : decode cL_law 959 = .ok (.invokevirtual 149, 3) := by decide +kernel
theorem dL_law_962 : decode cL_law 962 = .ok (.aload_n 2, 1) := by decide +kernel
theorem dL_law_963 : decode cL_law 963 = .ok (.aload_n 0, 1) := by decide +kernel
theorem dL_law_964 : decode cL_law 964 = .ok (.iload_n 3, 1) := by decide +kernel
theorem dL_law_965 : decode cL_law 965 = .ok (.iconst 1, 1) := by decide +kernel
theorem dL_law_966 : decode cL_law 966 = .ok (.iadd, 1) := by decide +kernel
theorem dL_law_967 : decode cL_law 967 = .ok (.iaload, 1) := by decide +kernel
theorem dL_law_968 : decode cL_law 968 = .ok (.invokevirtual 152, 3) := by decide +kernel
theorem dL_law_971 : decode cL_law 971 = .ok (.if_icmp .eq 28, 3) := by decide +kernel
theorem dL_law_974 : decode cL_law 974 = .ok (.iconst 0, 1) := by decide +kernel
theorem dL_law_975 : decode cL_law 975 = .ok (.ireturn, 1) := by decide +kernel
theorem dL_law_976 : decode cL_law 976 = .ok (.aload_n 1, 1) := by decide +kernel
theorem dL_law_977 : decode cL_law 977 = .ok (.aload_n 0, 1) := by decide +kernel
theorem dL_law_978 : decode cL_law 978 = .ok (.iload_n 3, 1) := by decide +kernel
theorem dL_law_979 : decode cL_law 979 = .ok (.iconst 1, 1) := by decide +kernel
theorem dL_law_980 : decode cL_law 980 = .ok (.iadd, 1) := by decide +kernel
theorem dL_law_981 : decode cL_law 981 = .ok (.iaload, 1) := by decide +kernel
theorem dL_law_982 : decode cL_law 982 = .ok (.invokevirtual 153, 3) := by decide +kernel
theorem dL_law_985 : decode cL_law 985 = .ok (.aload_n 2, 1) := by decide +kernel
theorem dL_law_986 : decode cL_law 986 = .ok (.aload_n 0, 1) := by decide +kernel
theorem dL_law_987 : decode cL_law 987 = .ok (.iload_n 3, 1) := by decide +kernel
theorem dL_law_988 : decode cL_law 988 = .ok (.iconst 1, 1) := by decide +kernel
theorem dL_law_989 : decode cL_law 989 = .ok (.iadd, 1) := by decide +kernel
theorem dL_law_990 : decode cL_law 990 = .ok (.iaload, 1) := by decide +kernel
theorem dL_law_991 : decode cL_law 991 = .ok (.invokevirtual 156, 3) := by decide +kernel
theorem dL_law_994 : decode cL_law 994 = .ok (.if_icmp .eq 5, 3) := by decide +kernel
theorem dL_law_997 : decode cL_law 997 = .ok (.iconst 0, 1) := by decide +kernel
theorem dL_law_998 : decode cL_law 998 = .ok (.ireturn, 1) := by decide +kernel
theorem dL_law_999 : decode cL_law 999 = .ok (.iinc 3 3, 3) := by decide +kernel
theorem dL_law_1002 : decode cL_law 1002 = .ok (.goto (-984), 3) := by decide +kernel
theorem dL_law_1005 : decode cL_law 1005 = .ok (.iconst 1, 1) := by decide +kernel
theorem dL_law_1006 : decode cL_law 1006 = .ok (.ireturn, 1) := by decide +kernel
