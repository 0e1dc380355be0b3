theorem dX11_drift_54 : decode cX11_drift 54 = .ok (.invokevirtual 136, 3) := by decide +kernel
theorem dX11_drift_57 : decode cX11_drift 57 = .ok (.ireturn, 1) := by decide +kernel
theorem dX11_undo_0 : decode cX11_undo 0 = .ok (.aload_n 0, 1) := by decide +kernel
theorem dX11_undo_1 : decode cX11_undo 1 = .ok (.getfield 36, 3) := by decide +kernel
theorem dX11_undo_4 : decode cX11_undo 4 = .ok (.aload_n 0, 1) := by decide +kernel
theorem dX11_undo_5 : decode cX11_undo 5 = .ok (.getfield 29, 3) := by decide +kernel
theorem dX11_undo_8 : decode cX11_undo 8 = .ok (.invokevirtual 243, 3) := by decide +kernel
theorem dX11_undo_11 : decode cX11_undo 11 = .ok (.ifCond .eq 13, 3) := by decide +kernel
theorem dX11_undo_14 : decode cX11_undo 14 = .ok (.aload_n 0, 1) := by decide +kernel
theorem dX11_undo_15 : decode cX11_undo 15 = .ok (.getfield 36, 3) := by decide +kernel
theorem dX11_undo_18 : decode cX11_undo 18 = .ok (.getfield 168, 3) := by decide +kernel
theorem dX11_undo_21 : decode cX11_undo 21 = .ok (.goto 5, 3) := by decide +kernel
theorem dX11_undo_24 : decode cX11_undo 24 = .ok (.ldc 175, 2) := by decide +kernel
theorem dX11_undo_26 : decode cX11_undo 26 = .ok (.ireturn, 1) := by decide +kernel
theorem dX11_rowAt_0 : decode cX11_rowAt 0 = .ok (.iload_n 1, 1) := by decide +kernel
theorem dX11_rowAt_1 : decode cX11_rowAt 1 = .ok (.ifCond .lt 10, 3) := by decide +kernel
theorem dX11_rowAt_4 : decode cX11_rowAt 4 = .ok (.iload_n 1, 1) := by decide +kernel
theorem dX11_rowAt_5 : decode cX11_rowAt 5 = .ok (.sipush 500, 3) := by decide +kernel
theorem dX11_rowAt_8 : decode cX11_rowAt 8 = .ok (.if_icmp .le 6, 3) := by decide +kernel
theorem dX11_rowAt_11 : decode cX11_rowAt 11 = .ok (.ldc 100, 2) := by decide +kernel
theorem dX11_rowAt_13 : decode cX11_rowAt 13 = .ok (.ireturn, 1) := by decide +kernel
theorem dX11_rowAt_14 : decode cX11_rowAt 14 = .ok (.aload_n 0, 1) := by decide +kernel
theorem dX11_rowAt_15 : decode cX11_rowAt 15 = .ok (.getfield 10, 3) := by decide +kernel
theorem dX11_rowAt_18 : decode cX11_rowAt 18 = .ok (.invokevirtual 171, 3) := by decide +kernel
theorem dX11_rowAt_21 : decode cX11_rowAt 21 = .ok (.ifCond .ne 6, 3) := by decide +kernel
theorem dX11_rowAt_24 : decode cX11_rowAt 24 = .ok (.ldc 175, 2) := by decide +kernel
theorem dX11_rowAt_26 : decode cX11_rowAt 26 = .ok (.ireturn, 1) := by decide +kernel
theorem dX11_rowAt_27 : decode cX11_rowAt 27 = .ok (.aload_n 0, 1) := by decide +kernel
theorem dX11_rowAt_28 : decode cX11_rowAt 28 = .ok (.iload_n 1, 1) := by decide +kernel
theorem dX11_rowAt_29 : decode cX11_rowAt 29 = .ok (.invokevirtual 247, 3) := by decide +kernel
theorem dX11_rowAt_32 : decode cX11_rowAt 32 = .ok (.aload_n 0, 1) := by decide +kernel
theorem dX11_rowAt_33 : decode cX11_rowAt 33 = .ok (.getfield 10, 3) := by decide +kernel
theorem dX11_rowAt_36 : decode cX11_rowAt 36 = .ok (.getfield 124, 3) := by decide +kernel
theorem dX11_rowAt_39 : decode cX11_rowAt 39 = .ok (.invokestatic 250, 3) := by decide +kernel
theorem dX11_rowAt_42 : decode cX11_rowAt 42 = .ok (.ireturn, 1) := by decide +kernel
theorem dX11_placeAt_0 : decode cX11_placeAt 0 = .ok (.aload_n 0, 1) := by decide +kernel
theorem dX11_placeAt_1 : decode cX11_placeAt 1 = .ok (.getfield 10, 3) := by decide +kernel
theorem dX11_placeAt_4 : decode cX11_placeAt 4 = .ok (.iload_n 1, 1) := by decide +kernel
theorem dX11_placeAt_5 : decode cX11_placeAt 5 = .ok (.invokevirtual 186, 3) := by decide +kernel
theorem dX11_placeAt_8 : decode cX11_placeAt 8 = .ok (.ifCond .ne 6, 3) := by decide +kernel
theorem dX11_placeAt_11 : decode cX11_placeAt 11 = .ok (.ldc 189, 2) := by decide +kernel
theorem dX11_placeAt_13 : decode cX11_placeAt 13 = .ok (.ireturn, 1) := by decide +kernel
theorem dX11_placeAt_14 : decode cX11_placeAt 14 = .ok (.iload_n 2, 1) := by decide +kernel
theorem dX11_placeAt_15 : decode cX11_placeAt 15 = .ok (.ifCond .lt 10, 3) := by decide +kernel
theorem dX11_placeAt_18 : decode cX11_placeAt 18 = .ok (.iload_n 2, 1) := by decide +kernel
theorem dX11_placeAt_19 : decode cX11_placeAt 19 = .ok (.sipush 500, 3) := by decide +kernel
theorem dX11_placeAt_22 : decode cX11_placeAt 22 = .ok (.if_icmp .le 6, 3) := by decide +kernel
theorem dX11_placeAt_25 : decode cX11_placeAt 25 = .ok (.ldc 100, 2) := by decide +kernel
theorem dX11_placeAt_27 : decode cX11_placeAt 27 = .ok (.ireturn, 1) := by decide +kernel
theorem dX11_placeAt_28 : decode cX11_placeAt 28 = .ok (.aload_n 0, 1) := by decide +kernel
theorem dX11_placeAt_29 : decode cX11_placeAt 29 = .ok (.iload_n 2, 1) := by decide +kernel
theorem dX11_placeAt_30 : decode cX11_placeAt 30 = .ok (.invokevirtual 247, 3) := by decide +kernel
theorem dX11_placeAt_33 : decode cX11_placeAt 33 = .ok (.iload_n 1, 1) := by decide +kernel
theorem dX11_placeAt_34 : decode cX11_placeAt 34 = .ok (.aload_n 0, 1) := by decide +kernel
theorem dX11_placeAt_35 : decode cX11_placeAt 35 = .ok (.getfield 10, 3) := by decide +kernel
theorem dX11_placeAt_38 : decode cX11_placeAt 38 = .ok (.getfield 124, 3) := by decide +kernel
theorem dX11_placeAt_41 : decode cX11_placeAt 41 = .ok (.invokestatic 197, 3) := by decide +kernel
theorem dX11_placeAt_44 : decode cX11_placeAt 44 = .ok (.ireturn, 1) := by decide +kernel
theorem dX11_round_0 : decode cX11_round 0 = .ok (.aload_n 0, 1) := by decide +kernel
theorem dX11_round_1 : decode cX11_round 1 = .ok (.getfield 10, 3) := by decide +kernel
theorem dX11_round_4 : decode cX11_round 4 = .ok (.invokevirtual 171, 3) := by decide +kernel
theorem dX11_round_7 : decode cX11_round 7 = .ok (.ifCond .ne 6, 3) := by decide +kernel
theorem dX11_round_10 : decode cX11_round 10 = .ok (.ldc 175, 2) := by decide +kernel
theorem dX11_round_12 : decode cX11_round 12 = .ok (.ireturn, 1) := by decide +kernel
theorem dX11_round_13 : decode cX11_round 13 = .ok (.aload_n 0, 1) := by decide +kernel
theorem dX11_round_14 : decode cX11_round 14 = .ok (.getfield 10, 3) := by decide +kernel
theorem dX11_round_17 : decode cX11_round 17 = .ok (.getfield 124, 3) := by decide +kernel
theorem dX11_round_20 : decode cX11_round 20 = .ok (.invokestatic 253, 3) := by decide +kernel
theorem dX11_round_23 : decode cX11_round 23 = .ok (.istore_n 1, 1) := by decide +kernel
theorem dX11_round_24 : decode cX11_round 24 = .ok (.aload_n 0, 1) := by decide +kernel
theorem dX11_round_25 : decode cX11_round 25 = .ok (.getfield 76, 3) := by decide +kernel
theorem dX11_round_28 : decode cX11_round 28 = .ok (.aload_n 0, 1) := by decide +kernel
theorem dX11_round_29 : decode cX11_round 29 = .ok (.getfield 29, 3) := by decide +kernel
theorem dX11_round_32 : decode cX11_round 32 = .ok (.getfield 146, 3) := by decide +kernel
theorem dX11_round_35 : decode cX11_round 35 = .ok (.invokevirtual 256, 3) := by decide +kernel
theorem dX11_round_38 : decode cX11_round 38 = .ok (.iconst 1, 1) := by decide +kernel
theorem dX11_round_39 : decode cX11_round 39 = .ok (.istore_n 2, 1) := by decide +kernel
theorem dX11_round_40 : decode cX11_round 40 = .ok (.iload_n 2, 1) := by decide +kernel
theorem dX11_round_41 : decode cX11_round 41 = .ok (.sipush 1000, 3) := by decide +kernel
theorem dX11_round_44 : decode cX11_round 44 = .ok (.if_icmp .gt 33, 3) := by decide +kernel
theorem dX11_round_47 : decode cX11_round 47 = .ok (.aload_n 0, 1) := by decide +kernel
theorem dX11_round_48 : decode cX11_round 48 = .ok (.getfield 76, 3) := by decide +kernel
theorem dX11_round_51 : decode cX11_round 51 = .ok (.aload_n 0, 1) := by decide +kernel
theorem dX11_round_52 : decode cX11_round 52 = .ok (.getfield 10, 3) := by decide +kernel
theorem dX11_round_55 : decode cX11_round 55 = .ok (.invokevirtual 260, 3) := by decide +kernel
theorem dX11_round_58 : decode cX11_round 58 = .ok (.aload_n 0, 1) := by decide +kernel
theorem dX11_round_59 : decode cX11_round 59 = .ok (.getfield 76, 3) := by decide +kernel
theorem dX11_round_62 : decode cX11_round 62 = .ok (.getfield 194, 3) := by decide +kernel
theorem dX11_round_65 : decode cX11_round 65 = .ok (.iload_n 1, 1) := by decide +kernel
theorem dX11_round_66 : decode cX11_round 66 = .ok (.if_icmp .ne 5, 3) := by decide +kernel
theorem dX11_round_69 : decode cX11_round 69 = .ok (.iload_n 2, 1) := by decide +kernel
theorem dX11_round_70 : decode cX11_round 70 = .ok (.ireturn, 1) := by decide +kernel
theorem dX11_round_71 : decode cX11_round 71 = .ok (.iinc 2 1, 3) := by decide +kernel
theorem dX11_round_74 : decode cX11_round 74 = .ok (.goto (-34), 3) := by decide +kernel
theorem dX11_round_77 : decode cX11_round 77 = .ok (.iconst (-1), 1) := by decide +kernel
theorem dX11_round_78 : decode cX11_round 78 = .ok (.ireturn, 1) := by decide +kernel
theorem dX11_trueFor_0 : decode cX11_trueFor 0 = .ok (.aload_n 0, 1) := by decide +kernel
theorem dX11_trueFor_1 : decode cX11_trueFor 1 = .ok (.getfield 10, 3) := by decide +kernel
theorem dX11_trueFor_4 : decode cX11_trueFor 4 = .ok (.invokevirtual 171, 3) := by decide +kernel
theorem dX11_trueFor_7 : decode cX11_trueFor 7 = .ok (.ifCond .ne 6, 3) := by decide +kernel
theorem dX11_trueFor_10 : decode cX11_trueFor 10 = .ok (.ldc 175, 2) := by decide +kernel
theorem dX11_trueFor_12 : decode cX11_trueFor 12 = .ok (.ireturn, 1) := by decide +kernel
theorem dX11_trueFor_13 : decode cX11_trueFor 13 = .ok (.aload_n 0, 1) := by decide +kernel
theorem dX11_trueFor_14 : decode cX11_trueFor 14 = .ok (.getfield 76, 3) := by decide +kernel
theorem dX11_trueFor_17 : decode cX11_trueFor 17 = .ok (.aload_n 0, 1) := by decide +kernel
theorem dX11_trueFor_18 : decode cX11_trueFor 18 = .ok (.getfield 29, 3) := by decide +kernel
theorem dX11_trueFor_21 : decode cX11_trueFor 21 = .ok (.getfield 146, 3) := by decide +kernel
theorem dX11_trueFor_24 : decode cX11_trueFor 24 = .ok (.invokevirtual 256, 3) := by decide +kernel
theorem dX11_trueFor_27 : decode cX11_trueFor 27 = .ok (.aload_n 0, 1) := by decide +kernel
theorem dX11_trueFor_28 : decode cX11_trueFor 28 = .ok (.getfield 55, 3) := by decide +kernel
theorem dX11_trueFor_31 : decode cX11_trueFor 31 = .ok (.invokevirtual 263, 3) := by decide +kernel
theorem dX11_trueFor_34 : decode cX11_trueFor 34 = .ok (.aload_n 0, 1) := by decide +kernel
theorem dX11_trueFor_35 : decode cX11_trueFor 35 = .ok (.getfield 55, 3) := by decide +kernel
theorem dX11_trueFor_38 : decode cX11_trueFor 38 = .ok (.aload_n 0, 1) := by decide +kernel
theorem dX11_trueFor_39 : decode cX11_trueFor 39 = .ok (.getfield 76, 3) := by decide +kernel
theorem dX11_trueFor_42 : decode cX11_trueFor 42 = .ok (.getfield 194, 3) := by decide +kernel
theorem dX11_trueFor_45 : decode cX11_trueFor 45 = .ok (.invokevirtual 266, 3) := by decide +kernel
theorem dX11_trueFor_48 : decode cX11_trueFor 48 = .ok (.pop, 1) := by decide +kernel
theorem dX11_trueFor_49 : decode cX11_trueFor 49 = .ok (.iconst 0, 1) := by decide +kernel
theorem dX11_trueFor_50 : decode cX11_trueFor 50 = .ok (.istore_n 1, 1) := by decide +kernel
theorem dX11_trueFor_51 : decode cX11_trueFor 51 = .ok (.iload_n 1, 1) := by decide +kernel
theorem dX11_trueFor_52 : decode cX11_trueFor 52 = .ok (.sipush 720, 3) := by decide +kernel
theorem dX11_trueFor_55 : decode cX11_trueFor 55 = .ok (.if_icmp .ge 39, 3) := by decide +kernel
theorem dX11_trueFor_58 : decode cX11_trueFor 58 = .ok (.aload_n 0, 1) := by decide +kernel
theorem dX11_trueFor_59 : decode cX11_trueFor 59 = .ok (.getfield 76, 3) := by decide +kernel
theorem dX11_trueFor_62 : decode cX11_trueFor 62 = .ok (.aload_n 0, 1) := by decide +kernel
theorem dX11_trueFor_63 : decode cX11_trueFor 63 = .ok (.getfield 10, 3) := by decide +kernel
theorem dX11_trueFor_66 : decode cX11_trueFor 66 = .ok (.invokevirtual 260, 3) := by decide +kernel
theorem dX11_trueFor_69 : decode cX11_trueFor 69 = .ok (.aload_n 0, 1) := by decide +kernel
theorem dX11_trueFor_70 : decode cX11_trueFor 70 = .ok (.getfield 55, 3) := by decide +kernel
theorem dX11_trueFor_73 : decode cX11_trueFor 73 = .ok (.aload_n 0, 1) := by decide +kernel
theorem dX11_trueFor_74 : decode cX11_trueFor 74 = .ok (.getfield 76, 3) := by decide +kernel
theorem dX11_trueFor_77 : decode cX11_trueFor 77 = .ok (.getfield 194, 3) := by decide +kernel
theorem dX11_trueFor_80 : decode cX11_trueFor 80 = .ok (.invokevirtual 266, 3) := by decide +kernel
theorem dX11_trueFor_83 : decode cX11_trueFor 83 = .ok (.ifCond .ne 5, 3) := by decide +kernel
theorem dX11_trueFor_86 : decode cX11_trueFor 86 = .ok (.iload_n 1, 1) := by decide +kernel
theorem dX11_trueFor_87 : decode cX11_trueFor 87 = .ok (.ireturn, 1) := by decide +kernel
theorem dX11_trueFor_88 : decode cX11_trueFor 88 = .ok (.iinc 1 1, 3) := by decide +kernel
theorem dX11_trueFor_91 : decode cX11_trueFor 91 = .ok (.goto (-40), 3) := by decide +kernel
theorem dX11_trueFor_94 : decode cX11_trueFor 94 = .ok (.sipush 720, 3) := by decide +kernel
theorem dX11_trueFor_97 : decode cX11_trueFor 97 = .ok (.ireturn, 1) := by decide +kernel
theorem dX11_touch_0 : decode cX11_touch 0 = .ok (.iload_n 1, 1) := by decide +kernel
theorem dX11_touch_1 : decode cX11_touch 1 = .ok (.iconst 1, 1) := by decide +kernel
theorem dX11_touch_2 : decode cX11_touch 2 = .ok (.if_icmp .lt 18, 3) := by decide +kernel
theorem dX11_touch_5 : decode cX11_touch 5 = .ok (.iload_n 1, 1) := by decide +kernel
theorem dX11_touch_6 : decode cX11_touch 6 = .ok (.bipush 8, 2) := by decide +kernel
theorem dX11_touch_8 : decode cX11_touch 8 = .ok (.if_icmp .gt 12, 3) := by decide +kernel
theorem dX11_touch_11 : decode cX11_touch 11 = .ok (.iload_n 2, 1) := by decide +kernel
theorem dX11_touch_12 : decode cX11_touch 12 = .ok (.ifCond .lt 8, 3) := by decide +kernel
theorem dX11_touch_15 : decode cX11_touch 15 = .ok (.iload_n 2, 1) := by decide +kernel
theorem dX11_touch_16 : decode cX11_touch 16 = .ok (.iconst 1, 1) := by decide +kernel
theorem dX11_touch_17 : decode cX11_touch 17 = .ok (.if_icmp .le 6, 3) := by decide +kernel
theorem dX11_touch_20 : decode cX11_touch 20 = .ok (.ldc 100, 2) := by decide +kernel
theorem dX11_touch_22 : decode cX11_touch 22 = .ok (.ireturn, 1) := by decide +kernel
theorem dX11_touch_23 : decode cX11_touch 23 = .ok (.aload_n 0, 1) := by decide +kernel
theorem dX11_touch_24 : decode cX11_touch 24 = .ok (.getfield 10, 3) := by decide +kernel
theorem dX11_touch_27 : decode cX11_touch 27 = .ok (.invokevirtual 171, 3) := by decide +kernel
theorem dX11_touch_30 : decode cX11_touch 30 = .ok (.ifCond .ne 6, 3) := by decide +kernel
theorem dX11_touch_33 : decode cX11_touch 33 = .ok (.ldc 175, 2) := by decide +kernel
theorem dX11_touch_35 : decode cX11_touch 35 = .ok (.ireturn, 1) := by decide +kernel
theorem dX11_touch_36 : decode cX11_touch 36 = .ok (.aload_n 0, 1) := by decide +kernel
theorem dX11_touch_37 : decode cX11_touch 37 = .ok (.getfield 62, 3) := by decide +kernel
theorem dX11_touch_40 : decode cX11_touch 40 = .ok (.aload_n 0, 1) := by decide +kernel
theorem dX11_touch_41 : decode cX11_touch 41 = .ok (.getfield 10, 3) := by decide +kernel
theorem dX11_touch_44 : decode cX11_touch 44 = .ok (.aload_n 0, 1) := by decide +kernel
theorem dX11_touch_45 : decode cX11_touch 45 = .ok (.getfield 55, 3) := by decide +kernel
theorem dX11_touch_48 : decode cX11_touch 48 = .ok (.iload_n 1, 1) := by decide +kernel
theorem dX11_touch_49 : decode cX11_touch 49 = .ok (.invokevirtual 267, 3) := by decide +kernel
theorem dX11_touch_52 : decode cX11_touch 52 = .ok (.iload_n 2, 1) := by decide +kernel
theorem dX11_touch_53 : decode cX11_touch 53 = .ok (.ifCond .ne 13, 3) := by decide +kernel
theorem dX11_touch_56 : decode cX11_touch 56 = .ok (.aload_n 0, 1) := by decide +kernel
theorem dX11_touch_57 : decode cX11_touch 57 = .ok (.getfield 62, 3) := by decide +kernel
theorem dX11_touch_60 : decode cX11_touch 60 = .ok (.getfield 271, 3) := by decide +kernel
theorem dX11_touch_63 : decode cX11_touch 63 = .ok (.goto 10, 3) := by decide +kernel
theorem dX11_touch_66 : decode cX11_touch 66 = .ok (.aload_n 0, 1) := by decide +kernel
theorem dX11_touch_67 : decode cX11_touch 67 = .ok (.getfield 62, 3) := by decide +kernel
theorem dX11_touch_70 : decode cX11_touch 70 = .ok (.getfield 274, 3) := by decide +kernel
theorem dX11_touch_73 : decode cX11_touch 73 = .ok (.ireturn, 1) := by decide +kernel
theorem dX11_ropes_0 : decode cX11_ropes 0 = .ok (.iload_n 1, 1) := by decide +kernel
theorem dX11_ropes_1 : decode cX11_ropes 1 = .ok (.iconst (-1), 1) := by decide +kernel
theorem dX11_ropes_2 : decode cX11_ropes 2 = .ok (.if_icmp .eq 17, 3) := by decide +kernel
theorem dX11_ropes_5 : decode cX11_ropes 5 = .ok (.aload_n 0, 1) := by decide +kernel
theorem dX11_ropes_6 : decode cX11_ropes 6 = .ok (.getfield 10, 3) := by decide +kernel
theorem dX11_ropes_9 : decode cX11_ropes 9 = .ok (.iload_n 1, 1) := by decide +kernel
theorem dX11_ropes_10 : decode cX11_ropes 10 = .ok (.invokevirtual 207, 3) := by decide +kernel
theorem dX11_ropes_13 : decode cX11_ropes 13 = .ok (.ifCond .ne 6, 3) := by decide +kernel
theorem dX11_ropes_16 : decode cX11_ropes 16 = .ok (.ldc 189, 2) := by decide +kernel
theorem dX11_ropes_18 : decode cX11_ropes 18 = .ok (.ireturn, 1) := by decide +kernel
theorem dX11_ropes_19 : decode cX11_ropes 19 = .ok (.aload_n 0, 1) := by decide +kernel
theorem dX11_ropes_20 : decode cX11_ropes 20 = .ok (.getfield 69, 3) := by decide +kernel
theorem dX11_ropes_23 : decode cX11_ropes 23 = .ok (.aload_n 0, 1) := by decide +kernel
theorem dX11_ropes_24 : decode cX11_ropes 24 = .ok (.getfield 10, 3) := by decide +kernel
theorem dX11_ropes_27 : decode cX11_ropes 27 = .ok (.invokevirtual 277, 3) := by decide +kernel
theorem dX11_ropes_30 : decode cX11_ropes 30 = .ok (.iload_n 1, 1) := by decide +kernel
theorem dX11_ropes_31 : decode cX11_ropes 31 = .ok (.iconst (-1), 1) := by decide +kernel
theorem dX11_ropes_32 : decode cX11_ropes 32 = .ok (.if_icmp .ne 17, 3) := by decide +kernel
theorem dX11_ropes_35 : decode cX11_ropes 35 = .ok (.aload_n 0, 1) := by decide +kernel
theorem dX11_ropes_36 : decode cX11_ropes 36 = .ok (.getfield 69, 3) := by decide +kernel
theorem dX11_ropes_39 : decode cX11_ropes 39 = .ok (.aload_n 0, 1) := by decide +kernel
theorem dX11_ropes_40 : decode cX11_ropes 40 = .ok (.getfield 10, 3) := by decide +kernel
theorem dX11_ropes_43 : decode cX11_ropes 43 = .ok (.invokevirtual 280, 3) := by decide +kernel
theorem dX11_ropes_46 : decode cX11_ropes 46 = .ok (.goto 11, 3) := by decide +kernel
theorem dX11_ropes_49 : decode cX11_ropes 49 = .ok (.aload_n 0, 1) := by decide +kernel
theorem dX11_ropes_50 : decode cX11_ropes 50 = .ok (.getfield 69, 3) := by decide +kernel
theorem dX11_ropes_53 : decode cX11_ropes 53 = .ok (.iload_n 1, 1) := by decide +kernel
theorem dX11_ropes_54 : decode cX11_ropes 54 = .ok (.invokevirtual 283, 3) := by decide +kernel
theorem dX11_ropes_57 : decode cX11_ropes 57 = .ok (.ireturn, 1) := by decide +kernel
theorem dX11_last_0 : decode cX11_last 0 = .ok (.aload_n 0, 1) := by decide +kernel
theorem dX11_last_1 : decode cX11_last 1 = .ok (.getfield 10, 3) := by decide +kernel
theorem dX11_last_4 : decode cX11_last 4 = .ok (.iload_n 1, 1) := by decide +kernel
theorem dX11_last_5 : decode cX11_last 5 = .ok (.invokevirtual 186, 3) := by decide +kernel
theorem dX11_last_8 : decode cX11_last 8 = .ok (.ifCond .ne 6, 3) := by decide +kernel
theorem dX11_last_11 : decode cX11_last 11 = .ok (.ldc 189, 2) := by decide +kernel
theorem dX11_last_13 : decode cX11_last 13 = .ok (.ireturn, 1) := by decide +kernel
theorem dX11_last_14 : decode cX11_last 14 = .ok (.iload_n 2, 1) := by decide +kernel
theorem dX11_last_15 : decode cX11_last 15 = .ok (.iconst 1, 1) := by decide +kernel
theorem dX11_last_16 : decode cX11_last 16 = .ok (.if_icmp .lt 10, 3) := by decide +kernel
theorem dX11_last_19 : decode cX11_last 19 = .ok (.iload_n 2, 1) := by decide +kernel
theorem dX11_last_20 : decode cX11_last 20 = .ok (.sipush 500, 3) := by decide +kernel
theorem dX11_last_23 : decode cX11_last 23 = .ok (.if_icmp .le 6, 3) := by decide +kernel
theorem dX11_last_26 : decode cX11_last 26 = .ok (.ldc 100, 2) := by decide +kernel
theorem dX11_last_28 : decode cX11_last 28 = .ok (.ireturn, 1) := by decide +kernel
theorem dX11_last_29 : decode cX11_last 29 = .ok (.iconst 0, 1) := by decide +kernel
theorem dX11_last_30 : decode cX11_last 30 = .ok (.istore_n 3, 1) := by decide +kernel
theorem dX11_last_31 : decode cX11_last 31 = .ok (.aload_n 0, 1) := by decide +kernel
theorem dX11_last_32 : decode cX11_last 32 = .ok (.getfield 76, 3) := by decide +kernel
theorem dX11_last_35 : decode cX11_last 35 = .ok (.aload_n 0, 1) := by decide +kernel
theorem dX11_last_36 : decode cX11_last 36 = .ok (.getfield 29, 3) := by decide +kernel
theorem dX11_last_39 : decode cX11_last 39 = .ok (.getfield 146, 3) := by decide +kernel
theorem dX11_last_42 : decode cX11_last 42 = .ok (.invokevirtual 256, 3) := by decide +kernel
theorem dX11_last_45 : decode cX11_last 45 = .ok (.iconst 0, 1) := by decide +kernel
theorem dX11_last_46 : decode cX11_last 46 = .ok (.istore 4, 2) := by decide +kernel
theorem dX11_last_48 : decode cX11_last 48 = .ok (.iload 4, 2) := by decide +kernel
theorem dX11_last_50 : decode cX11_last 50 = .ok (.iload_n 2, 1) := by decide +kernel
theorem dX11_last_51 : decode cX11_last 51 = .ok (.if_icmp .ge 46, 3) := by decide +kernel
theorem dX11_last_54 : decode cX11_last 54 = .ok (.aload_n 0, 1) := by decide +kernel
theorem dX11_last_55 : decode cX11_last 55 = .ok (.getfield 76, 3) := by decide +kernel
theorem dX11_last_58 : decode cX11_last 58 = .ok (.aload_n 0, 1) := by decide +kernel
theorem dX11_last_59 : decode cX11_last 59 = .ok (.getfield 10, 3) := by decide +kernel
theorem dX11_last_62 : decode cX11_last 62 = .ok (.invokevirtual 260, 3) := by decide +kernel
theorem dX11_last_65 : decode cX11_last 65 = .ok (.aload_n 0, 1) := by decide +kernel
theorem dX11_last_66 : decode cX11_last 66 = .ok (.getfield 76, 3) := by decide +kernel
theorem dX11_last_69 : decode cX11_last 69 = .ok (.getfield 194, 3) := by decide +kernel
theorem dX11_last_72 : decode cX11_last 72 = .ok (.aload_n 0, 1) := by decide +kernel
theorem dX11_last_73 : decode cX11_last 73 = .ok (.getfield 10, 3) := by decide +kernel
theorem dX11_last_76 : decode cX11_last 76 = .ok (.getfield 124, 3) := by decide +kernel
theorem dX11_last_79 : decode cX11_last 79 = .ok (.iconst 1, 1) := by decide +kernel
theorem dX11_last_80 : decode cX11_last 80 = .ok (.isub, 1) := by decide +kernel
theorem dX11_last_81 : decode cX11_last 81 = .ok (.invokestatic 286, 3) := by decide +kernel
theorem dX11_last_84 : decode cX11_last 84 = .ok (.iload_n 1, 1) := by decide +kernel
theorem dX11_last_85 : decode cX11_last 85 = .ok (.if_icmp .ne 6, 3) := by decide +kernel
theorem dX11_last_88 : decode cX11_last 88 = .ok (.iinc 3 1, 3) := by decide +kernel
theorem dX11_last_91 : decode cX11_last 91 = .ok (.iinc 4 1, 3) := by decide +kernel
theorem dX11_last_94 : decode cX11_last 94 = .ok (.goto (-46), 3) := by decide +kernel
theorem dX11_last_97 : decode cX11_last 97 = .ok (.iload_n 3, 1) := by decide +kernel
theorem dX11_last_98 : decode cX11_last 98 = .ok (.ireturn, 1) := by decide +kernel
theorem dX11_nextOut_0 : decode cX11_nextOut 0 = .ok (.aload_n 0, 1) := by decide +kernel
theorem dX11_nextOut_1 : decode cX11_nextOut 1 = .ok (.getfield 10, 3) := by decide +kernel
theorem dX11_nextOut_4 : decode cX11_nextOut 4 = .ok (.invokevirtual 171, 3) := by decide +kernel
theorem dX11_nextOut_7 : decode cX11_nextOut 7 = .ok (.ifCond .ne 5, 3) := by decide +kernel
theorem dX11_nextOut_10 : decode cX11_nextOut 10 = .ok (.iconst (-1), 1) := by decide +kernel
theorem dX11_nextOut_11 : decode cX11_nextOut 11 = .ok (.ireturn, 1) := by decide +kernel
theorem dX11_nextOut_12 : decode cX11_nextOut 12 = .ok (.aload_n 0, 1) := by decide +kernel
theorem dX11_nextOut_13 : decode cX11_nextOut 13 = .ok (.getfield 76, 3) := by decide +kernel
theorem dX11_nextOut_16 : decode cX11_nextOut 16 = .ok (.aload_n 0, 1) := by decide +kernel
theorem dX11_nextOut_17 : decode cX11_nextOut 17 = .ok (.getfield 29, 3) := by decide +kernel
theorem dX11_nextOut_20 : decode cX11_nextOut 20 = .ok (.getfield 146, 3) := by decide +kernel
theorem dX11_nextOut_23 : decode cX11_nextOut 23 = .ok (.invokevirtual 256, 3) := by decide +kernel
theorem dX11_nextOut_26 : decode cX11_nextOut 26 = .ok (.iconst 0, 1) := by decide +kernel
theorem dX11_nextOut_27 : decode cX11_nextOut 27 = .ok (.istore_n 1, 1) := by decide +kernel
theorem dX11_nextOut_28 : decode cX11_nextOut 28 = .ok (.iload_n 1, 1) := by decide +kernel
theorem dX11_nextOut_29 : decode cX11_nextOut 29 = .ok (.sipush 500, 3) := by decide +kernel
theorem dX11_nextOut_32 : decode cX11_nextOut 32 = .ok (.if_icmp .ge 60, 3) := by decide +kernel
theorem dX11_nextOut_35 : decode cX11_nextOut 35 = .ok (.aload_n 0, 1) := by decide +kernel
theorem dX11_nextOut_36 : decode cX11_nextOut 36 = .ok (.getfield 76, 3) := by decide +kernel
theorem dX11_nextOut_39 : decode cX11_nextOut 39 = .ok (.aload_n 0, 1) := by decide +kernel
theorem dX11_nextOut_40 : decode cX11_nextOut 40 = .ok (.getfield 10, 3) := by decide +kernel
theorem dX11_nextOut_43 : decode cX11_nextOut 43 = .ok (.invokevirtual 260, 3) := by decide +kernel
theorem dX11_nextOut_46 : decode cX11_nextOut 46 = .ok (.aload_n 0, 1) := by decide +kernel
theorem dX11_nextOut_47 : decode cX11_nextOut 47 = .ok (.getfield 76, 3) := by decide +kernel
theorem dX11_nextOut_50 : decode cX11_nextOut 50 = .ok (.invokevirtual 289, 3) := by decide +kernel
theorem dX11_nextOut_53 : decode cX11_nextOut 53 = .ok (.ifCond .eq 24, 3) := by decide +kernel
theorem dX11_nextOut_56 : decode cX11_nextOut 56 = .ok (.aload_n 0, 1) := by decide +kernel
theorem dX11_nextOut_57 : decode cX11_nextOut 57 = .ok (.getfield 29, 3) := by decide +kernel
theorem dX11_nextOut_60 : decode cX11_nextOut 60 = .ok (.aload_n 0, 1) := by decide +kernel
theorem dX11_nextOut_61 : decode cX11_nextOut 61 = .ok (.getfield 76, 3) := by decide +kernel
theorem dX11_nextOut_64 : decode cX11_nextOut 64 = .ok (.getfield 194, 3) := by decide +kernel
theorem dX11_nextOut_67 : decode cX11_nextOut 67 = .ok (.aload_n 0, 1) := by decide +kernel
theorem dX11_nextOut_68 : decode cX11_nextOut 68 = .ok (.getfield 10, 3) := by decide +kernel
theorem dX11_nextOut_71 : decode cX11_nextOut 71 = .ok (.invokevirtual 292, 3) := by decide +kernel
theorem dX11_nextOut_74 : decode cX11_nextOut 74 = .ok (.goto 4, 3) := by decide +kernel
theorem dX11_nextOut_77 : decode cX11_nextOut 77 = .ok (.iconst (-1), 1) := by decide +kernel
theorem dX11_nextOut_78 : decode cX11_nextOut 78 = .ok (.istore_n 2, 1) := by decide +kernel
theorem dX11_nextOut_79 : decode cX11_nextOut 79 = .ok (.iload_n 2, 1) := by decide +kernel
theorem dX11_nextOut_80 : decode cX11_nextOut 80 = .ok (.iconst (-1), 1) := by decide +kernel
theorem dX11_nextOut_81 : decode cX11_nextOut 81 = .ok (.if_icmp .eq 5, 3) := by decide +kernel
theorem dX11_nextOut_84 : decode cX11_nextOut 84 = .ok (.iload_n 2, 1) := by decide +kernel
theorem dX11_nextOut_85 : decode cX11_nextOut 85 = .ok (.ireturn, 1) := by decide +kernel
theorem dX11_nextOut_86 : decode cX11_nextOut 86 = .ok (.iinc 1 1, 3) := by decide +kernel
theorem dX11_nextOut_89 : decode cX11_nextOut 89 = .ok (.goto (-61), 3) := by decide +kernel
theorem dX11_nextOut_92 : decode cX11_nextOut 92 = .ok (.iconst (-1), 1) := by decide +kernel
theorem dX11_nextOut_93 : decode cX11_nextOut 93 = .ok (.ireturn, 1) := by decide +kernel
theorem dX11_change_0 : decode cX11_change 0 = .ok (.iload_n 1, 1) := by decide +kernel
theorem dX11_change_1 : decode cX11_change 1 = .ok (.aload_n 0, 1) := by decide +kernel
theorem dX11_change_2 : decode cX11_change 2 = .ok (.getfield 10, 3) := by decide +kernel
theorem dX11_change_5 : decode cX11_change 5 = .ok (.getfield 124, 3) := by decide +kernel
theorem dX11_change_8 : decode cX11_change 8 = .ok (.invokestatic 295, 3) := by decide +kernel
theorem dX11_change_11 : decode cX11_change 11 = .ok (.istore_n 3, 1) := by decide +kernel
theorem dX11_change_12 : decode cX11_change 12 = .ok (.iload_n 2, 1) := by decide +kernel
theorem dX11_change_13 : decode cX11_change 13 = .ok (.aload_n 0, 1) := by decide +kernel
theorem dX11_change_14 : decode cX11_change 14 = .ok (.getfield 10, 3) := by decide +kernel
theorem dX11_change_17 : decode cX11_change 17 = .ok (.getfield 124, 3) := by decide +kernel
theorem dX11_change_20 : decode cX11_change 20 = .ok (.invokestatic 295, 3) := by decide +kernel
theorem dX11_change_23 : decode cX11_change 23 = .ok (.istore 4, 2) := by decide +kernel
theorem dX11_change_25 : decode cX11_change 25 = .ok (.iload_n 3, 1) := by decide +kernel
theorem dX11_change_26 : decode cX11_change 26 = .ok (.iconst (-1), 1) := by decide +kernel
theorem dX11_change_27 : decode cX11_change 27 = .ok (.if_icmp .eq 9, 3) := by decide +kernel
theorem dX11_change_30 : decode cX11_change 30 = .ok (.iload 4, 2) := by decide +kernel
theorem dX11_change_32 : decode cX11_change 32 = .ok (.iconst (-1), 1) := by decide +kernel
theorem dX11_change_33 : decode cX11_change 33 = .ok (.if_icmp .ne 6, 3) := by decide +kernel
theorem dX11_change_36 : decode cX11_change 36 = .ok (.ldc 100, 2) := by decide +kernel
theorem dX11_change_38 : decode cX11_change 38 = .ok (.ireturn, 1) := by decide +kernel
theorem dX11_change_39 : decode cX11_change 39 = .ok (.iload_n 3, 1) := by decide +kernel
theorem dX11_change_40 : decode cX11_change 40 = .ok (.iload 4, 2) := by decide +kernel
theorem dX11_change_42 : decode cX11_change 42 = .ok (.aload_n 0, 1) := by decide +kernel
theorem dX11_change_43 : decode cX11_change 43 = .ok (.getfield 10, 3) := by decide +kernel
theorem dX11_change_46 : decode cX11_change 46 = .ok (.getfield 124, 3) := by decide +kernel
theorem dX11_change_49 : decode cX11_change 49 = .ok (.invokestatic 298, 3) := by decide +kernel
theorem dX11_change_52 : decode cX11_change 52 = .ok (.istore 5, 2) := by decide +kernel
theorem dX11_change_54 : decode cX11_change 54 = .ok (.aload_n 0, 1) := by decide +kernel
theorem dX11_change_55 : decode cX11_change 55 = .ok (.getfield 83, 3) := by decide +kernel
theorem dX11_change_58 : decode cX11_change 58 = .ok (.iload 5, 2) := by decide +kernel
theorem dX11_change_60 : decode cX11_change 60 = .ok (.aload_n 0, 1) := by decide +kernel
theorem dX11_change_61 : decode cX11_change 61 = .ok (.getfield 10, 3) := by decide +kernel
theorem dX11_change_64 : decode cX11_change 64 = .ok (.getfield 124, 3) := by decide +kernel
theorem dX11_change_67 : decode cX11_change 67 = .ok (.invokevirtual 301, 3) := by decide +kernel
theorem dX11_change_70 : decode cX11_change 70 = .ok (.ifCond .ne 5, 3) := by decide +kernel
theorem dX11_change_73 : decode cX11_change 73 = .ok (.iconst (-1), 1) := by decide +kernel
theorem dX11_change_74 : decode cX11_change 74 = .ok (.ireturn, 1) := by decide +kernel
theorem dX11_change_75 : decode cX11_change 75 = .ok (.aload_n 0, 1) := by decide +kernel
theorem dX11_change_76 : decode cX11_change 76 = .ok (.getfield 83, 3) := by decide +kernel
theorem dX11_change_79 : decode cX11_change 79 = .ok (.iload_n 3, 1) := by decide +kernel
theorem dX11_change_80 : decode cX11_change 80 = .ok (.invokevirtual 305, 3) := by decide +kernel
theorem dX11_change_83 : decode cX11_change 83 = .ok (.iload 4, 2) := by decide +kernel
theorem dX11_change_85 : decode cX11_change 85 = .ok (.if_icmp .ne 8, 3) := by decide +kernel
theorem dX11_change_88 : decode cX11_change 88 = .ok (.iload 5, 2) := by decide +kernel
theorem dX11_change_90 : decode cX11_change 90 = .ok (.goto 4, 3) := by decide +kernel
theorem dX11_change_93 : decode cX11_change 93 = .ok (.iconst (-1), 1) := by decide +kernel
theorem dX11_change_94 : decode cX11_change 94 = .ok (.ireturn, 1) := by decide +kernel
theorem dX11_follow_0 : decode cX11_follow 0 = .ok (.aload_n 0, 1) := by decide +kernel
theorem dX11_follow_1 : decode cX11_follow 1 = .ok (.getfield 10, 3) := by decide +kernel
theorem dX11_follow_4 : decode cX11_follow 4 = .ok (.invokevirtual 171, 3) := by decide +kernel
theorem dX11_follow_7 : decode cX11_follow 7 = .ok (.ifCond .ne 6, 3) := by decide +kernel
theorem dX11_follow_10 : decode cX11_follow 10 = .ok (.ldc 175, 2) := by decide +kernel
theorem dX11_follow_12 : decode cX11_follow 12 = .ok (.ireturn, 1) := by decide +kernel
theorem dX11_follow_13 : decode cX11_follow 13 = .ok (.iconst 0, 1) := by decide +kernel
theorem dX11_follow_14 : decode cX11_follow 14 = .ok (.istore_n 1, 1) := by decide +kernel
theorem dX11_follow_15 : decode cX11_follow 15 = .ok (.iconst 0, 1) := by decide +kernel
theorem dX11_follow_16 : decode cX11_follow 16 = .ok (.istore_n 2, 1) := by decide +kernel
theorem dX11_follow_17 : decode cX11_follow 17 = .ok (.iload_n 2, 1) := by decide +kernel
theorem dX11_follow_18 : decode cX11_follow 18 = .ok (.aload_n 0, 1) := by decide +kernel
theorem dX11_follow_19 : decode cX11_follow 19 = .ok (.getfield 10, 3) := by decide +kernel
theorem dX11_follow_22 : decode cX11_follow 22 = .ok (.invokevirtual 308, 3) := by decide +kernel
theorem dX11_follow_25 : decode cX11_follow 25 = .ok (.if_icmp .ge 27, 3) := by decide +kernel
theorem dX11_follow_28 : decode cX11_follow 28 = .ok (.iload_n 2, 1) := by decide +kernel
theorem dX11_follow_29 : decode cX11_follow 29 = .ok (.aload_n 0, 1) := by decide +kernel
theorem dX11_follow_30 : decode cX11_follow 30 = .ok (.getfield 10, 3) := by decide +kernel
theorem dX11_follow_33 : decode cX11_follow 33 = .ok (.getfield 124, 3) := by decide +kernel
theorem dX11_follow_36 : decode cX11_follow 36 = .ok (.invokestatic 311, 3) := by decide +kernel
theorem dX11_follow_39 : decode cX11_follow 39 = .ok (.iconst (-1), 1) := by decide +kernel
theorem dX11_follow_40 : decode cX11_follow 40 = .ok (.if_icmp .eq 6, 3) := by decide +kernel
theorem dX11_follow_43 : decode cX11_follow 43 = .ok (.iinc 1 1, 3) := by decide +kernel
theorem dX11_follow_46 : decode cX11_follow 46 = .ok (.iinc 2 1, 3) := by decide +kernel
theorem dX11_follow_49 : decode cX11_follow 49 = .ok (.goto (-32), 3) := by decide +kernel
theorem dX11_follow_52 : decode cX11_follow 52 = .ok (.iload_n 1, 1) := by decide +kernel
theorem dX11_follow_53 : decode cX11_follow 53 = .ok (.ireturn, 1) := by decide +kernel
theorem dX11_gap_0 : decode cX11_gap 0 = .ok (.aload_n 0, 1) := by decide +kernel
theorem dX11_gap_1 : decode cX11_gap 1 = .ok (.getfield 10, 3) := by decide +kernel
theorem dX11_gap_4 : decode cX11_gap 4 = .ok (.iload_n 1, 1) := by decide +kernel
theorem dX11_gap_5 : decode cX11_gap 5 = .ok (.invokevirtual 186, 3) := by decide +kernel
theorem dX11_gap_8 : decode cX11_gap 8 = .ok (.ifCond .ne 6, 3) := by decide +kernel
theorem dX11_gap_11 : decode cX11_gap 11 = .ok (.ldc 189, 2) := by decide +kernel
theorem dX11_gap_13 : decode cX11_gap 13 = .ok (.ireturn, 1) := by decide +kernel
theorem dX11_gap_14 : decode cX11_gap 14 = .ok (.iload_n 2, 1) := by decide +kernel
theorem dX11_gap_15 : decode cX11_gap 15 = .ok (.iconst 1, 1) := by decide +kernel
theorem dX11_gap_16 : decode cX11_gap 16 = .ok (.if_icmp .lt 10, 3) := by decide +kernel
theorem dX11_gap_19 : decode cX11_gap 19 = .ok (.iload_n 2, 1) := by decide +kernel
theorem dX11_gap_20 : decode cX11_gap 20 = .ok (.sipush 500, 3) := by decide +kernel
theorem dX11_gap_23 : decode cX11_gap 23 = .ok (.if_icmp .le 6, 3) := by decide +kernel
theorem dX11_gap_26 : decode cX11_gap 26 = .ok (.ldc 100, 2) := by decide +kernel
theorem dX11_gap_28 : decode cX11_gap 28 = .ok (.ireturn, 1) := by decide +kernel
theorem dX11_gap_29 : decode cX11_gap 29 = .ok (.iconst 1, 1) := by decide +kernel
theorem dX11_gap_30 : decode cX11_gap 30 = .ok (.istore_n 3, 1) := by decide +kernel
theorem dX11_gap_31 : decode cX11_gap 31 = .ok (.aload_n 0, 1) := by decide +kernel
theorem dX11_gap_32 : decode cX11_gap 32 = .ok (.getfield 76, 3) := by decide +kernel
theorem dX11_gap_35 : decode cX11_gap 35 = .ok (.aload_n 0, 1) := by decide +kernel
theorem dX11_gap_36 : decode cX11_gap 36 = .ok (.getfield 29, 3) := by decide +kernel
theorem dX11_gap_39 : decode cX11_gap 39 = .ok (.getfield 146, 3) := by decide +kernel
theorem dX11_gap_42 : decode cX11_gap 42 = .ok (.invokevirtual 256, 3) := by decide +kernel
theorem dX11_gap_45 : decode cX11_gap 45 = .ok (.aload_n 0, 1) := by decide +kernel
theorem dX11_gap_46 : decode cX11_gap 46 = .ok (.getfield 55, 3) := by decide +kernel
theorem dX11_gap_49 : decode cX11_gap 49 = .ok (.invokevirtual 263, 3) := by decide +kernel
theorem dX11_gap_52 : decode cX11_gap 52 = .ok (.aload_n 0, 1) := by decide +kernel
theorem dX11_gap_53 : decode cX11_gap 53 = .ok (.getfield 55, 3) := by decide +kernel
theorem dX11_gap_56 : decode cX11_gap 56 = .ok (.aload_n 0, 1) := by decide +kernel
theorem dX11_gap_57 : decode cX11_gap 57 = .ok (.getfield 76, 3) := by decide +kernel
theorem dX11_gap_60 : decode cX11_gap 60 = .ok (.getfield 194, 3) := by decide +kernel
theorem dX11_gap_63 : decode cX11_gap 63 = .ok (.iload_n 1, 1) := by decide +kernel
theorem dX11_gap_64 : decode cX11_gap 64 = .ok (.aload_n 0, 1) := by decide +kernel
theorem dX11_gap_65 : decode cX11_gap 65 = .ok (.getfield 10, 3) := by decide +kernel
theorem dX11_gap_68 : decode cX11_gap 68 = .ok (.getfield 124, 3) := by decide +kernel
theorem dX11_gap_71 : decode cX11_gap 71 = .ok (.invokestatic 314, 3) := by decide +kernel
theorem dX11_gap_74 : decode cX11_gap 74 = .ok (.invokevirtual 266, 3) := by decide +kernel
theorem dX11_gap_77 : decode cX11_gap 77 = .ok (.pop, 1) := by decide +kernel
theorem dX11_gap_78 : decode cX11_gap 78 = .ok (.iconst 0, 1) := by decide +kernel
theorem dX11_gap_79 : decode cX11_gap 79 = .ok (.istore 4, 2) := by decide +kernel
theorem dX11_gap_81 : decode cX11_gap 81 = .ok (.iload 4, 2) := by decide +kernel
theorem dX11_gap_83 : decode cX11_gap 83 = .ok (.iload_n 2, 1) := by decide +kernel
theorem dX11_gap_84 : decode cX11_gap 84 = .ok (.if_icmp .ge 51, 3) := by decide +kernel
theorem dX11_gap_87 : decode cX11_gap 87 = .ok (.aload_n 0, 1) := by decide +kernel
theorem dX11_gap_88 : decode cX11_gap 88 = .ok (.getfield 76, 3) := by decide +kernel
theorem dX11_gap_91 : decode cX11_gap 91 = .ok (.aload_n 0, 1) := by decide +kernel
theorem dX11_gap_92 : decode cX11_gap 92 = .ok (.getfield 10, 3) := by decide +kernel
theorem dX11_gap_95 : decode cX11_gap 95 = .ok (.invokevirtual 260, 3) := by decide +kernel
theorem dX11_gap_98 : decode cX11_gap 98 = .ok (.aload_n 0, 1) := by decide +kernel
theorem dX11_gap_99 : decode cX11_gap 99 = .ok (.getfield 55, 3) := by decide +kernel
theorem dX11_gap_102 : decode cX11_gap 102 = .ok (.aload_n 0, 1) := by decide +kernel
theorem dX11_gap_103 : decode cX11_gap 103 = .ok (.getfield 76, 3) := by decide +kernel
theorem dX11_gap_106 : decode cX11_gap 106 = .ok (.getfield 194, 3) := by decide +kernel
theorem dX11_gap_109 : decode cX11_gap 109 = .ok (.iload_n 1, 1) := by decide +kernel
theorem dX11_gap_110 : decode cX11_gap 110 = .ok (.aload_n 0, 1) := by decide +kernel
theorem dX11_gap_111 : decode cX11_gap 111 = .ok (.getfield 10, 3) := by decide +kernel
theorem dX11_gap_114 : decode cX11_gap 114 = .ok (.getfield 124, 3) := by decide +kernel
theorem dX11_gap_117 : decode cX11_gap 117 = .ok (.invokestatic 314, 3) := by decide +kernel
theorem dX11_gap_120 : decode cX11_gap 120 = .ok (.invokevirtual 266, 3) := by decide +kernel
theorem dX11_gap_123 : decode cX11_gap 123 = .ok (.ifCond .eq 6, 3) := by decide +kernel
theorem dX11_gap_126 : decode cX11_gap 126 = .ok (.iinc 3 1, 3) := by decide +kernel
theorem dX11_gap_129 : decode cX11_gap 129 = .ok (.iinc 4 1, 3) := by decide +kernel
theorem dX11_gap_132 : decode cX11_gap 132 = .ok (.goto (-51), 3) := by decide +kernel
theorem dX11_gap_135 : decode cX11_gap 135 = .ok (.iload_n 3, 1) := by decide +kernel
theorem dX11_gap_136 : decode cX11_gap 136 = .ok (.ireturn, 1) := by decide +kernel
theorem dX11_dry_0 : decode cX11_dry 0 = .ok (.iload_n 1, 1) := by decide +kernel
theorem dX11_dry_1 : decode cX11_dry 1 = .ok (.ifCond .lt 19, 3) := by decide +kernel
theorem dX11_dry_4 : decode cX11_dry 4 = .ok (.iload_n 1, 1) := by decide +kernel
theorem dX11_dry_5 : decode cX11_dry 5 = .ok (.bipush 60, 2) := by decide +kernel
theorem dX11_dry_7 : decode cX11_dry 7 = .ok (.if_icmp .gt 13, 3) := by decide +kernel
theorem dX11_dry_10 : decode cX11_dry 10 = .ok (.iload_n 2, 1) := by decide +kernel
theorem dX11_dry_11 : decode cX11_dry 11 = .ok (.ifCond .lt 9, 3) := by decide +kernel
theorem dX11_dry_14 : decode cX11_dry 14 = .ok (.iload_n 2, 1) := by decide +kernel
theorem dX11_dry_15 : decode cX11_dry 15 = .ok (.bipush 100, 2) := by decide +kernel
theorem dX11_dry_17 : decode cX11_dry 17 = .ok (.if_icmp .le 6, 3) := by decide +kernel
theorem dX11_dry_20 : decode cX11_dry 20 = .ok (.ldc 100, 2) := by decide +kernel
theorem dX11_dry_22 : decode cX11_dry 22 = .ok (.ireturn, 1) := by decide +kernel
theorem dX11_dry_23 : decode cX11_dry 23 = .ok (.ldc2_w 317, 3) := by decide +kernel
theorem dX11_dry_26 : decode cX11_dry 26 = .ok (.lstore_n 3, 1) := by decide +kernel
theorem dX11_dry_27 : decode cX11_dry 27 = .ok (.iconst 0, 1) := by decide +kernel
theorem dX11_dry_28 : decode cX11_dry 28 = .ok (.istore 5, 2) := by decide +kernel
theorem dX11_dry_30 : decode cX11_dry 30 = .ok (.iload 5, 2) := by decide +kernel
theorem dX11_dry_32 : decode cX11_dry 32 = .ok (.iload_n 1, 1) := by decide +kernel
theorem dX11_dry_33 : decode cX11_dry 33 = .ok (.if_icmp .ge 18, 3) := by decide +kernel
theorem dX11_dry_36 : decode cX11_dry 36 = .ok (.lload_n 3, 1) := by decide +kernel
theorem dX11_dry_37 : decode cX11_dry 37 = .ok (.iload_n 2, 1) := by decide +kernel
theorem dX11_dry_38 : decode cX11_dry 38 = .ok (.i2l, 1) := by decide +kernel
theorem dX11_dry_39 : decode cX11_dry 39 = .ok (.lmul, 1) := by decide +kernel
theorem dX11_dry_40 : decode cX11_dry 40 = .ok (.ldc2_w 319, 3) := by decide +kernel
theorem dX11_dry_43 : decode cX11_dry 43 = .ok (.ldiv, 1) := by decide +kernel
theorem dX11_dry_44 : decode cX11_dry 44 = .ok (.lstore_n 3, 1) := by decide +kernel
theorem dX11_dry_45 : decode cX11_dry 45 = .ok (.iinc 5 1, 3) := by decide +kernel
theorem dX11_dry_48 : decode cX11_dry 48 = .ok (.goto (-18), 3) := by decide +kernel
theorem dX11_dry_51 : decode cX11_dry 51 = .ok (.lload_n 3, 1) := by decide +kernel
theorem dX11_dry_52 : decode cX11_dry 52 = .ok (.l2i, 1) := by decide +kernel
theorem dX11_dry_53 : decode cX11_dry 53 = .ok (.ireturn, 1) := by decide +kernel
theorem dX11_hear_0 : decode cX11_hear 0 = .ok (.iload_n 2, 1) := by decide +kernel
theorem dX11_hear_1 : decode cX11_hear 1 = .ok (.aload_n 0, 1) := by decide +kernel
theorem dX11_hear_2 : decode cX11_hear 2 = .ok (.getfield 10, 3) := by decide +kernel
theorem dX11_hear_5 : decode cX11_hear 5 = .ok (.getfield 124, 3) := by decide +kernel
theorem dX11_hear_8 : decode cX11_hear 8 = .ok (.invokestatic 295, 3) := by decide +kernel
theorem dX11_hear_11 : decode cX11_hear 11 = .ok (.istore_n 3, 1) := by decide +kernel
theorem dX11_hear_12 : decode cX11_hear 12 = .ok (.iload_n 1, 1) := by decide +kernel
theorem dX11_hear_13 : decode cX11_hear 13 = .ok (.ifCond .lt 15, 3) := by decide +kernel
theorem dX11_hear_16 : decode cX11_hear 16 = .ok (.iload_n 1, 1) := by decide +kernel
theorem dX11_hear_17 : decode cX11_hear 17 = .ok (.sipush 500, 3) := by decide +kernel
theorem dX11_hear_20 : decode cX11_hear 20 = .ok (.if_icmp .gt 8, 3) := by decide +kernel
theorem dX11_hear_23 : decode cX11_hear 23 = .ok (.iload_n 3, 1) := by decide +kernel
theorem dX11_hear_24 : decode cX11_hear 24 = .ok (.iconst (-1), 1) := by decide +kernel
theorem dX11_hear_25 : decode cX11_hear 25 = .ok (.if_icmp .ne 6, 3) := by decide +kernel
theorem dX11_hear_28 : decode cX11_hear 28 = .ok (.ldc 100, 2) := by decide +kernel
theorem dX11_hear_30 : decode cX11_hear 30 = .ok (.ireturn, 1) := by decide +kernel
theorem dX11_hear_31 : decode cX11_hear 31 = .ok (.aload_n 0, 1) := by decide +kernel
theorem dX11_hear_32 : decode cX11_hear 32 = .ok (.getfield 90, 3) := by decide +kernel
theorem dX11_hear_35 : decode cX11_hear 35 = .ok (.getfield 159, 3) := by decide +kernel
theorem dX11_hear_38 : decode cX11_hear 38 = .ok (.bipush 6, 2) := by decide +kernel
theorem dX11_hear_40 : decode cX11_hear 40 = .ok (.if_icmp .lt 6, 3) := by decide +kernel
theorem dX11_hear_43 : decode cX11_hear 43 = .ok (.ldc 108, 2) := by decide +kernel
theorem dX11_hear_45 : decode cX11_hear 45 = .ok (.ireturn, 1) := by decide +kernel
theorem dX11_hear_46 : decode cX11_hear 46 = .ok (.aload_n 0, 1) := by decide +kernel
theorem dX11_hear_47 : decode cX11_hear 47 = .ok (.getfield 90, 3) := by decide +kernel
theorem dX11_hear_50 : decode cX11_hear 50 = .ok (.aload_n 0, 1) := by decide +kernel
theorem dX11_hear_51 : decode cX11_hear 51 = .ok (.iload_n 1, 1) := by decide +kernel
theorem dX11_hear_52 : decode cX11_hear 52 = .ok (.invokevirtual 321, 3) := by decide +kernel
theorem dX11_hear_55 : decode cX11_hear 55 = .ok (.iload_n 3, 1) := by decide +kernel
theorem dX11_hear_56 : decode cX11_hear 56 = .ok (.aload_n 0, 1) := by decide +kernel
theorem dX11_hear_57 : decode cX11_hear 57 = .ok (.getfield 10, 3) := by decide +kernel
theorem dX11_hear_60 : decode cX11_hear 60 = .ok (.invokevirtual 324, 3) := by decide +kernel
theorem dX11_hear_63 : decode cX11_hear 63 = .ok (.aload_n 0, 1) := by decide +kernel
theorem dX11_hear_64 : decode cX11_hear 64 = .ok (.getfield 90, 3) := by decide +kernel
theorem dX11_hear_67 : decode cX11_hear 67 = .ok (.getfield 159, 3) := by decide +kernel
theorem dX11_hear_70 : decode cX11_hear 70 = .ok (.ireturn, 1) := by decide +kernel
theorem dX11_listen_0 : decode cX11_listen 0 = .ok (.aload_n 0, 1) := by decide +kernel
theorem dX11_listen_1 : decode cX11_listen 1 = .ok (.getfield 10, 3) := by decide +kernel
theorem dX11_listen_4 : decode cX11_listen 4 = .ok (.invokevirtual 171, 3) := by decide +kernel
theorem dX11_listen_7 : decode cX11_listen 7 = .ok (.ifCond .ne 6, 3) := by decide +kernel
theorem dX11_listen_10 : decode cX11_listen 10 = .ok (.ldc 175, 2) := by decide +kernel
theorem dX11_listen_12 : decode cX11_listen 12 = .ok (.ireturn, 1) := by decide +kernel
theorem dX11_listen_13 : decode cX11_listen 13 = .ok (.iconst (-1), 1) := by decide +kernel
theorem dX11_listen_14 : decode cX11_listen 14 = .ok (.istore_n 1, 1) := by decide +kernel
theorem dX11_listen_15 : decode cX11_listen 15 = .ok (.aload_n 0, 1) := by decide +kernel
theorem dX11_listen_16 : decode cX11_listen 16 = .ok (.getfield 90, 3) := by decide +kernel
theorem dX11_listen_19 : decode cX11_listen 19 = .ok (.getfield 162, 3) := by decide +kernel
theorem dX11_listen_22 : decode cX11_listen 22 = .ok (.invokestatic 328, 3) := by decide +kernel
theorem dX11_listen_25 : decode cX11_listen 25 = .ok (.istore_n 2, 1) := by decide +kernel
theorem dX11_listen_26 : decode cX11_listen 26 = .ok (.aload_n 0, 1) := by decide +kernel
theorem dX11_listen_27 : decode cX11_listen 27 = .ok (.getfield 76, 3) := by decide +kernel
theorem dX11_listen_30 : decode cX11_listen 30 = .ok (.aload_n 0, 1) := by decide +kernel
theorem dX11_listen_31 : decode cX11_listen 31 = .ok (.getfield 10, 3) := by decide +kernel
theorem dX11_listen_34 : decode cX11_listen 34 = .ok (.invokevirtual 333, 3) := by decide +kernel
theorem dX11_listen_37 : decode cX11_listen 37 = .ok (.iconst 0, 1) := by decide +kernel
theorem dX11_listen_38 : decode cX11_listen 38 = .ok (.istore_n 3, 1) := by decide +kernel
theorem dX11_listen_39 : decode cX11_listen 39 = .ok (.iload_n 3, 1) := by decide +kernel
theorem dX11_listen_40 : decode cX11_listen 40 = .ok (.bipush 100, 2) := by decide +kernel
theorem dX11_listen_42 : decode cX11_listen 42 = .ok (.if_icmp .ge 56, 3) := by decide +kernel
theorem dX11_listen_45 : decode cX11_listen 45 = .ok (.iload_n 2, 1) := by decide +kernel
theorem dX11_listen_46 : decode cX11_listen 46 = .ok (.iconst 1, 1) := by decide +kernel
theorem dX11_listen_47 : decode cX11_listen 47 = .ok (.if_icmp .le 51, 3) := by decide +kernel
theorem dX11_listen_50 : decode cX11_listen 50 = .ok (.aload_n 0, 1) := by decide +kernel
theorem dX11_listen_51 : decode cX11_listen 51 = .ok (.getfield 90, 3) := by decide +kernel
theorem dX11_listen_54 : decode cX11_listen 54 = .ok (.aload_n 0, 1) := by decide +kernel
theorem dX11_listen_55 : decode cX11_listen 55 = .ok (.getfield 76, 3) := by decide +kernel
theorem dX11_listen_58 : decode cX11_listen 58 = .ok (.getfield 194, 3) := by decide +kernel
theorem dX11_listen_61 : decode cX11_listen 61 = .ok (.aload_n 0, 1) := by decide +kernel
theorem dX11_listen_62 : decode cX11_listen 62 = .ok (.getfield 10, 3) := by decide +kernel
theorem dX11_listen_65 : decode cX11_listen 65 = .ok (.invokevirtual 334, 3) := by decide +kernel
theorem dX11_listen_68 : decode cX11_listen 68 = .ok (.istore 4, 2) := by decide +kernel
theorem dX11_listen_70 : decode cX11_listen 70 = .ok (.iload 4, 2) := by decide +kernel
theorem dX11_listen_72 : decode cX11_listen 72 = .ok (.iload_n 2, 1) := by decide +kernel
theorem dX11_listen_73 : decode cX11_listen 73 = .ok (.if_icmp .ge 8, 3) := by decide +kernel
theorem dX11_listen_76 : decode cX11_listen 76 = .ok (.iload 4, 2) := by decide +kernel
theorem dX11_listen_78 : decode cX11_listen 78 = .ok (.istore_n 2, 1) := by decide +kernel
theorem dX11_listen_79 : decode cX11_listen 79 = .ok (.iload_n 3, 1) := by decide +kernel
theorem dX11_listen_80 : decode cX11_listen 80 = .ok (.istore_n 1, 1) := by decide +kernel
theorem dX11_listen_81 : decode cX11_listen 81 = .ok (.aload_n 0, 1) := by decide +kernel
theorem dX11_listen_82 : decode cX11_listen 82 = .ok (.getfield 76, 3) := by decide +kernel
theorem dX11_listen_85 : decode cX11_listen 85 = .ok (.aload_n 0, 1) := by decide +kernel
theorem dX11_listen_86 : decode cX11_listen 86 = .ok (.getfield 10, 3) := by decide +kernel
theorem dX11_listen_89 : decode cX11_listen 89 = .ok (.invokevirtual 260, 3) := by decide +kernel
theorem dX11_listen_92 : decode cX11_listen 92 = .ok (.iinc 3 1, 3) := by decide +kernel
theorem dX11_listen_95 : decode cX11_listen 95 = .ok (.goto (-56), 3) := by decide +kernel
theorem dX11_listen_98 : decode cX11_listen 98 = .ok (.iload_n 1, 1) := by decide +kernel
theorem dX11_listen_99 : decode cX11_listen 99 = .ok (.ireturn, 1) := by decide +kernel
theorem dX11_write_0 : decode cX11_write 0 = .ok (.aload_n 0, 1) := by decide +kernel
theorem dX11_write_1 : decode cX11_write 1 = .ok (.getfield 10, 3) := by decide +kernel
theorem dX11_write_4 : decode cX11_write 4 = .ok (.iload_n 1, 1) := by decide +kernel
theorem dX11_write_5 : decode cX11_write 5 = .ok (.invokevirtual 186, 3) := by decide +kernel
theorem dX11_write_8 : decode cX11_write 8 = .ok (.ifCond .eq 14, 3) := by decide +kernel
theorem dX11_write_11 : decode cX11_write 11 = .ok (.aload_n 0, 1) := by decide +kernel
theorem dX11_write_12 : decode cX11_write 12 = .ok (.getfield 10, 3) := by decide +kernel
theorem dX11_write_15 : decode cX11_write 15 = .ok (.iload_n 2, 1) := by decide +kernel
theorem dX11_write_16 : decode cX11_write 16 = .ok (.invokevirtual 186, 3) := by decide +kernel
theorem dX11_write_19 : decode cX11_write 19 = .ok (.ifCond .ne 6, 3) := by decide +kernel
theorem dX11_write_22 : decode cX11_write 22 = .ok (.ldc 189, 2) := by decide +kernel
theorem dX11_write_24 : decode cX11_write 24 = .ok (.ireturn, 1) := by decide +kernel
theorem dX11_write_25 : decode cX11_write 25 = .ok (.aload_n 0, 1) := by decide +kernel
theorem dX11_write_26 : decode cX11_write 26 = .ok (.getfield 90, 3) := by decide +kernel
theorem dX11_write_29 : decode cX11_write 29 = .ok (.iload_n 1, 1) := by decide +kernel
theorem dX11_write_30 : decode cX11_write 30 = .ok (.iload_n 2, 1) := by decide +kernel
theorem dX11_write_31 : decode cX11_write 31 = .ok (.invokevirtual 337, 3) := by decide +kernel
theorem dX11_write_34 : decode cX11_write 34 = .ok (.ifCond .eq 13, 3) := by decide +kernel
theorem dX11_write_37 : decode cX11_write 37 = .ok (.aload_n 0, 1) := by decide +kernel
theorem dX11_write_38 : decode cX11_write 38 = .ok (.getfield 90, 3) := by decide +kernel
theorem dX11_write_41 : decode cX11_write 41 = .ok (.getfield 165, 3) := by decide +kernel
theorem dX11_write_44 : decode cX11_write 44 = .ok (.goto 5, 3) := by decide +kernel
theorem dX11_write_47 : decode cX11_write 47 = .ok (.ldc 108, 2) := by decide +kernel
theorem dX11_write_49 : decode cX11_write 49 = .ok (.ireturn, 1) := by decide +kernel
theorem dX11_tear_0 : decode cX11_tear 0 = .ok (.aload_n 0, 1) := by decide +kernel
theorem dX11_tear_1 : decode cX11_tear 1 = .ok (.getfield 90, 3) := by decide +kernel
theorem dX11_tear_4 : decode cX11_tear 4 = .ok (.getfield 159, 3) := by decide +kernel
theorem dX11_tear_7 : decode cX11_tear 7 = .ok (.aload_n 0, 1) := by decide +kernel
theorem dX11_tear_8 : decode cX11_tear 8 = .ok (.getfield 90, 3) := by decide +kernel
theorem dX11_tear_11 : decode cX11_tear 11 = .ok (.getfield 165, 3) := by decide +kernel
theorem dX11_tear_14 : decode cX11_tear 14 = .ok (.iadd, 1) := by decide +kernel
theorem dX11_tear_15 : decode cX11_tear 15 = .ok (.istore_n 1, 1) := by decide +kernel
theorem dX11_tear_16 : decode cX11_tear 16 = .ok (.aload_n 0, 1) := by decide +kernel
theorem dX11_tear_17 : decode cX11_tear 17 = .ok (.getfield 90, 3) := by decide +kernel
theorem dX11_tear_20 : decode cX11_tear 20 = .ok (.aload_n 0, 1) := by decide +kernel
theorem dX11_tear_21 : decode cX11_tear 21 = .ok (.getfield 10, 3) := by decide +kernel
theorem dX11_tear_24 : decode cX11_tear 24 = .ok (.invokevirtual 118, 3) := by decide +kernel
theorem dX11_tear_27 : decode cX11_tear 27 = .ok (.iload_n 1, 1) := by decide +kernel
theorem dX11_tear_28 : decode cX11_tear 28 = .ok (.ireturn, 1) := by decide +kernel
theorem dX11_judge_0 : decode cX11_judge 0 = .ok (.aload_n 0, 1) := by decide +kernel
theorem dX11_judge_1 : decode cX11_judge 1 = .ok (.getfield 90, 3) := by decide +kernel
theorem dX11_judge_4 : decode cX11_judge 4 = .ok (.aload_n 0, 1) := by decide +kernel
theorem dX11_judge_5 : decode cX11_judge 5 = .ok (.getfield 29, 3) := by decide +kernel
theorem dX11_judge_8 : decode cX11_judge 8 = .ok (.getfield 146, 3) := by decide +kernel
theorem dX11_judge_11 : decode cX11_judge 11 = .ok (.getfield 194, 3) := by decide +kernel
theorem dX11_judge_14 : decode cX11_judge 14 = .ok (.aload_n 0, 1) := by decide +kernel
theorem dX11_judge_15 : decode cX11_judge 15 = .ok (.getfield 10, 3) := by decide +kernel
theorem dX11_judge_18 : decode cX11_judge 18 = .ok (.invokevirtual 340, 3) := by decide +kernel
theorem dX11_judge_21 : decode cX11_judge 21 = .ok (.ireturn, 1) := by decide +kernel
theorem dX11_seed_0 : decode cX11_seed 0 = .ok (.iload_n 1, 1) := by decide +kernel
theorem dX11_seed_1 : decode cX11_seed 1 = .ok (.ifCond .ge 6, 3) := by decide +kernel
theorem dX11_seed_4 : decode cX11_seed 4 = .ok (.ldc 100, 2) := by decide +kernel
theorem dX11_seed_6 : decode cX11_seed 6 = .ok (.ireturn, 1) := by decide +kernel
theorem dX11_seed_7 : decode cX11_seed 7 = .ok (.aload_n 0, 1) := by decide +kernel
theorem dX11_seed_8 : decode cX11_seed 8 = .ok (.getfield 97, 3) := by decide +kernel
theorem dX11_seed_11 : decode cX11_seed 11 = .ok (.istore_n 2, 1) := by decide +kernel
theorem dX11_seed_12 : decode cX11_seed 12 = .ok (.aload_n 0, 1) := by decide +kernel
theorem dX11_seed_13 : decode cX11_seed 13 = .ok (.iload_n 1, 1) := by decide +kernel
theorem dX11_seed_14 : decode cX11_seed 14 = .ok (.putfield 97, 3) := by decide +kernel
theorem dX11_seed_17 : decode cX11_seed 17 = .ok (.iload_n 2, 1) := by decide +kernel
theorem dX11_seed_18 : decode cX11_seed 18 = .ok (.ireturn, 1) := by decide +kernel
theorem dX11_keep_0 : decode cX11_keep 0 = .ok (.iload_n 1, 1) := by decide +kernel
theorem dX11_keep_1 : decode cX11_keep 1 = .ok (.ifCond .lt 8, 3) := by decide +kernel
theorem dX11_keep_4 : decode cX11_keep 4 = .ok (.iload_n 1, 1) := by decide +kernel
theorem dX11_keep_5 : decode cX11_keep 5 = .ok (.iconst 2, 1) := by decide +kernel
theorem dX11_keep_6 : decode cX11_keep 6 = .ok (.if_icmp .lt 6, 3) := by decide +kernel
theorem dX11_keep_9 : decode cX11_keep 9 = .ok (.ldc 189, 2) := by decide +kernel
theorem dX11_keep_11 : decode cX11_keep 11 = .ok (.ireturn, 1) := by decide +kernel
theorem dX11_keep_12 : decode cX11_keep 12 = .ok (.aload_n 0, 1) := by decide +kernel
theorem dX11_keep_13 : decode cX11_keep 13 = .ok (.getfield 40, 3) := by decide +kernel
theorem dX11_keep_16 : decode cX11_keep 16 = .ok (.iload_n 1, 1) := by decide +kernel
theorem dX11_keep_17 : decode cX11_keep 17 = .ok (.aaload, 1) := by decide +kernel
theorem dX11_keep_18 : decode cX11_keep 18 = .ok (.aload_n 0, 1) := by decide +kernel
theorem dX11_keep_19 : decode cX11_keep 19 = .ok (.getfield 29, 3) := by decide +kernel
theorem dX11_keep_22 : decode cX11_keep 22 = .ok (.invokevirtual 343, 3) := by decide +kernel
theorem dX11_keep_25 : decode cX11_keep 25 = .ok (.aload_n 0, 1) := by decide +kernel
theorem dX11_keep_26 : decode cX11_keep 26 = .ok (.getfield 44, 3) := by decide +kernel
theorem dX11_keep_29 : decode cX11_keep 29 = .ok (.iload_n 1, 1) := by decide +kernel
theorem dX11_keep_30 : decode cX11_keep 30 = .ok (.aload_n 0, 1) := by decide +kernel
theorem dX11_keep_31 : decode cX11_keep 31 = .ok (.getfield 97, 3) := by decide +kernel
theorem dX11_keep_34 : decode cX11_keep 34 = .ok (.iastore, 1) := by decide +kernel
theorem dX11_keep_35 : decode cX11_keep 35 = .ok (.aload_n 0, 1) := by decide +kernel
theorem dX11_keep_36 : decode cX11_keep 36 = .ok (.dup, 1) := by decide +kernel
theorem dX11_keep_37 : decode cX11_keep 37 = .ok (.getfield 48, 3) := by decide +kernel
theorem dX11_keep_40 : decode cX11_keep 40 = .ok (.iconst 1, 1) := by decide +kernel
theorem dX11_keep_41 : decode cX11_keep 41 = .ok (.iload_n 1, 1) := by decide +kernel
theorem dX11_keep_42 : decode cX11_keep 42 = .ok (.ishl, 1) := by decide +kernel
theorem dX11_keep_43 : decode cX11_keep 43 = .ok (.ior, 1) := by decide +kernel
theorem dX11_keep_44 : decode cX11_keep 44 = .ok (.putfield 48, 3) := by decide +kernel
theorem dX11_keep_47 : decode cX11_keep 47 = .ok (.aload_n 0, 1) := by decide +kernel
theorem dX11_keep_48 : decode cX11_keep 48 = .ok (.getfield 36, 3) := by decide +kernel
theorem dX11_keep_51 : decode cX11_keep 51 = .ok (.invokevirtual 121, 3) := by decide +kernel
theorem dX11_keep_54 : decode cX11_keep 54 = .ok (.iconst 1, 1) := by decide +kernel
theorem dX11_keep_55 : decode cX11_keep 55 = .ok (.ireturn, 1) := by decide +kernel
theorem dX11_goBack_0 : decode cX11_goBack 0 = .ok (.iload_n 1, 1) := by decide +kernel
theorem dX11_goBack_1 : decode cX11_goBack 1 = .ok (.ifCond .lt 8, 3) := by decide +kernel
theorem dX11_goBack_4 : decode cX11_goBack 4 = .ok (.iload_n 1, 1) := by decide +kernel
theorem dX11_goBack_5 : decode cX11_goBack 5 = .ok (.iconst 2, 1) := by decide +kernel
theorem dX11_goBack_6 : decode cX11_goBack 6 = .ok (.if_icmp .lt 6, 3) := by decide +kernel
theorem dX11_goBack_9 : decode cX11_goBack 9 = .ok (.ldc 189, 2) := by decide +kernel
theorem dX11_goBack_11 : decode cX11_goBack 11 = .ok (.ireturn, 1) := by decide +kernel
theorem dX11_goBack_12 : decode cX11_goBack 12 = .ok (.aload_n 0, 1) := by decide +kernel
theorem dX11_goBack_13 : decode cX11_goBack 13 = .ok (.getfield 48, 3) := by decide +kernel
theorem dX11_goBack_16 : decode cX11_goBack 16 = .ok (.iload_n 1, 1) := by decide +kernel
theorem dX11_goBack_17 : decode cX11_goBack 17 = .ok (.ishr, 1) := by decide +kernel
theorem dX11_goBack_18 : decode cX11_goBack 18 = .ok (.iconst 1, 1) := by decide +kernel
theorem dX11_goBack_19 : decode cX11_goBack 19 = .ok (.iand, 1) := by decide +kernel
theorem dX11_goBack_20 : decode cX11_goBack 20 = .ok (.ifCond .ne 6, 3) := by decide +kernel
theorem dX11_goBack_23 : decode cX11_goBack 23 = .ok (.ldc 175, 2) := by decide +kernel
theorem dX11_goBack_25 : decode cX11_goBack 25 = .ok (.ireturn, 1) := by decide +kernel
theorem dX11_goBack_26 : decode cX11_goBack 26 = .ok (.aload_n 0, 1) := by decide +kernel
theorem dX11_goBack_27 : decode cX11_goBack 27 = .ok (.getfield 29, 3) := by decide +kernel
theorem dX11_goBack_30 : decode cX11_goBack 30 = .ok (.aload_n 0, 1) := by decide +kernel
theorem dX11_goBack_31 : decode cX11_goBack 31 = .ok (.getfield 40, 3) := by decide +kernel
theorem dX11_goBack_34 : decode cX11_goBack 34 = .ok (.iload_n 1, 1) := by decide +kernel
theorem dX11_goBack_35 : decode cX11_goBack 35 = .ok (.aaload, 1) := by decide +kernel
theorem dX11_goBack_36 : decode cX11_goBack 36 = .ok (.invokevirtual 343, 3) := by decide +kernel
theorem dX11_goBack_39 : decode cX11_goBack 39 = .ok (.aload_n 0, 1) := by decide +kernel
theorem dX11_goBack_40 : decode cX11_goBack 40 = .ok (.aload_n 0, 1) := by decide +kernel
theorem dX11_goBack_41 : decode cX11_goBack 41 = .ok (.getfield 44, 3) := by decide +kernel
theorem dX11_goBack_44 : decode cX11_goBack 44 = .ok (.iload_n 1, 1) := by decide +kernel
theorem dX11_goBack_45 : decode cX11_goBack 45 = .ok (.iaload, 1) := by decide +kernel
theorem dX11_goBack_46 : decode cX11_goBack 46 = .ok (.putfield 97, 3) := by decide +kernel
theorem dX11_goBack_49 : decode cX11_goBack 49 = .ok (.aload_n 0, 1) := by decide +kernel
theorem dX11_goBack_50 : decode cX11_goBack 50 = .ok (.getfield 36, 3) := by decide +kernel
theorem dX11_goBack_53 : decode cX11_goBack 53 = .ok (.invokevirtual 121, 3) := by decide +kernel
theorem dX11_goBack_56 : decode cX11_goBack 56 = .ok (.iconst 1, 1) := by decide +kernel
theorem dX11_goBack_57 : decode cX11_goBack 57 = .ok (.ireturn, 1) := by decide +kernel
theorem dX11_figuresNow_0 : decode cX11_figuresNow 0 = .ok (.aload_n 0, 1) := by decide +kernel
theorem dX11_figuresNow_1 : decode cX11_figuresNow 1 = .ok (.getfield 29, 3) := by decide +kernel
theorem dX11_figuresNow_4 : decode cX11_figuresNow 4 = .ok (.getfield 146, 3) := by decide +kernel
theorem dX11_figuresNow_7 : decode cX11_figuresNow 7 = .ok (.getfield 194, 3) := by decide +kernel
theorem dX11_figuresNow_10 : decode cX11_figuresNow 10 = .ok (.aload_n 0, 1) := by decide +kernel
theorem dX11_figuresNow_11 : decode cX11_figuresNow 11 = .ok (.getfield 10, 3) := by decide +kernel
theorem dX11_figuresNow_14 : decode cX11_figuresNow 14 = .ok (.getfield 124, 3) := by decide +kernel
theorem dX11_figuresNow_17 : decode cX11_figuresNow 17 = .ok (.invokestatic 250, 3) := by decide +kernel
theorem dX11_figuresNow_20 : decode cX11_figuresNow 20 = .ok (.ireturn, 1) := by decide +kernel
theorem dX11_refuseToRing_0 : decode cX11_refuseToRing 0 = .ok (.iload_n 1, 1) := by decide +kernel
theorem dX11_refuseToRing_1 : decode cX11_refuseToRing 1 = .ok (.iconst 1, 1) := by decide +kernel
theorem dX11_refuseToRing_2 : decode cX11_refuseToRing 2 = .ok (.if_icmp .lt 8, 3) := by decide +kernel
theorem dX11_refuseToRing_5 : decode cX11_refuseToRing 5 = .ok (.iload_n 1, 1) := by decide +kernel
theorem dX11_refuseToRing_6 : decode cX11_refuseToRing 6 = .ok (.iload_n 2, 1) := by decide +kernel
theorem dX11_refuseToRing_7 : decode cX11_refuseToRing 7 = .ok (.if_icmp .le 6, 3) := by decide +kernel
theorem dX11_refuseToRing_10 : decode cX11_refuseToRing 10 = .ok (.ldc 100, 2) := by decide +kernel
theorem dX11_refuseToRing_12 : decode cX11_refuseToRing 12 = .ok (.ireturn, 1) := by decide +kernel
theorem dX11_refuseToRing_13 : decode cX11_refuseToRing 13 = .ok (.aload_n 0, 1) := by decide +kernel
theorem dX11_refuseToRing_14 : decode cX11_refuseToRing 14 = .ok (.getfield 10, 3) := by decide +kernel
theorem dX11_refuseToRing_17 : decode cX11_refuseToRing 17 = .ok (.invokevirtual 171, 3) := by decide +kernel
theorem dX11_refuseToRing_20 : decode cX11_refuseToRing 20 = .ok (.ifCond .ne 6, 3) := by decide +kernel
theorem dX11_refuseToRing_23 : decode cX11_refuseToRing 23 = .ok (.ldc 175, 2) := by decide +kernel
theorem dX11_refuseToRing_25 : decode cX11_refuseToRing 25 = .ok (.ireturn, 1) := by decide +kernel
theorem dX11_refuseToRing_26 : decode cX11_refuseToRing 26 = .ok (.aload_n 0, 1) := by decide +kernel
theorem dX11_refuseToRing_27 : decode cX11_refuseToRing 27 = .ok (.getfield 29, 3) := by decide +kernel
theorem dX11_refuseToRing_30 : decode cX11_refuseToRing 30 = .ok (.getfield 133, 3) := by decide +kernel
theorem dX11_refuseToRing_33 : decode cX11_refuseToRing 33 = .ok (.sipush 9000, 3) := by decide +kernel
theorem dX11_refuseToRing_36 : decode cX11_refuseToRing 36 = .ok (.if_icmp .le 8, 3) := by decide +kernel
theorem dX11_refuseToRing_39 : decode cX11_refuseToRing 39 = .ok (.ldc 108, 2) := by decide +kernel
theorem dX11_refuseToRing_41 : decode cX11_refuseToRing 41 = .ok (.goto 4, 3) := by decide +kernel
theorem dX11_refuseToRing_44 : decode cX11_refuseToRing 44 = .ok (.iconst 0, 1) := by decide +kernel
theorem dX11_refuseToRing_45 : decode cX11_refuseToRing 45 = .ok (.ireturn, 1) := by decide +kernel
theorem dX11_rowBehind_0 : decode cX11_rowBehind 0 = .ok (.aload_n 0, 1) := by decide +kernel
theorem dX11_rowBehind_1 : decode cX11_rowBehind 1 = .ok (.getfield 76, 3) := by decide +kernel
theorem dX11_rowBehind_4 : decode cX11_rowBehind 4 = .ok (.aload_n 0, 1) := by decide +kernel
theorem dX11_rowBehind_5 : decode cX11_rowBehind 5 = .ok (.getfield 29, 3) := by decide +kernel
theorem dX11_rowBehind_8 : decode cX11_rowBehind 8 = .ok (.getfield 146, 3) := by decide +kernel
theorem dX11_rowBehind_11 : decode cX11_rowBehind 11 = .ok (.invokevirtual 256, 3) := by decide +kernel
theorem dX11_rowBehind_14 : decode cX11_rowBehind 14 = .ok (.aload_n 0, 1) := by decide +kernel
theorem dX11_rowBehind_15 : decode cX11_rowBehind 15 = .ok (.iload_n 1, 1) := by decide +kernel
theorem dX11_rowBehind_16 : decode cX11_rowBehind 16 = .ok (.invokevirtual 345, 3) := by decide +kernel
theorem dX11_rowBehind_19 : decode cX11_rowBehind 19 = .ok (.ireturn, 1) := by decide +kernel
theorem dX11_plainRowBehind_0 : decode cX11_plainRowBehind 0 = .ok (.aload_n 0, 1) := by decide +kernel
theorem dX11_plainRowBehind_1 : decode cX11_plainRowBehind 1 = .ok (.getfield 76, 3) := by decide +kernel
theorem dX11_plainRowBehind_4 : decode cX11_plainRowBehind 4 = .ok (.aload_n 0, 1) := by decide +kernel
theorem dX11_plainRowBehind_5 : decode cX11_plainRowBehind 5 = .ok (.getfield 10, 3) := by decide +kernel
theorem dX11_plainRowBehind_8 : decode cX11_plainRowBehind 8 = .ok (.invokevirtual 333, 3) := by decide +kernel
theorem dX11_plainRowBehind_11 : decode cX11_plainRowBehind 11 = .ok (.aload_n 0, 1) := by decide +kernel
theorem dX11_plainRowBehind_12 : decode cX11_plainRowBehind 12 = .ok (.iload_n 1, 1) := by decide +kernel
theorem dX11_plainRowBehind_13 : decode cX11_plainRowBehind 13 = .ok (.invokevirtual 345, 3) := by decide +kernel
theorem dX11_plainRowBehind_16 : decode cX11_plainRowBehind 16 = .ok (.ireturn, 1) := by decide +kernel
theorem dX11_stepTrial_0 : decode cX11_stepTrial 0 = .ok (.iconst 0, 1) := by decide +kernel
theorem dX11_stepTrial_1 : decode cX11_stepTrial 1 = .ok (.istore_n 2, 1) := by decide +kernel
theorem dX11_stepTrial_2 : decode cX11_stepTrial 2 = .ok (.iload_n 2, 1) := by decide +kernel
theorem dX11_stepTrial_3 : decode cX11_stepTrial 3 = .ok (.iload_n 1, 1) := by decide +kernel
theorem dX11_stepTrial_4 : decode cX11_stepTrial 4 = .ok (.if_icmp .ge 20, 3) := by decide +kernel
theorem dX11_stepTrial_7 : decode cX11_stepTrial 7 = .ok (.aload_n 0, 1) := by decide +kernel
theorem dX11_stepTrial_8 : decode cX11_stepTrial 8 = .ok (.getfield 76, 3) := by decide +kernel
theorem dX11_stepTrial_11 : decode cX11_stepTrial 11 = .ok (.aload_n 0, 1) := by decide +kernel
theorem dX11_stepTrial_12 : decode cX11_stepTrial 12 = .ok (.getfield 10, 3) := by decide +kernel
theorem dX11_stepTrial_15 : decode cX11_stepTrial 15 = .ok (.invokevirtual 260, 3) := by decide +kernel
theorem dX11_stepTrial_18 : decode cX11_stepTrial 18 = .ok (.iinc 2 1, 3) := by decide +kernel
theorem dX11_stepTrial_21 : decode cX11_stepTrial 21 = .ok (.goto (-19), 3) := by decide +kernel
theorem dX11_stepTrial_24 : decode cX11_stepTrial 24 = .ok (.aload_n 0, 1) := by decide +kernel
theorem dX11_stepTrial_25 : decode cX11_stepTrial 25 = .ok (.getfield 76, 3) := by decide +kernel
theorem dX11_stepTrial_28 : decode cX11_stepTrial 28 = .ok (.getfield 194, 3) := by decide +kernel
theorem dX11_stepTrial_31 : decode cX11_stepTrial 31 = .ok (.ireturn, 1) := by decide +kernel
theorem dX11_draw_0 : decode cX11_draw 0 = .ok (.aload_n 0, 1) := by decide +kernel
theorem dX11_draw_1 : decode cX11_draw 1 = .ok (.aload_n 0, 1) := by decide +kernel
theorem dX11_draw_2 : decode cX11_draw 2 = .ok (.getfield 97, 3) := by decide +kernel
theorem dX11_draw_5 : decode cX11_draw 5 = .ok (.i2l, 1) := by decide +kernel
theorem dX11_draw_6 : decode cX11_draw 6 = .ok (.ldc2_w 348, 3) := by decide +kernel
theorem dX11_draw_9 : decode cX11_draw 9 = .ok (.lmul, 1) := by decide +kernel
theorem dX11_draw_10 : decode cX11_draw 10 = .ok (.ldc2_w 350, 3) := by decide +kernel
theorem dX11_draw_13 : decode cX11_draw 13 = .ok (.ladd, 1) := by decide +kernel
theorem dX11_draw_14 : decode cX11_draw 14 = .ok (.ldc2_w 352, 3) := by decide +kernel
theorem dX11_draw_17 : decode cX11_draw 17 = .ok (.land, 1) := by decide +kernel
theorem dX11_draw_18 : decode cX11_draw 18 = .ok (.l2i, 1) := by decide +kernel
theorem dX11_draw_19 : decode cX11_draw 19 = .ok (.putfield 97, 3) := by decide +kernel
theorem dX11_draw_22 : decode cX11_draw 22 = .ok (.iload_n 1, 1) := by decide +kernel
theorem dX11_draw_23 : decode cX11_draw 23 = .ok (.ifCond .le 16, 3) := by decide +kernel
theorem dX11_draw_26 : decode cX11_draw 26 = .ok (.aload_n 0, 1) := by decide +kernel
theorem dX11_draw_27 : decode cX11_draw 27 = .ok (.getfield 97, 3) := by decide +kernel
theorem dX11_draw_30 : decode cX11_draw 30 = .ok (.ldc_w 354, 3) := by decide +kernel
theorem dX11_draw_33 : decode cX11_draw 33 = .ok (.idiv, 1) := by decide +kernel
theorem dX11_draw_34 : decode cX11_draw 34 = .ok (.iload_n 1, 1) := by decide +kernel
theorem dX11_draw_35 : decode cX11_draw 35 = .ok (.irem, 1) := by decide +kernel
theorem dX11_draw_36 : decode cX11_draw 36 = .ok (.goto 4, 3) := by decide +kernel
theorem dX11_draw_39 : decode cX11_draw 39 = .ok (.iconst 0, 1) := by decide +kernel
theorem dX11_draw_40 : decode cX11_draw 40 = .ok (.ireturn, 1) := by decide +kernel
theorem dX11_letChanceAct_0 : decode cX11_letChanceAct 0 = .ok (.aload_n 0, 1) := by decide +kernel
theorem dX11_letChanceAct_1 : decode cX11_letChanceAct 1 = .ok (.bipush 8, 2) := by decide +kernel
theorem dX11_letChanceAct_3 : decode cX11_letChanceAct 3 = .ok (.invokevirtual 355, 3) := by decide +kernel
theorem dX11_letChanceAct_6 : decode cX11_letChanceAct 6 = .ok (.tableswitch 72 0 2 #[26, 40, 65], 26) := by decide +kernel
theorem dX11_letChanceAct_32 : decode cX11_letChanceAct 32 = .ok (.aload_n 0, 1) := by decide +kernel
theorem dX11_letChanceAct_33 : decode cX11_letChanceAct 33 = .ok (.getfield 29, 3) := by decide +kernel
theorem dX11_letChanceAct_36 : decode cX11_letChanceAct 36 = .ok (.getfield 146, 3) := by decide +kernel
theorem dX11_letChanceAct_39 : decode cX11_letChanceAct 39 = .ok (.iconst 1, 1) := by decide +kernel
theorem dX11_letChanceAct_40 : decode cX11_letChanceAct 40 = .ok (.putfield 149, 3) := by decide +kernel
theorem dX11_letChanceAct_43 : decode cX11_letChanceAct 43 = .ok (.goto 35, 3) := by decide +kernel
theorem dX11_letChanceAct_46 : decode cX11_letChanceAct 46 = .ok (.aload_n 0, 1) := by decide +kernel
theorem dX11_letChanceAct_47 : decode cX11_letChanceAct 47 = .ok (.getfield 29, 3) := by decide +kernel
theorem dX11_letChanceAct_50 : decode cX11_letChanceAct 50 = .ok (.aload_n 0, 1) := by decide +kernel
theorem dX11_letChanceAct_51 : decode cX11_letChanceAct 51 = .ok (.getfield 29, 3) := by decide +kernel
theorem dX11_letChanceAct_54 : decode cX11_letChanceAct 54 = .ok (.getfield 153, 3) := by decide +kernel
theorem dX11_letChanceAct_57 : decode cX11_letChanceAct 57 = .ok (.ifCond .ne 7, 3) := by decide +kernel
theorem dX11_letChanceAct_60 : decode cX11_letChanceAct 60 = .ok (.iconst 1, 1) := by decide +kernel
theorem dX11_letChanceAct_61 : decode cX11_letChanceAct 61 = .ok (.goto 4, 3) := by decide +kernel
theorem dX11_letChanceAct_64 : decode cX11_letChanceAct 64 = .ok (.iconst 0, 1) := by decide +kernel
theorem dX11_letChanceAct_65 : decode cX11_letChanceAct 65 = .ok (.putfield 153, 3) := by decide +kernel
theorem dX11_letChanceAct_68 : decode cX11_letChanceAct 68 = .ok (.goto 10, 3) := by decide +kernel
theorem dX11_letChanceAct_71 : decode cX11_letChanceAct 71 = .ok (.aload_n 0, 1) := by decide +kernel
theorem dX11_letChanceAct_72 : decode cX11_letChanceAct 72 = .ok (.invokevirtual 358, 3) := by decide +kernel
theorem dX11_letChanceAct_75 : decode cX11_letChanceAct 75 = .ok (.goto 3, 3) := by decide +kernel
theorem dX11_letChanceAct_78 : decode cX11_letChanceAct 78 = .ok (.return_, 1) := by decide +kernel
theorem dX11_changeRopesByDraws_0 : decode cX11_changeRopesByDraws 0 = .ok (.aload_n 0, 1) := by decide +kernel
theorem dX11_changeRopesByDraws_1 : decode cX11_changeRopesByDraws 1 = .ok (.getfield 10, 3) := by decide +kernel
theorem dX11_changeRopesByDraws_4 : decode cX11_changeRopesByDraws 4 = .ok (.getfield 130, 3) := by decide +kernel
theorem dX11_changeRopesByDraws_7 : decode cX11_changeRopesByDraws 7 = .ok (.ifCond .le 36, 3) := by decide +kernel
theorem dX11_changeRopesByDraws_10 : decode cX11_changeRopesByDraws 10 = .ok (.aload_n 0, 1) := by decide +kernel
theorem dX11_changeRopesByDraws_11 : decode cX11_changeRopesByDraws 11 = .ok (.aload_n 0, 1) := by decide +kernel
theorem dX11_changeRopesByDraws_12 : decode cX11_changeRopesByDraws 12 = .ok (.getfield 10, 3) := by decide +kernel
theorem dX11_changeRopesByDraws_15 : decode cX11_changeRopesByDraws 15 = .ok (.getfield 130, 3) := by decide +kernel
theorem dX11_changeRopesByDraws_18 : decode cX11_changeRopesByDraws 18 = .ok (.invokevirtual 355, 3) := by decide +kernel
theorem dX11_changeRopesByDraws_21 : decode cX11_changeRopesByDraws 21 = .ok (.istore_n 1, 1) := by decide +kernel
theorem dX11_changeRopesByDraws_22 : decode cX11_changeRopesByDraws 22 = .ok (.aload_n 0, 1) := by decide +kernel
theorem dX11_changeRopesByDraws_23 : decode cX11_changeRopesByDraws 23 = .ok (.aload_n 0, 1) := by decide +kernel
theorem dX11_changeRopesByDraws_24 : decode cX11_changeRopesByDraws 24 = .ok (.getfield 10, 3) := by decide +kernel
theorem dX11_changeRopesByDraws_27 : decode cX11_changeRopesByDraws 27 = .ok (.getfield 130, 3) := by decide +kernel
theorem dX11_changeRopesByDraws_30 : decode cX11_changeRopesByDraws 30 = .ok (.invokevirtual 355, 3) := by decide +kernel
theorem dX11_changeRopesByDraws_33 : decode cX11_changeRopesByDraws 33 = .ok (.istore_n 2, 1) := by decide +kernel
theorem dX11_changeRopesByDraws_34 : decode cX11_changeRopesByDraws 34 = .ok (.aload_n 0, 1) := by decide +kernel
theorem dX11_changeRopesByDraws_35 : decode cX11_changeRopesByDraws 35 = .ok (.getfield 29, 3) := by decide +kernel
theorem dX11_changeRopesByDraws_38 : decode cX11_changeRopesByDraws 38 = .ok (.iload_n 1, 1) := by decide +kernel
theorem dX11_changeRopesByDraws_39 : decode cX11_changeRopesByDraws 39 = .ok (.iload_n 2, 1) := by decide +kernel
theorem dX11_changeRopesByDraws_40 : decode cX11_changeRopesByDraws 40 = .ok (.invokevirtual 233, 3) := by decide +kernel
theorem dX11_changeRopesByDraws_43 : decode cX11_changeRopesByDraws 43 = .ok (.return_, 1) := by decide +kernel
theorem dX12_init_0 : decode cX12_init 0 = .ok (.aload_n 0, 1) := by decide +kernel
theorem dX12_init_1 : decode cX12_init 1 = .ok (.invokespecial 1, 3) := by decide +kernel
theorem dX12_init_4 : decode cX12_init 4 = .ok (.aload_n 0, 1) := by decide +kernel
theorem dX12_init_5 : decode cX12_init 5 = .ok (.sipush 240, 3) := by decide +kernel
theorem dX12_init_8 : decode cX12_init 8 = .ok (.newarray .int, 2) := by decide +kernel
theorem dX12_init_10 : decode cX12_init 10 = .ok (.putfield 7, 3) := by decide +kernel
theorem dX12_init_13 : decode cX12_init 13 = .ok (.aload_n 0, 1) := by decide +kernel
theorem dX12_init_14 : decode cX12_init 14 = .ok (.iconst (-1), 1) := by decide +kernel
theorem dX12_init_15 : decode cX12_init 15 = .ok (.putfield 13, 3) := by decide +kernel
theorem dX12_init_18 : decode cX12_init 18 = .ok (.aload_n 0, 1) := by decide +kernel
theorem dX12_init_19 : decode cX12_init 19 = .ok (.bipush 6, 2) := by decide +kernel
theorem dX12_init_21 : decode cX12_init 21 = .ok (.newarray .int, 2) := by decide +kernel
theorem dX12_init_23 : decode cX12_init 23 = .ok (.putfield 17, 3) := by decide +kernel
theorem dX12_init_26 : decode cX12_init 26 = .ok (.aload_n 0, 1) := by decide +kernel
theorem dX12_init_27 : decode cX12_init 27 = .ok (.bipush 12, 2) := by decide +kernel
theorem dX12_init_29 : decode cX12_init 29 = .ok (.newarray .int, 2) := by decide +kernel
theorem dX12_init_31 : decode cX12_init 31 = .ok (.putfield 20, 3) := by decide +kernel
theorem dX12_init_34 : decode cX12_init 34 = .ok (.aload_n 0, 1) := by decide +kernel
theorem dX12_init_35 : decode cX12_init 35 = .ok (.bipush 6, 2) := by decide +kernel
theorem dX12_init_37 : decode cX12_init 37 = .ok (.newarray .int, 2) := by decide +kernel
theorem dX12_init_39 : decode cX12_init 39 = .ok (.putfield 23, 3) := by decide +kernel
theorem dX12_init_42 : decode cX12_init 42 = .ok (.aload_n 0, 1) := by decide +kernel
theorem dX12_init_43 : decode cX12_init 43 = .ok (.bipush 6, 2) := by decide +kernel
theorem dX12_init_45 : decode cX12_init 45 = .ok (.newarray .int, 2) := by decide +kernel
theorem dX12_init_47 : decode cX12_init 47 = .ok (.putfield 26, 3) := by decide +kernel
theorem dX12_init_50 : decode cX12_init 50 = .ok (.aload_n 0, 1) := by decide +kernel
theorem dX12_init_51 : decode cX12_init 51 = .ok (.bipush 12, 2) := by decide +kernel
theorem dX12_init_53 : decode cX12_init 53 = .ok (.newarray .int, 2) := by decide +kernel
theorem dX12_init_55 : decode cX12_init 55 = .ok (.putfield 29, 3) := by decide +kernel
theorem dX12_init_58 : decode cX12_init 58 = .ok (.aload_n 0, 1) := by decide +kernel
theorem dX12_init_59 : decode cX12_init 59 = .ok (.bipush 6, 2) := by decide +kernel
theorem dX12_init_61 : decode cX12_init 61 = .ok (.newarray .int, 2) := by decide +kernel
theorem dX12_init_63 : decode cX12_init 63 = .ok (.putfield 32, 3) := by decide +kernel
theorem dX12_init_66 : decode cX12_init 66 = .ok (.aload_n 0, 1) := by decide +kernel
theorem dX12_init_67 : decode cX12_init 67 = .ok (.bipush 23, 2) := by decide +kernel
theorem dX12_init_69 : decode cX12_init 69 = .ok (.newarray .int, 2) := by decide +kernel
theorem dX12_init_71 : decode cX12_init 71 = .ok (.putfield 35, 3) := by decide +kernel
theorem dX12_init_74 : decode cX12_init 74 = .ok (.aload_n 0, 1) := by decide +kernel
theorem dX12_init_75 : decode cX12_init 75 = .ok (.bipush 23, 2) := by decide +kernel
theorem dX12_init_77 : decode cX12_init 77 = .ok (.newarray .int, 2) := by decide +kernel
theorem dX12_init_79 : decode cX12_init 79 = .ok (.putfield 38, 3) := by decide +kernel
theorem dX12_init_82 : decode cX12_init 82 = .ok (.aload_n 0, 1) := by decide +kernel
theorem dX12_init_83 : decode cX12_init 83 = .ok (.sipush 368, 3) := by decide +kernel
theorem dX12_init_86 : decode cX12_init 86 = .ok (.newarray .int, 2) := by decide +kernel
theorem dX12_init_88 : decode cX12_init 88 = .ok (.putfield 41, 3) := by decide +kernel
theorem dX12_init_91 : decode cX12_init 91 = .ok (.aload_n 0, 1) := by decide +kernel
theorem dX12_init_92 : decode cX12_init 92 = .ok (.bipush 46, 2) := by decide +kernel
theorem dX12_init_94 : decode cX12_init 94 = .ok (.newarray .int, 2) := by decide +kernel
theorem dX12_init_96 : decode cX12_init 96 = .ok (.putfield 44, 3) := by decide +kernel
theorem dX12_init_99 : decode cX12_init 99 = .ok (.aload_n 0, 1) := by decide +kernel
theorem dX12_init_100 : decode cX12_init 100 = .ok (.iconst 2, 1) := by decide +kernel
theorem dX12_init_101 : decode cX12_init 101 = .ok (.newarray .int, 2) := by decide +kernel
theorem dX12_init_103 : decode cX12_init 103 = .ok (.putfield 47, 3) := by decide +kernel
theorem dX12_init_106 : decode cX12_init 106 = .ok (.aload_n 0, 1) := by decide +kernel
theorem dX12_init_107 : decode cX12_init 107 = .ok (.iconst 2, 1) := by decide +kernel
theorem dX12_init_108 : decode cX12_init 108 = .ok (.newarray .boolean, 2) := by decide +kernel
theorem dX12_init_110 : decode cX12_init 110 = .ok (.putfield 50, 3) := by decide +kernel
theorem dX12_init_113 : decode cX12_init 113 = .ok (.aload_n 0, 1) := by decide +kernel
theorem dX12_init_114 : decode cX12_init 114 = .ok (.bipush 12, 2) := by decide +kernel
theorem dX12_init_116 : decode cX12_init 116 = .ok (.newarray .int, 2) := by decide +kernel
theorem dX12_init_118 : decode cX12_init 118 = .ok (.putfield 54, 3) := by decide +kernel
theorem dX12_init_121 : decode cX12_init 121 = .ok (.aload_n 0, 1) := by decide +kernel
theorem dX12_init_122 : decode cX12_init 122 = .ok (.bipush 30, 2) := by decide +kernel
theorem dX12_init_124 : decode cX12_init 124 = .ok (.newarray .int, 2) := by decide +kernel
theorem dX12_init_126 : decode cX12_init 126 = .ok (.putfield 57, 3) := by decide +kernel
theorem dX12_init_129 : decode cX12_init 129 = .ok (.aload_n 0, 1) := by decide +kernel
theorem dX12_init_130 : decode cX12_init 130 = .ok (.sipush 1001, 3) := by decide +kernel
theorem dX12_init_133 : decode cX12_init 133 = .ok (.newarray .int, 2) := by decide +kernel
theorem dX12_init_135 : decode cX12_init 135 = .ok (.putfield 60, 3) := by decide +kernel
theorem dX12_init_138 : decode cX12_init 138 = .ok (.aload_n 0, 1) := by decide +kernel
theorem dX12_init_139 : decode cX12_init 139 = .ok (.bipush 6, 2) := by decide +kernel
theorem dX12_init_141 : decode cX12_init 141 = .ok (.newarray .int, 2) := by decide +kernel
theorem dX12_init_143 : decode cX12_init 143 = .ok (.putfield 63, 3) := by decide +kernel
theorem dX12_init_146 : decode cX12_init 146 = .ok (.aload_n 0, 1) := by decide +kernel
theorem dX12_init_147 : decode cX12_init 147 = .ok (.bipush 6, 2) := by decide +kernel
theorem dX12_init_149 : decode cX12_init 149 = .ok (.newarray .int, 2) := by decide +kernel
theorem dX12_init_151 : decode cX12_init 151 = .ok (.putfield 66, 3) := by decide +kernel
theorem dX12_init_154 : decode cX12_init 154 = .ok (.aload_n 0, 1) := by decide +kernel
theorem dX12_init_155 : decode cX12_init 155 = .ok (.bipush 6, 2) := by decide +kernel
theorem dX12_init_157 : decode cX12_init 157 = .ok (.newarray .int, 2) := by decide +kernel
theorem dX12_init_159 : decode cX12_init 159 = .ok (.putfield 69, 3) := by decide +kernel
theorem dX12_init_162 : decode cX12_init 162 = .ok (.return_, 1) := by decide +kernel
theorem dX12_in_0 : decode cX12_in 0 = .ok (.iload_n 0, 1) := by decide +kernel
theorem dX12_in_1 : decode cX12_in 1 = .ok (.iload_n 1, 1) := by decide +kernel
theorem dX12_in_2 : decode cX12_in 2 = .ok (.if_icmp .lt 12, 3) := by decide +kernel
theorem dX12_in_5 : decode cX12_in 5 = .ok (.iload_n 0, 1) := by decide +kernel
theorem dX12_in_6 : decode cX12_in 6 = .ok (.iload_n 2, 1) := by decide +kernel
theorem dX12_in_7 : decode cX12_in 7 = .ok (.if_icmp .gt 7, 3) := by decide +kernel
theorem dX12_in_10 : decode cX12_in 10 = .ok (.iconst 1, 1) := by decide +kernel
theorem dX12_in_11 : decode cX12_in 11 = .ok (.goto 4, 3) := by decide +kernel
theorem dX12_in_14 : decode cX12_in 14 = .ok (.iconst 0, 1) := by decide +kernel
theorem dX12_in_15 : decode cX12_in 15 = .ok (.ireturn, 1) := by decide +kernel
theorem dX12_has_0 : decode cX12_has 0 = .ok (.iload_n 0, 1) := by decide +kernel
theorem dX12_has_1 : decode cX12_has 1 = .ok (.iload_n 1, 1) := by decide +kernel
theorem dX12_has_2 : decode cX12_has 2 = .ok (.ishr, 1) := by decide +kernel
theorem dX12_has_3 : decode cX12_has 3 = .ok (.iconst 1, 1) := by decide +kernel
theorem dX12_has_4 : decode cX12_has 4 = .ok (.iand, 1) := by decide +kernel
theorem dX12_has_5 : decode cX12_has 5 = .ok (.iconst 1, 1) := by decide +kernel
theorem dX12_has_6 : decode cX12_has 6 = .ok (.if_icmp .ne 7, 3) := by decide +kernel
theorem dX12_has_9 : decode cX12_has 9 = .ok (.iconst 1, 1) := by decide +kernel
theorem dX12_has_10 : decode cX12_has 10 = .ok (.goto 4, 3) := by decide +kernel
theorem dX12_has_13 : decode cX12_has 13 = .ok (.iconst 0, 1) := by decide +kernel
theorem dX12_has_14 : decode cX12_has 14 = .ok (.ireturn, 1) := by decide +kernel
theorem dX12_bits_0 : decode cX12_bits 0 = .ok (.iconst 0, 1) := by decide +kernel
theorem dX12_bits_1 : decode cX12_bits 1 = .ok (.istore_n 1, 1) := by decide +kernel
theorem dX12_bits_2 : decode cX12_bits 2 = .ok (.iconst 0, 1) := by decide +kernel
theorem dX12_bits_3 : decode cX12_bits 3 = .ok (.istore_n 2, 1) := by decide +kernel
theorem dX12_bits_4 : decode cX12_bits 4 = .ok (.iload_n 2, 1) := by decide +kernel
theorem dX12_bits_5 : decode cX12_bits 5 = .ok (.bipush 12, 2) := by decide +kernel
theorem dX12_bits_7 : decode cX12_bits 7 = .ok (.if_icmp .ge 17, 3) := by decide +kernel
theorem dX12_bits_10 : decode cX12_bits 10 = .ok (.iload_n 1, 1) := by decide +kernel
theorem dX12_bits_11 : decode cX12_bits 11 = .ok (.iload_n 0, 1) := by decide +kernel
theorem dX12_bits_12 : decode cX12_bits 12 = .ok (.iload_n 2, 1) := by decide +kernel
theorem dX12_bits_13 : decode cX12_bits 13 = .ok (.ishr, 1) := by decide +kernel
theorem dX12_bits_14 : decode cX12_bits 14 = .ok (.iconst 1, 1) := by decide +kernel
theorem dX12_bits_15 : decode cX12_bits 15 = .ok (.iand, 1) := by decide +kernel
theorem dX12_bits_16 : decode cX12_bits 16 = .ok (.iadd, 1) := by decide +kernel
theorem dX12_bits_17 : decode cX12_bits 17 = .ok (.istore_n 1, 1) := by decide +kernel
theorem dX12_bits_18 : decode cX12_bits 18 = .ok (.iinc 2 1, 3) := by decide +kernel
theorem dX12_bits_21 : decode cX12_bits 21 = .ok (.goto (-17), 3) := by decide +kernel
theorem dX12_bits_24 : decode cX12_bits 24 = .ok (.iload_n 1, 1) := by decide +kernel
theorem dX12_bits_25 : decode cX12_bits 25 = .ok (.ireturn, 1) := by decide +kernel
theorem dX12_isTower_0 : decode cX12_isTower 0 = .ok (.aload_n 0, 1) := by decide +kernel
theorem dX12_isTower_1 : decode cX12_isTower 1 = .ok (.getfield 72, 3) := by decide +kernel
theorem dX12_isTower_4 : decode cX12_isTower 4 = .ok (.ifCond .le 7, 3) := by decide +kernel
theorem dX12_isTower_7 : decode cX12_isTower 7 = .ok (.iconst 1, 1) := by decide +kernel
theorem dX12_isTower_8 : decode cX12_isTower 8 = .ok (.goto 4, 3) := by decide +kernel
theorem dX12_isTower_11 : decode cX12_isTower 11 = .ok (.iconst 0, 1) := by decide +kernel
theorem dX12_isTower_12 : decode cX12_isTower 12 = .ok (.ireturn, 1) := by decide +kernel
theorem dX12_isBell_0 : decode cX12_isBell 0 = .ok (.iload_n 1, 1) := by decide +kernel
theorem dX12_isBell_1 : decode cX12_isBell 1 = .ok (.iconst 0, 1) := by decide +kernel
theorem dX12_isBell_2 : decode cX12_isBell 2 = .ok (.aload_n 0, 1) := by decide +kernel
theorem dX12_isBell_3 : decode cX12_isBell 3 = .ok (.getfield 72, 3) := by decide +kernel
theorem dX12_isBell_6 : decode cX12_isBell 6 = .ok (.iconst 1, 1) := by decide +kernel
theorem dX12_isBell_7 : decode cX12_isBell 7 = .ok (.isub, 1) := by decide +kernel
theorem dX12_isBell_8 : decode cX12_isBell 8 = .ok (.invokestatic 75, 3) := by decide +kernel
theorem dX12_isBell_11 : decode cX12_isBell 11 = .ok (.ireturn, 1) := by decide +kernel
theorem dX12_isSuitor_0 : decode cX12_isSuitor 0 = .ok (.iload_n 1, 1) := by decide +kernel
theorem dX12_isSuitor_1 : decode cX12_isSuitor 1 = .ok (.iconst 0, 1) := by decide +kernel
theorem dX12_isSuitor_2 : decode cX12_isSuitor 2 = .ok (.aload_n 0, 1) := by decide +kernel
theorem dX12_isSuitor_3 : decode cX12_isSuitor 3 = .ok (.getfield 79, 3) := by decide +kernel
theorem dX12_isSuitor_6 : decode cX12_isSuitor 6 = .ok (.iconst 1, 1) := by decide +kernel
theorem dX12_isSuitor_7 : decode cX12_isSuitor 7 = .ok (.isub, 1) := by decide +kernel
theorem dX12_isSuitor_8 : decode cX12_isSuitor 8 = .ok (.invokestatic 75, 3) := by decide +kernel
theorem dX12_isSuitor_11 : decode cX12_isSuitor 11 = .ok (.ireturn, 1) := by decide +kernel
theorem dX12_feed_0 : decode cX12_feed 0 = .ok (.iload_n 1, 1) := by decide +kernel
theorem dX12_feed_1 : decode cX12_feed 1 = .ok (.iconst 0, 1) := by decide +kernel
theorem dX12_feed_2 : decode cX12_feed 2 = .ok (.sipush 255, 3) := by decide +kernel
theorem dX12_feed_5 : decode cX12_feed 5 = .ok (.invokestatic 75, 3) := by decide +kernel
theorem dX12_feed_8 : decode cX12_feed 8 = .ok (.ifCond .ne 6, 3) := by decide +kernel
theorem dX12_feed_11 : decode cX12_feed 11 = .ok (.ldc 82, 2) := by decide +kernel
theorem dX12_feed_13 : decode cX12_feed 13 = .ok (.ireturn, 1) := by decide +kernel
theorem dX12_feed_14 : decode cX12_feed 14 = .ok (.aload_n 0, 1) := by decide +kernel
theorem dX12_feed_15 : decode cX12_feed 15 = .ok (.getfield 83, 3) := by decide +kernel
theorem dX12_feed_18 : decode cX12_feed 18 = .ok (.sipush 240, 3) := by decide +kernel
theorem dX12_feed_21 : decode cX12_feed 21 = .ok (.if_icmp .ne 6, 3) := by decide +kernel
theorem dX12_feed_24 : decode cX12_feed 24 = .ok (.ldc 86, 2) := by decide +kernel
theorem dX12_feed_26 : decode cX12_feed 26 = .ok (.ireturn, 1) := by decide +kernel
theorem dX12_feed_27 : decode cX12_feed 27 = .ok (.aload_n 0, 1) := by decide +kernel
theorem dX12_feed_28 : decode cX12_feed 28 = .ok (.getfield 7, 3) := by decide +kernel
theorem dX12_feed_31 : decode cX12_feed 31 = .ok (.aload_n 0, 1) := by decide +kernel
theorem dX12_feed_32 : decode cX12_feed 32 = .ok (.getfield 83, 3) := by decide +kernel
theorem dX12_feed_35 : decode cX12_feed 35 = .ok (.iload_n 1, 1) := by decide +kernel
theorem dX12_feed_36 : decode cX12_feed 36 = .ok (.iastore, 1) := by decide +kernel
theorem dX12_feed_37 : decode cX12_feed 37 = .ok (.aload_n 0, 1) := by decide +kernel
theorem dX12_feed_38 : decode cX12_feed 38 = .ok (.dup, 1) := by decide +kernel
theorem dX12_feed_39 : decode cX12_feed 39 = .ok (.getfield 83, 3) := by decide +kernel
theorem dX12_feed_42 : decode cX12_feed 42 = .ok (.iconst 1, 1) := by decide +kernel
theorem dX12_feed_43 : decode cX12_feed 43 = .ok (.iadd, 1) := by decide +kernel
theorem dX12_feed_44 : decode cX12_feed 44 = .ok (.putfield 83, 3) := by decide +kernel
theorem dX12_feed_47 : decode cX12_feed 47 = .ok (.aload_n 0, 1) := by decide +kernel
theorem dX12_feed_48 : decode cX12_feed 48 = .ok (.getfield 83, 3) := by decide +kernel
theorem dX12_feed_51 : decode cX12_feed 51 = .ok (.ireturn, 1) := by decide +kernel
theorem dX12_nextToken_0 : decode cX12_nextToken 0 = .ok (.aload_n 0, 1) := by decide +kernel
theorem dX12_nextToken_1 : decode cX12_nextToken 1 = .ok (.getfield 87, 3) := by decide +kernel
theorem dX12_nextToken_4 : decode cX12_nextToken 4 = .ok (.aload_n 0, 1) := by decide +kernel
theorem dX12_nextToken_5 : decode cX12_nextToken 5 = .ok (.getfield 83, 3) := by decide +kernel
theorem dX12_nextToken_8 : decode cX12_nextToken 8 = .ok (.if_icmp .ge 30, 3) := by decide +kernel
theorem dX12_nextToken_11 : decode cX12_nextToken 11 = .ok (.aload_n 0, 1) := by decide +kernel
theorem dX12_nextToken_12 : decode cX12_nextToken 12 = .ok (.getfield 7, 3) := by decide +kernel
theorem dX12_nextToken_15 : decode cX12_nextToken 15 = .ok (.aload_n 0, 1) := by decide +kernel
theorem dX12_nextToken_16 : decode cX12_nextToken 16 = .ok (.getfield 87, 3) := by decide +kernel
theorem dX12_nextToken_19 : decode cX12_nextToken 19 = .ok (.iaload, 1) := by decide +kernel
theorem dX12_nextToken_20 : decode cX12_nextToken 20 = .ok (.bipush 32, 2) := by decide +kernel
theorem dX12_nextToken_22 : decode cX12_nextToken 22 = .ok (.if_icmp .ne 16, 3) := by decide +kernel
theorem dX12_nextToken_25 : decode cX12_nextToken 25 = .ok (.aload_n 0, 1) := by decide +kernel
theorem dX12_nextToken_26 : decode cX12_nextToken 26 = .ok (.dup, 1) := by decide +kernel
theorem dX12_nextToken_27 : decode cX12_nextToken 27 = .ok (.getfield 87, 3) := by decide +kernel
theorem dX12_nextToken_30 : decode cX12_nextToken 30 = .ok (.iconst 1, 1) := by decide +kernel
theorem dX12_nextToken_31 : decode cX12_nextToken 31 = .ok (.iadd, 1) := by decide +kernel
theorem dX12_nextToken_32 : decode cX12_nextToken 32 = .ok (.putfield 87, 3) := by decide +kernel
theorem dX12_nextToken_35 : decode cX12_nextToken 35 = .ok (.goto (-35), 3) := by decide +kernel
theorem dX12_nextToken_38 : decode cX12_nextToken 38 = .ok (.aload_n 0, 1) := by decide +kernel
theorem dX12_nextToken_39 : decode cX12_nextToken 39 = .ok (.aload_n 0, 1) := by decide +kernel
theorem dX12_nextToken_40 : decode cX12_nextToken 40 = .ok (.getfield 87, 3) := by decide +kernel
theorem dX12_nextToken_43 : decode cX12_nextToken 43 = .ok (.putfield 90, 3) := by decide +kernel
theorem dX12_nextToken_46 : decode cX12_nextToken 46 = .ok (.aload_n 0, 1) := by decide +kernel
theorem dX12_nextToken_47 : decode cX12_nextToken 47 = .ok (.iconst 0, 1) := by decide +kernel
theorem dX12_nextToken_48 : decode cX12_nextToken 48 = .ok (.putfield 93, 3) := by decide +kernel
theorem dX12_nextToken_51 : decode cX12_nextToken 51 = .ok (.aload_n 0, 1) := by decide +kernel
theorem dX12_nextToken_52 : decode cX12_nextToken 52 = .ok (.iconst 0, 1) := by decide +kernel
theorem dX12_nextToken_53 : decode cX12_nextToken 53 = .ok (.putfield 96, 3) := by decide +kernel
theorem dX12_nextToken_56 : decode cX12_nextToken 56 = .ok (.aload_n 0, 1) := by decide +kernel
theorem dX12_nextToken_57 : decode cX12_nextToken 57 = .ok (.getfield 87, 3) := by decide +kernel
theorem dX12_nextToken_60 : decode cX12_nextToken 60 = .ok (.aload_n 0, 1) := by decide +kernel
theorem dX12_nextToken_61 : decode cX12_nextToken 61 = .ok (.getfield 83, 3) := by decide +kernel
theorem dX12_nextToken_64 : decode cX12_nextToken 64 = .ok (.if_icmp .ne 12, 3) := by decide +kernel
theorem dX12_nextToken_67 : decode cX12_nextToken 67 = .ok (.aload_n 0, 1) := by decide +kernel
theorem dX12_nextToken_68 : decode cX12_nextToken 68 = .ok (.bipush (-2), 2) := by decide +kernel
theorem dX12_nextToken_70 : decode cX12_nextToken 70 = .ok (.putfield 99, 3) := by decide +kernel
theorem dX12_nextToken_73 : decode cX12_nextToken 73 = .ok (.goto 145, 3) := by decide +kernel
theorem dX12_nextToken_76 : decode cX12_nextToken 76 = .ok (.aload_n 0, 1) := by decide +kernel
theorem dX12_nextToken_77 : decode cX12_nextToken 77 = .ok (.getfield 7, 3) := by decide +kernel
theorem dX12_nextToken_80 : decode cX12_nextToken 80 = .ok (.aload_n 0, 1) := by decide +kernel
theorem dX12_nextToken_81 : decode cX12_nextToken 81 = .ok (.getfield 87, 3) := by decide +kernel
theorem dX12_nextToken_84 : decode cX12_nextToken 84 = .ok (.iaload, 1) := by decide +kernel
theorem dX12_nextToken_85 : decode cX12_nextToken 85 = .ok (.bipush 48, 2) := by decide +kernel
theorem dX12_nextToken_87 : decode cX12_nextToken 87 = .ok (.bipush 57, 2) := by decide +kernel
theorem dX12_nextToken_89 : decode cX12_nextToken 89 = .ok (.invokestatic 75, 3) := by decide +kernel
theorem dX12_nextToken_92 : decode cX12_nextToken 92 = .ok (.ifCond .eq 103, 3) := by decide +kernel
theorem dX12_nextToken_95 : decode cX12_nextToken 95 = .ok (.aload_n 0, 1) := by decide +kernel
theorem dX12_nextToken_96 : decode cX12_nextToken 96 = .ok (.getfield 87, 3) := by decide +kernel
theorem dX12_nextToken_99 : decode cX12_nextToken 99 = .ok (.aload_n 0, 1) := by decide +kernel
theorem dX12_nextToken_100 : decode cX12_nextToken 100 = .ok (.getfield 83, 3) := by decide +kernel
theorem dX12_nextToken_103 : decode cX12_nextToken 103 = .ok (.if_icmp .ge 84, 3) := by decide +kernel
theorem dX12_nextToken_106 : decode cX12_nextToken 106 = .ok (.aload_n 0, 1) := by decide +kernel
theorem dX12_nextToken_107 : decode cX12_nextToken 107 = .ok (.getfield 7, 3) := by decide +kernel
theorem dX12_nextToken_110 : decode cX12_nextToken 110 = .ok (.aload_n 0, 1) := by decide +kernel
theorem dX12_nextToken_111 : decode cX12_nextToken 111 = .ok (.getfield 87, 3) := by decide +kernel
theorem dX12_nextToken_114 : decode cX12_nextToken 114 = .ok (.iaload, 1) := by decide +kernel
theorem dX12_nextToken_115 : decode cX12_nextToken 115 = .ok (.bipush 48, 2) := by decide +kernel
theorem dX12_nextToken_117 : decode cX12_nextToken 117 = .ok (.bipush 57, 2) := by decide +kernel
theorem dX12_nextToken_119 : decode cX12_nextToken 119 = .ok (.invokestatic 75, 3) := by decide +kernel
theorem dX12_nextToken_122 : decode cX12_nextToken 122 = .ok (.ifCond .eq 65, 3) := by decide +kernel
theorem dX12_nextToken_125 : decode cX12_nextToken 125 = .ok (.aload_n 0, 1) := by decide +kernel
theorem dX12_nextToken_126 : decode cX12_nextToken 126 = .ok (.aload_n 0, 1) := by decide +kernel
theorem dX12_nextToken_127 : decode cX12_nextToken 127 = .ok (.getfield 96, 3) := by decide +kernel
theorem dX12_nextToken_130 : decode cX12_nextToken 130 = .ok (.iconst 3, 1) := by decide +kernel
theorem dX12_nextToken_131 : decode cX12_nextToken 131 = .ok (.if_icmp .ge 26, 3) := by decide +kernel
theorem dX12_nextToken_134 : decode cX12_nextToken 134 = .ok (.bipush 10, 2) := by decide +kernel
theorem dX12_nextToken_136 : decode cX12_nextToken 136 = .ok (.aload_n 0, 1) := by decide +kernel
theorem dX12_nextToken_137 : decode cX12_nextToken 137 = .ok (.getfield 93, 3) := by decide +kernel
theorem dX12_nextToken_140 : decode cX12_nextToken 140 = .ok (.imul, 1) := by decide +kernel
theorem dX12_nextToken_141 : decode cX12_nextToken 141 = .ok (.aload_n 0, 1) := by decide +kernel
theorem dX12_nextToken_142 : decode cX12_nextToken 142 = .ok (.getfield 7, 3) := by decide +kernel
theorem dX12_nextToken_145 : decode cX12_nextToken 145 = .ok (.aload_n 0, 1) := by decide +kernel
theorem dX12_nextToken_146 : decode cX12_nextToken 146 = .ok (.getfield 87, 3) := by decide +kernel
theorem dX12_nextToken_149 : decode cX12_nextToken 149 = .ok (.iaload, 1) := by decide +kernel
theorem dX12_nextToken_150 : decode cX12_nextToken 150 = .ok (.iadd, 1) := by decide +kernel
theorem dX12_nextToken_151 : decode cX12_nextToken 151 = .ok (.bipush 48, 2) := by decide +kernel
theorem dX12_nextToken_153 : decode cX12_nextToken 153 = .ok (.isub, 1) := by decide +kernel
theorem dX12_nextToken_154 : decode cX12_nextToken 154 = .ok (.goto 7, 3) := by decide +kernel
theorem dX12_nextToken_157 : decode cX12_nextToken 157 = .ok (.aload_n 0, 1) := by decide +kernel
theorem dX12_nextToken_158 : decode cX12_nextToken 158 = .ok (.getfield 93, 3) := by decide +kernel
theorem dX12_nextToken_161 : decode cX12_nextToken 161 = .ok (.putfield 93, 3) := by decide +kernel
theorem dX12_nextToken_164 : decode cX12_nextToken 164 = .ok (.aload_n 0, 1) := by decide +kernel
theorem dX12_nextToken_165 : decode cX12_nextToken 165 = .ok (.dup, 1) := by decide +kernel
theorem dX12_nextToken_166 : decode cX12_nextToken 166 = .ok (.getfield 96, 3) := by decide +kernel
theorem dX12_nextToken_169 : decode cX12_nextToken 169 = .ok (.iconst 1, 1) := by decide +kernel
theorem dX12_nextToken_170 : decode cX12_nextToken 170 = .ok (.iadd, 1) := by decide +kernel
theorem dX12_nextToken_171 : decode cX12_nextToken 171 = .ok (.putfield 96, 3) := by decide +kernel
theorem dX12_nextToken_174 : decode cX12_nextToken 174 = .ok (.aload_n 0, 1) := by decide +kernel
theorem dX12_nextToken_175 : decode cX12_nextToken 175 = .ok (.dup, 1) := by decide +kernel
theorem dX12_nextToken_176 : decode cX12_nextToken 176 = .ok (.getfield 87, 3) := by decide +kernel
theorem dX12_nextToken_179 : decode cX12_nextToken 179 = .ok (.iconst 1, 1) := by decide +kernel
theorem dX12_nextToken_180 : decode cX12_nextToken 180 = .ok (.iadd, 1) := by decide +kernel
theorem dX12_nextToken_181 : decode cX12_nextToken 181 = .ok (.putfield 87, 3) := by decide +kernel
theorem dX12_nextToken_184 : decode cX12_nextToken 184 = .ok (.goto (-89), 3) := by decide +kernel
theorem dX12_nextToken_187 : decode cX12_nextToken 187 = .ok (.aload_n 0, 1) := by decide +kernel
theorem dX12_nextToken_188 : decode cX12_nextToken 188 = .ok (.iconst (-1), 1) := by decide +kernel
theorem dX12_nextToken_189 : decode cX12_nextToken 189 = .ok (.putfield 99, 3) := by decide +kernel
theorem dX12_nextToken_192 : decode cX12_nextToken 192 = .ok (.goto 26, 3) := by decide +kernel
theorem dX12_nextToken_195 : decode cX12_nextToken 195 = .ok (.aload_n 0, 1) := by decide +kernel
theorem dX12_nextToken_196 : decode cX12_nextToken 196 = .ok (.aload_n 0, 1) := by decide +kernel
theorem dX12_nextToken_197 : decode cX12_nextToken 197 = .ok (.getfield 7, 3) := by decide +kernel
theorem dX12_nextToken_200 : decode cX12_nextToken 200 = .ok (.aload_n 0, 1) := by decide +kernel
theorem dX12_nextToken_201 : decode cX12_nextToken 201 = .ok (.getfield 87, 3) := by decide +kernel
theorem dX12_nextToken_204 : decode cX12_nextToken 204 = .ok (.iaload, 1) := by decide +kernel
theorem dX12_nextToken_205 : decode cX12_nextToken 205 = .ok (.putfield 99, 3) := by decide +kernel
theorem dX12_nextToken_208 : decode cX12_nextToken 208 = .ok (.aload_n 0, 1) := by decide +kernel
theorem dX12_nextToken_209 : decode cX12_nextToken 209 = .ok (.dup, 1) := by decide +kernel
theorem dX12_nextToken_210 : decode cX12_nextToken 210 = .ok (.getfield 87, 3) := by decide +kernel
theorem dX12_nextToken_213 : decode cX12_nextToken 213 = .ok (.iconst 1, 1) := by decide +kernel
theorem dX12_nextToken_214 : decode cX12_nextToken 214 = .ok (.iadd, 1) := by decide +kernel
theorem dX12_nextToken_215 : decode cX12_nextToken 215 = .ok (.putfield 87, 3) := by decide +kernel
theorem dX12_nextToken_218 : decode cX12_nextToken 218 = .ok (.return_, 1) := by decide +kernel
theorem dX12_fails_0 : decode cX12_fails 0 = .ok (.aload_n 0, 1) := by decide +kernel
theorem dX12_fails_1 : decode cX12_fails 1 = .ok (.aload_n 0, 1) := by decide +kernel
theorem dX12_fails_2 : decode cX12_fails 2 = .ok (.getfield 90, 3) := by decide +kernel
theorem dX12_fails_5 : decode cX12_fails 5 = .ok (.putfield 13, 3) := by decide +kernel
theorem dX12_fails_8 : decode cX12_fails 8 = .ok (.aload_n 0, 1) := by decide +kernel
theorem dX12_fails_9 : decode cX12_fails 9 = .ok (.iload_n 1, 1) := by decide +kernel
theorem dX12_fails_10 : decode cX12_fails 10 = .ok (.putfield 102, 3) := by decide +kernel
theorem dX12_fails_13 : decode cX12_fails 13 = .ok (.iconst 0, 1) := by decide +kernel
theorem dX12_fails_14 : decode cX12_fails 14 = .ok (.ireturn, 1) := by decide +kernel
theorem dX12_isNumber_0 : decode cX12_isNumber 0 = .ok (.aload_n 0, 1) := by decide +kernel
theorem dX12_isNumber_1 : decode cX12_isNumber 1 = .ok (.invokevirtual 105, 3) := by decide +kernel
theorem dX12_isNumber_4 : decode cX12_isNumber 4 = .ok (.aload_n 0, 1) := by decide +kernel
theorem dX12_isNumber_5 : decode cX12_isNumber 5 = .ok (.getfield 99, 3) := by decide +kernel
theorem dX12_isNumber_8 : decode cX12_isNumber 8 = .ok (.iconst (-1), 1) := by decide +kernel
theorem dX12_isNumber_9 : decode cX12_isNumber 9 = .ok (.if_icmp .eq 9, 3) := by decide +kernel
theorem dX12_isNumber_12 : decode cX12_isNumber 12 = .ok (.aload_n 0, 1) := by decide +kernel
theorem dX12_isNumber_13 : decode cX12_isNumber 13 = .ok (.iconst 1, 1) := by decide +kernel
theorem dX12_isNumber_14 : decode cX12_isNumber 14 = .ok (.invokevirtual 108, 3) := by decide +kernel
theorem dX12_isNumber_17 : decode cX12_isNumber 17 = .ok (.ireturn, 1) := by decide +kernel
theorem dX12_isNumber_18 : decode cX12_isNumber 18 = .ok (.aload_n 0, 1) := by decide +kernel
theorem dX12_isNumber_19 : decode cX12_isNumber 19 = .ok (.getfield 96, 3) := by decide +kernel
theorem dX12_isNumber_22 : decode cX12_isNumber 22 = .ok (.iconst 4, 1) := by decide +kernel
theorem dX12_isNumber_23 : decode cX12_isNumber 23 = .ok (.if_icmp .ge 15, 3) := by decide +kernel
theorem dX12_isNumber_26 : decode cX12_isNumber 26 = .ok (.aload_n 0, 1) := by decide +kernel
theorem dX12_isNumber_27 : decode cX12_isNumber 27 = .ok (.getfield 93, 3) := by decide +kernel
theorem dX12_isNumber_30 : decode cX12_isNumber 30 = .ok (.iload_n 1, 1) := by decide +kernel
theorem dX12_isNumber_31 : decode cX12_isNumber 31 = .ok (.iload_n 2, 1) := by decide +kernel
theorem dX12_isNumber_32 : decode cX12_isNumber 32 = .ok (.invokestatic 75, 3) := by decide +kernel
theorem dX12_isNumber_35 : decode cX12_isNumber 35 = .ok (.ifCond .ne 11, 3) := by decide +kernel
theorem dX12_isNumber_38 : decode cX12_isNumber 38 = .ok (.aload_n 0, 1) := by decide +kernel
theorem dX12_isNumber_39 : decode cX12_isNumber 39 = .ok (.iconst 2, 1) := by decide +kernel
theorem dX12_isNumber_40 : decode cX12_isNumber 40 = .ok (.invokevirtual 108, 3) := by decide +kernel
theorem dX12_isNumber_43 : decode cX12_isNumber 43 = .ok (.ifCond .eq 7, 3) := by decide +kernel
theorem dX12_isNumber_46 : decode cX12_isNumber 46 = .ok (.iconst 1, 1) := by decide +kernel
theorem dX12_isNumber_47 : decode cX12_isNumber 47 = .ok (.goto 4, 3) := by decide +kernel
theorem dX12_isNumber_50 : decode cX12_isNumber 50 = .ok (.iconst 0, 1) := by decide +kernel
theorem dX12_isNumber_51 : decode cX12_isNumber 51 = .ok (.ireturn, 1) := by decide +kernel
theorem dX12_isEnd_0 : decode cX12_isEnd 0 = .ok (.aload_n 0, 1) := by decide +kernel
theorem dX12_isEnd_1 : decode cX12_isEnd 1 = .ok (.invokevirtual 105, 3) := by decide +kernel
theorem dX12_isEnd_4 : decode cX12_isEnd 4 = .ok (.aload_n 0, 1) := by decide +kernel
theorem dX12_isEnd_5 : decode cX12_isEnd 5 = .ok (.getfield 99, 3) := by decide +kernel
theorem dX12_isEnd_8 : decode cX12_isEnd 8 = .ok (.bipush 59, 2) := by decide +kernel
theorem dX12_isEnd_10 : decode cX12_isEnd 10 = .ok (.if_icmp .eq 11, 3) := by decide +kernel
theorem dX12_isEnd_13 : decode cX12_isEnd 13 = .ok (.aload_n 0, 1) := by decide +kernel
theorem dX12_isEnd_14 : decode cX12_isEnd 14 = .ok (.iconst 1, 1) := by decide +kernel
theorem dX12_isEnd_15 : decode cX12_isEnd 15 = .ok (.invokevirtual 108, 3) := by decide +kernel
theorem dX12_isEnd_18 : decode cX12_isEnd 18 = .ok (.ifCond .eq 7, 3) := by decide +kernel
theorem dX12_isEnd_21 : decode cX12_isEnd 21 = .ok (.iconst 1, 1) := by decide +kernel
theorem dX12_isEnd_22 : decode cX12_isEnd 22 = .ok (.goto 4, 3) := by decide +kernel
theorem dX12_isEnd_25 : decode cX12_isEnd 25 = .ok (.iconst 0, 1) := by decide +kernel
theorem dX12_isEnd_26 : decode cX12_isEnd 26 = .ok (.ireturn, 1) := by decide +kernel
theorem dX12_isChange_0 : decode cX12_isChange 0 = .ok (.iconst 0, 1) := by decide +kernel
theorem dX12_isChange_1 : decode cX12_isChange 1 = .ok (.istore_n 2, 1) := by decide +kernel
theorem dX12_isChange_2 : decode cX12_isChange 2 = .ok (.iconst 1, 1) := by decide +kernel
theorem dX12_isChange_3 : decode cX12_isChange 3 = .ok (.istore_n 3, 1) := by decide +kernel
theorem dX12_isChange_4 : decode cX12_isChange 4 = .ok (.iconst 0, 1) := by decide +kernel
theorem dX12_isChange_5 : decode cX12_isChange 5 = .ok (.istore 4, 2) := by decide +kernel
theorem dX12_isChange_7 : decode cX12_isChange 7 = .ok (.iload 4, 2) := by decide +kernel
theorem dX12_isChange_9 : decode cX12_isChange 9 = .ok (.iload_n 1, 1) := by decide +kernel
theorem dX12_isChange_10 : decode cX12_isChange 10 = .ok (.if_icmp .ge 51, 3) := by decide +kernel
theorem dX12_isChange_13 : decode cX12_isChange 13 = .ok (.iload_n 3, 1) := by decide +kernel
theorem dX12_isChange_14 : decode cX12_isChange 14 = .ok (.ifCond .eq 22, 3) := by decide +kernel
theorem dX12_isChange_17 : decode cX12_isChange 17 = .ok (.iload_n 0, 1) := by decide +kernel
theorem dX12_isChange_18 : decode cX12_isChange 18 = .ok (.iload 4, 2) := by decide +kernel
theorem dX12_isChange_20 : decode cX12_isChange 20 = .ok (.invokestatic 112, 3) := by decide +kernel
theorem dX12_isChange_23 : decode cX12_isChange 23 = .ok (.ifCond .eq 9, 3) := by decide +kernel
theorem dX12_isChange_26 : decode cX12_isChange 26 = .ok (.iload_n 2, 1) := by decide +kernel
theorem dX12_isChange_27 : decode cX12_isChange 27 = .ok (.iconst 2, 1) := by decide +kernel
theorem dX12_isChange_28 : decode cX12_isChange 28 = .ok (.irem, 1) := by decide +kernel
theorem dX12_isChange_29 : decode cX12_isChange 29 = .ok (.ifCond .ne 7, 3) := by decide +kernel
theorem dX12_isChange_32 : decode cX12_isChange 32 = .ok (.iconst 1, 1) := by decide +kernel
theorem dX12_isChange_33 : decode cX12_isChange 33 = .ok (.goto 4, 3) := by decide +kernel
theorem dX12_isChange_36 : decode cX12_isChange 36 = .ok (.iconst 0, 1) := by decide +kernel
theorem dX12_isChange_37 : decode cX12_isChange 37 = .ok (.istore_n 3, 1) := by decide +kernel
theorem dX12_isChange_38 : decode cX12_isChange 38 = .ok (.iload_n 0, 1) := by decide +kernel
theorem dX12_isChange_39 : decode cX12_isChange 39 = .ok (.iload 4, 2) := by decide +kernel
theorem dX12_isChange_41 : decode cX12_isChange 41 = .ok (.invokestatic 112, 3) := by decide +kernel
theorem dX12_isChange_44 : decode cX12_isChange 44 = .ok (.ifCond .eq 7, 3) := by decide +kernel
theorem dX12_isChange_47 : decode cX12_isChange 47 = .ok (.iconst 0, 1) := by decide +kernel
theorem dX12_isChange_48 : decode cX12_isChange 48 = .ok (.goto 6, 3) := by decide +kernel
theorem dX12_isChange_51 : decode cX12_isChange 51 = .ok (.iload_n 2, 1) := by decide +kernel
theorem dX12_isChange_52 : decode cX12_isChange 52 = .ok (.iconst 1, 1) := by decide +kernel
theorem dX12_isChange_53 : decode cX12_isChange 53 = .ok (.iadd, 1) := by decide +kernel
theorem dX12_isChange_54 : decode cX12_isChange 54 = .ok (.istore_n 2, 1) := by decide +kernel
theorem dX12_isChange_55 : decode cX12_isChange 55 = .ok (.iinc 4 1, 3) := by decide +kernel
theorem dX12_isChange_58 : decode cX12_isChange 58 = .ok (.goto (-51), 3) := by decide +kernel
theorem dX12_isChange_61 : decode cX12_isChange 61 = .ok (.iload_n 3, 1) := by decide +kernel
theorem dX12_isChange_62 : decode cX12_isChange 62 = .ok (.ifCond .eq 13, 3) := by decide +kernel
theorem dX12_isChange_65 : decode cX12_isChange 65 = .ok (.iload_n 2, 1) := by decide +kernel
theorem dX12_isChange_66 : decode cX12_isChange 66 = .ok (.iconst 2, 1) := by decide +kernel
theorem dX12_isChange_67 : decode cX12_isChange 67 = .ok (.irem, 1) := by decide +kernel
theorem dX12_isChange_68 : decode cX12_isChange 68 = .ok (.ifCond .ne 7, 3) := by decide +kernel
theorem dX12_isChange_71 : decode cX12_isChange 71 = .ok (.iconst 1, 1) := by decide +kernel
theorem dX12_isChange_72 : decode cX12_isChange 72 = .ok (.goto 4, 3) := by decide +kernel
theorem dX12_isChange_75 : decode cX12_isChange 75 = .ok (.iconst 0, 1) := by decide +kernel
theorem dX12_isChange_76 : decode cX12_isChange 76 = .ok (.ireturn, 1) := by decide +kernel
theorem dX12_isHead_0 : decode cX12_isHead 0 = .ok (.iconst 1, 1) := by decide +kernel
theorem dX12_isHead_1 : decode cX12_isHead 1 = .ok (.istore_n 1, 1) := by decide +kernel
theorem dX12_isHead_2 : decode cX12_isHead 2 = .ok (.iload_n 1, 1) := by decide +kernel
theorem dX12_isHead_3 : decode cX12_isHead 3 = .ok (.ifCond .eq 75, 3) := by decide +kernel
theorem dX12_isHead_6 : decode cX12_isHead 6 = .ok (.aload_n 0, 1) := by decide +kernel
theorem dX12_isHead_7 : decode cX12_isHead 7 = .ok (.getfield 116, 3) := by decide +kernel
theorem dX12_isHead_10 : decode cX12_isHead 10 = .ok (.bipush 6, 2) := by decide +kernel
theorem dX12_isHead_12 : decode cX12_isHead 12 = .ok (.if_icmp .ne 9, 3) := by decide +kernel
theorem dX12_isHead_15 : decode cX12_isHead 15 = .ok (.aload_n 0, 1) := by decide +kernel
theorem dX12_isHead_16 : decode cX12_isHead 16 = .ok (.iconst 1, 1) := by decide +kernel
theorem dX12_isHead_17 : decode cX12_isHead 17 = .ok (.invokevirtual 108, 3) := by decide +kernel
theorem dX12_isHead_20 : decode cX12_isHead 20 = .ok (.ireturn, 1) := by decide +kernel
theorem dX12_isHead_21 : decode cX12_isHead 21 = .ok (.aload_n 0, 1) := by decide +kernel
theorem dX12_isHead_22 : decode cX12_isHead 22 = .ok (.iconst 1, 1) := by decide +kernel
theorem dX12_isHead_23 : decode cX12_isHead 23 = .ok (.bipush 20, 2) := by decide +kernel
theorem dX12_isHead_25 : decode cX12_isHead 25 = .ok (.invokevirtual 119, 3) := by decide +kernel
theorem dX12_isHead_28 : decode cX12_isHead 28 = .ok (.ifCond .ne 5, 3) := by decide +kernel
theorem dX12_isHead_31 : decode cX12_isHead 31 = .ok (.iconst 0, 1) := by decide +kernel
theorem dX12_isHead_32 : decode cX12_isHead 32 = .ok (.ireturn, 1) := by decide +kernel
theorem dX12_isHead_33 : decode cX12_isHead 33 = .ok (.aload_n 0, 1) := by decide +kernel
theorem dX12_isHead_34 : decode cX12_isHead 34 = .ok (.getfield 17, 3) := by decide +kernel
theorem dX12_isHead_37 : decode cX12_isHead 37 = .ok (.aload_n 0, 1) := by decide +kernel
theorem dX12_isHead_38 : decode cX12_isHead 38 = .ok (.getfield 116, 3) := by decide +kernel
theorem dX12_isHead_41 : decode cX12_isHead 41 = .ok (.aload_n 0, 1) := by decide +kernel
theorem dX12_isHead_42 : decode cX12_isHead 42 = .ok (.getfield 93, 3) := by decide +kernel
theorem dX12_isHead_45 : decode cX12_isHead 45 = .ok (.iastore, 1) := by decide +kernel
theorem dX12_isHead_46 : decode cX12_isHead 46 = .ok (.aload_n 0, 1) := by decide +kernel
theorem dX12_isHead_47 : decode cX12_isHead 47 = .ok (.dup, 1) := by decide +kernel
theorem dX12_isHead_48 : decode cX12_isHead 48 = .ok (.getfield 116, 3) := by decide +kernel
theorem dX12_isHead_51 : decode cX12_isHead 51 = .ok (.iconst 1, 1) := by decide +kernel
theorem dX12_isHead_52 : decode cX12_isHead 52 = .ok (.iadd, 1) := by decide +kernel
theorem dX12_isHead_53 : decode cX12_isHead 53 = .ok (.putfield 116, 3) := by decide +kernel
theorem dX12_isHead_56 : decode cX12_isHead 56 = .ok (.aload_n 0, 1) := by decide +kernel
theorem dX12_isHead_57 : decode cX12_isHead 57 = .ok (.invokevirtual 105, 3) := by decide +kernel
theorem dX12_isHead_60 : decode cX12_isHead 60 = .ok (.aload_n 0, 1) := by decide +kernel
theorem dX12_isHead_61 : decode cX12_isHead 61 = .ok (.getfield 99, 3) := by decide +kernel
theorem dX12_isHead_64 : decode cX12_isHead 64 = .ok (.bipush 44, 2) := by decide +kernel
theorem dX12_isHead_66 : decode cX12_isHead 66 = .ok (.if_icmp .ne 7, 3) := by decide +kernel
theorem dX12_isHead_69 : decode cX12_isHead 69 = .ok (.iconst 1, 1) := by decide +kernel
theorem dX12_isHead_70 : decode cX12_isHead 70 = .ok (.goto 4, 3) := by decide +kernel
theorem dX12_isHead_73 : decode cX12_isHead 73 = .ok (.iconst 0, 1) := by decide +kernel
theorem dX12_isHead_74 : decode cX12_isHead 74 = .ok (.istore_n 1, 1) := by decide +kernel
theorem dX12_isHead_75 : decode cX12_isHead 75 = .ok (.goto (-73), 3) := by decide +kernel
theorem dX12_isHead_78 : decode cX12_isHead 78 = .ok (.aload_n 0, 1) := by decide +kernel
theorem dX12_isHead_79 : decode cX12_isHead 79 = .ok (.getfield 99, 3) := by decide +kernel
theorem dX12_isHead_82 : decode cX12_isHead 82 = .ok (.bipush 59, 2) := by decide +kernel
theorem dX12_isHead_84 : decode cX12_isHead 84 = .ok (.if_icmp .ne 11, 3) := by decide +kernel
theorem dX12_isHead_87 : decode cX12_isHead 87 = .ok (.aload_n 0, 1) := by decide +kernel
theorem dX12_isHead_88 : decode cX12_isHead 88 = .ok (.getfield 116, 3) := by decide +kernel
theorem dX12_isHead_91 : decode cX12_isHead 91 = .ok (.iconst 2, 1) := by decide +kernel
theorem dX12_isHead_92 : decode cX12_isHead 92 = .ok (.if_icmp .gt 11, 3) := by decide +kernel
theorem dX12_isHead_95 : decode cX12_isHead 95 = .ok (.aload_n 0, 1) := by decide +kernel
theorem dX12_isHead_96 : decode cX12_isHead 96 = .ok (.iconst 1, 1) := by decide +kernel
theorem dX12_isHead_97 : decode cX12_isHead 97 = .ok (.invokevirtual 108, 3) := by decide +kernel
theorem dX12_isHead_100 : decode cX12_isHead 100 = .ok (.ifCond .eq 7, 3) := by decide +kernel
theorem dX12_isHead_103 : decode cX12_isHead 103 = .ok (.iconst 1, 1) := by decide +kernel
theorem dX12_isHead_104 : decode cX12_isHead 104 = .ok (.goto 4, 3) := by decide +kernel
theorem dX12_isHead_107 : decode cX12_isHead 107 = .ok (.iconst 0, 1) := by decide +kernel
theorem dX12_isHead_108 : decode cX12_isHead 108 = .ok (.ireturn, 1) := by decide +kernel
theorem dX12_isPart_0 : decode cX12_isPart 0 = .ok (.aload_n 0, 1) := by decide +kernel
theorem dX12_isPart_1 : decode cX12_isPart 1 = .ok (.iconst 0, 1) := by decide +kernel
theorem dX12_isPart_2 : decode cX12_isPart 2 = .ok (.iconst 1, 1) := by decide +kernel
theorem dX12_isPart_3 : decode cX12_isPart 3 = .ok (.aload_n 0, 1) := by decide +kernel
theorem dX12_isPart_4 : decode cX12_isPart 4 = .ok (.getfield 116, 3) := by decide +kernel
theorem dX12_isPart_7 : decode cX12_isPart 7 = .ok (.ishl, 1) := by decide +kernel
theorem dX12_isPart_8 : decode cX12_isPart 8 = .ok (.iconst 1, 1) := by decide +kernel
theorem dX12_isPart_9 : decode cX12_isPart 9 = .ok (.isub, 1) := by decide +kernel
theorem dX12_isPart_10 : decode cX12_isPart 10 = .ok (.invokevirtual 119, 3) := by decide +kernel
theorem dX12_isPart_13 : decode cX12_isPart 13 = .ok (.ifCond .ne 5, 3) := by decide +kernel
theorem dX12_isPart_16 : decode cX12_isPart 16 = .ok (.iconst 0, 1) := by decide +kernel
theorem dX12_isPart_17 : decode cX12_isPart 17 = .ok (.ireturn, 1) := by decide +kernel
theorem dX12_isPart_18 : decode cX12_isPart 18 = .ok (.aload_n 0, 1) := by decide +kernel
theorem dX12_isPart_19 : decode cX12_isPart 19 = .ok (.getfield 93, 3) := by decide +kernel
theorem dX12_isPart_22 : decode cX12_isPart 22 = .ok (.aload_n 0, 1) := by decide +kernel
theorem dX12_isPart_23 : decode cX12_isPart 23 = .ok (.getfield 116, 3) := by decide +kernel
theorem dX12_isPart_26 : decode cX12_isPart 26 = .ok (.invokestatic 122, 3) := by decide +kernel
theorem dX12_isPart_29 : decode cX12_isPart 29 = .ok (.ifCond .ne 11, 3) := by decide +kernel
theorem dX12_isPart_32 : decode cX12_isPart 32 = .ok (.aload_n 0, 1) := by decide +kernel
theorem dX12_isPart_33 : decode cX12_isPart 33 = .ok (.iconst 4, 1) := by decide +kernel
theorem dX12_isPart_34 : decode cX12_isPart 34 = .ok (.invokevirtual 108, 3) := by decide +kernel
theorem dX12_isPart_37 : decode cX12_isPart 37 = .ok (.ifCond .eq 7, 3) := by decide +kernel
theorem dX12_isPart_40 : decode cX12_isPart 40 = .ok (.iconst 1, 1) := by decide +kernel
theorem dX12_isPart_41 : decode cX12_isPart 41 = .ok (.goto 4, 3) := by decide +kernel
theorem dX12_isPart_44 : decode cX12_isPart 44 = .ok (.iconst 0, 1) := by decide +kernel
theorem dX12_isPart_45 : decode cX12_isPart 45 = .ok (.ireturn, 1) := by decide +kernel
theorem dX12_isMethod_0 : decode cX12_isMethod 0 = .ok (.aload_n 0, 1) := by decide +kernel
theorem dX12_isMethod_1 : decode cX12_isMethod 1 = .ok (.getfield 125, 3) := by decide +kernel
theorem dX12_isMethod_4 : decode cX12_isMethod 4 = .ok (.ifCond .le 9, 3) := by decide +kernel
theorem dX12_isMethod_7 : decode cX12_isMethod 7 = .ok (.aload_n 0, 1) := by decide +kernel
theorem dX12_isMethod_8 : decode cX12_isMethod 8 = .ok (.iconst 3, 1) := by decide +kernel
theorem dX12_isMethod_9 : decode cX12_isMethod 9 = .ok (.invokevirtual 108, 3) := by decide +kernel
theorem dX12_isMethod_12 : decode cX12_isMethod 12 = .ok (.ireturn, 1) := by decide +kernel
theorem dX12_isMethod_13 : decode cX12_isMethod 13 = .ok (.iconst 1, 1) := by decide +kernel
theorem dX12_isMethod_14 : decode cX12_isMethod 14 = .ok (.istore_n 1, 1) := by decide +kernel
theorem dX12_isMethod_15 : decode cX12_isMethod 15 = .ok (.iload_n 1, 1) := by decide +kernel
theorem dX12_isMethod_16 : decode cX12_isMethod 16 = .ok (.ifCond .eq 72, 3) := by decide +kernel
theorem dX12_isMethod_19 : decode cX12_isMethod 19 = .ok (.aload_n 0, 1) := by decide +kernel
theorem dX12_isMethod_20 : decode cX12_isMethod 20 = .ok (.getfield 125, 3) := by decide +kernel
theorem dX12_isMethod_23 : decode cX12_isMethod 23 = .ok (.bipush 12, 2) := by decide +kernel
theorem dX12_isMethod_25 : decode cX12_isMethod 25 = .ok (.if_icmp .ne 9, 3) := by decide +kernel
theorem dX12_isMethod_28 : decode cX12_isMethod 28 = .ok (.aload_n 0, 1) := by decide +kernel
theorem dX12_isMethod_29 : decode cX12_isMethod 29 = .ok (.iconst 1, 1) := by decide +kernel
theorem dX12_isMethod_30 : decode cX12_isMethod 30 = .ok (.invokevirtual 108, 3) := by decide +kernel
theorem dX12_isMethod_33 : decode cX12_isMethod 33 = .ok (.ireturn, 1) := by decide +kernel
theorem dX12_isMethod_34 : decode cX12_isMethod 34 = .ok (.aload_n 0, 1) := by decide +kernel
theorem dX12_isMethod_35 : decode cX12_isMethod 35 = .ok (.invokevirtual 128, 3) := by decide +kernel
theorem dX12_isMethod_38 : decode cX12_isMethod 38 = .ok (.ifCond .ne 5, 3) := by decide +kernel
theorem dX12_isMethod_41 : decode cX12_isMethod 41 = .ok (.iconst 0, 1) := by decide +kernel
theorem dX12_isMethod_42 : decode cX12_isMethod 42 = .ok (.ireturn, 1) := by decide +kernel
theorem dX12_isMethod_43 : decode cX12_isMethod 43 = .ok (.aload_n 0, 1) := by decide +kernel
theorem dX12_isMethod_44 : decode cX12_isMethod 44 = .ok (.getfield 20, 3) := by decide +kernel
theorem dX12_isMethod_47 : decode cX12_isMethod 47 = .ok (.aload_n 0, 1) := by decide +kernel
theorem dX12_isMethod_48 : decode cX12_isMethod 48 = .ok (.getfield 125, 3) := by decide +kernel
theorem dX12_isMethod_51 : decode cX12_isMethod 51 = .ok (.aload_n 0, 1) := by decide +kernel
theorem dX12_isMethod_52 : decode cX12_isMethod 52 = .ok (.getfield 93, 3) := by decide +kernel
theorem dX12_isMethod_55 : decode cX12_isMethod 55 = .ok (.iastore, 1) := by decide +kernel
theorem dX12_isMethod_56 : decode cX12_isMethod 56 = .ok (.aload_n 0, 1) := by decide +kernel
theorem dX12_isMethod_57 : decode cX12_isMethod 57 = .ok (.dup, 1) := by decide +kernel
theorem dX12_isMethod_58 : decode cX12_isMethod 58 = .ok (.getfield 125, 3) := by decide +kernel
theorem dX12_isMethod_61 : decode cX12_isMethod 61 = .ok (.iconst 1, 1) := by decide +kernel
theorem dX12_isMethod_62 : decode cX12_isMethod 62 = .ok (.iadd, 1) := by decide +kernel
theorem dX12_isMethod_63 : decode cX12_isMethod 63 = .ok (.putfield 125, 3) := by decide +kernel
theorem dX12_isMethod_66 : decode cX12_isMethod 66 = .ok (.aload_n 0, 1) := by decide +kernel
theorem dX12_isMethod_67 : decode cX12_isMethod 67 = .ok (.invokevirtual 105, 3) := by decide +kernel
theorem dX12_isMethod_70 : decode cX12_isMethod 70 = .ok (.aload_n 0, 1) := by decide +kernel
theorem dX12_isMethod_71 : decode cX12_isMethod 71 = .ok (.getfield 99, 3) := by decide +kernel
theorem dX12_isMethod_74 : decode cX12_isMethod 74 = .ok (.bipush 44, 2) := by decide +kernel
theorem dX12_isMethod_76 : decode cX12_isMethod 76 = .ok (.if_icmp .ne 7, 3) := by decide +kernel
theorem dX12_isMethod_79 : decode cX12_isMethod 79 = .ok (.iconst 1, 1) := by decide +kernel
theorem dX12_isMethod_80 : decode cX12_isMethod 80 = .ok (.goto 4, 3) := by decide +kernel
theorem dX12_isMethod_83 : decode cX12_isMethod 83 = .ok (.iconst 0, 1) := by decide +kernel
theorem dX12_isMethod_84 : decode cX12_isMethod 84 = .ok (.istore_n 1, 1) := by decide +kernel
theorem dX12_isMethod_85 : decode cX12_isMethod 85 = .ok (.goto (-70), 3) := by decide +kernel
theorem dX12_isMethod_88 : decode cX12_isMethod 88 = .ok (.aload_n 0, 1) := by decide +kernel
theorem dX12_isMethod_89 : decode cX12_isMethod 89 = .ok (.getfield 99, 3) := by decide +kernel
theorem dX12_isMethod_92 : decode cX12_isMethod 92 = .ok (.bipush 59, 2) := by decide +kernel
theorem dX12_isMethod_94 : decode cX12_isMethod 94 = .ok (.if_icmp .eq 11, 3) := by decide +kernel
theorem dX12_isMethod_97 : decode cX12_isMethod 97 = .ok (.aload_n 0, 1) := by decide +kernel
theorem dX12_isMethod_98 : decode cX12_isMethod 98 = .ok (.iconst 1, 1) := by decide +kernel
theorem dX12_isMethod_99 : decode cX12_isMethod 99 = .ok (.invokevirtual 108, 3) := by decide +kernel
theorem dX12_isMethod_102 : decode cX12_isMethod 102 = .ok (.ifCond .eq 7, 3) := by decide +kernel
theorem dX12_isMethod_105 : decode cX12_isMethod 105 = .ok (.iconst 1, 1) := by decide +kernel
theorem dX12_isMethod_106 : decode cX12_isMethod 106 = .ok (.goto 4, 3) := by decide +kernel
theorem dX12_isMethod_109 : decode cX12_isMethod 109 = .ok (.iconst 0, 1) := by decide +kernel
theorem dX12_isMethod_110 : decode cX12_isMethod 110 = .ok (.ireturn, 1) := by decide +kernel
theorem dX12_isSuitorItem_0 : decode cX12_isSuitorItem 0 = .ok (.aload_n 0, 1) := by decide +kernel
theorem dX12_isSuitorItem_1 : decode cX12_isSuitorItem 1 = .ok (.getfield 132, 3) := by decide +kernel
theorem dX12_isSuitorItem_4 : decode cX12_isSuitorItem 4 = .ok (.aload_n 0, 1) := by decide +kernel
theorem dX12_isSuitorItem_5 : decode cX12_isSuitorItem 5 = .ok (.getfield 116, 3) := by decide +kernel
theorem dX12_isSuitorItem_8 : decode cX12_isSuitorItem 8 = .ok (.if_icmp .ne 9, 3) := by decide +kernel
theorem dX12_isSuitorItem_11 : decode cX12_isSuitorItem 11 = .ok (.aload_n 0, 1) := by decide +kernel
theorem dX12_isSuitorItem_12 : decode cX12_isSuitorItem 12 = .ok (.iconst 3, 1) := by decide +kernel
theorem dX12_isSuitorItem_13 : decode cX12_isSuitorItem 13 = .ok (.invokevirtual 108, 3) := by decide +kernel
theorem dX12_isSuitorItem_16 : decode cX12_isSuitorItem 16 = .ok (.ireturn, 1) := by decide +kernel
theorem dX12_isSuitorItem_17 : decode cX12_isSuitorItem 17 = .ok (.aload_n 0, 1) := by decide +kernel
theorem dX12_isSuitorItem_18 : decode cX12_isSuitorItem 18 = .ok (.iconst 1, 1) := by decide +kernel
theorem dX12_isSuitorItem_19 : decode cX12_isSuitorItem 19 = .ok (.bipush 20, 2) := by decide +kernel
theorem dX12_isSuitorItem_21 : decode cX12_isSuitorItem 21 = .ok (.invokevirtual 119, 3) := by decide +kernel
theorem dX12_isSuitorItem_24 : decode cX12_isSuitorItem 24 = .ok (.ifCond .ne 5, 3) := by decide +kernel
theorem dX12_isSuitorItem_27 : decode cX12_isSuitorItem 27 = .ok (.iconst 0, 1) := by decide +kernel
theorem dX12_isSuitorItem_28 : decode cX12_isSuitorItem 28 = .ok (.ireturn, 1) := by decide +kernel
theorem dX12_isSuitorItem_29 : decode cX12_isSuitorItem 29 = .ok (.aload_n 0, 1) := by decide +kernel
theorem dX12_isSuitorItem_30 : decode cX12_isSuitorItem 30 = .ok (.getfield 23, 3) := by decide +kernel
theorem dX12_isSuitorItem_33 : decode cX12_isSuitorItem 33 = .ok (.aload_n 0, 1) := by decide +kernel
theorem dX12_isSuitorItem_34 : decode cX12_isSuitorItem 34 = .ok (.getfield 132, 3) := by decide +kernel
theorem dX12_isSuitorItem_37 : decode cX12_isSuitorItem 37 = .ok (.aload_n 0, 1) := by decide +kernel
theorem dX12_isSuitorItem_38 : decode cX12_isSuitorItem 38 = .ok (.getfield 93, 3) := by decide +kernel
theorem dX12_isSuitorItem_41 : decode cX12_isSuitorItem 41 = .ok (.iastore, 1) := by decide +kernel
theorem dX12_isSuitorItem_42 : decode cX12_isSuitorItem 42 = .ok (.aload_n 0, 1) := by decide +kernel
theorem dX12_isSuitorItem_43 : decode cX12_isSuitorItem 43 = .ok (.dup, 1) := by decide +kernel
theorem dX12_isSuitorItem_44 : decode cX12_isSuitorItem 44 = .ok (.getfield 132, 3) := by decide +kernel
theorem dX12_isSuitorItem_47 : decode cX12_isSuitorItem 47 = .ok (.iconst 1, 1) := by decide +kernel
theorem dX12_isSuitorItem_48 : decode cX12_isSuitorItem 48 = .ok (.iadd, 1) := by decide +kernel
theorem dX12_isSuitorItem_49 : decode cX12_isSuitorItem 49 = .ok (.putfield 132, 3) := by decide +kernel
theorem dX12_isSuitorItem_52 : decode cX12_isSuitorItem 52 = .ok (.aload_n 0, 1) := by decide +kernel
theorem dX12_isSuitorItem_53 : decode cX12_isSuitorItem 53 = .ok (.invokevirtual 135, 3) := by decide +kernel
theorem dX12_isSuitorItem_56 : decode cX12_isSuitorItem 56 = .ok (.ireturn, 1) := by decide +kernel
theorem dX12_isCall_0 : decode cX12_isCall 0 = .ok (.aload_n 0, 1) := by decide +kernel
theorem dX12_isCall_1 : decode cX12_isCall 1 = .ok (.getfield 138, 3) := by decide +kernel
theorem dX12_isCall_4 : decode cX12_isCall 4 = .ok (.ifCond .lt 9, 3) := by decide +kernel
theorem dX12_isCall_7 : decode cX12_isCall 7 = .ok (.aload_n 0, 1) := by decide +kernel
theorem dX12_isCall_8 : decode cX12_isCall 8 = .ok (.iconst 3, 1) := by decide +kernel
theorem dX12_isCall_9 : decode cX12_isCall 9 = .ok (.invokevirtual 108, 3) := by decide +kernel
theorem dX12_isCall_12 : decode cX12_isCall 12 = .ok (.ireturn, 1) := by decide +kernel
theorem dX12_isCall_13 : decode cX12_isCall 13 = .ok (.aload_n 0, 1) := by decide +kernel
theorem dX12_isCall_14 : decode cX12_isCall 14 = .ok (.invokevirtual 128, 3) := by decide +kernel
theorem dX12_isCall_17 : decode cX12_isCall 17 = .ok (.ifCond .ne 5, 3) := by decide +kernel
theorem dX12_isCall_20 : decode cX12_isCall 20 = .ok (.iconst 0, 1) := by decide +kernel
theorem dX12_isCall_21 : decode cX12_isCall 21 = .ok (.ireturn, 1) := by decide +kernel
theorem dX12_isCall_22 : decode cX12_isCall 22 = .ok (.aload_n 0, 1) := by decide +kernel
theorem dX12_isCall_23 : decode cX12_isCall 23 = .ok (.aload_n 0, 1) := by decide +kernel
theorem dX12_isCall_24 : decode cX12_isCall 24 = .ok (.getfield 93, 3) := by decide +kernel
theorem dX12_isCall_27 : decode cX12_isCall 27 = .ok (.putfield 138, 3) := by decide +kernel
theorem dX12_isCall_30 : decode cX12_isCall 30 = .ok (.aload_n 0, 1) := by decide +kernel
theorem dX12_isCall_31 : decode cX12_isCall 31 = .ok (.invokevirtual 135, 3) := by decide +kernel
theorem dX12_isCall_34 : decode cX12_isCall 34 = .ok (.ireturn, 1) := by decide +kernel
theorem dX12_isClause_0 : decode cX12_isClause 0 = .ok (.aload_n 0, 1) := by decide +kernel
theorem dX12_isClause_1 : decode cX12_isClause 1 = .ok (.getfield 99, 3) := by decide +kernel
theorem dX12_isClause_4 : decode cX12_isClause 4 = .ok (.bipush 98, 2) := by decide +kernel
theorem dX12_isClause_6 : decode cX12_isClause 6 = .ok (.if_icmp .ne 23, 3) := by decide +kernel
theorem dX12_isClause_9 : decode cX12_isClause 9 = .ok (.aload_n 0, 1) := by decide +kernel
theorem dX12_isClause_10 : decode cX12_isClause 10 = .ok (.getfield 116, 3) := by decide +kernel
theorem dX12_isClause_13 : decode cX12_isClause 13 = .ok (.ifCond .le 11, 3) := by decide +kernel
theorem dX12_isClause_16 : decode cX12_isClause 16 = .ok (.aload_n 0, 1) := by decide +kernel
theorem dX12_isClause_17 : decode cX12_isClause 17 = .ok (.iconst 3, 1) := by decide +kernel
theorem dX12_isClause_18 : decode cX12_isClause 18 = .ok (.invokevirtual 108, 3) := by decide +kernel
theorem dX12_isClause_21 : decode cX12_isClause 21 = .ok (.goto 7, 3) := by decide +kernel
theorem dX12_isClause_24 : decode cX12_isClause 24 = .ok (.aload_n 0, 1) := by decide +kernel
theorem dX12_isClause_25 : decode cX12_isClause 25 = .ok (.invokevirtual 141, 3) := by decide +kernel
theorem dX12_isClause_28 : decode cX12_isClause 28 = .ok (.ireturn, 1) := by decide +kernel
theorem dX12_isClause_29 : decode cX12_isClause 29 = .ok (.aload_n 0, 1) := by decide +kernel
theorem dX12_isClause_30 : decode cX12_isClause 30 = .ok (.getfield 116, 3) := by decide +kernel
theorem dX12_isClause_33 : decode cX12_isClause 33 = .ok (.ifCond .ne 9, 3) := by decide +kernel
theorem dX12_isClause_36 : decode cX12_isClause 36 = .ok (.aload_n 0, 1) := by decide +kernel
theorem dX12_isClause_37 : decode cX12_isClause 37 = .ok (.iconst 1, 1) := by decide +kernel
theorem dX12_isClause_38 : decode cX12_isClause 38 = .ok (.invokevirtual 108, 3) := by decide +kernel
theorem dX12_isClause_41 : decode cX12_isClause 41 = .ok (.ireturn, 1) := by decide +kernel
theorem dX12_isClause_42 : decode cX12_isClause 42 = .ok (.aload_n 0, 1) := by decide +kernel
theorem dX12_isClause_43 : decode cX12_isClause 43 = .ok (.getfield 99, 3) := by decide +kernel
theorem dX12_isClause_46 : decode cX12_isClause 46 = .ok (.bipush 109, 2) := by decide +kernel
theorem dX12_isClause_48 : decode cX12_isClause 48 = .ok (.if_icmp .ne 10, 3) := by decide +kernel
theorem dX12_isClause_51 : decode cX12_isClause 51 = .ok (.aload_n 0, 1) := by decide +kernel
theorem dX12_isClause_52 : decode cX12_isClause 52 = .ok (.invokevirtual 144, 3) := by decide +kernel
theorem dX12_isClause_55 : decode cX12_isClause 55 = .ok (.goto 40, 3) := by decide +kernel
theorem dX12_isClause_58 : decode cX12_isClause 58 = .ok (.aload_n 0, 1) := by decide +kernel
theorem dX12_isClause_59 : decode cX12_isClause 59 = .ok (.getfield 99, 3) := by decide +kernel
theorem dX12_isClause_62 : decode cX12_isClause 62 = .ok (.bipush 114, 2) := by decide +kernel
theorem dX12_isClause_64 : decode cX12_isClause 64 = .ok (.if_icmp .ne 10, 3) := by decide +kernel
theorem dX12_isClause_67 : decode cX12_isClause 67 = .ok (.aload_n 0, 1) := by decide +kernel
theorem dX12_isClause_68 : decode cX12_isClause 68 = .ok (.invokevirtual 147, 3) := by decide +kernel
theorem dX12_isClause_71 : decode cX12_isClause 71 = .ok (.goto 24, 3) := by decide +kernel
theorem dX12_isClause_74 : decode cX12_isClause 74 = .ok (.aload_n 0, 1) := by decide +kernel
theorem dX12_isClause_75 : decode cX12_isClause 75 = .ok (.getfield 99, 3) := by decide +kernel
theorem dX12_isClause_78 : decode cX12_isClause 78 = .ok (.bipush 99, 2) := by decide +kernel
theorem dX12_isClause_80 : decode cX12_isClause 80 = .ok (.if_icmp .ne 10, 3) := by decide +kernel
theorem dX12_isClause_83 : decode cX12_isClause 83 = .ok (.aload_n 0, 1) := by decide +kernel
theorem dX12_isClause_84 : decode cX12_isClause 84 = .ok (.invokevirtual 150, 3) := by decide +kernel
theorem dX12_isClause_87 : decode cX12_isClause 87 = .ok (.goto 8, 3) := by decide +kernel
theorem dX12_isClause_90 : decode cX12_isClause 90 = .ok (.aload_n 0, 1) := by decide +kernel
theorem dX12_isClause_91 : decode cX12_isClause 91 = .ok (.iconst 1, 1) := by decide +kernel
theorem dX12_isClause_92 : decode cX12_isClause 92 = .ok (.invokevirtual 108, 3) := by decide +kernel
theorem dX12_isClause_95 : decode cX12_isClause 95 = .ok (.ireturn, 1) := by decide +kernel
theorem dX12_isRead_0 : decode cX12_isRead 0 = .ok (.aload_n 0, 1) := by decide +kernel
theorem dX12_isRead_1 : decode cX12_isRead 1 = .ok (.iconst 0, 1) := by decide +kernel
theorem dX12_isRead_2 : decode cX12_isRead 2 = .ok (.putfield 87, 3) := by decide +kernel
theorem dX12_isRead_5 : decode cX12_isRead 5 = .ok (.aload_n 0, 1) := by decide +kernel
theorem dX12_isRead_6 : decode cX12_isRead 6 = .ok (.iconst 0, 1) := by decide +kernel
theorem dX12_isRead_7 : decode cX12_isRead 7 = .ok (.putfield 116, 3) := by decide +kernel
theorem dX12_isRead_10 : decode cX12_isRead 10 = .ok (.aload_n 0, 1) := by decide +kernel
theorem dX12_isRead_11 : decode cX12_isRead 11 = .ok (.iconst 0, 1) := by decide +kernel
theorem dX12_isRead_12 : decode cX12_isRead 12 = .ok (.putfield 125, 3) := by decide +kernel
theorem dX12_isRead_15 : decode cX12_isRead 15 = .ok (.aload_n 0, 1) := by decide +kernel
theorem dX12_isRead_16 : decode cX12_isRead 16 = .ok (.iconst 0, 1) := by decide +kernel
theorem dX12_isRead_17 : decode cX12_isRead 17 = .ok (.putfield 132, 3) := by decide +kernel
theorem dX12_isRead_20 : decode cX12_isRead 20 = .ok (.aload_n 0, 1) := by decide +kernel
theorem dX12_isRead_21 : decode cX12_isRead 21 = .ok (.iconst (-1), 1) := by decide +kernel
theorem dX12_isRead_22 : decode cX12_isRead 22 = .ok (.putfield 138, 3) := by decide +kernel
theorem dX12_isRead_25 : decode cX12_isRead 25 = .ok (.aload_n 0, 1) := by decide +kernel
theorem dX12_isRead_26 : decode cX12_isRead 26 = .ok (.invokevirtual 105, 3) := by decide +kernel
theorem dX12_isRead_29 : decode cX12_isRead 29 = .ok (.aload_n 0, 1) := by decide +kernel
theorem dX12_isRead_30 : decode cX12_isRead 30 = .ok (.getfield 99, 3) := by decide +kernel
theorem dX12_isRead_33 : decode cX12_isRead 33 = .ok (.bipush (-2), 2) := by decide +kernel
theorem dX12_isRead_35 : decode cX12_isRead 35 = .ok (.if_icmp .eq 19, 3) := by decide +kernel
theorem dX12_isRead_38 : decode cX12_isRead 38 = .ok (.aload_n 0, 1) := by decide +kernel
theorem dX12_isRead_39 : decode cX12_isRead 39 = .ok (.invokevirtual 153, 3) := by decide +kernel
theorem dX12_isRead_42 : decode cX12_isRead 42 = .ok (.ifCond .ne 5, 3) := by decide +kernel
theorem dX12_isRead_45 : decode cX12_isRead 45 = .ok (.iconst 0, 1) := by decide +kernel
theorem dX12_isRead_46 : decode cX12_isRead 46 = .ok (.ireturn, 1) := by decide +kernel
theorem dX12_isRead_47 : decode cX12_isRead 47 = .ok (.aload_n 0, 1) := by decide +kernel
theorem dX12_isRead_48 : decode cX12_isRead 48 = .ok (.invokevirtual 105, 3) := by decide +kernel
theorem dX12_isRead_51 : decode cX12_isRead 51 = .ok (.goto (-22), 3) := by decide +kernel
theorem dX12_isRead_54 : decode cX12_isRead 54 = .ok (.iconst 1, 1) := by decide +kernel
theorem dX12_isRead_55 : decode cX12_isRead 55 = .ok (.ireturn, 1) := by decide +kernel
theorem dX12_bring_0 : decode cX12_bring 0 = .ok (.iconst 0, 1) := by decide +kernel
theorem dX12_bring_1 : decode cX12_bring 1 = .ok (.istore 5, 2) := by decide +kernel
theorem dX12_bring_3 : decode cX12_bring 3 = .ok (.iload 5, 2) := by decide +kernel
theorem dX12_bring_5 : decode cX12_bring 5 = .ok (.iload 4, 2) := by decide +kernel
theorem dX12_bring_7 : decode cX12_bring 7 = .ok (.if_icmp .ge 21, 3) := by decide +kernel
theorem dX12_bring_10 : decode cX12_bring 10 = .ok (.aload_n 2, 1) := by decide +kernel
theorem dX12_bring_11 : decode cX12_bring 11 = .ok (.iload_n 3, 1) := by decide +kernel
theorem dX12_bring_12 : decode cX12_bring 12 = .ok (.iload 5, 2) := by decide +kernel
theorem dX12_bring_14 : decode cX12_bring 14 = .ok (.iadd, 1) := by decide +kernel
theorem dX12_bring_15 : decode cX12_bring 15 = .ok (.aload_n 0, 1) := by decide +kernel
theorem dX12_bring_16 : decode cX12_bring 16 = .ok (.iload_n 1, 1) := by decide +kernel
theorem dX12_bring_17 : decode cX12_bring 17 = .ok (.iload 5, 2) := by decide +kernel
theorem dX12_bring_19 : decode cX12_bring 19 = .ok (.iadd, 1) := by decide +kernel
theorem dX12_bring_20 : decode cX12_bring 20 = .ok (.iaload, 1) := by decide +kernel
theorem dX12_bring_21 : decode cX12_bring 21 = .ok (.iastore, 1) := by decide +kernel
theorem dX12_bring_22 : decode cX12_bring 22 = .ok (.iinc 5 1, 3) := by decide +kernel
theorem dX12_bring_25 : decode cX12_bring 25 = .ok (.goto (-22), 3) := by decide +kernel
theorem dX12_bring_28 : decode cX12_bring 28 = .ok (.return_, 1) := by decide +kernel
theorem dX12_toRounds_0 : decode cX12_toRounds 0 = .ok (.iconst 0, 1) := by decide +kernel
theorem dX12_toRounds_1 : decode cX12_toRounds 1 = .ok (.istore_n 1, 1) := by decide +kernel
theorem dX12_toRounds_2 : decode cX12_toRounds 2 = .ok (.iload_n 1, 1) := by decide +kernel
theorem dX12_toRounds_3 : decode cX12_toRounds 3 = .ok (.bipush 6, 2) := by decide +kernel
theorem dX12_toRounds_5 : decode cX12_toRounds 5 = .ok (.if_icmp .ge 15, 3) := by decide +kernel
theorem dX12_toRounds_8 : decode cX12_toRounds 8 = .ok (.aload_n 0, 1) := by decide +kernel
theorem dX12_toRounds_9 : decode cX12_toRounds 9 = .ok (.iconst 5, 1) := by decide +kernel
theorem dX12_toRounds_10 : decode cX12_toRounds 10 = .ok (.iload_n 1, 1) := by decide +kernel
theorem dX12_toRounds_11 : decode cX12_toRounds 11 = .ok (.iadd, 1) := by decide +kernel
theorem dX12_toRounds_12 : decode cX12_toRounds 12 = .ok (.iload_n 1, 1) := by decide +kernel
theorem dX12_toRounds_13 : decode cX12_toRounds 13 = .ok (.iastore, 1) := by decide +kernel
theorem dX12_toRounds_14 : decode cX12_toRounds 14 = .ok (.iinc 1 1, 3) := by decide +kernel
theorem dX12_toRounds_17 : decode cX12_toRounds 17 = .ok (.goto (-15), 3) := by decide +kernel
theorem dX12_toRounds_20 : decode cX12_toRounds 20 = .ok (.aload_n 0, 1) := by decide +kernel
theorem dX12_toRounds_21 : decode cX12_toRounds 21 = .ok (.iconst 1, 1) := by decide +kernel
theorem dX12_toRounds_22 : decode cX12_toRounds 22 = .ok (.iconst 0, 1) := by decide +kernel
theorem dX12_toRounds_23 : decode cX12_toRounds 23 = .ok (.iastore, 1) := by decide +kernel
theorem dX12_toRounds_24 : decode cX12_toRounds 24 = .ok (.aload_n 0, 1) := by decide +kernel
theorem dX12_toRounds_25 : decode cX12_toRounds 25 = .ok (.iconst 2, 1) := by decide +kernel
theorem dX12_toRounds_26 : decode cX12_toRounds 26 = .ok (.iconst 0, 1) := by decide +kernel
theorem dX12_toRounds_27 : decode cX12_toRounds 27 = .ok (.iastore, 1) := by decide +kernel
theorem dX12_toRounds_28 : decode cX12_toRounds 28 = .ok (.return_, 1) := by decide +kernel
theorem dX12_tower_0 : decode cX12_tower 0 = .ok (.aload_n 0, 1) := by decide +kernel
theorem dX12_tower_1 : decode cX12_tower 1 = .ok (.invokevirtual 156, 3) := by decide +kernel
theorem dX12_tower_4 : decode cX12_tower 4 = .ok (.istore_n 1, 1) := by decide +kernel
theorem dX12_tower_5 : decode cX12_tower 5 = .ok (.aload_n 0, 1) := by decide +kernel
theorem dX12_tower_6 : decode cX12_tower 6 = .ok (.iconst 0, 1) := by decide +kernel
theorem dX12_tower_7 : decode cX12_tower 7 = .ok (.putfield 83, 3) := by decide +kernel
theorem dX12_tower_10 : decode cX12_tower 10 = .ok (.iload_n 1, 1) := by decide +kernel
theorem dX12_tower_11 : decode cX12_tower 11 = .ok (.ifCond .ne 11, 3) := by decide +kernel
theorem dX12_tower_14 : decode cX12_tower 14 = .ok (.bipush (-10), 2) := by decide +kernel
theorem dX12_tower_16 : decode cX12_tower 16 = .ok (.aload_n 0, 1) := by decide +kernel
theorem dX12_tower_17 : decode cX12_tower 17 = .ok (.getfield 102, 3) := by decide +kernel
theorem dX12_tower_20 : decode cX12_tower 20 = .ok (.isub, 1) := by decide +kernel
theorem dX12_tower_21 : decode cX12_tower 21 = .ok (.ireturn, 1) := by decide +kernel
theorem dX12_tower_22 : decode cX12_tower 22 = .ok (.aload_n 0, 1) := by decide +kernel
theorem dX12_tower_23 : decode cX12_tower 23 = .ok (.iconst (-1), 1) := by decide +kernel
theorem dX12_tower_24 : decode cX12_tower 24 = .ok (.putfield 13, 3) := by decide +kernel
theorem dX12_tower_27 : decode cX12_tower 27 = .ok (.aload_n 0, 1) := by decide +kernel
theorem dX12_tower_28 : decode cX12_tower 28 = .ok (.aload_n 0, 1) := by decide +kernel
theorem dX12_tower_29 : decode cX12_tower 29 = .ok (.getfield 116, 3) := by decide +kernel
theorem dX12_tower_32 : decode cX12_tower 32 = .ok (.putfield 72, 3) := by decide +kernel
theorem dX12_tower_35 : decode cX12_tower 35 = .ok (.aload_n 0, 1) := by decide +kernel
theorem dX12_tower_36 : decode cX12_tower 36 = .ok (.aload_n 0, 1) := by decide +kernel
theorem dX12_tower_37 : decode cX12_tower 37 = .ok (.getfield 132, 3) := by decide +kernel
theorem dX12_tower_40 : decode cX12_tower 40 = .ok (.putfield 79, 3) := by decide +kernel
theorem dX12_tower_43 : decode cX12_tower 43 = .ok (.aload_n 0, 1) := by decide +kernel
theorem dX12_tower_44 : decode cX12_tower 44 = .ok (.getfield 17, 3) := by decide +kernel
theorem dX12_tower_47 : decode cX12_tower 47 = .ok (.iconst 0, 1) := by decide +kernel
theorem dX12_tower_48 : decode cX12_tower 48 = .ok (.aload_n 0, 1) := by decide +kernel
theorem dX12_tower_49 : decode cX12_tower 49 = .ok (.getfield 26, 3) := by decide +kernel
theorem dX12_tower_52 : decode cX12_tower 52 = .ok (.iconst 0, 1) := by decide +kernel
theorem dX12_tower_53 : decode cX12_tower 53 = .ok (.bipush 6, 2) := by decide +kernel
theorem dX12_tower_55 : decode cX12_tower 55 = .ok (.invokestatic 159, 3) := by decide +kernel
theorem dX12_tower_58 : decode cX12_tower 58 = .ok (.aload_n 0, 1) := by decide +kernel
theorem dX12_tower_59 : decode cX12_tower 59 = .ok (.getfield 20, 3) := by decide +kernel
theorem dX12_tower_62 : decode cX12_tower 62 = .ok (.iconst 0, 1) := by decide +kernel
theorem dX12_tower_63 : decode cX12_tower 63 = .ok (.aload_n 0, 1) := by decide +kernel
theorem dX12_tower_64 : decode cX12_tower 64 = .ok (.getfield 29, 3) := by decide +kernel
theorem dX12_tower_67 : decode cX12_tower 67 = .ok (.iconst 0, 1) := by decide +kernel
theorem dX12_tower_68 : decode cX12_tower 68 = .ok (.bipush 12, 2) := by decide +kernel
theorem dX12_tower_70 : decode cX12_tower 70 = .ok (.invokestatic 159, 3) := by decide +kernel
theorem dX12_tower_73 : decode cX12_tower 73 = .ok (.aload_n 0, 1) := by decide +kernel
theorem dX12_tower_74 : decode cX12_tower 74 = .ok (.getfield 23, 3) := by decide +kernel
theorem dX12_tower_77 : decode cX12_tower 77 = .ok (.iconst 0, 1) := by decide +kernel
theorem dX12_tower_78 : decode cX12_tower 78 = .ok (.aload_n 0, 1) := by decide +kernel
theorem dX12_tower_79 : decode cX12_tower 79 = .ok (.getfield 32, 3) := by decide +kernel
theorem dX12_tower_82 : decode cX12_tower 82 = .ok (.iconst 0, 1) := by decide +kernel
theorem dX12_tower_83 : decode cX12_tower 83 = .ok (.bipush 6, 2) := by decide +kernel
theorem dX12_tower_85 : decode cX12_tower 85 = .ok (.invokestatic 159, 3) := by decide +kernel
theorem dX12_tower_88 : decode cX12_tower 88 = .ok (.iconst 1, 1) := by decide +kernel
theorem dX12_tower_89 : decode cX12_tower 89 = .ok (.aload_n 0, 1) := by decide +kernel
theorem dX12_tower_90 : decode cX12_tower 90 = .ok (.getfield 72, 3) := by decide +kernel
theorem dX12_tower_93 : decode cX12_tower 93 = .ok (.ishl, 1) := by decide +kernel
theorem dX12_tower_94 : decode cX12_tower 94 = .ok (.iconst 1, 1) := by decide +kernel
theorem dX12_tower_95 : decode cX12_tower 95 = .ok (.isub, 1) := by decide +kernel
theorem dX12_tower_96 : decode cX12_tower 96 = .ok (.istore_n 2, 1) := by decide +kernel
theorem dX12_tower_97 : decode cX12_tower 97 = .ok (.aload_n 0, 1) := by decide +kernel
theorem dX12_tower_98 : decode cX12_tower 98 = .ok (.aload_n 0, 1) := by decide +kernel
theorem dX12_tower_99 : decode cX12_tower 99 = .ok (.getfield 125, 3) := by decide +kernel
theorem dX12_tower_102 : decode cX12_tower 102 = .ok (.ifCond .le 10, 3) := by decide +kernel
theorem dX12_tower_105 : decode cX12_tower 105 = .ok (.aload_n 0, 1) := by decide +kernel
theorem dX12_tower_106 : decode cX12_tower 106 = .ok (.getfield 125, 3) := by decide +kernel
theorem dX12_tower_109 : decode cX12_tower 109 = .ok (.goto 15, 3) := by decide +kernel
theorem dX12_tower_112 : decode cX12_tower 112 = .ok (.aload_n 0, 1) := by decide +kernel
theorem dX12_tower_113 : decode cX12_tower 113 = .ok (.getfield 72, 3) := by decide +kernel
theorem dX12_tower_116 : decode cX12_tower 116 = .ok (.ifCond .le 7, 3) := by decide +kernel
theorem dX12_tower_119 : decode cX12_tower 119 = .ok (.iconst 1, 1) := by decide +kernel
theorem dX12_tower_120 : decode cX12_tower 120 = .ok (.goto 4, 3) := by decide +kernel
theorem dX12_tower_123 : decode cX12_tower 123 = .ok (.iconst 0, 1) := by decide +kernel
theorem dX12_tower_124 : decode cX12_tower 124 = .ok (.putfield 163, 3) := by decide +kernel
theorem dX12_tower_127 : decode cX12_tower 127 = .ok (.aload_n 0, 1) := by decide +kernel
theorem dX12_tower_128 : decode cX12_tower 128 = .ok (.getfield 29, 3) := by decide +kernel
theorem dX12_tower_131 : decode cX12_tower 131 = .ok (.iconst 0, 1) := by decide +kernel
theorem dX12_tower_132 : decode cX12_tower 132 = .ok (.aload_n 0, 1) := by decide +kernel
theorem dX12_tower_133 : decode cX12_tower 133 = .ok (.getfield 125, 3) := by decide +kernel
theorem dX12_tower_136 : decode cX12_tower 136 = .ok (.ifCond .le 12, 3) := by decide +kernel
theorem dX12_tower_139 : decode cX12_tower 139 = .ok (.aload_n 0, 1) := by decide +kernel
theorem dX12_tower_140 : decode cX12_tower 140 = .ok (.getfield 29, 3) := by decide +kernel
theorem dX12_tower_143 : decode cX12_tower 143 = .ok (.iconst 0, 1) := by decide +kernel
theorem dX12_tower_144 : decode cX12_tower 144 = .ok (.iaload, 1) := by decide +kernel
theorem dX12_tower_145 : decode cX12_tower 145 = .ok (.goto 4, 3) := by decide +kernel
theorem dX12_tower_148 : decode cX12_tower 148 = .ok (.iload_n 2, 1) := by decide +kernel
theorem dX12_tower_149 : decode cX12_tower 149 = .ok (.iastore, 1) := by decide +kernel
theorem dX12_tower_150 : decode cX12_tower 150 = .ok (.aload_n 0, 1) := by decide +kernel
theorem dX12_tower_151 : decode cX12_tower 151 = .ok (.aload_n 0, 1) := by decide +kernel
theorem dX12_tower_152 : decode cX12_tower 152 = .ok (.getfield 138, 3) := by decide +kernel
theorem dX12_tower_155 : decode cX12_tower 155 = .ok (.ifCond .lt 10, 3) := by decide +kernel
theorem dX12_tower_158 : decode cX12_tower 158 = .ok (.aload_n 0, 1) := by decide +kernel
theorem dX12_tower_159 : decode cX12_tower 159 = .ok (.getfield 138, 3) := by decide +kernel
theorem dX12_tower_162 : decode cX12_tower 162 = .ok (.goto 4, 3) := by decide +kernel
theorem dX12_tower_165 : decode cX12_tower 165 = .ok (.iload_n 2, 1) := by decide +kernel
theorem dX12_tower_166 : decode cX12_tower 166 = .ok (.putfield 166, 3) := by decide +kernel
theorem dX12_tower_169 : decode cX12_tower 169 = .ok (.iconst 0, 1) := by decide +kernel
theorem dX12_tower_170 : decode cX12_tower 170 = .ok (.istore_n 3, 1) := by decide +kernel
theorem dX12_tower_171 : decode cX12_tower 171 = .ok (.iload_n 3, 1) := by decide +kernel
theorem dX12_tower_172 : decode cX12_tower 172 = .ok (.bipush 23, 2) := by decide +kernel
theorem dX12_tower_174 : decode cX12_tower 174 = .ok (.if_icmp .ge 16, 3) := by decide +kernel
theorem dX12_tower_177 : decode cX12_tower 177 = .ok (.aload_n 0, 1) := by decide +kernel
theorem dX12_tower_178 : decode cX12_tower 178 = .ok (.getfield 35, 3) := by decide +kernel
theorem dX12_tower_181 : decode cX12_tower 181 = .ok (.iload_n 3, 1) := by decide +kernel
theorem dX12_tower_182 : decode cX12_tower 182 = .ok (.iconst 0, 1) := by decide +kernel
theorem dX12_tower_183 : decode cX12_tower 183 = .ok (.iastore, 1) := by decide +kernel
theorem dX12_tower_184 : decode cX12_tower 184 = .ok (.iinc 3 1, 3) := by decide +kernel
theorem dX12_tower_187 : decode cX12_tower 187 = .ok (.goto (-16), 3) := by decide +kernel
theorem dX12_tower_190 : decode cX12_tower 190 = .ok (.aload_n 0, 1) := by decide +kernel
theorem dX12_tower_191 : decode cX12_tower 191 = .ok (.getfield 35, 3) := by decide +kernel
theorem dX12_tower_194 : decode cX12_tower 194 = .ok (.invokestatic 169, 3) := by decide +kernel
theorem dX12_tower_197 : decode cX12_tower 197 = .ok (.iconst 0, 1) := by decide +kernel
theorem dX12_tower_198 : decode cX12_tower 198 = .ok (.istore_n 3, 1) := by decide +kernel
theorem dX12_tower_199 : decode cX12_tower 199 = .ok (.iload_n 3, 1) := by decide +kernel
theorem dX12_tower_200 : decode cX12_tower 200 = .ok (.bipush 6, 2) := by decide +kernel
theorem dX12_tower_202 : decode cX12_tower 202 = .ok (.if_icmp .ge 19, 3) := by decide +kernel
theorem dX12_tower_205 : decode cX12_tower 205 = .ok (.aload_n 0, 1) := by decide +kernel
theorem dX12_tower_206 : decode cX12_tower 206 = .ok (.getfield 35, 3) := by decide +kernel
theorem dX12_tower_209 : decode cX12_tower 209 = .ok (.bipush 11, 2) := by decide +kernel
theorem dX12_tower_211 : decode cX12_tower 211 = .ok (.iload_n 3, 1) := by decide +kernel
theorem dX12_tower_212 : decode cX12_tower 212 = .ok (.iadd, 1) := by decide +kernel
theorem dX12_tower_213 : decode cX12_tower 213 = .ok (.iload_n 3, 1) := by decide +kernel
theorem dX12_tower_214 : decode cX12_tower 214 = .ok (.iastore, 1) := by decide +kernel
theorem dX12_tower_215 : decode cX12_tower 215 = .ok (.iinc 3 1, 3) := by decide +kernel
theorem dX12_tower_218 : decode cX12_tower 218 = .ok (.goto (-19), 3) := by decide +kernel
theorem dX12_tower_221 : decode cX12_tower 221 = .ok (.aload_n 0, 1) := by decide +kernel
theorem dX12_tower_222 : decode cX12_tower 222 = .ok (.iconst 0, 1) := by decide +kernel
theorem dX12_tower_223 : decode cX12_tower 223 = .ok (.putfield 173, 3) := by decide +kernel
theorem dX12_tower_226 : decode cX12_tower 226 = .ok (.aload_n 0, 1) := by decide +kernel
theorem dX12_tower_227 : decode cX12_tower 227 = .ok (.iconst 0, 1) := by decide +kernel
theorem dX12_tower_228 : decode cX12_tower 228 = .ok (.putfield 176, 3) := by decide +kernel
theorem dX12_tower_231 : decode cX12_tower 231 = .ok (.aload_n 0, 1) := by decide +kernel
theorem dX12_tower_232 : decode cX12_tower 232 = .ok (.getfield 50, 3) := by decide +kernel
theorem dX12_tower_235 : decode cX12_tower 235 = .ok (.iconst 0, 1) := by decide +kernel
theorem dX12_tower_236 : decode cX12_tower 236 = .ok (.iconst 0, 1) := by decide +kernel
theorem dX12_tower_237 : decode cX12_tower 237 = .ok (.bastore, 1) := by decide +kernel
theorem dX12_tower_238 : decode cX12_tower 238 = .ok (.aload_n 0, 1) := by decide +kernel
theorem dX12_tower_239 : decode cX12_tower 239 = .ok (.getfield 50, 3) := by decide +kernel
theorem dX12_tower_242 : decode cX12_tower 242 = .ok (.iconst 1, 1) := by decide +kernel
theorem dX12_tower_243 : decode cX12_tower 243 = .ok (.iconst 0, 1) := by decide +kernel
theorem dX12_tower_244 : decode cX12_tower 244 = .ok (.bastore, 1) := by decide +kernel
theorem dX12_tower_245 : decode cX12_tower 245 = .ok (.aload_n 0, 1) := by decide +kernel
theorem dX12_tower_246 : decode cX12_tower 246 = .ok (.iconst 0, 1) := by decide +kernel
theorem dX12_tower_247 : decode cX12_tower 247 = .ok (.putfield 179, 3) := by decide +kernel
theorem dX12_tower_250 : decode cX12_tower 250 = .ok (.aload_n 0, 1) := by decide +kernel
theorem dX12_tower_251 : decode cX12_tower 251 = .ok (.getfield 72, 3) := by decide +kernel
theorem dX12_tower_254 : decode cX12_tower 254 = .ok (.ireturn, 1) := by decide +kernel
theorem dX12_fault_0 : decode cX12_fault 0 = .ok (.aload_n 0, 1) := by decide +kernel
theorem dX12_fault_1 : decode cX12_fault 1 = .ok (.getfield 13, 3) := by decide +kernel
theorem dX12_fault_4 : decode cX12_fault 4 = .ok (.ireturn, 1) := by decide +kernel
theorem dX12_figuresOf_0 : decode cX12_figuresOf 0 = .ok (.iconst 0, 1) := by decide +kernel
theorem dX12_figuresOf_1 : decode cX12_figuresOf 1 = .ok (.istore_n 2, 1) := by decide +kernel
theorem dX12_figuresOf_2 : decode cX12_figuresOf 2 = .ok (.iconst 0, 1) := by decide +kernel
theorem dX12_figuresOf_3 : decode cX12_figuresOf 3 = .ok (.istore_n 3, 1) := by decide +kernel
theorem dX12_figuresOf_4 : decode cX12_figuresOf 4 = .ok (.iload_n 3, 1) := by decide +kernel
theorem dX12_figuresOf_5 : decode cX12_figuresOf 5 = .ok (.aload_n 0, 1) := by decide +kernel
theorem dX12_figuresOf_6 : decode cX12_figuresOf 6 = .ok (.getfield 72, 3) := by decide +kernel
theorem dX12_figuresOf_9 : decode cX12_figuresOf 9 = .ok (.if_icmp .ge 22, 3) := by decide +kernel
theorem dX12_figuresOf_12 : decode cX12_figuresOf 12 = .ok (.bipush 10, 2) := by decide +kernel
theorem dX12_figuresOf_14 : decode cX12_figuresOf 14 = .ok (.iload_n 2, 1) := by decide +kernel
theorem dX12_figuresOf_15 : decode cX12_figuresOf 15 = .ok (.imul, 1) := by decide +kernel
theorem dX12_figuresOf_16 : decode cX12_figuresOf 16 = .ok (.aload_n 1, 1) := by decide +kernel
theorem dX12_figuresOf_17 : decode cX12_figuresOf 17 = .ok (.iconst 5, 1) := by decide +kernel
theorem dX12_figuresOf_18 : decode cX12_figuresOf 18 = .ok (.iload_n 3, 1) := by decide +kernel
theorem dX12_figuresOf_19 : decode cX12_figuresOf 19 = .ok (.iadd, 1) := by decide +kernel
theorem dX12_figuresOf_20 : decode cX12_figuresOf 20 = .ok (.iaload, 1) := by decide +kernel
theorem dX12_figuresOf_21 : decode cX12_figuresOf 21 = .ok (.iadd, 1) := by decide +kernel
theorem dX12_figuresOf_22 : decode cX12_figuresOf 22 = .ok (.iconst 1, 1) := by decide +kernel
theorem dX12_figuresOf_23 : decode cX12_figuresOf 23 = .ok (.iadd, 1) := by decide +kernel
theorem dX12_figuresOf_24 : decode cX12_figuresOf 24 = .ok (.istore_n 2, 1) := by decide +kernel
theorem dX12_figuresOf_25 : decode cX12_figuresOf 25 = .ok (.iinc 3 1, 3) := by decide +kernel
theorem dX12_figuresOf_28 : decode cX12_figuresOf 28 = .ok (.goto (-24), 3) := by decide +kernel
theorem dX12_figuresOf_31 : decode cX12_figuresOf 31 = .ok (.iload_n 2, 1) := by decide +kernel
theorem dX12_figuresOf_32 : decode cX12_figuresOf 32 = .ok (.ireturn, 1) := by decide +kernel
theorem dX12_wedIn_0 : decode cX12_wedIn 0 = .ok (.iconst (-1), 1) := by decide +kernel
theorem dX12_wedIn_1 : decode cX12_wedIn 1 = .ok (.istore_n 2, 1) := by decide +kernel
theorem dX12_wedIn_2 : decode cX12_wedIn 2 = .ok (.iconst 0, 1) := by decide +kernel
theorem dX12_wedIn_3 : decode cX12_wedIn 3 = .ok (.istore_n 3, 1) := by decide +kernel
theorem dX12_wedIn_4 : decode cX12_wedIn 4 = .ok (.iconst 0, 1) := by decide +kernel
theorem dX12_wedIn_5 : decode cX12_wedIn 5 = .ok (.istore 4, 2) := by decide +kernel
theorem dX12_wedIn_7 : decode cX12_wedIn 7 = .ok (.iload 4, 2) := by decide +kernel
theorem dX12_wedIn_9 : decode cX12_wedIn 9 = .ok (.aload_n 0, 1) := by decide +kernel
theorem dX12_wedIn_10 : decode cX12_wedIn 10 = .ok (.getfield 79, 3) := by decide +kernel
theorem dX12_wedIn_13 : decode cX12_wedIn 13 = .ok (.if_icmp .ge 46, 3) := by decide +kernel
theorem dX12_wedIn_16 : decode cX12_wedIn 16 = .ok (.aload_n 1, 1) := by decide +kernel
theorem dX12_wedIn_17 : decode cX12_wedIn 17 = .ok (.iconst 4, 1) := by decide +kernel
theorem dX12_wedIn_18 : decode cX12_wedIn 18 = .ok (.iaload, 1) := by decide +kernel
theorem dX12_wedIn_19 : decode cX12_wedIn 19 = .ok (.iload 4, 2) := by decide +kernel
theorem dX12_wedIn_21 : decode cX12_wedIn 21 = .ok (.invokestatic 112, 3) := by decide +kernel
theorem dX12_wedIn_24 : decode cX12_wedIn 24 = .ok (.ifCond .eq 7, 3) := by decide +kernel
theorem dX12_wedIn_27 : decode cX12_wedIn 27 = .ok (.iload_n 2, 1) := by decide +kernel
theorem dX12_wedIn_28 : decode cX12_wedIn 28 = .ok (.goto 5, 3) := by decide +kernel
theorem dX12_wedIn_31 : decode cX12_wedIn 31 = .ok (.iload 4, 2) := by decide +kernel
theorem dX12_wedIn_33 : decode cX12_wedIn 33 = .ok (.istore_n 2, 1) := by decide +kernel
theorem dX12_wedIn_34 : decode cX12_wedIn 34 = .ok (.iload_n 3, 1) := by decide +kernel
theorem dX12_wedIn_35 : decode cX12_wedIn 35 = .ok (.aload_n 1, 1) := by decide +kernel
theorem dX12_wedIn_36 : decode cX12_wedIn 36 = .ok (.iconst 4, 1) := by decide +kernel
theorem dX12_wedIn_37 : decode cX12_wedIn 37 = .ok (.iaload, 1) := by decide +kernel
theorem dX12_wedIn_38 : decode cX12_wedIn 38 = .ok (.iload 4, 2) := by decide +kernel
theorem dX12_wedIn_40 : decode cX12_wedIn 40 = .ok (.invokestatic 112, 3) := by decide +kernel
theorem dX12_wedIn_43 : decode cX12_wedIn 43 = .ok (.ifCond .eq 7, 3) := by decide +kernel
theorem dX12_wedIn_46 : decode cX12_wedIn 46 = .ok (.iconst 0, 1) := by decide +kernel
theorem dX12_wedIn_47 : decode cX12_wedIn 47 = .ok (.goto 4, 3) := by decide +kernel
theorem dX12_wedIn_50 : decode cX12_wedIn 50 = .ok (.iconst 1, 1) := by decide +kernel
theorem dX12_wedIn_51 : decode cX12_wedIn 51 = .ok (.iadd, 1) := by decide +kernel
theorem dX12_wedIn_52 : decode cX12_wedIn 52 = .ok (.istore_n 3, 1) := by decide +kernel
theorem dX12_wedIn_53 : decode cX12_wedIn 53 = .ok (.iinc 4 1, 3) := by decide +kernel
theorem dX12_wedIn_56 : decode cX12_wedIn 56 = .ok (.goto (-49), 3) := by decide +kernel
theorem dX12_wedIn_59 : decode cX12_wedIn 59 = .ok (.aload_n 0, 1) := by decide +kernel
theorem dX12_wedIn_60 : decode cX12_wedIn 60 = .ok (.getfield 79, 3) := by decide +kernel
theorem dX12_wedIn_63 : decode cX12_wedIn 63 = .ok (.iconst 1, 1) := by decide +kernel
theorem dX12_wedIn_64 : decode cX12_wedIn 64 = .ok (.if_icmp .le 12, 3) := by decide +kernel
theorem dX12_wedIn_67 : decode cX12_wedIn 67 = .ok (.iload_n 3, 1) := by decide +kernel
theorem dX12_wedIn_68 : decode cX12_wedIn 68 = .ok (.iconst 1, 1) := by decide +kernel
theorem dX12_wedIn_69 : decode cX12_wedIn 69 = .ok (.if_icmp .ne 7, 3) := by decide +kernel
theorem dX12_wedIn_72 : decode cX12_wedIn 72 = .ok (.iload_n 2, 1) := by decide +kernel
theorem dX12_wedIn_73 : decode cX12_wedIn 73 = .ok (.goto 4, 3) := by decide +kernel
theorem dX12_wedIn_76 : decode cX12_wedIn 76 = .ok (.iconst (-1), 1) := by decide +kernel
theorem dX12_wedIn_77 : decode cX12_wedIn 77 = .ok (.ireturn, 1) := by decide +kernel
theorem dX12_told_0 : decode cX12_told 0 = .ok (.iload_n 1, 1) := by decide +kernel
theorem dX12_told_1 : decode cX12_told 1 = .ok (.tableswitch 184 0 14 #[75, 80, 85, 90, 95, 102, 111, 118, 127, 134, 141, 164, 169, 174, 179], 75) := by decide +kernel
theorem dX12_told_76 : decode cX12_told 76 = .ok (.aload_n 0, 1) := by decide +kernel
theorem dX12_told_77 : decode cX12_told 77 = .ok (.getfield 72, 3) := by decide +kernel
theorem dX12_told_80 : decode cX12_told 80 = .ok (.ireturn, 1) := by decide +kernel
theorem dX12_told_81 : decode cX12_told 81 = .ok (.aload_n 0, 1) := by decide +kernel
theorem dX12_told_82 : decode cX12_told 82 = .ok (.getfield 163, 3) := by decide +kernel
theorem dX12_told_85 : decode cX12_told 85 = .ok (.ireturn, 1) := by decide +kernel
theorem dX12_told_86 : decode cX12_told 86 = .ok (.aload_n 0, 1) := by decide +kernel
theorem dX12_told_87 : decode cX12_told 87 = .ok (.getfield 79, 3) := by decide +kernel
theorem dX12_told_90 : decode cX12_told 90 = .ok (.ireturn, 1) := by decide +kernel
theorem dX12_told_91 : decode cX12_told 91 = .ok (.aload_n 0, 1) := by decide +kernel
theorem dX12_told_92 : decode cX12_told 92 = .ok (.getfield 83, 3) := by decide +kernel
theorem dX12_told_95 : decode cX12_told 95 = .ok (.ireturn, 1) := by decide +kernel
theorem dX12_told_96 : decode cX12_told 96 = .ok (.aload_n 0, 1) := by decide +kernel
theorem dX12_told_97 : decode cX12_told 97 = .ok (.getfield 35, 3) := by decide +kernel
theorem dX12_told_100 : decode cX12_told 100 = .ok (.iconst 0, 1) := by decide +kernel
theorem dX12_told_101 : decode cX12_told 101 = .ok (.iaload, 1) := by decide +kernel
theorem dX12_told_102 : decode cX12_told 102 = .ok (.ireturn, 1) := by decide +kernel
theorem dX12_told_103 : decode cX12_told 103 = .ok (.aload_n 0, 1) := by decide +kernel
theorem dX12_told_104 : decode cX12_told 104 = .ok (.aload_n 0, 1) := by decide +kernel
theorem dX12_told_105 : decode cX12_told 105 = .ok (.getfield 35, 3) := by decide +kernel
theorem dX12_told_108 : decode cX12_told 108 = .ok (.invokevirtual 182, 3) := by decide +kernel
theorem dX12_told_111 : decode cX12_told 111 = .ok (.ireturn, 1) := by decide +kernel
theorem dX12_told_112 : decode cX12_told 112 = .ok (.aload_n 0, 1) := by decide +kernel
theorem dX12_told_113 : decode cX12_told 113 = .ok (.getfield 35, 3) := by decide +kernel
theorem dX12_told_116 : decode cX12_told 116 = .ok (.iconst 4, 1) := by decide +kernel
theorem dX12_told_117 : decode cX12_told 117 = .ok (.iaload, 1) := by decide +kernel
theorem dX12_told_118 : decode cX12_told 118 = .ok (.ireturn, 1) := by decide +kernel
theorem dX12_told_119 : decode cX12_told 119 = .ok (.aload_n 0, 1) := by decide +kernel
theorem dX12_told_120 : decode cX12_told 120 = .ok (.aload_n 0, 1) := by decide +kernel
theorem dX12_told_121 : decode cX12_told 121 = .ok (.getfield 35, 3) := by decide +kernel
theorem dX12_told_124 : decode cX12_told 124 = .ok (.invokevirtual 186, 3) := by decide +kernel
theorem dX12_told_127 : decode cX12_told 127 = .ok (.ireturn, 1) := by decide +kernel
theorem dX12_told_128 : decode cX12_told 128 = .ok (.aload_n 0, 1) := by decide +kernel
theorem dX12_told_129 : decode cX12_told 129 = .ok (.getfield 35, 3) := by decide +kernel
theorem dX12_told_132 : decode cX12_told 132 = .ok (.iconst 2, 1) := by decide +kernel
theorem dX12_told_133 : decode cX12_told 133 = .ok (.iaload, 1) := by decide +kernel
theorem dX12_told_134 : decode cX12_told 134 = .ok (.ireturn, 1) := by decide +kernel
theorem dX12_told_135 : decode cX12_told 135 = .ok (.aload_n 0, 1) := by decide +kernel
theorem dX12_told_136 : decode cX12_told 136 = .ok (.getfield 35, 3) := by decide +kernel
theorem dX12_told_139 : decode cX12_told 139 = .ok (.iconst 3, 1) := by decide +kernel
theorem dX12_told_140 : decode cX12_told 140 = .ok (.iaload, 1) := by decide +kernel
theorem dX12_told_141 : decode cX12_told 141 = .ok (.ireturn, 1) := by decide +kernel
theorem dX12_told_142 : decode cX12_told 142 = .ok (.aload_n 0, 1) := by decide +kernel
theorem dX12_told_143 : decode cX12_told 143 = .ok (.getfield 163, 3) := by decide +kernel
theorem dX12_told_146 : decode cX12_told 146 = .ok (.ifCond .ne 7, 3) := by decide +kernel
theorem dX12_told_149 : decode cX12_told 149 = .ok (.iconst 0, 1) := by decide +kernel
theorem dX12_told_150 : decode cX12_told 150 = .ok (.goto 14, 3) := by decide +kernel
theorem dX12_told_153 : decode cX12_told 153 = .ok (.aload_n 0, 1) := by decide +kernel
theorem dX12_told_154 : decode cX12_told 154 = .ok (.getfield 35, 3) := by decide +kernel
theorem dX12_told_157 : decode cX12_told 157 = .ok (.iconst 1, 1) := by decide +kernel
theorem dX12_told_158 : decode cX12_told 158 = .ok (.iaload, 1) := by decide +kernel
theorem dX12_told_159 : decode cX12_told 159 = .ok (.aload_n 0, 1) := by decide +kernel
theorem dX12_told_160 : decode cX12_told 160 = .ok (.getfield 163, 3) := by decide +kernel
theorem dX12_told_163 : decode cX12_told 163 = .ok (.irem, 1) := by decide +kernel
theorem dX12_told_164 : decode cX12_told 164 = .ok (.ireturn, 1) := by decide +kernel
theorem dX12_told_165 : decode cX12_told 165 = .ok (.aload_n 0, 1) := by decide +kernel
theorem dX12_told_166 : decode cX12_told 166 = .ok (.getfield 173, 3) := by decide +kernel
theorem dX12_told_169 : decode cX12_told 169 = .ok (.ireturn, 1) := by decide +kernel
theorem dX12_told_170 : decode cX12_told 170 = .ok (.aload_n 0, 1) := by decide +kernel
theorem dX12_told_171 : decode cX12_told 171 = .ok (.invokevirtual 189, 3) := by decide +kernel
theorem dX12_told_174 : decode cX12_told 174 = .ok (.ireturn, 1) := by decide +kernel
theorem dX12_told_175 : decode cX12_told 175 = .ok (.aload_n 0, 1) := by decide +kernel
theorem dX12_told_176 : decode cX12_told 176 = .ok (.getfield 176, 3) := by decide +kernel
theorem dX12_told_179 : decode cX12_told 179 = .ok (.ireturn, 1) := by decide +kernel
theorem dX12_told_180 : decode cX12_told 180 = .ok (.aload_n 0, 1) := by decide +kernel
theorem dX12_told_181 : decode cX12_told 181 = .ok (.getfield 179, 3) := by decide +kernel
theorem dX12_told_184 : decode cX12_told 184 = .ok (.ireturn, 1) := by decide +kernel
theorem dX12_told_185 : decode cX12_told 185 = .ok (.ldc 82, 2) := by decide +kernel
theorem dX12_told_187 : decode cX12_told 187 = .ok (.ireturn, 1) := by decide +kernel
theorem dX12_method_0 : decode cX12_method 0 = .ok (.aload_n 0, 1) := by decide +kernel
theorem dX12_method_1 : decode cX12_method 1 = .ok (.invokevirtual 193, 3) := by decide +kernel
theorem dX12_method_4 : decode cX12_method 4 = .ok (.ifCond .ne 6, 3) := by decide +kernel
theorem dX12_method_7 : decode cX12_method 7 = .ok (.ldc 196, 2) := by decide +kernel
theorem dX12_method_9 : decode cX12_method 9 = .ok (.ireturn, 1) := by decide +kernel
theorem dX12_method_10 : decode cX12_method 10 = .ok (.iload_n 1, 1) := by decide +kernel
theorem dX12_method_11 : decode cX12_method 11 = .ok (.iconst (-1), 1) := by decide +kernel
theorem dX12_method_12 : decode cX12_method 12 = .ok (.if_icmp .ne 10, 3) := by decide +kernel
theorem dX12_method_15 : decode cX12_method 15 = .ok (.aload_n 0, 1) := by decide +kernel
theorem dX12_method_16 : decode cX12_method 16 = .ok (.getfield 166, 3) := by decide +kernel
theorem dX12_method_19 : decode cX12_method 19 = .ok (.goto 27, 3) := by decide +kernel
theorem dX12_method_22 : decode cX12_method 22 = .ok (.iload_n 1, 1) := by decide +kernel
theorem dX12_method_23 : decode cX12_method 23 = .ok (.iconst 0, 1) := by decide +kernel
theorem dX12_method_24 : decode cX12_method 24 = .ok (.aload_n 0, 1) := by decide +kernel
theorem dX12_method_25 : decode cX12_method 25 = .ok (.getfield 163, 3) := by decide +kernel
theorem dX12_method_28 : decode cX12_method 28 = .ok (.iconst 1, 1) := by decide +kernel
theorem dX12_method_29 : decode cX12_method 29 = .ok (.isub, 1) := by decide +kernel
theorem dX12_method_30 : decode cX12_method 30 = .ok (.invokestatic 75, 3) := by decide +kernel
theorem dX12_method_33 : decode cX12_method 33 = .ok (.ifCond .eq 12, 3) := by decide +kernel
theorem dX12_method_36 : decode cX12_method 36 = .ok (.aload_n 0, 1) := by decide +kernel
theorem dX12_method_37 : decode cX12_method 37 = .ok (.getfield 29, 3) := by decide +kernel
theorem dX12_method_40 : decode cX12_method 40 = .ok (.iload_n 1, 1) := by decide +kernel
theorem dX12_method_41 : decode cX12_method 41 = .ok (.iaload, 1) := by decide +kernel
theorem dX12_method_42 : decode cX12_method 42 = .ok (.goto 4, 3) := by decide +kernel
theorem dX12_method_45 : decode cX12_method 45 = .ok (.iconst (-1), 1) := by decide +kernel
theorem dX12_method_46 : decode cX12_method 46 = .ok (.ireturn, 1) := by decide +kernel
theorem dX12_placeOf_0 : decode cX12_placeOf 0 = .ok (.iconst 0, 1) := by decide +kernel
theorem dX12_placeOf_1 : decode cX12_placeOf 1 = .ok (.istore_n 3, 1) := by decide +kernel
theorem dX12_placeOf_2 : decode cX12_placeOf 2 = .ok (.iconst 0, 1) := by decide +kernel
theorem dX12_placeOf_3 : decode cX12_placeOf 3 = .ok (.istore 4, 2) := by decide +kernel
theorem dX12_placeOf_5 : decode cX12_placeOf 5 = .ok (.iload 4, 2) := by decide +kernel
theorem dX12_placeOf_7 : decode cX12_placeOf 7 = .ok (.aload_n 0, 1) := by decide +kernel
theorem dX12_placeOf_8 : decode cX12_placeOf 8 = .ok (.getfield 72, 3) := by decide +kernel
theorem dX12_placeOf_11 : decode cX12_placeOf 11 = .ok (.if_icmp .ge 26, 3) := by decide +kernel
theorem dX12_placeOf_14 : decode cX12_placeOf 14 = .ok (.aload_n 1, 1) := by decide +kernel
theorem dX12_placeOf_15 : decode cX12_placeOf 15 = .ok (.iconst 5, 1) := by decide +kernel
theorem dX12_placeOf_16 : decode cX12_placeOf 16 = .ok (.iload 4, 2) := by decide +kernel
theorem dX12_placeOf_18 : decode cX12_placeOf 18 = .ok (.iadd, 1) := by decide +kernel
theorem dX12_placeOf_19 : decode cX12_placeOf 19 = .ok (.iaload, 1) := by decide +kernel
theorem dX12_placeOf_20 : decode cX12_placeOf 20 = .ok (.iload_n 2, 1) := by decide +kernel
theorem dX12_placeOf_21 : decode cX12_placeOf 21 = .ok (.if_icmp .ne 8, 3) := by decide +kernel
theorem dX12_placeOf_24 : decode cX12_placeOf 24 = .ok (.iload 4, 2) := by decide +kernel
theorem dX12_placeOf_26 : decode cX12_placeOf 26 = .ok (.goto 4, 3) := by decide +kernel
theorem dX12_placeOf_29 : decode cX12_placeOf 29 = .ok (.iload_n 3, 1) := by decide +kernel
theorem dX12_placeOf_30 : decode cX12_placeOf 30 = .ok (.istore_n 3, 1) := by decide +kernel
theorem dX12_placeOf_31 : decode cX12_placeOf 31 = .ok (.iinc 4 1, 3) := by decide +kernel
theorem dX12_placeOf_34 : decode cX12_placeOf 34 = .ok (.goto (-29), 3) := by decide +kernel
theorem dX12_placeOf_37 : decode cX12_placeOf 37 = .ok (.iload_n 3, 1) := by decide +kernel
theorem dX12_placeOf_38 : decode cX12_placeOf 38 = .ok (.ireturn, 1) := by decide +kernel
theorem dX12_ringerOf_0 : decode cX12_ringerOf 0 = .ok (.iconst (-1), 1) := by decide +kernel
theorem dX12_ringerOf_1 : decode cX12_ringerOf 1 = .ok (.istore_n 2, 1) := by decide +kernel
theorem dX12_ringerOf_2 : decode cX12_ringerOf 2 = .ok (.iconst 0, 1) := by decide +kernel
theorem dX12_ringerOf_3 : decode cX12_ringerOf 3 = .ok (.istore_n 3, 1) := by decide +kernel
theorem dX12_ringerOf_4 : decode cX12_ringerOf 4 = .ok (.iload_n 3, 1) := by decide +kernel
theorem dX12_ringerOf_5 : decode cX12_ringerOf 5 = .ok (.aload_n 0, 1) := by decide +kernel
theorem dX12_ringerOf_6 : decode cX12_ringerOf 6 = .ok (.getfield 79, 3) := by decide +kernel
theorem dX12_ringerOf_9 : decode cX12_ringerOf 9 = .ok (.if_icmp .ge 28, 3) := by decide +kernel
theorem dX12_ringerOf_12 : decode cX12_ringerOf 12 = .ok (.aload_n 0, 1) := by decide +kernel
theorem dX12_ringerOf_13 : decode cX12_ringerOf 13 = .ok (.getfield 35, 3) := by decide +kernel
theorem dX12_ringerOf_16 : decode cX12_ringerOf 16 = .ok (.bipush 11, 2) := by decide +kernel
theorem dX12_ringerOf_18 : decode cX12_ringerOf 18 = .ok (.iload_n 3, 1) := by decide +kernel
theorem dX12_ringerOf_19 : decode cX12_ringerOf 19 = .ok (.iadd, 1) := by decide +kernel
theorem dX12_ringerOf_20 : decode cX12_ringerOf 20 = .ok (.iaload, 1) := by decide +kernel
theorem dX12_ringerOf_21 : decode cX12_ringerOf 21 = .ok (.iload_n 1, 1) := by decide +kernel
theorem dX12_ringerOf_22 : decode cX12_ringerOf 22 = .ok (.if_icmp .ne 7, 3) := by decide +kernel
theorem dX12_ringerOf_25 : decode cX12_ringerOf 25 = .ok (.iload_n 3, 1) := by decide +kernel
theorem dX12_ringerOf_26 : decode cX12_ringerOf 26 = .ok (.goto 4, 3) := by decide +kernel
theorem dX12_ringerOf_29 : decode cX12_ringerOf 29 = .ok (.iload_n 2, 1) := by decide +kernel
theorem dX12_ringerOf_30 : decode cX12_ringerOf 30 = .ok (.istore_n 2, 1) := by decide +kernel
theorem dX12_ringerOf_31 : decode cX12_ringerOf 31 = .ok (.iinc 3 1, 3) := by decide +kernel
theorem dX12_ringerOf_34 : decode cX12_ringerOf 34 = .ok (.goto (-30), 3) := by decide +kernel
theorem dX12_ringerOf_37 : decode cX12_ringerOf 37 = .ok (.iload_n 2, 1) := by decide +kernel
theorem dX12_ringerOf_38 : decode cX12_ringerOf 38 = .ok (.ireturn, 1) := by decide +kernel
theorem dX12_bell_0 : decode cX12_bell 0 = .ok (.aload_n 0, 1) := by decide +kernel
theorem dX12_bell_1 : decode cX12_bell 1 = .ok (.iload_n 1, 1) := by decide +kernel
theorem dX12_bell_2 : decode cX12_bell 2 = .ok (.invokevirtual 197, 3) := by decide +kernel
theorem dX12_bell_5 : decode cX12_bell 5 = .ok (.ifCond .ne 6, 3) := by decide +kernel
theorem dX12_bell_8 : decode cX12_bell 8 = .ok (.ldc 200, 2) := by decide +kernel
theorem dX12_bell_10 : decode cX12_bell 10 = .ok (.ireturn, 1) := by decide +kernel
theorem dX12_bell_11 : decode cX12_bell 11 = .ok (.iload_n 2, 1) := by decide +kernel
theorem dX12_bell_12 : decode cX12_bell 12 = .ok (.ifCond .ne 12, 3) := by decide +kernel
theorem dX12_bell_15 : decode cX12_bell 15 = .ok (.aload_n 0, 1) := by decide +kernel
theorem dX12_bell_16 : decode cX12_bell 16 = .ok (.getfield 26, 3) := by decide +kernel
theorem dX12_bell_19 : decode cX12_bell 19 = .ok (.iload_n 1, 1) := by decide +kernel
theorem dX12_bell_20 : decode cX12_bell 20 = .ok (.iaload, 1) := by decide +kernel
theorem dX12_bell_21 : decode cX12_bell 21 = .ok (.goto 35, 3) := by decide +kernel
theorem dX12_bell_24 : decode cX12_bell 24 = .ok (.iload_n 2, 1) := by decide +kernel
theorem dX12_bell_25 : decode cX12_bell 25 = .ok (.iconst 1, 1) := by decide +kernel
theorem dX12_bell_26 : decode cX12_bell 26 = .ok (.if_icmp .ne 15, 3) := by decide +kernel
theorem dX12_bell_29 : decode cX12_bell 29 = .ok (.aload_n 0, 1) := by decide +kernel
theorem dX12_bell_30 : decode cX12_bell 30 = .ok (.aload_n 0, 1) := by decide +kernel
theorem dX12_bell_31 : decode cX12_bell 31 = .ok (.getfield 35, 3) := by decide +kernel
theorem dX12_bell_34 : decode cX12_bell 34 = .ok (.iload_n 1, 1) := by decide +kernel
theorem dX12_bell_35 : decode cX12_bell 35 = .ok (.invokevirtual 201, 3) := by decide +kernel
theorem dX12_bell_38 : decode cX12_bell 38 = .ok (.goto 18, 3) := by decide +kernel
theorem dX12_bell_41 : decode cX12_bell 41 = .ok (.iload_n 2, 1) := by decide +kernel
theorem dX12_bell_42 : decode cX12_bell 42 = .ok (.iconst 2, 1) := by decide +kernel
theorem dX12_bell_43 : decode cX12_bell 43 = .ok (.if_icmp .ne 11, 3) := by decide +kernel
theorem dX12_bell_46 : decode cX12_bell 46 = .ok (.aload_n 0, 1) := by decide +kernel
theorem dX12_bell_47 : decode cX12_bell 47 = .ok (.iload_n 1, 1) := by decide +kernel
theorem dX12_bell_48 : decode cX12_bell 48 = .ok (.invokevirtual 205, 3) := by decide +kernel
theorem dX12_bell_51 : decode cX12_bell 51 = .ok (.goto 5, 3) := by decide +kernel
theorem dX12_bell_54 : decode cX12_bell 54 = .ok (.ldc 82, 2) := by decide +kernel
theorem dX12_bell_56 : decode cX12_bell 56 = .ok (.ireturn, 1) := by decide +kernel
theorem dX12_suitor_0 : decode cX12_suitor 0 = .ok (.aload_n 0, 1) := by decide +kernel
theorem dX12_suitor_1 : decode cX12_suitor 1 = .ok (.iload_n 1, 1) := by decide +kernel
theorem dX12_suitor_2 : decode cX12_suitor 2 = .ok (.invokevirtual 209, 3) := by decide +kernel
theorem dX12_suitor_5 : decode cX12_suitor 5 = .ok (.ifCond .ne 6, 3) := by decide +kernel
theorem dX12_suitor_8 : decode cX12_suitor 8 = .ok (.ldc 200, 2) := by decide +kernel
theorem dX12_suitor_10 : decode cX12_suitor 10 = .ok (.ireturn, 1) := by decide +kernel
theorem dX12_suitor_11 : decode cX12_suitor 11 = .ok (.iload_n 2, 1) := by decide +kernel
theorem dX12_suitor_12 : decode cX12_suitor 12 = .ok (.tableswitch 70 0 3 #[32, 39, 49, 59], 32) := by decide +kernel
theorem dX12_suitor_44 : decode cX12_suitor 44 = .ok (.aload_n 0, 1) := by decide +kernel
theorem dX12_suitor_45 : decode cX12_suitor 45 = .ok (.getfield 32, 3) := by decide +kernel
theorem dX12_suitor_48 : decode cX12_suitor 48 = .ok (.iload_n 1, 1) := by decide +kernel
theorem dX12_suitor_49 : decode cX12_suitor 49 = .ok (.iaload, 1) := by decide +kernel
theorem dX12_suitor_50 : decode cX12_suitor 50 = .ok (.ireturn, 1) := by decide +kernel
theorem dX12_suitor_51 : decode cX12_suitor 51 = .ok (.aload_n 0, 1) := by decide +kernel
theorem dX12_suitor_52 : decode cX12_suitor 52 = .ok (.getfield 35, 3) := by decide +kernel
theorem dX12_suitor_55 : decode cX12_suitor 55 = .ok (.bipush 11, 2) := by decide +kernel
theorem dX12_suitor_57 : decode cX12_suitor 57 = .ok (.iload_n 1, 1) := by decide +kernel
theorem dX12_suitor_58 : decode cX12_suitor 58 = .ok (.iadd, 1) := by decide +kernel
theorem dX12_suitor_59 : decode cX12_suitor 59 = .ok (.iaload, 1) := by decide +kernel
theorem dX12_suitor_60 : decode cX12_suitor 60 = .ok (.ireturn, 1) := by decide +kernel
theorem dX12_suitor_61 : decode cX12_suitor 61 = .ok (.aload_n 0, 1) := by decide +kernel
theorem dX12_suitor_62 : decode cX12_suitor 62 = .ok (.getfield 35, 3) := by decide +kernel
theorem dX12_suitor_65 : decode cX12_suitor 65 = .ok (.bipush 17, 2) := by decide +kernel
theorem dX12_suitor_67 : decode cX12_suitor 67 = .ok (.iload_n 1, 1) := by decide +kernel
theorem dX12_suitor_68 : decode cX12_suitor 68 = .ok (.iadd, 1) := by decide +kernel
theorem dX12_suitor_69 : decode cX12_suitor 69 = .ok (.iaload, 1) := by decide +kernel
theorem dX12_suitor_70 : decode cX12_suitor 70 = .ok (.ireturn, 1) := by decide +kernel
theorem dX12_suitor_71 : decode cX12_suitor 71 = .ok (.aload_n 0, 1) := by decide +kernel
theorem dX12_suitor_72 : decode cX12_suitor 72 = .ok (.getfield 35, 3) := by decide +kernel
theorem dX12_suitor_75 : decode cX12_suitor 75 = .ok (.iconst 4, 1) := by decide +kernel
theorem dX12_suitor_76 : decode cX12_suitor 76 = .ok (.iaload, 1) := by decide +kernel
theorem dX12_suitor_77 : decode cX12_suitor 77 = .ok (.iload_n 1, 1) := by decide +kernel
theorem dX12_suitor_78 : decode cX12_suitor 78 = .ok (.ishr, 1) := by decide +kernel
theorem dX12_suitor_79 : decode cX12_suitor 79 = .ok (.iconst 1, 1) := by decide +kernel
theorem dX12_suitor_80 : decode cX12_suitor 80 = .ok (.iand, 1) := by decide +kernel
theorem dX12_suitor_81 : decode cX12_suitor 81 = .ok (.ireturn, 1) := by decide +kernel
theorem dX12_suitor_82 : decode cX12_suitor 82 = .ok (.ldc 82, 2) := by decide +kernel
theorem dX12_suitor_84 : decode cX12_suitor 84 = .ok (.ireturn, 1) := by decide +kernel
theorem dX12_note_0 : decode cX12_note 0 = .ok (.aload_n 0, 1) := by decide +kernel
theorem dX12_note_1 : decode cX12_note 1 = .ok (.getfield 179, 3) := by decide +kernel
theorem dX12_note_4 : decode cX12_note 4 = .ok (.bipush 16, 2) := by decide +kernel
theorem dX12_note_6 : decode cX12_note 6 = .ok (.if_icmp .ne 30, 3) := by decide +kernel
theorem dX12_note_9 : decode cX12_note 9 = .ok (.aload_n 0, 1) := by decide +kernel
theorem dX12_note_10 : decode cX12_note 10 = .ok (.getfield 41, 3) := by decide +kernel
theorem dX12_note_13 : decode cX12_note 13 = .ok (.bipush 23, 2) := by decide +kernel
theorem dX12_note_15 : decode cX12_note 15 = .ok (.aload_n 0, 1) := by decide +kernel
theorem dX12_note_16 : decode cX12_note 16 = .ok (.getfield 41, 3) := by decide +kernel
theorem dX12_note_19 : decode cX12_note 19 = .ok (.iconst 0, 1) := by decide +kernel
theorem dX12_note_20 : decode cX12_note 20 = .ok (.sipush 345, 3) := by decide +kernel
theorem dX12_note_23 : decode cX12_note 23 = .ok (.invokestatic 159, 3) := by decide +kernel
theorem dX12_note_26 : decode cX12_note 26 = .ok (.aload_n 0, 1) := by decide +kernel
theorem dX12_note_27 : decode cX12_note 27 = .ok (.dup, 1) := by decide +kernel
theorem dX12_note_28 : decode cX12_note 28 = .ok (.getfield 179, 3) := by decide +kernel
theorem dX12_note_31 : decode cX12_note 31 = .ok (.iconst 1, 1) := by decide +kernel
theorem dX12_note_32 : decode cX12_note 32 = .ok (.isub, 1) := by decide +kernel
theorem dX12_note_33 : decode cX12_note 33 = .ok (.putfield 179, 3) := by decide +kernel
theorem dX12_note_36 : decode cX12_note 36 = .ok (.aload_n 0, 1) := by decide +kernel
theorem dX12_note_37 : decode cX12_note 37 = .ok (.getfield 35, 3) := by decide +kernel
theorem dX12_note_40 : decode cX12_note 40 = .ok (.iconst 0, 1) := by decide +kernel
theorem dX12_note_41 : decode cX12_note 41 = .ok (.aload_n 0, 1) := by decide +kernel
theorem dX12_note_42 : decode cX12_note 42 = .ok (.getfield 41, 3) := by decide +kernel
theorem dX12_note_45 : decode cX12_note 45 = .ok (.bipush 23, 2) := by decide +kernel
theorem dX12_note_47 : decode cX12_note 47 = .ok (.aload_n 0, 1) := by decide +kernel
theorem dX12_note_48 : decode cX12_note 48 = .ok (.getfield 179, 3) := by decide +kernel
theorem dX12_note_51 : decode cX12_note 51 = .ok (.imul, 1) := by decide +kernel
theorem dX12_note_52 : decode cX12_note 52 = .ok (.bipush 23, 2) := by decide +kernel
theorem dX12_note_54 : decode cX12_note 54 = .ok (.invokestatic 159, 3) := by decide +kernel
theorem dX12_note_57 : decode cX12_note 57 = .ok (.aload_n 0, 1) := by decide +kernel
theorem dX12_note_58 : decode cX12_note 58 = .ok (.dup, 1) := by decide +kernel
theorem dX12_note_59 : decode cX12_note 59 = .ok (.getfield 179, 3) := by decide +kernel
theorem dX12_note_62 : decode cX12_note 62 = .ok (.iconst 1, 1) := by decide +kernel
theorem dX12_note_63 : decode cX12_note 63 = .ok (.iadd, 1) := by decide +kernel
theorem dX12_note_64 : decode cX12_note 64 = .ok (.putfield 179, 3) := by decide +kernel
theorem dX12_note_67 : decode cX12_note 67 = .ok (.return_, 1) := by decide +kernel
theorem dX12_changes_0 : decode cX12_changes 0 = .ok (.iconst 0, 1) := by decide +kernel
theorem dX12_changes_1 : decode cX12_changes 1 = .ok (.istore_n 3, 1) := by decide +kernel
theorem dX12_changes_2 : decode cX12_changes 2 = .ok (.iload_n 3, 1) := by decide +kernel
theorem dX12_changes_3 : decode cX12_changes 3 = .ok (.aload_n 0, 1) := by decide +kernel
theorem dX12_changes_4 : decode cX12_changes 4 = .ok (.getfield 72, 3) := by decide +kernel
theorem dX12_changes_7 : decode cX12_changes 7 = .ok (.if_icmp .ge 51, 3) := by decide +kernel
theorem dX12_changes_10 : decode cX12_changes 10 = .ok (.iload_n 2, 1) := by decide +kernel
theorem dX12_changes_11 : decode cX12_changes 11 = .ok (.iload_n 3, 1) := by decide +kernel
theorem dX12_changes_12 : decode cX12_changes 12 = .ok (.invokestatic 112, 3) := by decide +kernel
theorem dX12_changes_15 : decode cX12_changes 15 = .ok (.ifCond .eq 9, 3) := by decide +kernel
theorem dX12_changes_18 : decode cX12_changes 18 = .ok (.iinc 3 1, 3) := by decide +kernel
theorem dX12_changes_21 : decode cX12_changes 21 = .ok (.goto (-19), 3) := by decide +kernel
theorem dX12_changes_24 : decode cX12_changes 24 = .ok (.aload_n 1, 1) := by decide +kernel
theorem dX12_changes_25 : decode cX12_changes 25 = .ok (.iconst 5, 1) := by decide +kernel
theorem dX12_changes_26 : decode cX12_changes 26 = .ok (.iload_n 3, 1) := by decide +kernel
theorem dX12_changes_27 : decode cX12_changes 27 = .ok (.iadd, 1) := by decide +kernel
theorem dX12_changes_28 : decode cX12_changes 28 = .ok (.iaload, 1) := by decide +kernel
theorem dX12_changes_29 : decode cX12_changes 29 = .ok (.istore 4, 2) := by decide +kernel
theorem dX12_changes_31 : decode cX12_changes 31 = .ok (.aload_n 1, 1) := by decide +kernel
theorem dX12_changes_32 : decode cX12_changes 32 = .ok (.iconst 5, 1) := by decide +kernel
theorem dX12_changes_33 : decode cX12_changes 33 = .ok (.iload_n 3, 1) := by decide +kernel
theorem dX12_changes_34 : decode cX12_changes 34 = .ok (.iadd, 1) := by decide +kernel
theorem dX12_changes_35 : decode cX12_changes 35 = .ok (.aload_n 1, 1) := by decide +kernel
theorem dX12_changes_36 : decode cX12_changes 36 = .ok (.iconst 5, 1) := by decide +kernel
theorem dX12_changes_37 : decode cX12_changes 37 = .ok (.iload_n 3, 1) := by decide +kernel
theorem dX12_changes_38 : decode cX12_changes 38 = .ok (.iadd, 1) := by decide +kernel
theorem dX12_changes_39 : decode cX12_changes 39 = .ok (.iconst 1, 1) := by decide +kernel
theorem dX12_changes_40 : decode cX12_changes 40 = .ok (.iadd, 1) := by decide +kernel
theorem dX12_changes_41 : decode cX12_changes 41 = .ok (.iaload, 1) := by decide +kernel
theorem dX12_changes_42 : decode cX12_changes 42 = .ok (.iastore, 1) := by decide +kernel
theorem dX12_changes_43 : decode cX12_changes 43 = .ok (.aload_n 1, 1) := by decide +kernel
theorem dX12_changes_44 : decode cX12_changes 44 = .ok (.iconst 5, 1) := by decide +kernel
theorem dX12_changes_45 : decode cX12_changes 45 = .ok (.iload_n 3, 1) := by decide +kernel
theorem dX12_changes_46 : decode cX12_changes 46 = .ok (.iadd, 1) := by decide +kernel
theorem dX12_changes_47 : decode cX12_changes 47 = .ok (.iconst 1, 1) := by decide +kernel
theorem dX12_changes_48 : decode cX12_changes 48 = .ok (.iadd, 1) := by decide +kernel
theorem dX12_changes_49 : decode cX12_changes 49 = .ok (.iload 4, 2) := by decide +kernel
theorem dX12_changes_51 : decode cX12_changes 51 = .ok (.iastore, 1) := by decide +kernel
theorem dX12_changes_52 : decode cX12_changes 52 = .ok (.iinc 3 2, 3) := by decide +kernel
theorem dX12_changes_55 : decode cX12_changes 55 = .ok (.goto (-53), 3) := by decide +kernel
theorem dX12_changes_58 : decode cX12_changes 58 = .ok (.return_, 1) := by decide +kernel
theorem dX12_goesOut_0 : decode cX12_goesOut 0 = .ok (.iconst 0, 1) := by decide +kernel
theorem dX12_goesOut_1 : decode cX12_goesOut 1 = .ok (.istore_n 2, 1) := by decide +kernel
theorem dX12_goesOut_2 : decode cX12_goesOut 2 = .ok (.iconst (-1), 1) := by decide +kernel
theorem dX12_goesOut_3 : decode cX12_goesOut 3 = .ok (.istore_n 3, 1) := by decide +kernel
theorem dX12_goesOut_4 : decode cX12_goesOut 4 = .ok (.iconst 0, 1) := by decide +kernel
theorem dX12_goesOut_5 : decode cX12_goesOut 5 = .ok (.istore 4, 2) := by decide +kernel
theorem dX12_goesOut_7 : decode cX12_goesOut 7 = .ok (.iload 4, 2) := by decide +kernel
theorem dX12_goesOut_9 : decode cX12_goesOut 9 = .ok (.aload_n 0, 1) := by decide +kernel
theorem dX12_goesOut_10 : decode cX12_goesOut 10 = .ok (.getfield 79, 3) := by decide +kernel
theorem dX12_goesOut_13 : decode cX12_goesOut 13 = .ok (.if_icmp .ge 55, 3) := by decide +kernel
theorem dX12_goesOut_16 : decode cX12_goesOut 16 = .ok (.iload_n 2, 1) := by decide +kernel
theorem dX12_goesOut_17 : decode cX12_goesOut 17 = .ok (.aload_n 1, 1) := by decide +kernel
theorem dX12_goesOut_18 : decode cX12_goesOut 18 = .ok (.iconst 4, 1) := by decide +kernel
theorem dX12_goesOut_19 : decode cX12_goesOut 19 = .ok (.iaload, 1) := by decide +kernel
theorem dX12_goesOut_20 : decode cX12_goesOut 20 = .ok (.iload 4, 2) := by decide +kernel
theorem dX12_goesOut_22 : decode cX12_goesOut 22 = .ok (.invokestatic 112, 3) := by decide +kernel
theorem dX12_goesOut_25 : decode cX12_goesOut 25 = .ok (.ifCond .eq 7, 3) := by decide +kernel
theorem dX12_goesOut_28 : decode cX12_goesOut 28 = .ok (.iconst 0, 1) := by decide +kernel
theorem dX12_goesOut_29 : decode cX12_goesOut 29 = .ok (.goto 4, 3) := by decide +kernel
theorem dX12_goesOut_32 : decode cX12_goesOut 32 = .ok (.iconst 1, 1) := by decide +kernel
theorem dX12_goesOut_33 : decode cX12_goesOut 33 = .ok (.iadd, 1) := by decide +kernel
theorem dX12_goesOut_34 : decode cX12_goesOut 34 = .ok (.istore_n 2, 1) := by decide +kernel
theorem dX12_goesOut_35 : decode cX12_goesOut 35 = .ok (.aload_n 1, 1) := by decide +kernel
theorem dX12_goesOut_36 : decode cX12_goesOut 36 = .ok (.bipush 11, 2) := by decide +kernel
theorem dX12_goesOut_38 : decode cX12_goesOut 38 = .ok (.iload 4, 2) := by decide +kernel
theorem dX12_goesOut_40 : decode cX12_goesOut 40 = .ok (.iadd, 1) := by decide +kernel
theorem dX12_goesOut_41 : decode cX12_goesOut 41 = .ok (.iaload, 1) := by decide +kernel
theorem dX12_goesOut_42 : decode cX12_goesOut 42 = .ok (.aload_n 1, 1) := by decide +kernel
theorem dX12_goesOut_43 : decode cX12_goesOut 43 = .ok (.iconst 5, 1) := by decide +kernel
theorem dX12_goesOut_44 : decode cX12_goesOut 44 = .ok (.aload_n 0, 1) := by decide +kernel
theorem dX12_goesOut_45 : decode cX12_goesOut 45 = .ok (.getfield 72, 3) := by decide +kernel
theorem dX12_goesOut_48 : decode cX12_goesOut 48 = .ok (.iadd, 1) := by decide +kernel
theorem dX12_goesOut_49 : decode cX12_goesOut 49 = .ok (.iconst 1, 1) := by decide +kernel
theorem dX12_goesOut_50 : decode cX12_goesOut 50 = .ok (.isub, 1) := by decide +kernel
theorem dX12_goesOut_51 : decode cX12_goesOut 51 = .ok (.iaload, 1) := by decide +kernel
theorem dX12_goesOut_52 : decode cX12_goesOut 52 = .ok (.if_icmp .ne 8, 3) := by decide +kernel
theorem dX12_goesOut_55 : decode cX12_goesOut 55 = .ok (.iload 4, 2) := by decide +kernel
theorem dX12_goesOut_57 : decode cX12_goesOut 57 = .ok (.goto 4, 3) := by decide +kernel
theorem dX12_goesOut_60 : decode cX12_goesOut 60 = .ok (.iload_n 3, 1) := by decide +kernel
theorem dX12_goesOut_61 : decode cX12_goesOut 61 = .ok (.istore_n 3, 1) := by decide +kernel
theorem dX12_goesOut_62 : decode cX12_goesOut 62 = .ok (.iinc 4 1, 3) := by decide +kernel
theorem dX12_goesOut_65 : decode cX12_goesOut 65 = .ok (.goto (-58), 3) := by decide +kernel
theorem dX12_goesOut_68 : decode cX12_goesOut 68 = .ok (.aload_n 1, 1) := by decide +kernel
theorem dX12_goesOut_69 : decode cX12_goesOut 69 = .ok (.iconst 4, 1) := by decide +kernel
theorem dX12_goesOut_70 : decode cX12_goesOut 70 = .ok (.iload_n 2, 1) := by decide +kernel
theorem dX12_goesOut_71 : decode cX12_goesOut 71 = .ok (.iconst 1, 1) := by decide +kernel
theorem dX12_goesOut_72 : decode cX12_goesOut 72 = .ok (.if_icmp .le 18, 3) := by decide +kernel
theorem dX12_goesOut_75 : decode cX12_goesOut 75 = .ok (.iload_n 3, 1) := by decide +kernel
theorem dX12_goesOut_76 : decode cX12_goesOut 76 = .ok (.iconst (-1), 1) := by decide +kernel
theorem dX12_goesOut_77 : decode cX12_goesOut 77 = .ok (.if_icmp .eq 13, 3) := by decide +kernel
theorem dX12_goesOut_80 : decode cX12_goesOut 80 = .ok (.aload_n 1, 1) := by decide +kernel
theorem dX12_goesOut_81 : decode cX12_goesOut 81 = .ok (.iconst 4, 1) := by decide +kernel
theorem dX12_goesOut_82 : decode cX12_goesOut 82 = .ok (.iaload, 1) := by decide +kernel
theorem dX12_goesOut_83 : decode cX12_goesOut 83 = .ok (.iconst 1, 1) := by decide +kernel
theorem dX12_goesOut_84 : decode cX12_goesOut 84 = .ok (.iload_n 3, 1) := by decide +kernel
theorem dX12_goesOut_85 : decode cX12_goesOut 85 = .ok (.ishl, 1) := by decide +kernel
theorem dX12_goesOut_86 : decode cX12_goesOut 86 = .ok (.ior, 1) := by decide +kernel
theorem dX12_goesOut_87 : decode cX12_goesOut 87 = .ok (.goto 6, 3) := by decide +kernel
theorem dX12_goesOut_90 : decode cX12_goesOut 90 = .ok (.aload_n 1, 1) := by decide +kernel
theorem dX12_goesOut_91 : decode cX12_goesOut 91 = .ok (.iconst 4, 1) := by decide +kernel
theorem dX12_goesOut_92 : decode cX12_goesOut 92 = .ok (.iaload, 1) := by decide +kernel
theorem dX12_goesOut_93 : decode cX12_goesOut 93 = .ok (.iastore, 1) := by decide +kernel
theorem dX12_goesOut_94 : decode cX12_goesOut 94 = .ok (.return_, 1) := by decide +kernel
theorem dX12_rings_0 : decode cX12_rings 0 = .ok (.aload_n 1, 1) := by decide +kernel
theorem dX12_rings_1 : decode cX12_rings 1 = .ok (.iconst 1, 1) := by decide +kernel
theorem dX12_rings_2 : decode cX12_rings 2 = .ok (.iaload, 1) := by decide +kernel
theorem dX12_rings_3 : decode cX12_rings 3 = .ok (.aload_n 0, 1) := by decide +kernel
theorem dX12_rings_4 : decode cX12_rings 4 = .ok (.getfield 163, 3) := by decide +kernel
theorem dX12_rings_7 : decode cX12_rings 7 = .ok (.irem, 1) := by decide +kernel
theorem dX12_rings_8 : decode cX12_rings 8 = .ok (.istore_n 2, 1) := by decide +kernel
theorem dX12_rings_9 : decode cX12_rings 9 = .ok (.aload_n 0, 1) := by decide +kernel
theorem dX12_rings_10 : decode cX12_rings 10 = .ok (.aload_n 1, 1) := by decide +kernel
theorem dX12_rings_11 : decode cX12_rings 11 = .ok (.aload_n 1, 1) := by decide +kernel
theorem dX12_rings_12 : decode cX12_rings 12 = .ok (.iconst 2, 1) := by decide +kernel
theorem dX12_rings_13 : decode cX12_rings 13 = .ok (.iaload, 1) := by decide +kernel
theorem dX12_rings_14 : decode cX12_rings 14 = .ok (.iconst 1, 1) := by decide +kernel
theorem dX12_rings_15 : decode cX12_rings 15 = .ok (.if_icmp .ne 10, 3) := by decide +kernel
theorem dX12_rings_18 : decode cX12_rings 18 = .ok (.aload_n 0, 1) := by decide +kernel
theorem dX12_rings_19 : decode cX12_rings 19 = .ok (.getfield 166, 3) := by decide +kernel
theorem dX12_rings_22 : decode cX12_rings 22 = .ok (.goto 9, 3) := by decide +kernel
theorem dX12_rings_25 : decode cX12_rings 25 = .ok (.aload_n 0, 1) := by decide +kernel
theorem dX12_rings_26 : decode cX12_rings 26 = .ok (.getfield 29, 3) := by decide +kernel
theorem dX12_rings_29 : decode cX12_rings 29 = .ok (.iload_n 2, 1) := by decide +kernel
theorem dX12_rings_30 : decode cX12_rings 30 = .ok (.iaload, 1) := by decide +kernel
theorem dX12_rings_31 : decode cX12_rings 31 = .ok (.invokevirtual 212, 3) := by decide +kernel
theorem dX12_rings_34 : decode cX12_rings 34 = .ok (.aload_n 1, 1) := by decide +kernel
theorem dX12_rings_35 : decode cX12_rings 35 = .ok (.iconst 2, 1) := by decide +kernel
theorem dX12_rings_36 : decode cX12_rings 36 = .ok (.iconst 0, 1) := by decide +kernel
theorem dX12_rings_37 : decode cX12_rings 37 = .ok (.iastore, 1) := by decide +kernel
theorem dX12_rings_38 : decode cX12_rings 38 = .ok (.aload_n 1, 1) := by decide +kernel
theorem dX12_rings_39 : decode cX12_rings 39 = .ok (.iconst 1, 1) := by decide +kernel
theorem dX12_rings_40 : decode cX12_rings 40 = .ok (.dup2, 1) := by decide +kernel
theorem dX12_rings_41 : decode cX12_rings 41 = .ok (.iaload, 1) := by decide +kernel
theorem dX12_rings_42 : decode cX12_rings 42 = .ok (.iconst 1, 1) := by decide +kernel
theorem dX12_rings_43 : decode cX12_rings 43 = .ok (.iadd, 1) := by decide +kernel
theorem dX12_rings_44 : decode cX12_rings 44 = .ok (.iastore, 1) := by decide +kernel
theorem dX12_rings_45 : decode cX12_rings 45 = .ok (.aload_n 1, 1) := by decide +kernel
theorem dX12_rings_46 : decode cX12_rings 46 = .ok (.iconst 0, 1) := by decide +kernel
theorem dX12_rings_47 : decode cX12_rings 47 = .ok (.dup2, 1) := by decide +kernel
theorem dX12_rings_48 : decode cX12_rings 48 = .ok (.iaload, 1) := by decide +kernel
theorem dX12_rings_49 : decode cX12_rings 49 = .ok (.iconst 1, 1) := by decide +kernel
theorem dX12_rings_50 : decode cX12_rings 50 = .ok (.iadd, 1) := by decide +kernel
theorem dX12_rings_51 : decode cX12_rings 51 = .ok (.iastore, 1) := by decide +kernel
theorem dX12_rings_52 : decode cX12_rings 52 = .ok (.iconst 0, 1) := by decide +kernel
theorem dX12_rings_53 : decode cX12_rings 53 = .ok (.istore_n 3, 1) := by decide +kernel
theorem dX12_rings_54 : decode cX12_rings 54 = .ok (.iload_n 3, 1) := by decide +kernel
theorem dX12_rings_55 : decode cX12_rings 55 = .ok (.aload_n 0, 1) := by decide +kernel
theorem dX12_rings_56 : decode cX12_rings 56 = .ok (.getfield 79, 3) := by decide +kernel
theorem dX12_rings_59 : decode cX12_rings 59 = .ok (.if_icmp .ge 98, 3) := by decide +kernel
theorem dX12_rings_62 : decode cX12_rings 62 = .ok (.aload_n 0, 1) := by decide +kernel
theorem dX12_rings_63 : decode cX12_rings 63 = .ok (.getfield 26, 3) := by decide +kernel
theorem dX12_rings_66 : decode cX12_rings 66 = .ok (.aload_n 1, 1) := by decide +kernel
theorem dX12_rings_67 : decode cX12_rings 67 = .ok (.bipush 11, 2) := by decide +kernel
theorem dX12_rings_69 : decode cX12_rings 69 = .ok (.iload_n 3, 1) := by decide +kernel
theorem dX12_rings_70 : decode cX12_rings 70 = .ok (.iadd, 1) := by decide +kernel
theorem dX12_rings_71 : decode cX12_rings 71 = .ok (.iaload, 1) := by decide +kernel
theorem dX12_rings_72 : decode cX12_rings 72 = .ok (.iaload, 1) := by decide +kernel
theorem dX12_rings_73 : decode cX12_rings 73 = .ok (.aload_n 0, 1) := by decide +kernel
theorem dX12_rings_74 : decode cX12_rings 74 = .ok (.getfield 32, 3) := by decide +kernel
theorem dX12_rings_77 : decode cX12_rings 77 = .ok (.iload_n 3, 1) := by decide +kernel
theorem dX12_rings_78 : decode cX12_rings 78 = .ok (.iaload, 1) := by decide +kernel
theorem dX12_rings_79 : decode cX12_rings 79 = .ok (.isub, 1) := by decide +kernel
theorem dX12_rings_80 : decode cX12_rings 80 = .ok (.istore 4, 2) := by decide +kernel
theorem dX12_rings_82 : decode cX12_rings 82 = .ok (.aload_n 1, 1) := by decide +kernel
theorem dX12_rings_83 : decode cX12_rings 83 = .ok (.bipush 17, 2) := by decide +kernel
theorem dX12_rings_85 : decode cX12_rings 85 = .ok (.iload_n 3, 1) := by decide +kernel
theorem dX12_rings_86 : decode cX12_rings 86 = .ok (.iadd, 1) := by decide +kernel
theorem dX12_rings_87 : decode cX12_rings 87 = .ok (.iaload, 1) := by decide +kernel
theorem dX12_rings_88 : decode cX12_rings 88 = .ok (.iload 4, 2) := by decide +kernel
theorem dX12_rings_90 : decode cX12_rings 90 = .ok (.ifCond .le 8, 3) := by decide +kernel
theorem dX12_rings_93 : decode cX12_rings 93 = .ok (.iload 4, 2) := by decide +kernel
theorem dX12_rings_95 : decode cX12_rings 95 = .ok (.goto 4, 3) := by decide +kernel
theorem dX12_rings_98 : decode cX12_rings 98 = .ok (.iconst 0, 1) := by decide +kernel
theorem dX12_rings_99 : decode cX12_rings 99 = .ok (.iadd, 1) := by decide +kernel
theorem dX12_rings_100 : decode cX12_rings 100 = .ok (.aload_n 1, 1) := by decide +kernel
theorem dX12_rings_101 : decode cX12_rings 101 = .ok (.iconst 3, 1) := by decide +kernel
theorem dX12_rings_102 : decode cX12_rings 102 = .ok (.iaload, 1) := by decide +kernel
theorem dX12_rings_103 : decode cX12_rings 103 = .ok (.iadd, 1) := by decide +kernel
theorem dX12_rings_104 : decode cX12_rings 104 = .ok (.istore 5, 2) := by decide +kernel
theorem dX12_rings_106 : decode cX12_rings 106 = .ok (.aload_n 1, 1) := by decide +kernel
theorem dX12_rings_107 : decode cX12_rings 107 = .ok (.iconst 4, 1) := by decide +kernel
theorem dX12_rings_108 : decode cX12_rings 108 = .ok (.iaload, 1) := by decide +kernel
theorem dX12_rings_109 : decode cX12_rings 109 = .ok (.iload_n 3, 1) := by decide +kernel
theorem dX12_rings_110 : decode cX12_rings 110 = .ok (.invokestatic 112, 3) := by decide +kernel
theorem dX12_rings_113 : decode cX12_rings 113 = .ok (.ifCond .eq 12, 3) := by decide +kernel
theorem dX12_rings_116 : decode cX12_rings 116 = .ok (.aload_n 1, 1) := by decide +kernel
theorem dX12_rings_117 : decode cX12_rings 117 = .ok (.bipush 17, 2) := by decide +kernel
theorem dX12_rings_119 : decode cX12_rings 119 = .ok (.iload_n 3, 1) := by decide +kernel
theorem dX12_rings_120 : decode cX12_rings 120 = .ok (.iadd, 1) := by decide +kernel
theorem dX12_rings_121 : decode cX12_rings 121 = .ok (.iaload, 1) := by decide +kernel
theorem dX12_rings_122 : decode cX12_rings 122 = .ok (.goto 5, 3) := by decide +kernel
theorem dX12_rings_125 : decode cX12_rings 125 = .ok (.iload 5, 2) := by decide +kernel
theorem dX12_rings_127 : decode cX12_rings 127 = .ok (.istore 5, 2) := by decide +kernel
theorem dX12_rings_129 : decode cX12_rings 129 = .ok (.aload_n 1, 1) := by decide +kernel
theorem dX12_rings_130 : decode cX12_rings 130 = .ok (.bipush 17, 2) := by decide +kernel
theorem dX12_rings_132 : decode cX12_rings 132 = .ok (.iload_n 3, 1) := by decide +kernel
theorem dX12_rings_133 : decode cX12_rings 133 = .ok (.iadd, 1) := by decide +kernel
theorem dX12_rings_134 : decode cX12_rings 134 = .ok (.iload 5, 2) := by decide +kernel
theorem dX12_rings_136 : decode cX12_rings 136 = .ok (.sipush 9999, 3) := by decide +kernel
theorem dX12_rings_139 : decode cX12_rings 139 = .ok (.if_icmp .le 9, 3) := by decide +kernel
theorem dX12_rings_142 : decode cX12_rings 142 = .ok (.sipush 9999, 3) := by decide +kernel
theorem dX12_rings_145 : decode cX12_rings 145 = .ok (.goto 5, 3) := by decide +kernel
theorem dX12_rings_148 : decode cX12_rings 148 = .ok (.iload 5, 2) := by decide +kernel
theorem dX12_rings_150 : decode cX12_rings 150 = .ok (.iastore, 1) := by decide +kernel
theorem dX12_rings_151 : decode cX12_rings 151 = .ok (.iinc 3 1, 3) := by decide +kernel
theorem dX12_rings_154 : decode cX12_rings 154 = .ok (.goto (-100), 3) := by decide +kernel
theorem dX12_rings_157 : decode cX12_rings 157 = .ok (.iload_n 2, 1) := by decide +kernel
theorem dX12_rings_158 : decode cX12_rings 158 = .ok (.aload_n 0, 1) := by decide +kernel
theorem dX12_rings_159 : decode cX12_rings 159 = .ok (.getfield 163, 3) := by decide +kernel
theorem dX12_rings_162 : decode cX12_rings 162 = .ok (.iconst 1, 1) := by decide +kernel
theorem dX12_rings_163 : decode cX12_rings 163 = .ok (.isub, 1) := by decide +kernel
theorem dX12_rings_164 : decode cX12_rings 164 = .ok (.if_icmp .ne 8, 3) := by decide +kernel
theorem dX12_rings_167 : decode cX12_rings 167 = .ok (.aload_n 0, 1) := by decide +kernel
theorem dX12_rings_168 : decode cX12_rings 168 = .ok (.aload_n 1, 1) := by decide +kernel
theorem dX12_rings_169 : decode cX12_rings 169 = .ok (.invokevirtual 216, 3) := by decide +kernel
theorem dX12_rings_172 : decode cX12_rings 172 = .ok (.return_, 1) := by decide +kernel
theorem dX12_noRows_0 : decode cX12_noRows 0 = .ok (.iload_n 1, 1) := by decide +kernel
theorem dX12_noRows_1 : decode cX12_noRows 1 = .ok (.iconst 1, 1) := by decide +kernel
theorem dX12_noRows_2 : decode cX12_noRows 2 = .ok (.iload_n 2, 1) := by decide +kernel
theorem dX12_noRows_3 : decode cX12_noRows 3 = .ok (.invokestatic 75, 3) := by decide +kernel
theorem dX12_noRows_6 : decode cX12_noRows 6 = .ok (.ifCond .ne 8, 3) := by decide +kernel
theorem dX12_noRows_9 : decode cX12_noRows 9 = .ok (.ldc 82, 2) := by decide +kernel
theorem dX12_noRows_11 : decode cX12_noRows 11 = .ok (.goto 33, 3) := by decide +kernel
theorem dX12_noRows_14 : decode cX12_noRows 14 = .ok (.aload_n 0, 1) := by decide +kernel
theorem dX12_noRows_15 : decode cX12_noRows 15 = .ok (.invokevirtual 193, 3) := by decide +kernel
theorem dX12_noRows_18 : decode cX12_noRows 18 = .ok (.ifCond .ne 8, 3) := by decide +kernel
theorem dX12_noRows_21 : decode cX12_noRows 21 = .ok (.ldc 196, 2) := by decide +kernel
theorem dX12_noRows_23 : decode cX12_noRows 23 = .ok (.goto 21, 3) := by decide +kernel
theorem dX12_noRows_26 : decode cX12_noRows 26 = .ok (.aload_n 0, 1) := by decide +kernel
theorem dX12_noRows_27 : decode cX12_noRows 27 = .ok (.getfield 35, 3) := by decide +kernel
theorem dX12_noRows_30 : decode cX12_noRows 30 = .ok (.iconst 0, 1) := by decide +kernel
theorem dX12_noRows_31 : decode cX12_noRows 31 = .ok (.iaload, 1) := by decide +kernel
theorem dX12_noRows_32 : decode cX12_noRows 32 = .ok (.sipush 9000, 3) := by decide +kernel
theorem dX12_noRows_35 : decode cX12_noRows 35 = .ok (.if_icmp .le 8, 3) := by decide +kernel
theorem dX12_noRows_38 : decode cX12_noRows 38 = .ok (.ldc 86, 2) := by decide +kernel
theorem dX12_noRows_40 : decode cX12_noRows 40 = .ok (.goto 4, 3) := by decide +kernel
theorem dX12_noRows_43 : decode cX12_noRows 43 = .ok (.iconst 0, 1) := by decide +kernel
theorem dX12_noRows_44 : decode cX12_noRows 44 = .ok (.ireturn, 1) := by decide +kernel
theorem dX12_ring_0 : decode cX12_ring 0 = .ok (.aload_n 0, 1) := by decide +kernel
theorem dX12_ring_1 : decode cX12_ring 1 = .ok (.iload_n 1, 1) := by decide +kernel
theorem dX12_ring_2 : decode cX12_ring 2 = .ok (.sipush 200, 3) := by decide +kernel
theorem dX12_ring_5 : decode cX12_ring 5 = .ok (.invokevirtual 219, 3) := by decide +kernel
theorem dX12_ring_8 : decode cX12_ring 8 = .ok (.istore_n 2, 1) := by decide +kernel
theorem dX12_ring_9 : decode cX12_ring 9 = .ok (.iload_n 2, 1) := by decide +kernel
theorem dX12_ring_10 : decode cX12_ring 10 = .ok (.ifCond .eq 5, 3) := by decide +kernel
theorem dX12_ring_13 : decode cX12_ring 13 = .ok (.iload_n 2, 1) := by decide +kernel
theorem dX12_ring_14 : decode cX12_ring 14 = .ok (.ireturn, 1) := by decide +kernel
theorem dX12_ring_15 : decode cX12_ring 15 = .ok (.aload_n 0, 1) := by decide +kernel
theorem dX12_ring_16 : decode cX12_ring 16 = .ok (.invokevirtual 223, 3) := by decide +kernel
theorem dX12_ring_19 : decode cX12_ring 19 = .ok (.iconst 0, 1) := by decide +kernel
theorem dX12_ring_20 : decode cX12_ring 20 = .ok (.istore_n 3, 1) := by decide +kernel
theorem dX12_ring_21 : decode cX12_ring 21 = .ok (.iload_n 3, 1) := by decide +kernel
theorem dX12_ring_22 : decode cX12_ring 22 = .ok (.iload_n 1, 1) := by decide +kernel
theorem dX12_ring_23 : decode cX12_ring 23 = .ok (.if_icmp .ge 17, 3) := by decide +kernel
theorem dX12_ring_26 : decode cX12_ring 26 = .ok (.aload_n 0, 1) := by decide +kernel
theorem dX12_ring_27 : decode cX12_ring 27 = .ok (.aload_n 0, 1) := by decide +kernel
theorem dX12_ring_28 : decode cX12_ring 28 = .ok (.getfield 35, 3) := by decide +kernel
theorem dX12_ring_31 : decode cX12_ring 31 = .ok (.invokevirtual 226, 3) := by decide +kernel
theorem dX12_ring_34 : decode cX12_ring 34 = .ok (.iinc 3 1, 3) := by decide +kernel
theorem dX12_ring_37 : decode cX12_ring 37 = .ok (.goto (-16), 3) := by decide +kernel
theorem dX12_ring_40 : decode cX12_ring 40 = .ok (.aload_n 0, 1) := by decide +kernel
theorem dX12_ring_41 : decode cX12_ring 41 = .ok (.aload_n 0, 1) := by decide +kernel
theorem dX12_ring_42 : decode cX12_ring 42 = .ok (.getfield 35, 3) := by decide +kernel
theorem dX12_ring_45 : decode cX12_ring 45 = .ok (.invokevirtual 182, 3) := by decide +kernel
theorem dX12_ring_48 : decode cX12_ring 48 = .ok (.ireturn, 1) := by decide +kernel
theorem dX12_call_0 : decode cX12_call 0 = .ok (.aload_n 0, 1) := by decide +kernel
theorem dX12_call_1 : decode cX12_call 1 = .ok (.invokevirtual 193, 3) := by decide +kernel
theorem dX12_call_4 : decode cX12_call 4 = .ok (.ifCond .eq 13, 3) := by decide +kernel
theorem dX12_call_7 : decode cX12_call 7 = .ok (.aload_n 0, 1) := by decide +kernel
theorem dX12_call_8 : decode cX12_call 8 = .ok (.getfield 35, 3) := by decide +kernel
theorem dX12_call_11 : decode cX12_call 11 = .ok (.iconst 2, 1) := by decide +kernel
theorem dX12_call_12 : decode cX12_call 12 = .ok (.iaload, 1) := by decide +kernel
theorem dX12_call_13 : decode cX12_call 13 = .ok (.iconst 1, 1) := by decide +kernel
theorem dX12_call_14 : decode cX12_call 14 = .ok (.if_icmp .ne 6, 3) := by decide +kernel
theorem dX12_call_17 : decode cX12_call 17 = .ok (.ldc 196, 2) := by decide +kernel
theorem dX12_call_19 : decode cX12_call 19 = .ok (.ireturn, 1) := by decide +kernel
theorem dX12_call_20 : decode cX12_call 20 = .ok (.aload_n 0, 1) := by decide +kernel
theorem dX12_call_21 : decode cX12_call 21 = .ok (.invokevirtual 223, 3) := by decide +kernel
theorem dX12_call_24 : decode cX12_call 24 = .ok (.aload_n 0, 1) := by decide +kernel
theorem dX12_call_25 : decode cX12_call 25 = .ok (.getfield 35, 3) := by decide +kernel
theorem dX12_call_28 : decode cX12_call 28 = .ok (.iconst 2, 1) := by decide +kernel
theorem dX12_call_29 : decode cX12_call 29 = .ok (.iconst 1, 1) := by decide +kernel
theorem dX12_call_30 : decode cX12_call 30 = .ok (.iastore, 1) := by decide +kernel
theorem dX12_call_31 : decode cX12_call 31 = .ok (.aload_n 0, 1) := by decide +kernel
theorem dX12_call_32 : decode cX12_call 32 = .ok (.getfield 35, 3) := by decide +kernel
theorem dX12_call_35 : decode cX12_call 35 = .ok (.iconst 1, 1) := by decide +kernel
theorem dX12_call_36 : decode cX12_call 36 = .ok (.iaload, 1) := by decide +kernel
theorem dX12_call_37 : decode cX12_call 37 = .ok (.aload_n 0, 1) := by decide +kernel
theorem dX12_call_38 : decode cX12_call 38 = .ok (.getfield 163, 3) := by decide +kernel
theorem dX12_call_41 : decode cX12_call 41 = .ok (.irem, 1) := by decide +kernel
theorem dX12_call_42 : decode cX12_call 42 = .ok (.ireturn, 1) := by decide +kernel
theorem dX12_swaps_0 : decode cX12_swaps 0 = .ok (.aload_n 0, 1) := by decide +kernel
theorem dX12_swaps_1 : decode cX12_swaps 1 = .ok (.bipush 11, 2) := by decide +kernel
theorem dX12_swaps_3 : decode cX12_swaps 3 = .ok (.iload_n 1, 1) := by decide +kernel
theorem dX12_swaps_4 : decode cX12_swaps 4 = .ok (.iadd, 1) := by decide +kernel
theorem dX12_swaps_5 : decode cX12_swaps 5 = .ok (.iaload, 1) := by decide +kernel
theorem dX12_swaps_6 : decode cX12_swaps 6 = .ok (.istore_n 3, 1) := by decide +kernel
theorem dX12_swaps_7 : decode cX12_swaps 7 = .ok (.aload_n 0, 1) := by decide +kernel
theorem dX12_swaps_8 : decode cX12_swaps 8 = .ok (.bipush 11, 2) := by decide +kernel
theorem dX12_swaps_10 : decode cX12_swaps 10 = .ok (.iload_n 1, 1) := by decide +kernel
theorem dX12_swaps_11 : decode cX12_swaps 11 = .ok (.iadd, 1) := by decide +kernel
theorem dX12_swaps_12 : decode cX12_swaps 12 = .ok (.aload_n 0, 1) := by decide +kernel
theorem dX12_swaps_13 : decode cX12_swaps 13 = .ok (.bipush 11, 2) := by decide +kernel
theorem dX12_swaps_15 : decode cX12_swaps 15 = .ok (.iload_n 2, 1) := by decide +kernel
theorem dX12_swaps_16 : decode cX12_swaps 16 = .ok (.iadd, 1) := by decide +kernel
theorem dX12_swaps_17 : decode cX12_swaps 17 = .ok (.iaload, 1) := by decide +kernel
theorem dX12_swaps_18 : decode cX12_swaps 18 = .ok (.iastore, 1) := by decide +kernel
theorem dX12_swaps_19 : decode cX12_swaps 19 = .ok (.aload_n 0, 1) := by decide +kernel
theorem dX12_swaps_20 : decode cX12_swaps 20 = .ok (.bipush 11, 2) := by decide +kernel
theorem dX12_swaps_22 : decode cX12_swaps 22 = .ok (.iload_n 2, 1) := by decide +kernel
theorem dX12_swaps_23 : decode cX12_swaps 23 = .ok (.iadd, 1) := by decide +kernel
theorem dX12_swaps_24 : decode cX12_swaps 24 = .ok (.iload_n 3, 1) := by decide +kernel
theorem dX12_swaps_25 : decode cX12_swaps 25 = .ok (.iastore, 1) := by decide +kernel
theorem dX12_swaps_26 : decode cX12_swaps 26 = .ok (.return_, 1) := by decide +kernel
theorem dX12_swap_0 : decode cX12_swap 0 = .ok (.aload_n 0, 1) := by decide +kernel
theorem dX12_swap_1 : decode cX12_swap 1 = .ok (.iload_n 1, 1) := by decide +kernel
theorem dX12_swap_2 : decode cX12_swap 2 = .ok (.invokevirtual 209, 3) := by decide +kernel
theorem dX12_swap_5 : decode cX12_swap 5 = .ok (.ifCond .eq 16, 3) := by decide +kernel
theorem dX12_swap_8 : decode cX12_swap 8 = .ok (.aload_n 0, 1) := by decide +kernel
theorem dX12_swap_9 : decode cX12_swap 9 = .ok (.iload_n 2, 1) := by decide +kernel
theorem dX12_swap_10 : decode cX12_swap 10 = .ok (.invokevirtual 209, 3) := by decide +kernel
theorem dX12_swap_13 : decode cX12_swap 13 = .ok (.ifCond .eq 8, 3) := by decide +kernel
theorem dX12_swap_16 : decode cX12_swap 16 = .ok (.iload_n 1, 1) := by decide +kernel
theorem dX12_swap_17 : decode cX12_swap 17 = .ok (.iload_n 2, 1) := by decide +kernel
theorem dX12_swap_18 : decode cX12_swap 18 = .ok (.if_icmp .ne 6, 3) := by decide +kernel
theorem dX12_swap_21 : decode cX12_swap 21 = .ok (.ldc 200, 2) := by decide +kernel
theorem dX12_swap_23 : decode cX12_swap 23 = .ok (.ireturn, 1) := by decide +kernel
theorem dX12_swap_24 : decode cX12_swap 24 = .ok (.aload_n 0, 1) := by decide +kernel
theorem dX12_swap_25 : decode cX12_swap 25 = .ok (.invokevirtual 223, 3) := by decide +kernel
theorem dX12_swap_28 : decode cX12_swap 28 = .ok (.aload_n 0, 1) := by decide +kernel
theorem dX12_swap_29 : decode cX12_swap 29 = .ok (.getfield 35, 3) := by decide +kernel
theorem dX12_swap_32 : decode cX12_swap 32 = .ok (.iload_n 1, 1) := by decide +kernel
theorem dX12_swap_33 : decode cX12_swap 33 = .ok (.iload_n 2, 1) := by decide +kernel
theorem dX12_swap_34 : decode cX12_swap 34 = .ok (.invokestatic 229, 3) := by decide +kernel
theorem dX12_swap_37 : decode cX12_swap 37 = .ok (.aload_n 0, 1) := by decide +kernel
theorem dX12_swap_38 : decode cX12_swap 38 = .ok (.getfield 35, 3) := by decide +kernel
theorem dX12_swap_41 : decode cX12_swap 41 = .ok (.bipush 11, 2) := by decide +kernel
theorem dX12_swap_43 : decode cX12_swap 43 = .ok (.iload_n 1, 1) := by decide +kernel
theorem dX12_swap_44 : decode cX12_swap 44 = .ok (.iadd, 1) := by decide +kernel
theorem dX12_swap_45 : decode cX12_swap 45 = .ok (.iaload, 1) := by decide +kernel
theorem dX12_swap_46 : decode cX12_swap 46 = .ok (.ireturn, 1) := by decide +kernel
theorem dX12_stand_0 : decode cX12_stand 0 = .ok (.aload_n 0, 1) := by decide +kernel
theorem dX12_stand_1 : decode cX12_stand 1 = .ok (.invokevirtual 193, 3) := by decide +kernel
theorem dX12_stand_4 : decode cX12_stand 4 = .ok (.ifCond .ne 6, 3) := by decide +kernel
theorem dX12_stand_7 : decode cX12_stand 7 = .ok (.ldc 196, 2) := by decide +kernel
theorem dX12_stand_9 : decode cX12_stand 9 = .ok (.ireturn, 1) := by decide +kernel
theorem dX12_stand_10 : decode cX12_stand 10 = .ok (.aload_n 0, 1) := by decide +kernel
theorem dX12_stand_11 : decode cX12_stand 11 = .ok (.invokevirtual 223, 3) := by decide +kernel
theorem dX12_stand_14 : decode cX12_stand 14 = .ok (.aload_n 0, 1) := by decide +kernel
theorem dX12_stand_15 : decode cX12_stand 15 = .ok (.aload_n 0, 1) := by decide +kernel
theorem dX12_stand_16 : decode cX12_stand 16 = .ok (.getfield 35, 3) := by decide +kernel
theorem dX12_stand_19 : decode cX12_stand 19 = .ok (.invokevirtual 182, 3) := by decide +kernel
theorem dX12_stand_22 : decode cX12_stand 22 = .ok (.istore_n 1, 1) := by decide +kernel
theorem dX12_stand_23 : decode cX12_stand 23 = .ok (.aload_n 0, 1) := by decide +kernel
theorem dX12_stand_24 : decode cX12_stand 24 = .ok (.getfield 35, 3) := by decide +kernel
theorem dX12_stand_27 : decode cX12_stand 27 = .ok (.invokestatic 169, 3) := by decide +kernel
theorem dX12_stand_30 : decode cX12_stand 30 = .ok (.iconst 0, 1) := by decide +kernel
theorem dX12_stand_31 : decode cX12_stand 31 = .ok (.istore_n 2, 1) := by decide +kernel
theorem dX12_stand_32 : decode cX12_stand 32 = .ok (.iload_n 2, 1) := by decide +kernel
theorem dX12_stand_33 : decode cX12_stand 33 = .ok (.bipush 6, 2) := by decide +kernel
theorem dX12_stand_35 : decode cX12_stand 35 = .ok (.if_icmp .ge 19, 3) := by decide +kernel
theorem dX12_stand_38 : decode cX12_stand 38 = .ok (.aload_n 0, 1) := by decide +kernel
theorem dX12_stand_39 : decode cX12_stand 39 = .ok (.getfield 35, 3) := by decide +kernel
theorem dX12_stand_42 : decode cX12_stand 42 = .ok (.bipush 17, 2) := by decide +kernel
theorem dX12_stand_44 : decode cX12_stand 44 = .ok (.iload_n 2, 1) := by decide +kernel
theorem dX12_stand_45 : decode cX12_stand 45 = .ok (.iadd, 1) := by decide +kernel
theorem dX12_stand_46 : decode cX12_stand 46 = .ok (.iconst 0, 1) := by decide +kernel
theorem dX12_stand_47 : decode cX12_stand 47 = .ok (.iastore, 1) := by decide +kernel
theorem dX12_stand_48 : decode cX12_stand 48 = .ok (.iinc 2 1, 3) := by decide +kernel
theorem dX12_stand_51 : decode cX12_stand 51 = .ok (.goto (-19), 3) := by decide +kernel
theorem dX12_stand_54 : decode cX12_stand 54 = .ok (.iload_n 1, 1) := by decide +kernel
theorem dX12_stand_55 : decode cX12_stand 55 = .ok (.ireturn, 1) := by decide +kernel
theorem dX12_wet_0 : decode cX12_wet 0 = .ok (.aload_n 0, 1) := by decide +kernel
theorem dX12_wet_1 : decode cX12_wet 1 = .ok (.invokevirtual 193, 3) := by decide +kernel
theorem dX12_wet_4 : decode cX12_wet 4 = .ok (.ifCond .ne 6, 3) := by decide +kernel
theorem dX12_wet_7 : decode cX12_wet 7 = .ok (.ldc 196, 2) := by decide +kernel
theorem dX12_wet_9 : decode cX12_wet 9 = .ok (.ireturn, 1) := by decide +kernel
theorem dX12_wet_10 : decode cX12_wet 10 = .ok (.aload_n 0, 1) := by decide +kernel
theorem dX12_wet_11 : decode cX12_wet 11 = .ok (.invokevirtual 223, 3) := by decide +kernel
theorem dX12_wet_14 : decode cX12_wet 14 = .ok (.aload_n 0, 1) := by decide +kernel
theorem dX12_wet_15 : decode cX12_wet 15 = .ok (.getfield 35, 3) := by decide +kernel
theorem dX12_wet_18 : decode cX12_wet 18 = .ok (.iconst 3, 1) := by decide +kernel
theorem dX12_wet_19 : decode cX12_wet 19 = .ok (.iaload, 1) := by decide +kernel
theorem dX12_wet_20 : decode cX12_wet 20 = .ok (.istore_n 2, 1) := by decide +kernel
theorem dX12_wet_21 : decode cX12_wet 21 = .ok (.aload_n 0, 1) := by decide +kernel
theorem dX12_wet_22 : decode cX12_wet 22 = .ok (.getfield 35, 3) := by decide +kernel
theorem dX12_wet_25 : decode cX12_wet 25 = .ok (.iconst 3, 1) := by decide +kernel
theorem dX12_wet_26 : decode cX12_wet 26 = .ok (.iload_n 1, 1) := by decide +kernel
theorem dX12_wet_27 : decode cX12_wet 27 = .ok (.ifCond .eq 7, 3) := by decide +kernel
theorem dX12_wet_30 : decode cX12_wet 30 = .ok (.iconst 1, 1) := by decide +kernel
theorem dX12_wet_31 : decode cX12_wet 31 = .ok (.goto 4, 3) := by decide +kernel
theorem dX12_wet_34 : decode cX12_wet 34 = .ok (.iconst 0, 1) := by decide +kernel
theorem dX12_wet_35 : decode cX12_wet 35 = .ok (.iastore, 1) := by decide +kernel
theorem dX12_wet_36 : decode cX12_wet 36 = .ok (.iload_n 2, 1) := by decide +kernel
theorem dX12_wet_37 : decode cX12_wet 37 = .ok (.ireturn, 1) := by decide +kernel
theorem dX12_forgive_0 : decode cX12_forgive 0 = .ok (.aload_n 0, 1) := by decide +kernel
theorem dX12_forgive_1 : decode cX12_forgive 1 = .ok (.iload_n 1, 1) := by decide +kernel
theorem dX12_forgive_2 : decode cX12_forgive 2 = .ok (.invokevirtual 209, 3) := by decide +kernel
theorem dX12_forgive_5 : decode cX12_forgive 5 = .ok (.ifCond .ne 6, 3) := by decide +kernel
theorem dX12_forgive_8 : decode cX12_forgive 8 = .ok (.ldc 200, 2) := by decide +kernel
theorem dX12_forgive_10 : decode cX12_forgive 10 = .ok (.ireturn, 1) := by decide +kernel
theorem dX12_forgive_11 : decode cX12_forgive 11 = .ok (.aload_n 0, 1) := by decide +kernel
theorem dX12_forgive_12 : decode cX12_forgive 12 = .ok (.getfield 35, 3) := by decide +kernel
theorem dX12_forgive_15 : decode cX12_forgive 15 = .ok (.iconst 4, 1) := by decide +kernel
theorem dX12_forgive_16 : decode cX12_forgive 16 = .ok (.iaload, 1) := by decide +kernel
theorem dX12_forgive_17 : decode cX12_forgive 17 = .ok (.iload_n 1, 1) := by decide +kernel
theorem dX12_forgive_18 : decode cX12_forgive 18 = .ok (.invokestatic 112, 3) := by decide +kernel
theorem dX12_forgive_21 : decode cX12_forgive 21 = .ok (.ifCond .ne 6, 3) := by decide +kernel
theorem dX12_forgive_24 : decode cX12_forgive 24 = .ok (.ldc 196, 2) := by decide +kernel
theorem dX12_forgive_26 : decode cX12_forgive 26 = .ok (.ireturn, 1) := by decide +kernel
theorem dX12_forgive_27 : decode cX12_forgive 27 = .ok (.aload_n 0, 1) := by decide +kernel
theorem dX12_forgive_28 : decode cX12_forgive 28 = .ok (.invokevirtual 223, 3) := by decide +kernel
theorem dX12_forgive_31 : decode cX12_forgive 31 = .ok (.aload_n 0, 1) := by decide +kernel
theorem dX12_forgive_32 : decode cX12_forgive 32 = .ok (.getfield 35, 3) := by decide +kernel
theorem dX12_forgive_35 : decode cX12_forgive 35 = .ok (.iconst 4, 1) := by decide +kernel
theorem dX12_forgive_36 : decode cX12_forgive 36 = .ok (.aload_n 0, 1) := by decide +kernel
theorem dX12_forgive_37 : decode cX12_forgive 37 = .ok (.getfield 35, 3) := by decide +kernel
theorem dX12_forgive_40 : decode cX12_forgive 40 = .ok (.iconst 4, 1) := by decide +kernel
theorem dX12_forgive_41 : decode cX12_forgive 41 = .ok (.iaload, 1) := by decide +kernel
theorem dX12_forgive_42 : decode cX12_forgive 42 = .ok (.iconst 1, 1) := by decide +kernel
theorem dX12_forgive_43 : decode cX12_forgive 43 = .ok (.iload_n 1, 1) := by decide +kernel
theorem dX12_forgive_44 : decode cX12_forgive 44 = .ok (.ishl, 1) := by decide +kernel
theorem dX12_forgive_45 : decode cX12_forgive 45 = .ok (.iconst (-1), 1) := by decide +kernel
theorem dX12_forgive_46 : decode cX12_forgive 46 = .ok (.ixor, 1) := by decide +kernel
theorem dX12_forgive_47 : decode cX12_forgive 47 = .ok (.iand, 1) := by decide +kernel
theorem dX12_forgive_48 : decode cX12_forgive 48 = .ok (.iastore, 1) := by decide +kernel
theorem dX12_forgive_49 : decode cX12_forgive 49 = .ok (.aload_n 0, 1) := by decide +kernel
theorem dX12_forgive_50 : decode cX12_forgive 50 = .ok (.getfield 35, 3) := by decide +kernel
theorem dX12_forgive_53 : decode cX12_forgive 53 = .ok (.iconst 4, 1) := by decide +kernel
theorem dX12_forgive_54 : decode cX12_forgive 54 = .ok (.iaload, 1) := by decide +kernel
theorem dX12_forgive_55 : decode cX12_forgive 55 = .ok (.ireturn, 1) := by decide +kernel
theorem dX12_draw_0 : decode cX12_draw 0 = .ok (.aload_n 0, 1) := by decide +kernel
theorem dX12_draw_1 : decode cX12_draw 1 = .ok (.aload_n 0, 1) := by decide +kernel
theorem dX12_draw_2 : decode cX12_draw 2 = .ok (.getfield 233, 3) := by decide +kernel
theorem dX12_draw_5 : decode cX12_draw 5 = .ok (.i2l, 1) := by decide +kernel
theorem dX12_draw_6 : decode cX12_draw 6 = .ok (.ldc2_w 236, 3) := by decide +kernel
theorem dX12_draw_9 : decode cX12_draw 9 = .ok (.lmul, 1) := by decide +kernel
theorem dX12_draw_10 : decode cX12_draw 10 = .ok (.ldc2_w 238, 3) := by decide +kernel
theorem dX12_draw_13 : decode cX12_draw 13 = .ok (.ladd, 1) := by decide +kernel
theorem dX12_draw_14 : decode cX12_draw 14 = .ok (.ldc2_w 240, 3) := by decide +kernel
theorem dX12_draw_17 : decode cX12_draw 17 = .ok (.lrem, 1) := by decide +kernel
theorem dX12_draw_18 : decode cX12_draw 18 = .ok (.l2i, 1) := by decide +kernel
theorem dX12_draw_19 : decode cX12_draw 19 = .ok (.putfield 233, 3) := by decide +kernel
theorem dX12_draw_22 : decode cX12_draw 22 = .ok (.aload_n 0, 1) := by decide +kernel
theorem dX12_draw_23 : decode cX12_draw 23 = .ok (.getfield 233, 3) := by decide +kernel
theorem dX12_draw_26 : decode cX12_draw 26 = .ok (.ldc 242, 2) := by decide +kernel
theorem dX12_draw_28 : decode cX12_draw 28 = .ok (.idiv, 1) := by decide +kernel
theorem dX12_draw_29 : decode cX12_draw 29 = .ok (.iload_n 1, 1) := by decide +kernel
theorem dX12_draw_30 : decode cX12_draw 30 = .ok (.irem, 1) := by decide +kernel
theorem dX12_draw_31 : decode cX12_draw 31 = .ok (.ireturn, 1) := by decide +kernel
theorem dX12_chance_0 : decode cX12_chance 0 = .ok (.aload_n 0, 1) := by decide +kernel
theorem dX12_chance_1 : decode cX12_chance 1 = .ok (.bipush 8, 2) := by decide +kernel
theorem dX12_chance_3 : decode cX12_chance 3 = .ok (.invokevirtual 243, 3) := by decide +kernel
theorem dX12_chance_6 : decode cX12_chance 6 = .ok (.istore_n 1, 1) := by decide +kernel
theorem dX12_chance_7 : decode cX12_chance 7 = .ok (.iload_n 1, 1) := by decide +kernel
theorem dX12_chance_8 : decode cX12_chance 8 = .ok (.ifCond .ne 10, 3) := by decide +kernel
theorem dX12_chance_11 : decode cX12_chance 11 = .ok (.aload_n 0, 1) := by decide +kernel
theorem dX12_chance_12 : decode cX12_chance 12 = .ok (.getfield 35, 3) := by decide +kernel
theorem dX12_chance_15 : decode cX12_chance 15 = .ok (.iconst 2, 1) := by decide +kernel
theorem dX12_chance_16 : decode cX12_chance 16 = .ok (.iconst 1, 1) := by decide +kernel
theorem dX12_chance_17 : decode cX12_chance 17 = .ok (.iastore, 1) := by decide +kernel
theorem dX12_chance_18 : decode cX12_chance 18 = .ok (.iload_n 1, 1) := by decide +kernel
theorem dX12_chance_19 : decode cX12_chance 19 = .ok (.iconst 1, 1) := by decide +kernel
theorem dX12_chance_20 : decode cX12_chance 20 = .ok (.if_icmp .ne 17, 3) := by decide +kernel
theorem dX12_chance_23 : decode cX12_chance 23 = .ok (.aload_n 0, 1) := by decide +kernel
theorem dX12_chance_24 : decode cX12_chance 24 = .ok (.getfield 35, 3) := by decide +kernel
theorem dX12_chance_27 : decode cX12_chance 27 = .ok (.iconst 3, 1) := by decide +kernel
theorem dX12_chance_28 : decode cX12_chance 28 = .ok (.iconst 1, 1) := by decide +kernel
theorem dX12_chance_29 : decode cX12_chance 29 = .ok (.aload_n 0, 1) := by decide +kernel
theorem dX12_chance_30 : decode cX12_chance 30 = .ok (.getfield 35, 3) := by decide +kernel
theorem dX12_chance_33 : decode cX12_chance 33 = .ok (.iconst 3, 1) := by decide +kernel
theorem dX12_chance_34 : decode cX12_chance 34 = .ok (.iaload, 1) := by decide +kernel
theorem dX12_chance_35 : decode cX12_chance 35 = .ok (.isub, 1) := by decide +kernel
theorem dX12_chance_36 : decode cX12_chance 36 = .ok (.iastore, 1) := by decide +kernel
theorem dX12_chance_37 : decode cX12_chance 37 = .ok (.iload_n 1, 1) := by decide +kernel
theorem dX12_chance_38 : decode cX12_chance 38 = .ok (.iconst 2, 1) := by decide +kernel
theorem dX12_chance_39 : decode cX12_chance 39 = .ok (.if_icmp .ne 42, 3) := by decide +kernel
theorem dX12_chance_42 : decode cX12_chance 42 = .ok (.aload_n 0, 1) := by decide +kernel
theorem dX12_chance_43 : decode cX12_chance 43 = .ok (.getfield 79, 3) := by decide +kernel
theorem dX12_chance_46 : decode cX12_chance 46 = .ok (.ifCond .le 35, 3) := by decide +kernel
theorem dX12_chance_49 : decode cX12_chance 49 = .ok (.aload_n 0, 1) := by decide +kernel
theorem dX12_chance_50 : decode cX12_chance 50 = .ok (.aload_n 0, 1) := by decide +kernel
theorem dX12_chance_51 : decode cX12_chance 51 = .ok (.getfield 79, 3) := by decide +kernel
theorem dX12_chance_54 : decode cX12_chance 54 = .ok (.invokevirtual 243, 3) := by decide +kernel
theorem dX12_chance_57 : decode cX12_chance 57 = .ok (.istore_n 2, 1) := by decide +kernel
theorem dX12_chance_58 : decode cX12_chance 58 = .ok (.aload_n 0, 1) := by decide +kernel
theorem dX12_chance_59 : decode cX12_chance 59 = .ok (.aload_n 0, 1) := by decide +kernel
theorem dX12_chance_60 : decode cX12_chance 60 = .ok (.getfield 79, 3) := by decide +kernel
theorem dX12_chance_63 : decode cX12_chance 63 = .ok (.invokevirtual 243, 3) := by decide +kernel
theorem dX12_chance_66 : decode cX12_chance 66 = .ok (.istore_n 3, 1) := by decide +kernel
theorem dX12_chance_67 : decode cX12_chance 67 = .ok (.iload_n 2, 1) := by decide +kernel
theorem dX12_chance_68 : decode cX12_chance 68 = .ok (.iload_n 3, 1) := by decide +kernel
theorem dX12_chance_69 : decode cX12_chance 69 = .ok (.if_icmp .eq 12, 3) := by decide +kernel
theorem dX12_chance_72 : decode cX12_chance 72 = .ok (.aload_n 0, 1) := by decide +kernel
theorem dX12_chance_73 : decode cX12_chance 73 = .ok (.getfield 35, 3) := by decide +kernel
theorem dX12_chance_76 : decode cX12_chance 76 = .ok (.iload_n 2, 1) := by decide +kernel
theorem dX12_chance_77 : decode cX12_chance 77 = .ok (.iload_n 3, 1) := by decide +kernel
theorem dX12_chance_78 : decode cX12_chance 78 = .ok (.invokestatic 229, 3) := by decide +kernel
theorem dX12_chance_81 : decode cX12_chance 81 = .ok (.return_, 1) := by decide +kernel
theorem dX12_drift_0 : decode cX12_drift 0 = .ok (.aload_n 0, 1) := by decide +kernel
theorem dX12_drift_1 : decode cX12_drift 1 = .ok (.iload_n 1, 1) := by decide +kernel
theorem dX12_drift_2 : decode cX12_drift 2 = .ok (.bipush 60, 2) := by decide +kernel
theorem dX12_drift_4 : decode cX12_drift 4 = .ok (.invokevirtual 219, 3) := by decide +kernel
theorem dX12_drift_7 : decode cX12_drift 7 = .ok (.istore_n 2, 1) := by decide +kernel
theorem dX12_drift_8 : decode cX12_drift 8 = .ok (.iload_n 2, 1) := by decide +kernel
theorem dX12_drift_9 : decode cX12_drift 9 = .ok (.ifCond .eq 5, 3) := by decide +kernel
theorem dX12_drift_12 : decode cX12_drift 12 = .ok (.iload_n 2, 1) := by decide +kernel
theorem dX12_drift_13 : decode cX12_drift 13 = .ok (.ireturn, 1) := by decide +kernel
theorem dX12_drift_14 : decode cX12_drift 14 = .ok (.aload_n 0, 1) := by decide +kernel
theorem dX12_drift_15 : decode cX12_drift 15 = .ok (.invokevirtual 223, 3) := by decide +kernel
theorem dX12_drift_18 : decode cX12_drift 18 = .ok (.iconst 0, 1) := by decide +kernel
theorem dX12_drift_19 : decode cX12_drift 19 = .ok (.istore_n 3, 1) := by decide +kernel
theorem dX12_drift_20 : decode cX12_drift 20 = .ok (.iload_n 3, 1) := by decide +kernel
theorem dX12_drift_21 : decode cX12_drift 21 = .ok (.iload_n 1, 1) := by decide +kernel
theorem dX12_drift_22 : decode cX12_drift 22 = .ok (.if_icmp .ge 21, 3) := by decide +kernel
theorem dX12_drift_25 : decode cX12_drift 25 = .ok (.aload_n 0, 1) := by decide +kernel
theorem dX12_drift_26 : decode cX12_drift 26 = .ok (.invokevirtual 246, 3) := by decide +kernel
