theorem dX0_init_0 : decode cX0_init 0 = .ok (.aload_n 0, 1) := by decide +kernel
theorem dX0_init_1 : decode cX0_init 1 = .ok (.invokespecial 3, 3) := by decide +kernel
theorem dX0_init_4 : decode cX0_init 4 = .ok (.return_, 1) := by decide +kernel
theorem dX0_firstsOf_0 : decode cX0_firstsOf 0 = .ok (.iconst 0, 1) := by decide +kernel
theorem dX0_firstsOf_1 : decode cX0_firstsOf 1 = .ok (.istore_n 2, 1) := by decide +kernel
theorem dX0_firstsOf_2 : decode cX0_firstsOf 2 = .ok (.iconst 0, 1) := by decide +kernel
theorem dX0_firstsOf_3 : decode cX0_firstsOf 3 = .ok (.istore_n 3, 1) := by decide +kernel
theorem dX0_firstsOf_4 : decode cX0_firstsOf 4 = .ok (.iload_n 3, 1) := by decide +kernel
theorem dX0_firstsOf_5 : decode cX0_firstsOf 5 = .ok (.iload_n 1, 1) := by decide +kernel
theorem dX0_firstsOf_6 : decode cX0_firstsOf 6 = .ok (.if_icmp .ge 48, 3) := by decide +kernel
theorem dX0_firstsOf_9 : decode cX0_firstsOf 9 = .ok (.iload_n 0, 1) := by decide +kernel
theorem dX0_firstsOf_10 : decode cX0_firstsOf 10 = .ok (.iload_n 3, 1) := by decide +kernel
theorem dX0_firstsOf_11 : decode cX0_firstsOf 11 = .ok (.ishr, 1) := by decide +kernel
theorem dX0_firstsOf_12 : decode cX0_firstsOf 12 = .ok (.iconst 1, 1) := by decide +kernel
theorem dX0_firstsOf_13 : decode cX0_firstsOf 13 = .ok (.iand, 1) := by decide +kernel
theorem dX0_firstsOf_14 : decode cX0_firstsOf 14 = .ok (.ifCond .ne 34, 3) := by decide +kernel
theorem dX0_firstsOf_17 : decode cX0_firstsOf 17 = .ok (.iload_n 3, 1) := by decide +kernel
theorem dX0_firstsOf_18 : decode cX0_firstsOf 18 = .ok (.iconst 1, 1) := by decide +kernel
theorem dX0_firstsOf_19 : decode cX0_firstsOf 19 = .ok (.iadd, 1) := by decide +kernel
theorem dX0_firstsOf_20 : decode cX0_firstsOf 20 = .ok (.iload_n 1, 1) := by decide +kernel
theorem dX0_firstsOf_21 : decode cX0_firstsOf 21 = .ok (.if_icmp .eq 13, 3) := by decide +kernel
theorem dX0_firstsOf_24 : decode cX0_firstsOf 24 = .ok (.iload_n 0, 1) := by decide +kernel
theorem dX0_firstsOf_25 : decode cX0_firstsOf 25 = .ok (.iload_n 3, 1) := by decide +kernel
theorem dX0_firstsOf_26 : decode cX0_firstsOf 26 = .ok (.iconst 1, 1) := by decide +kernel
theorem dX0_firstsOf_27 : decode cX0_firstsOf 27 = .ok (.iadd, 1) := by decide +kernel
theorem dX0_firstsOf_28 : decode cX0_firstsOf 28 = .ok (.ishr, 1) := by decide +kernel
theorem dX0_firstsOf_29 : decode cX0_firstsOf 29 = .ok (.iconst 1, 1) := by decide +kernel
theorem dX0_firstsOf_30 : decode cX0_firstsOf 30 = .ok (.iand, 1) := by decide +kernel
theorem dX0_firstsOf_31 : decode cX0_firstsOf 31 = .ok (.ifCond .eq 5, 3) := by decide +kernel
theorem dX0_firstsOf_34 : decode cX0_firstsOf 34 = .ok (.iconst (-1), 1) := by decide +kernel
theorem dX0_firstsOf_35 : decode cX0_firstsOf 35 = .ok (.ireturn, 1) := by decide +kernel
theorem dX0_firstsOf_36 : decode cX0_firstsOf 36 = .ok (.iload_n 2, 1) := by decide +kernel
theorem dX0_firstsOf_37 : decode cX0_firstsOf 37 = .ok (.bipush 7, 2) := by decide +kernel
theorem dX0_firstsOf_39 : decode cX0_firstsOf 39 = .ok (.iconst 3, 1) := by decide +kernel
theorem dX0_firstsOf_40 : decode cX0_firstsOf 40 = .ok (.iload_n 3, 1) := by decide +kernel
theorem dX0_firstsOf_41 : decode cX0_firstsOf 41 = .ok (.imul, 1) := by decide +kernel
theorem dX0_firstsOf_42 : decode cX0_firstsOf 42 = .ok (.ishl, 1) := by decide +kernel
theorem dX0_firstsOf_43 : decode cX0_firstsOf 43 = .ok (.ior, 1) := by decide +kernel
theorem dX0_firstsOf_44 : decode cX0_firstsOf 44 = .ok (.istore_n 2, 1) := by decide +kernel
theorem dX0_firstsOf_45 : decode cX0_firstsOf 45 = .ok (.iinc 3 1, 3) := by decide +kernel
theorem dX0_firstsOf_48 : decode cX0_firstsOf 48 = .ok (.iinc 3 1, 3) := by decide +kernel
theorem dX0_firstsOf_51 : decode cX0_firstsOf 51 = .ok (.goto (-47), 3) := by decide +kernel
theorem dX0_firstsOf_54 : decode cX0_firstsOf 54 = .ok (.iload_n 2, 1) := by decide +kernel
theorem dX0_firstsOf_55 : decode cX0_firstsOf 55 = .ok (.ireturn, 1) := by decide +kernel
theorem dX0_become_0 : decode cX0_become 0 = .ok (.iload_n 1, 1) := by decide +kernel
theorem dX0_become_1 : decode cX0_become 1 = .ok (.iload_n 2, 1) := by decide +kernel
theorem dX0_become_2 : decode cX0_become 2 = .ok (.invokestatic 11, 3) := by decide +kernel
theorem dX0_become_5 : decode cX0_become 5 = .ok (.istore_n 3, 1) := by decide +kernel
theorem dX0_become_6 : decode cX0_become 6 = .ok (.iload_n 3, 1) := by decide +kernel
theorem dX0_become_7 : decode cX0_become 7 = .ok (.iconst (-1), 1) := by decide +kernel
theorem dX0_become_8 : decode cX0_become 8 = .ok (.if_icmp .ne 5, 3) := by decide +kernel
theorem dX0_become_11 : decode cX0_become 11 = .ok (.iconst 0, 1) := by decide +kernel
theorem dX0_become_12 : decode cX0_become 12 = .ok (.ireturn, 1) := by decide +kernel
theorem dX0_become_13 : decode cX0_become 13 = .ok (.aload_n 0, 1) := by decide +kernel
theorem dX0_become_14 : decode cX0_become 14 = .ok (.iload_n 1, 1) := by decide +kernel
theorem dX0_become_15 : decode cX0_become 15 = .ok (.putfield 17, 3) := by decide +kernel
theorem dX0_become_18 : decode cX0_become 18 = .ok (.aload_n 0, 1) := by decide +kernel
theorem dX0_become_19 : decode cX0_become 19 = .ok (.iload_n 3, 1) := by decide +kernel
theorem dX0_become_20 : decode cX0_become 20 = .ok (.putfield 21, 3) := by decide +kernel
theorem dX0_become_23 : decode cX0_become 23 = .ok (.aload_n 0, 1) := by decide +kernel
theorem dX0_become_24 : decode cX0_become 24 = .ok (.iconst 1, 1) := by decide +kernel
theorem dX0_become_25 : decode cX0_become 25 = .ok (.iconst 3, 1) := by decide +kernel
theorem dX0_become_26 : decode cX0_become 26 = .ok (.iload_n 2, 1) := by decide +kernel
theorem dX0_become_27 : decode cX0_become 27 = .ok (.imul, 1) := by decide +kernel
theorem dX0_become_28 : decode cX0_become 28 = .ok (.ishl, 1) := by decide +kernel
theorem dX0_become_29 : decode cX0_become 29 = .ok (.iconst 1, 1) := by decide +kernel
theorem dX0_become_30 : decode cX0_become 30 = .ok (.isub, 1) := by decide +kernel
theorem dX0_become_31 : decode cX0_become 31 = .ok (.iload_n 3, 1) := by decide +kernel
theorem dX0_become_32 : decode cX0_become 32 = .ok (.iload_n 3, 1) := by decide +kernel
theorem dX0_become_33 : decode cX0_become 33 = .ok (.iconst 3, 1) := by decide +kernel
theorem dX0_become_34 : decode cX0_become 34 = .ok (.ishl, 1) := by decide +kernel
theorem dX0_become_35 : decode cX0_become 35 = .ok (.ior, 1) := by decide +kernel
theorem dX0_become_36 : decode cX0_become 36 = .ok (.iconst (-1), 1) := by decide +kernel
theorem dX0_become_37 : decode cX0_become 37 = .ok (.ixor, 1) := by decide +kernel
theorem dX0_become_38 : decode cX0_become 38 = .ok (.iand, 1) := by decide +kernel
theorem dX0_become_39 : decode cX0_become 39 = .ok (.putfield 24, 3) := by decide +kernel
theorem dX0_become_42 : decode cX0_become 42 = .ok (.iconst 1, 1) := by decide +kernel
theorem dX0_become_43 : decode cX0_become 43 = .ok (.ireturn, 1) := by decide +kernel
theorem dX0_next_0 : decode cX0_next 0 = .ok (.iload_n 1, 1) := by decide +kernel
theorem dX0_next_1 : decode cX0_next 1 = .ok (.aload_n 0, 1) := by decide +kernel
theorem dX0_next_2 : decode cX0_next 2 = .ok (.getfield 24, 3) := by decide +kernel
theorem dX0_next_5 : decode cX0_next 5 = .ok (.iand, 1) := by decide +kernel
theorem dX0_next_6 : decode cX0_next 6 = .ok (.iload_n 1, 1) := by decide +kernel
theorem dX0_next_7 : decode cX0_next 7 = .ok (.aload_n 0, 1) := by decide +kernel
theorem dX0_next_8 : decode cX0_next 8 = .ok (.getfield 21, 3) := by decide +kernel
theorem dX0_next_11 : decode cX0_next 11 = .ok (.iand, 1) := by decide +kernel
theorem dX0_next_12 : decode cX0_next 12 = .ok (.iconst 3, 1) := by decide +kernel
theorem dX0_next_13 : decode cX0_next 13 = .ok (.ishl, 1) := by decide +kernel
theorem dX0_next_14 : decode cX0_next 14 = .ok (.ior, 1) := by decide +kernel
theorem dX0_next_15 : decode cX0_next 15 = .ok (.iload_n 1, 1) := by decide +kernel
theorem dX0_next_16 : decode cX0_next 16 = .ok (.iconst 3, 1) := by decide +kernel
theorem dX0_next_17 : decode cX0_next 17 = .ok (.ishr, 1) := by decide +kernel
theorem dX0_next_18 : decode cX0_next 18 = .ok (.aload_n 0, 1) := by decide +kernel
theorem dX0_next_19 : decode cX0_next 19 = .ok (.getfield 21, 3) := by decide +kernel
theorem dX0_next_22 : decode cX0_next 22 = .ok (.iand, 1) := by decide +kernel
theorem dX0_next_23 : decode cX0_next 23 = .ok (.ior, 1) := by decide +kernel
theorem dX0_next_24 : decode cX0_next 24 = .ok (.ireturn, 1) := by decide +kernel
theorem dX1_init_0 : decode cX1_init 0 = .ok (.aload_n 0, 1) := by decide +kernel
theorem dX1_init_1 : decode cX1_init 1 = .ok (.invokespecial 3, 3) := by decide +kernel
theorem dX1_init_4 : decode cX1_init 4 = .ok (.aload_n 0, 1) := by decide +kernel
theorem dX1_init_5 : decode cX1_init 5 = .ok (.new 9, 3) := by decide +kernel
theorem dX1_init_8 : decode cX1_init 8 = .ok (.dup, 1) := by decide +kernel
theorem dX1_init_9 : decode cX1_init 9 = .ok (.invokespecial 11, 3) := by decide +kernel
theorem dX1_init_12 : decode cX1_init 12 = .ok (.putfield 12, 3) := by decide +kernel
theorem dX1_init_15 : decode cX1_init 15 = .ok (.aload_n 0, 1) := by decide +kernel
theorem dX1_init_16 : decode cX1_init 16 = .ok (.bipush 6, 2) := by decide +kernel
theorem dX1_init_18 : decode cX1_init 18 = .ok (.newarray .int, 2) := by decide +kernel
theorem dX1_init_20 : decode cX1_init 20 = .ok (.putfield 18, 3) := by decide +kernel
theorem dX1_init_23 : decode cX1_init 23 = .ok (.aload_n 0, 1) := by decide +kernel
theorem dX1_init_24 : decode cX1_init 24 = .ok (.bipush 6, 2) := by decide +kernel
theorem dX1_init_26 : decode cX1_init 26 = .ok (.newarray .int, 2) := by decide +kernel
theorem dX1_init_28 : decode cX1_init 28 = .ok (.putfield 22, 3) := by decide +kernel
theorem dX1_init_31 : decode cX1_init 31 = .ok (.return_, 1) := by decide +kernel
theorem dX1_begin_0 : decode cX1_begin 0 = .ok (.aload_n 0, 1) := by decide +kernel
theorem dX1_begin_1 : decode cX1_begin 1 = .ok (.aload_n 1, 1) := by decide +kernel
theorem dX1_begin_2 : decode cX1_begin 2 = .ok (.invokevirtual 25, 3) := by decide +kernel
theorem dX1_begin_5 : decode cX1_begin 5 = .ok (.aload_n 0, 1) := by decide +kernel
theorem dX1_begin_6 : decode cX1_begin 6 = .ok (.iconst 0, 1) := by decide +kernel
theorem dX1_begin_7 : decode cX1_begin 7 = .ok (.putfield 29, 3) := by decide +kernel
theorem dX1_begin_10 : decode cX1_begin 10 = .ok (.aload_n 0, 1) := by decide +kernel
theorem dX1_begin_11 : decode cX1_begin 11 = .ok (.iconst 0, 1) := by decide +kernel
theorem dX1_begin_12 : decode cX1_begin 12 = .ok (.putfield 33, 3) := by decide +kernel
theorem dX1_begin_15 : decode cX1_begin 15 = .ok (.aload_n 0, 1) := by decide +kernel
theorem dX1_begin_16 : decode cX1_begin 16 = .ok (.iconst 0, 1) := by decide +kernel
theorem dX1_begin_17 : decode cX1_begin 17 = .ok (.putfield 36, 3) := by decide +kernel
theorem dX1_begin_20 : decode cX1_begin 20 = .ok (.iconst 0, 1) := by decide +kernel
theorem dX1_begin_21 : decode cX1_begin 21 = .ok (.istore_n 2, 1) := by decide +kernel
theorem dX1_begin_22 : decode cX1_begin 22 = .ok (.iload_n 2, 1) := by decide +kernel
theorem dX1_begin_23 : decode cX1_begin 23 = .ok (.bipush 6, 2) := by decide +kernel
theorem dX1_begin_25 : decode cX1_begin 25 = .ok (.if_icmp .ge 16, 3) := by decide +kernel
theorem dX1_begin_28 : decode cX1_begin 28 = .ok (.aload_n 0, 1) := by decide +kernel
theorem dX1_begin_29 : decode cX1_begin 29 = .ok (.getfield 18, 3) := by decide +kernel
theorem dX1_begin_32 : decode cX1_begin 32 = .ok (.iload_n 2, 1) := by decide +kernel
theorem dX1_begin_33 : decode cX1_begin 33 = .ok (.iload_n 2, 1) := by decide +kernel
theorem dX1_begin_34 : decode cX1_begin 34 = .ok (.iastore, 1) := by decide +kernel
theorem dX1_begin_35 : decode cX1_begin 35 = .ok (.iinc 2 1, 3) := by decide +kernel
theorem dX1_begin_38 : decode cX1_begin 38 = .ok (.goto (-16), 3) := by decide +kernel
theorem dX1_begin_41 : decode cX1_begin 41 = .ok (.return_, 1) := by decide +kernel
theorem dX1_standAgain_0 : decode cX1_standAgain 0 = .ok (.aload_n 0, 1) := by decide +kernel
theorem dX1_standAgain_1 : decode cX1_standAgain 1 = .ok (.getfield 12, 3) := by decide +kernel
theorem dX1_standAgain_4 : decode cX1_standAgain 4 = .ok (.aload_n 1, 1) := by decide +kernel
theorem dX1_standAgain_5 : decode cX1_standAgain 5 = .ok (.invokevirtual 40, 3) := by decide +kernel
theorem dX1_standAgain_8 : decode cX1_standAgain 8 = .ok (.aload_n 0, 1) := by decide +kernel
theorem dX1_standAgain_9 : decode cX1_standAgain 9 = .ok (.getfield 22, 3) := by decide +kernel
theorem dX1_standAgain_12 : decode cX1_standAgain 12 = .ok (.iconst 0, 1) := by decide +kernel
theorem dX1_standAgain_13 : decode cX1_standAgain 13 = .ok (.invokestatic 43, 3) := by decide +kernel
theorem dX1_standAgain_16 : decode cX1_standAgain 16 = .ok (.return_, 1) := by decide +kernel
theorem dX1_copyFrom_0 : decode cX1_copyFrom 0 = .ok (.aload_n 0, 1) := by decide +kernel
theorem dX1_copyFrom_1 : decode cX1_copyFrom 1 = .ok (.getfield 12, 3) := by decide +kernel
theorem dX1_copyFrom_4 : decode cX1_copyFrom 4 = .ok (.aload_n 1, 1) := by decide +kernel
theorem dX1_copyFrom_5 : decode cX1_copyFrom 5 = .ok (.getfield 12, 3) := by decide +kernel
theorem dX1_copyFrom_8 : decode cX1_copyFrom 8 = .ok (.invokevirtual 49, 3) := by decide +kernel
theorem dX1_copyFrom_11 : decode cX1_copyFrom 11 = .ok (.aload_n 0, 1) := by decide +kernel
theorem dX1_copyFrom_12 : decode cX1_copyFrom 12 = .ok (.aload_n 1, 1) := by decide +kernel
theorem dX1_copyFrom_13 : decode cX1_copyFrom 13 = .ok (.getfield 29, 3) := by decide +kernel
theorem dX1_copyFrom_16 : decode cX1_copyFrom 16 = .ok (.putfield 29, 3) := by decide +kernel
theorem dX1_copyFrom_19 : decode cX1_copyFrom 19 = .ok (.aload_n 0, 1) := by decide +kernel
theorem dX1_copyFrom_20 : decode cX1_copyFrom 20 = .ok (.aload_n 1, 1) := by decide +kernel
theorem dX1_copyFrom_21 : decode cX1_copyFrom 21 = .ok (.getfield 33, 3) := by decide +kernel
theorem dX1_copyFrom_24 : decode cX1_copyFrom 24 = .ok (.putfield 33, 3) := by decide +kernel
theorem dX1_copyFrom_27 : decode cX1_copyFrom 27 = .ok (.aload_n 0, 1) := by decide +kernel
theorem dX1_copyFrom_28 : decode cX1_copyFrom 28 = .ok (.aload_n 1, 1) := by decide +kernel
theorem dX1_copyFrom_29 : decode cX1_copyFrom 29 = .ok (.getfield 36, 3) := by decide +kernel
theorem dX1_copyFrom_32 : decode cX1_copyFrom 32 = .ok (.putfield 36, 3) := by decide +kernel
theorem dX1_copyFrom_35 : decode cX1_copyFrom 35 = .ok (.aload_n 1, 1) := by decide +kernel
theorem dX1_copyFrom_36 : decode cX1_copyFrom 36 = .ok (.getfield 18, 3) := by decide +kernel
theorem dX1_copyFrom_39 : decode cX1_copyFrom 39 = .ok (.iconst 0, 1) := by decide +kernel
theorem dX1_copyFrom_40 : decode cX1_copyFrom 40 = .ok (.aload_n 0, 1) := by decide +kernel
theorem dX1_copyFrom_41 : decode cX1_copyFrom 41 = .ok (.getfield 18, 3) := by decide +kernel
theorem dX1_copyFrom_44 : decode cX1_copyFrom 44 = .ok (.iconst 0, 1) := by decide +kernel
theorem dX1_copyFrom_45 : decode cX1_copyFrom 45 = .ok (.bipush 6, 2) := by decide +kernel
theorem dX1_copyFrom_47 : decode cX1_copyFrom 47 = .ok (.invokestatic 53, 3) := by decide +kernel
theorem dX1_copyFrom_50 : decode cX1_copyFrom 50 = .ok (.aload_n 1, 1) := by decide +kernel
theorem dX1_copyFrom_51 : decode cX1_copyFrom 51 = .ok (.getfield 22, 3) := by decide +kernel
theorem dX1_copyFrom_54 : decode cX1_copyFrom 54 = .ok (.iconst 0, 1) := by decide +kernel
theorem dX1_copyFrom_55 : decode cX1_copyFrom 55 = .ok (.aload_n 0, 1) := by decide +kernel
theorem dX1_copyFrom_56 : decode cX1_copyFrom 56 = .ok (.getfield 22, 3) := by decide +kernel
theorem dX1_copyFrom_59 : decode cX1_copyFrom 59 = .ok (.iconst 0, 1) := by decide +kernel
theorem dX1_copyFrom_60 : decode cX1_copyFrom 60 = .ok (.bipush 6, 2) := by decide +kernel
theorem dX1_copyFrom_62 : decode cX1_copyFrom 62 = .ok (.invokestatic 53, 3) := by decide +kernel
theorem dX1_copyFrom_65 : decode cX1_copyFrom 65 = .ok (.return_, 1) := by decide +kernel
theorem dX1_ropeOf_0 : decode cX1_ropeOf 0 = .ok (.iload_n 1, 1) := by decide +kernel
theorem dX1_ropeOf_1 : decode cX1_ropeOf 1 = .ok (.ifCond .lt 18, 3) := by decide +kernel
theorem dX1_ropeOf_4 : decode cX1_ropeOf 4 = .ok (.iload_n 1, 1) := by decide +kernel
theorem dX1_ropeOf_5 : decode cX1_ropeOf 5 = .ok (.bipush 6, 2) := by decide +kernel
theorem dX1_ropeOf_7 : decode cX1_ropeOf 7 = .ok (.if_icmp .ge 12, 3) := by decide +kernel
theorem dX1_ropeOf_10 : decode cX1_ropeOf 10 = .ok (.aload_n 0, 1) := by decide +kernel
theorem dX1_ropeOf_11 : decode cX1_ropeOf 11 = .ok (.getfield 18, 3) := by decide +kernel
theorem dX1_ropeOf_14 : decode cX1_ropeOf 14 = .ok (.iload_n 1, 1) := by decide +kernel
theorem dX1_ropeOf_15 : decode cX1_ropeOf 15 = .ok (.iaload, 1) := by decide +kernel
theorem dX1_ropeOf_16 : decode cX1_ropeOf 16 = .ok (.goto 4, 3) := by decide +kernel
theorem dX1_ropeOf_19 : decode cX1_ropeOf 19 = .ok (.iconst (-1), 1) := by decide +kernel
theorem dX1_ropeOf_20 : decode cX1_ropeOf 20 = .ok (.ireturn, 1) := by decide +kernel
theorem dX1_tirednessOf_0 : decode cX1_tirednessOf 0 = .ok (.iload_n 1, 1) := by decide +kernel
theorem dX1_tirednessOf_1 : decode cX1_tirednessOf 1 = .ok (.ifCond .lt 18, 3) := by decide +kernel
theorem dX1_tirednessOf_4 : decode cX1_tirednessOf 4 = .ok (.iload_n 1, 1) := by decide +kernel
theorem dX1_tirednessOf_5 : decode cX1_tirednessOf 5 = .ok (.bipush 6, 2) := by decide +kernel
theorem dX1_tirednessOf_7 : decode cX1_tirednessOf 7 = .ok (.if_icmp .ge 12, 3) := by decide +kernel
theorem dX1_tirednessOf_10 : decode cX1_tirednessOf 10 = .ok (.aload_n 0, 1) := by decide +kernel
theorem dX1_tirednessOf_11 : decode cX1_tirednessOf 11 = .ok (.getfield 22, 3) := by decide +kernel
theorem dX1_tirednessOf_14 : decode cX1_tirednessOf 14 = .ok (.iload_n 1, 1) := by decide +kernel
theorem dX1_tirednessOf_15 : decode cX1_tirednessOf 15 = .ok (.iaload, 1) := by decide +kernel
theorem dX1_tirednessOf_16 : decode cX1_tirednessOf 16 = .ok (.goto 4, 3) := by decide +kernel
theorem dX1_tirednessOf_19 : decode cX1_tirednessOf 19 = .ok (.iconst 0, 1) := by decide +kernel
theorem dX1_tirednessOf_20 : decode cX1_tirednessOf 20 = .ok (.ireturn, 1) := by decide +kernel
theorem dX1_isOut_0 : decode cX1_isOut 0 = .ok (.aload_n 0, 1) := by decide +kernel
theorem dX1_isOut_1 : decode cX1_isOut 1 = .ok (.getfield 33, 3) := by decide +kernel
theorem dX1_isOut_4 : decode cX1_isOut 4 = .ok (.iload_n 1, 1) := by decide +kernel
theorem dX1_isOut_5 : decode cX1_isOut 5 = .ok (.ishr, 1) := by decide +kernel
theorem dX1_isOut_6 : decode cX1_isOut 6 = .ok (.iconst 1, 1) := by decide +kernel
theorem dX1_isOut_7 : decode cX1_isOut 7 = .ok (.iand, 1) := by decide +kernel
theorem dX1_isOut_8 : decode cX1_isOut 8 = .ok (.ifCond .eq 7, 3) := by decide +kernel
theorem dX1_isOut_11 : decode cX1_isOut 11 = .ok (.iconst 1, 1) := by decide +kernel
theorem dX1_isOut_12 : decode cX1_isOut 12 = .ok (.goto 4, 3) := by decide +kernel
theorem dX1_isOut_15 : decode cX1_isOut 15 = .ok (.iconst 0, 1) := by decide +kernel
theorem dX1_isOut_16 : decode cX1_isOut 16 = .ok (.ireturn, 1) := by decide +kernel
theorem dX1_suitorOf_0 : decode cX1_suitorOf 0 = .ok (.iconst 0, 1) := by decide +kernel
theorem dX1_suitorOf_1 : decode cX1_suitorOf 1 = .ok (.istore_n 3, 1) := by decide +kernel
theorem dX1_suitorOf_2 : decode cX1_suitorOf 2 = .ok (.iload_n 3, 1) := by decide +kernel
theorem dX1_suitorOf_3 : decode cX1_suitorOf 3 = .ok (.aload_n 2, 1) := by decide +kernel
theorem dX1_suitorOf_4 : decode cX1_suitorOf 4 = .ok (.getfield 59, 3) := by decide +kernel
theorem dX1_suitorOf_7 : decode cX1_suitorOf 7 = .ok (.if_icmp .ge 20, 3) := by decide +kernel
theorem dX1_suitorOf_10 : decode cX1_suitorOf 10 = .ok (.aload_n 0, 1) := by decide +kernel
theorem dX1_suitorOf_11 : decode cX1_suitorOf 11 = .ok (.iload_n 3, 1) := by decide +kernel
theorem dX1_suitorOf_12 : decode cX1_suitorOf 12 = .ok (.invokevirtual 64, 3) := by decide +kernel
theorem dX1_suitorOf_15 : decode cX1_suitorOf 15 = .ok (.iload_n 1, 1) := by decide +kernel
theorem dX1_suitorOf_16 : decode cX1_suitorOf 16 = .ok (.if_icmp .ne 5, 3) := by decide +kernel
theorem dX1_suitorOf_19 : decode cX1_suitorOf 19 = .ok (.iload_n 3, 1) := by decide +kernel
theorem dX1_suitorOf_20 : decode cX1_suitorOf 20 = .ok (.ireturn, 1) := by decide +kernel
theorem dX1_suitorOf_21 : decode cX1_suitorOf 21 = .ok (.iinc 3 1, 3) := by decide +kernel
theorem dX1_suitorOf_24 : decode cX1_suitorOf 24 = .ok (.goto (-22), 3) := by decide +kernel
theorem dX1_suitorOf_27 : decode cX1_suitorOf 27 = .ok (.iconst (-1), 1) := by decide +kernel
theorem dX1_suitorOf_28 : decode cX1_suitorOf 28 = .ok (.ireturn, 1) := by decide +kernel
theorem dX1_changeRopes_0 : decode cX1_changeRopes 0 = .ok (.iload_n 1, 1) := by decide +kernel
theorem dX1_changeRopes_1 : decode cX1_changeRopes 1 = .ok (.ifCond .lt 45, 3) := by decide +kernel
theorem dX1_changeRopes_4 : decode cX1_changeRopes 4 = .ok (.iload_n 1, 1) := by decide +kernel
theorem dX1_changeRopes_5 : decode cX1_changeRopes 5 = .ok (.bipush 6, 2) := by decide +kernel
theorem dX1_changeRopes_7 : decode cX1_changeRopes 7 = .ok (.if_icmp .ge 39, 3) := by decide +kernel
theorem dX1_changeRopes_10 : decode cX1_changeRopes 10 = .ok (.iload_n 2, 1) := by decide +kernel
theorem dX1_changeRopes_11 : decode cX1_changeRopes 11 = .ok (.ifCond .lt 35, 3) := by decide +kernel
theorem dX1_changeRopes_14 : decode cX1_changeRopes 14 = .ok (.iload_n 2, 1) := by decide +kernel
theorem dX1_changeRopes_15 : decode cX1_changeRopes 15 = .ok (.bipush 6, 2) := by decide +kernel
theorem dX1_changeRopes_17 : decode cX1_changeRopes 17 = .ok (.if_icmp .ge 29, 3) := by decide +kernel
theorem dX1_changeRopes_20 : decode cX1_changeRopes 20 = .ok (.aload_n 0, 1) := by decide +kernel
theorem dX1_changeRopes_21 : decode cX1_changeRopes 21 = .ok (.getfield 18, 3) := by decide +kernel
theorem dX1_changeRopes_24 : decode cX1_changeRopes 24 = .ok (.iload_n 1, 1) := by decide +kernel
theorem dX1_changeRopes_25 : decode cX1_changeRopes 25 = .ok (.iaload, 1) := by decide +kernel
theorem dX1_changeRopes_26 : decode cX1_changeRopes 26 = .ok (.istore_n 3, 1) := by decide +kernel
theorem dX1_changeRopes_27 : decode cX1_changeRopes 27 = .ok (.aload_n 0, 1) := by decide +kernel
theorem dX1_changeRopes_28 : decode cX1_changeRopes 28 = .ok (.getfield 18, 3) := by decide +kernel
theorem dX1_changeRopes_31 : decode cX1_changeRopes 31 = .ok (.iload_n 1, 1) := by decide +kernel
theorem dX1_changeRopes_32 : decode cX1_changeRopes 32 = .ok (.aload_n 0, 1) := by decide +kernel
theorem dX1_changeRopes_33 : decode cX1_changeRopes 33 = .ok (.getfield 18, 3) := by decide +kernel
theorem dX1_changeRopes_36 : decode cX1_changeRopes 36 = .ok (.iload_n 2, 1) := by decide +kernel
theorem dX1_changeRopes_37 : decode cX1_changeRopes 37 = .ok (.iaload, 1) := by decide +kernel
theorem dX1_changeRopes_38 : decode cX1_changeRopes 38 = .ok (.iastore, 1) := by decide +kernel
theorem dX1_changeRopes_39 : decode cX1_changeRopes 39 = .ok (.aload_n 0, 1) := by decide +kernel
theorem dX1_changeRopes_40 : decode cX1_changeRopes 40 = .ok (.getfield 18, 3) := by decide +kernel
theorem dX1_changeRopes_43 : decode cX1_changeRopes 43 = .ok (.iload_n 2, 1) := by decide +kernel
theorem dX1_changeRopes_44 : decode cX1_changeRopes 44 = .ok (.iload_n 3, 1) := by decide +kernel
theorem dX1_changeRopes_45 : decode cX1_changeRopes 45 = .ok (.iastore, 1) := by decide +kernel
theorem dX1_changeRopes_46 : decode cX1_changeRopes 46 = .ok (.return_, 1) := by decide +kernel
theorem dX1_ringNext_0 : decode cX1_ringNext 0 = .ok (.aload_n 0, 1) := by decide +kernel
theorem dX1_ringNext_1 : decode cX1_ringNext 1 = .ok (.getfield 12, 3) := by decide +kernel
theorem dX1_ringNext_4 : decode cX1_ringNext 4 = .ok (.aload_n 1, 1) := by decide +kernel
theorem dX1_ringNext_5 : decode cX1_ringNext 5 = .ok (.invokevirtual 68, 3) := by decide +kernel
theorem dX1_ringNext_8 : decode cX1_ringNext 8 = .ok (.aload_n 0, 1) := by decide +kernel
theorem dX1_ringNext_9 : decode cX1_ringNext 9 = .ok (.dup, 1) := by decide +kernel
theorem dX1_ringNext_10 : decode cX1_ringNext 10 = .ok (.getfield 29, 3) := by decide +kernel
theorem dX1_ringNext_13 : decode cX1_ringNext 13 = .ok (.iconst 1, 1) := by decide +kernel
theorem dX1_ringNext_14 : decode cX1_ringNext 14 = .ok (.iadd, 1) := by decide +kernel
theorem dX1_ringNext_15 : decode cX1_ringNext 15 = .ok (.putfield 29, 3) := by decide +kernel
theorem dX1_ringNext_18 : decode cX1_ringNext 18 = .ok (.aload_n 0, 1) := by decide +kernel
theorem dX1_ringNext_19 : decode cX1_ringNext 19 = .ok (.aload_n 1, 1) := by decide +kernel
theorem dX1_ringNext_20 : decode cX1_ringNext 20 = .ok (.invokevirtual 71, 3) := by decide +kernel
theorem dX1_ringNext_23 : decode cX1_ringNext 23 = .ok (.aload_n 0, 1) := by decide +kernel
theorem dX1_ringNext_24 : decode cX1_ringNext 24 = .ok (.getfield 12, 3) := by decide +kernel
theorem dX1_ringNext_27 : decode cX1_ringNext 27 = .ok (.invokevirtual 74, 3) := by decide +kernel
theorem dX1_ringNext_30 : decode cX1_ringNext 30 = .ok (.ifCond .eq 19, 3) := by decide +kernel
theorem dX1_ringNext_33 : decode cX1_ringNext 33 = .ok (.aload_n 0, 1) := by decide +kernel
theorem dX1_ringNext_34 : decode cX1_ringNext 34 = .ok (.aload_n 0, 1) := by decide +kernel
theorem dX1_ringNext_35 : decode cX1_ringNext 35 = .ok (.aload_n 0, 1) := by decide +kernel
theorem dX1_ringNext_36 : decode cX1_ringNext 36 = .ok (.getfield 12, 3) := by decide +kernel
theorem dX1_ringNext_39 : decode cX1_ringNext 39 = .ok (.getfield 78, 3) := by decide +kernel
theorem dX1_ringNext_42 : decode cX1_ringNext 42 = .ok (.aload_n 1, 1) := by decide +kernel
theorem dX1_ringNext_43 : decode cX1_ringNext 43 = .ok (.invokevirtual 81, 3) := by decide +kernel
theorem dX1_ringNext_46 : decode cX1_ringNext 46 = .ok (.invokevirtual 85, 3) := by decide +kernel
theorem dX1_ringNext_49 : decode cX1_ringNext 49 = .ok (.return_, 1) := by decide +kernel
theorem dX1_tireAll_0 : decode cX1_tireAll 0 = .ok (.aload_n 0, 1) := by decide +kernel
theorem dX1_tireAll_1 : decode cX1_tireAll 1 = .ok (.getfield 36, 3) := by decide +kernel
theorem dX1_tireAll_4 : decode cX1_tireAll 4 = .ok (.ifCond .eq 7, 3) := by decide +kernel
theorem dX1_tireAll_7 : decode cX1_tireAll 7 = .ok (.iconst 1, 1) := by decide +kernel
theorem dX1_tireAll_8 : decode cX1_tireAll 8 = .ok (.goto 4, 3) := by decide +kernel
theorem dX1_tireAll_11 : decode cX1_tireAll 11 = .ok (.iconst 0, 1) := by decide +kernel
theorem dX1_tireAll_12 : decode cX1_tireAll 12 = .ok (.istore_n 2, 1) := by decide +kernel
theorem dX1_tireAll_13 : decode cX1_tireAll 13 = .ok (.iconst 0, 1) := by decide +kernel
theorem dX1_tireAll_14 : decode cX1_tireAll 14 = .ok (.istore_n 3, 1) := by decide +kernel
theorem dX1_tireAll_15 : decode cX1_tireAll 15 = .ok (.iload_n 3, 1) := by decide +kernel
theorem dX1_tireAll_16 : decode cX1_tireAll 16 = .ok (.aload_n 1, 1) := by decide +kernel
theorem dX1_tireAll_17 : decode cX1_tireAll 17 = .ok (.getfield 59, 3) := by decide +kernel
theorem dX1_tireAll_20 : decode cX1_tireAll 20 = .ok (.if_icmp .ge 54, 3) := by decide +kernel
theorem dX1_tireAll_23 : decode cX1_tireAll 23 = .ok (.iload_n 3, 1) := by decide +kernel
theorem dX1_tireAll_24 : decode cX1_tireAll 24 = .ok (.bipush 6, 2) := by decide +kernel
theorem dX1_tireAll_26 : decode cX1_tireAll 26 = .ok (.if_icmp .ge 48, 3) := by decide +kernel
theorem dX1_tireAll_29 : decode cX1_tireAll 29 = .ok (.aload_n 0, 1) := by decide +kernel
theorem dX1_tireAll_30 : decode cX1_tireAll 30 = .ok (.iload_n 3, 1) := by decide +kernel
theorem dX1_tireAll_31 : decode cX1_tireAll 31 = .ok (.invokevirtual 89, 3) := by decide +kernel
theorem dX1_tireAll_34 : decode cX1_tireAll 34 = .ok (.ifCond .ne 34, 3) := by decide +kernel
theorem dX1_tireAll_37 : decode cX1_tireAll 37 = .ok (.aload_n 0, 1) := by decide +kernel
theorem dX1_tireAll_38 : decode cX1_tireAll 38 = .ok (.getfield 22, 3) := by decide +kernel
theorem dX1_tireAll_41 : decode cX1_tireAll 41 = .ok (.iload_n 3, 1) := by decide +kernel
theorem dX1_tireAll_42 : decode cX1_tireAll 42 = .ok (.sipush 9999, 3) := by decide +kernel
theorem dX1_tireAll_45 : decode cX1_tireAll 45 = .ok (.aload_n 0, 1) := by decide +kernel
theorem dX1_tireAll_46 : decode cX1_tireAll 46 = .ok (.getfield 22, 3) := by decide +kernel
theorem dX1_tireAll_49 : decode cX1_tireAll 49 = .ok (.iload_n 3, 1) := by decide +kernel
theorem dX1_tireAll_50 : decode cX1_tireAll 50 = .ok (.iaload, 1) := by decide +kernel
theorem dX1_tireAll_51 : decode cX1_tireAll 51 = .ok (.aload_n 1, 1) := by decide +kernel
theorem dX1_tireAll_52 : decode cX1_tireAll 52 = .ok (.iload_n 3, 1) := by decide +kernel
theorem dX1_tireAll_53 : decode cX1_tireAll 53 = .ok (.aload_n 0, 1) := by decide +kernel
theorem dX1_tireAll_54 : decode cX1_tireAll 54 = .ok (.iload_n 3, 1) := by decide +kernel
theorem dX1_tireAll_55 : decode cX1_tireAll 55 = .ok (.invokevirtual 64, 3) := by decide +kernel
theorem dX1_tireAll_58 : decode cX1_tireAll 58 = .ok (.invokevirtual 93, 3) := by decide +kernel
theorem dX1_tireAll_61 : decode cX1_tireAll 61 = .ok (.iadd, 1) := by decide +kernel
theorem dX1_tireAll_62 : decode cX1_tireAll 62 = .ok (.iload_n 2, 1) := by decide +kernel
theorem dX1_tireAll_63 : decode cX1_tireAll 63 = .ok (.iadd, 1) := by decide +kernel
theorem dX1_tireAll_64 : decode cX1_tireAll 64 = .ok (.invokestatic 97, 3) := by decide +kernel
theorem dX1_tireAll_67 : decode cX1_tireAll 67 = .ok (.iastore, 1) := by decide +kernel
theorem dX1_tireAll_68 : decode cX1_tireAll 68 = .ok (.iinc 3 1, 3) := by decide +kernel
theorem dX1_tireAll_71 : decode cX1_tireAll 71 = .ok (.goto (-56), 3) := by decide +kernel
theorem dX1_tireAll_74 : decode cX1_tireAll 74 = .ok (.return_, 1) := by decide +kernel
theorem dX1_sendOut_0 : decode cX1_sendOut 0 = .ok (.iload_n 1, 1) := by decide +kernel
theorem dX1_sendOut_1 : decode cX1_sendOut 1 = .ok (.iconst (-1), 1) := by decide +kernel
theorem dX1_sendOut_2 : decode cX1_sendOut 2 = .ok (.if_icmp .eq 15, 3) := by decide +kernel
theorem dX1_sendOut_5 : decode cX1_sendOut 5 = .ok (.aload_n 0, 1) := by decide +kernel
theorem dX1_sendOut_6 : decode cX1_sendOut 6 = .ok (.dup, 1) := by decide +kernel
theorem dX1_sendOut_7 : decode cX1_sendOut 7 = .ok (.getfield 33, 3) := by decide +kernel
theorem dX1_sendOut_10 : decode cX1_sendOut 10 = .ok (.iconst 1, 1) := by decide +kernel
theorem dX1_sendOut_11 : decode cX1_sendOut 11 = .ok (.iload_n 1, 1) := by decide +kernel
theorem dX1_sendOut_12 : decode cX1_sendOut 12 = .ok (.ishl, 1) := by decide +kernel
theorem dX1_sendOut_13 : decode cX1_sendOut 13 = .ok (.ior, 1) := by decide +kernel
theorem dX1_sendOut_14 : decode cX1_sendOut 14 = .ok (.putfield 33, 3) := by decide +kernel
theorem dX1_sendOut_17 : decode cX1_sendOut 17 = .ok (.return_, 1) := by decide +kernel
theorem dX1_loserBy_0 : decode cX1_loserBy 0 = .ok (.aload_n 0, 1) := by decide +kernel
theorem dX1_loserBy_1 : decode cX1_loserBy 1 = .ok (.iload_n 1, 1) := by decide +kernel
theorem dX1_loserBy_2 : decode cX1_loserBy 2 = .ok (.aload_n 2, 1) := by decide +kernel
theorem dX1_loserBy_3 : decode cX1_loserBy 3 = .ok (.getfield 102, 3) := by decide +kernel
theorem dX1_loserBy_6 : decode cX1_loserBy 6 = .ok (.iconst 1, 1) := by decide +kernel
theorem dX1_loserBy_7 : decode cX1_loserBy 7 = .ok (.isub, 1) := by decide +kernel
theorem dX1_loserBy_8 : decode cX1_loserBy 8 = .ok (.invokestatic 105, 3) := by decide +kernel
theorem dX1_loserBy_11 : decode cX1_loserBy 11 = .ok (.aload_n 2, 1) := by decide +kernel
theorem dX1_loserBy_12 : decode cX1_loserBy 12 = .ok (.invokevirtual 110, 3) := by decide +kernel
theorem dX1_loserBy_15 : decode cX1_loserBy 15 = .ok (.istore_n 3, 1) := by decide +kernel
theorem dX1_loserBy_16 : decode cX1_loserBy 16 = .ok (.iload_n 3, 1) := by decide +kernel
theorem dX1_loserBy_17 : decode cX1_loserBy 17 = .ok (.iconst (-1), 1) := by decide +kernel
theorem dX1_loserBy_18 : decode cX1_loserBy 18 = .ok (.if_icmp .eq 24, 3) := by decide +kernel
theorem dX1_loserBy_21 : decode cX1_loserBy 21 = .ok (.aload_n 0, 1) := by decide +kernel
theorem dX1_loserBy_22 : decode cX1_loserBy 22 = .ok (.iload_n 3, 1) := by decide +kernel
theorem dX1_loserBy_23 : decode cX1_loserBy 23 = .ok (.invokevirtual 89, 3) := by decide +kernel
theorem dX1_loserBy_26 : decode cX1_loserBy 26 = .ok (.ifCond .ne 16, 3) := by decide +kernel
theorem dX1_loserBy_29 : decode cX1_loserBy 29 = .ok (.aload_n 0, 1) := by decide +kernel
theorem dX1_loserBy_30 : decode cX1_loserBy 30 = .ok (.aload_n 2, 1) := by decide +kernel
theorem dX1_loserBy_31 : decode cX1_loserBy 31 = .ok (.invokevirtual 113, 3) := by decide +kernel
theorem dX1_loserBy_34 : decode cX1_loserBy 34 = .ok (.iconst 2, 1) := by decide +kernel
theorem dX1_loserBy_35 : decode cX1_loserBy 35 = .ok (.if_icmp .lt 7, 3) := by decide +kernel
theorem dX1_loserBy_38 : decode cX1_loserBy 38 = .ok (.iconst 1, 1) := by decide +kernel
theorem dX1_loserBy_39 : decode cX1_loserBy 39 = .ok (.goto 4, 3) := by decide +kernel
theorem dX1_loserBy_42 : decode cX1_loserBy 42 = .ok (.iconst 0, 1) := by decide +kernel
theorem dX1_loserBy_43 : decode cX1_loserBy 43 = .ok (.istore 4, 2) := by decide +kernel
theorem dX1_loserBy_45 : decode cX1_loserBy 45 = .ok (.iload 4, 2) := by decide +kernel
theorem dX1_loserBy_47 : decode cX1_loserBy 47 = .ok (.ifCond .eq 7, 3) := by decide +kernel
theorem dX1_loserBy_50 : decode cX1_loserBy 50 = .ok (.iload_n 3, 1) := by decide +kernel
theorem dX1_loserBy_51 : decode cX1_loserBy 51 = .ok (.goto 4, 3) := by decide +kernel
theorem dX1_loserBy_54 : decode cX1_loserBy 54 = .ok (.iconst (-1), 1) := by decide +kernel
theorem dX1_loserBy_55 : decode cX1_loserBy 55 = .ok (.ireturn, 1) := by decide +kernel
theorem dX1_stillIn_0 : decode cX1_stillIn 0 = .ok (.aload_n 1, 1) := by decide +kernel
theorem dX1_stillIn_1 : decode cX1_stillIn 1 = .ok (.getfield 59, 3) := by decide +kernel
theorem dX1_stillIn_4 : decode cX1_stillIn 4 = .ok (.aload_n 0, 1) := by decide +kernel
theorem dX1_stillIn_5 : decode cX1_stillIn 5 = .ok (.getfield 33, 3) := by decide +kernel
theorem dX1_stillIn_8 : decode cX1_stillIn 8 = .ok (.invokestatic 117, 3) := by decide +kernel
theorem dX1_stillIn_11 : decode cX1_stillIn 11 = .ok (.isub, 1) := by decide +kernel
theorem dX1_stillIn_12 : decode cX1_stillIn 12 = .ok (.ireturn, 1) := by decide +kernel
theorem dX1_wed_0 : decode cX1_wed 0 = .ok (.aload_n 1, 1) := by decide +kernel
theorem dX1_wed_1 : decode cX1_wed 1 = .ok (.getfield 59, 3) := by decide +kernel
theorem dX1_wed_4 : decode cX1_wed 4 = .ok (.iconst 2, 1) := by decide +kernel
theorem dX1_wed_5 : decode cX1_wed 5 = .ok (.if_icmp .lt 12, 3) := by decide +kernel
theorem dX1_wed_8 : decode cX1_wed 8 = .ok (.aload_n 0, 1) := by decide +kernel
theorem dX1_wed_9 : decode cX1_wed 9 = .ok (.aload_n 1, 1) := by decide +kernel
theorem dX1_wed_10 : decode cX1_wed 10 = .ok (.invokevirtual 113, 3) := by decide +kernel
theorem dX1_wed_13 : decode cX1_wed 13 = .ok (.iconst 1, 1) := by decide +kernel
theorem dX1_wed_14 : decode cX1_wed 14 = .ok (.if_icmp .eq 5, 3) := by decide +kernel
theorem dX1_wed_17 : decode cX1_wed 17 = .ok (.iconst (-1), 1) := by decide +kernel
theorem dX1_wed_18 : decode cX1_wed 18 = .ok (.ireturn, 1) := by decide +kernel
theorem dX1_wed_19 : decode cX1_wed 19 = .ok (.iconst 0, 1) := by decide +kernel
theorem dX1_wed_20 : decode cX1_wed 20 = .ok (.istore_n 2, 1) := by decide +kernel
theorem dX1_wed_21 : decode cX1_wed 21 = .ok (.iload_n 2, 1) := by decide +kernel
theorem dX1_wed_22 : decode cX1_wed 22 = .ok (.aload_n 1, 1) := by decide +kernel
theorem dX1_wed_23 : decode cX1_wed 23 = .ok (.getfield 59, 3) := by decide +kernel
theorem dX1_wed_26 : decode cX1_wed 26 = .ok (.if_icmp .ge 19, 3) := by decide +kernel
theorem dX1_wed_29 : decode cX1_wed 29 = .ok (.aload_n 0, 1) := by decide +kernel
theorem dX1_wed_30 : decode cX1_wed 30 = .ok (.iload_n 2, 1) := by decide +kernel
theorem dX1_wed_31 : decode cX1_wed 31 = .ok (.invokevirtual 89, 3) := by decide +kernel
theorem dX1_wed_34 : decode cX1_wed 34 = .ok (.ifCond .ne 5, 3) := by decide +kernel
theorem dX1_wed_37 : decode cX1_wed 37 = .ok (.iload_n 2, 1) := by decide +kernel
theorem dX1_wed_38 : decode cX1_wed 38 = .ok (.ireturn, 1) := by decide +kernel
theorem dX1_wed_39 : decode cX1_wed 39 = .ok (.iinc 2 1, 3) := by decide +kernel
theorem dX1_wed_42 : decode cX1_wed 42 = .ok (.goto (-21), 3) := by decide +kernel
theorem dX1_wed_45 : decode cX1_wed 45 = .ok (.iconst (-1), 1) := by decide +kernel
theorem dX1_wed_46 : decode cX1_wed 46 = .ok (.ireturn, 1) := by decide +kernel
theorem dX2_init_0 : decode cX2_init 0 = .ok (.aload_n 0, 1) := by decide +kernel
theorem dX2_init_1 : decode cX2_init 1 = .ok (.invokespecial 3, 3) := by decide +kernel
theorem dX2_init_4 : decode cX2_init 4 = .ok (.aload_n 0, 1) := by decide +kernel
theorem dX2_init_5 : decode cX2_init 5 = .ok (.bipush 15, 2) := by decide +kernel
theorem dX2_init_7 : decode cX2_init 7 = .ok (.newarray .int, 2) := by decide +kernel
theorem dX2_init_9 : decode cX2_init 9 = .ok (.putfield 9, 3) := by decide +kernel
theorem dX2_init_12 : decode cX2_init 12 = .ok (.aload_n 0, 1) := by decide +kernel
theorem dX2_init_13 : decode cX2_init 13 = .ok (.bipush 15, 2) := by decide +kernel
theorem dX2_init_15 : decode cX2_init 15 = .ok (.newarray .int, 2) := by decide +kernel
theorem dX2_init_17 : decode cX2_init 17 = .ok (.putfield 15, 3) := by decide +kernel
theorem dX2_init_20 : decode cX2_init 20 = .ok (.return_, 1) := by decide +kernel
theorem dX2_empty_0 : decode cX2_empty 0 = .ok (.aload_n 0, 1) := by decide +kernel
theorem dX2_empty_1 : decode cX2_empty 1 = .ok (.iconst 0, 1) := by decide +kernel
theorem dX2_empty_2 : decode cX2_empty 2 = .ok (.putfield 18, 3) := by decide +kernel
theorem dX2_empty_5 : decode cX2_empty 5 = .ok (.aload_n 0, 1) := by decide +kernel
theorem dX2_empty_6 : decode cX2_empty 6 = .ok (.iconst 0, 1) := by decide +kernel
theorem dX2_empty_7 : decode cX2_empty 7 = .ok (.putfield 22, 3) := by decide +kernel
theorem dX2_empty_10 : decode cX2_empty 10 = .ok (.aload_n 0, 1) := by decide +kernel
theorem dX2_empty_11 : decode cX2_empty 11 = .ok (.aload_n 1, 1) := by decide +kernel
theorem dX2_empty_12 : decode cX2_empty 12 = .ok (.invokevirtual 25, 3) := by decide +kernel
theorem dX2_empty_15 : decode cX2_empty 15 = .ok (.ifCond .eq 10, 3) := by decide +kernel
theorem dX2_empty_18 : decode cX2_empty 18 = .ok (.aload_n 1, 1) := by decide +kernel
theorem dX2_empty_19 : decode cX2_empty 19 = .ok (.invokevirtual 31, 3) := by decide +kernel
theorem dX2_empty_22 : decode cX2_empty 22 = .ok (.goto 4, 3) := by decide +kernel
theorem dX2_empty_25 : decode cX2_empty 25 = .ok (.iconst 0, 1) := by decide +kernel
theorem dX2_empty_26 : decode cX2_empty 26 = .ok (.putfield 35, 3) := by decide +kernel
theorem dX2_empty_29 : decode cX2_empty 29 = .ok (.return_, 1) := by decide +kernel
theorem dX2_hearAs_0 : decode cX2_hearAs 0 = .ok (.aload_n 0, 1) := by decide +kernel
theorem dX2_hearAs_1 : decode cX2_hearAs 1 = .ok (.dup, 1) := by decide +kernel
theorem dX2_hearAs_2 : decode cX2_hearAs 2 = .ok (.getfield 18, 3) := by decide +kernel
theorem dX2_hearAs_5 : decode cX2_hearAs 5 = .ok (.iconst 1, 1) := by decide +kernel
theorem dX2_hearAs_6 : decode cX2_hearAs 6 = .ok (.iadd, 1) := by decide +kernel
theorem dX2_hearAs_7 : decode cX2_hearAs 7 = .ok (.putfield 18, 3) := by decide +kernel
theorem dX2_hearAs_10 : decode cX2_hearAs 10 = .ok (.iconst 0, 1) := by decide +kernel
theorem dX2_hearAs_11 : decode cX2_hearAs 11 = .ok (.istore 4, 2) := by decide +kernel
theorem dX2_hearAs_13 : decode cX2_hearAs 13 = .ok (.iload 4, 2) := by decide +kernel
theorem dX2_hearAs_15 : decode cX2_hearAs 15 = .ok (.aload_n 3, 1) := by decide +kernel
theorem dX2_hearAs_16 : decode cX2_hearAs 16 = .ok (.getfield 38, 3) := by decide +kernel
theorem dX2_hearAs_19 : decode cX2_hearAs 19 = .ok (.if_icmp .ge 38, 3) := by decide +kernel
theorem dX2_hearAs_22 : decode cX2_hearAs 22 = .ok (.iload_n 1, 1) := by decide +kernel
theorem dX2_hearAs_23 : decode cX2_hearAs 23 = .ok (.iload 4, 2) := by decide +kernel
theorem dX2_hearAs_25 : decode cX2_hearAs 25 = .ok (.aload_n 3, 1) := by decide +kernel
theorem dX2_hearAs_26 : decode cX2_hearAs 26 = .ok (.getfield 38, 3) := by decide +kernel
theorem dX2_hearAs_29 : decode cX2_hearAs 29 = .ok (.invokestatic 40, 3) := by decide +kernel
theorem dX2_hearAs_32 : decode cX2_hearAs 32 = .ok (.iload_n 2, 1) := by decide +kernel
theorem dX2_hearAs_33 : decode cX2_hearAs 33 = .ok (.if_icmp .eq 18, 3) := by decide +kernel
theorem dX2_hearAs_36 : decode cX2_hearAs 36 = .ok (.aload_n 0, 1) := by decide +kernel
theorem dX2_hearAs_37 : decode cX2_hearAs 37 = .ok (.dup, 1) := by decide +kernel
theorem dX2_hearAs_38 : decode cX2_hearAs 38 = .ok (.getfield 35, 3) := by decide +kernel
theorem dX2_hearAs_41 : decode cX2_hearAs 41 = .ok (.iconst 1, 1) := by decide +kernel
theorem dX2_hearAs_42 : decode cX2_hearAs 42 = .ok (.iload 4, 2) := by decide +kernel
theorem dX2_hearAs_44 : decode cX2_hearAs 44 = .ok (.ishl, 1) := by decide +kernel
theorem dX2_hearAs_45 : decode cX2_hearAs 45 = .ok (.iconst (-1), 1) := by decide +kernel
theorem dX2_hearAs_46 : decode cX2_hearAs 46 = .ok (.ixor, 1) := by decide +kernel
theorem dX2_hearAs_47 : decode cX2_hearAs 47 = .ok (.iand, 1) := by decide +kernel
theorem dX2_hearAs_48 : decode cX2_hearAs 48 = .ok (.putfield 35, 3) := by decide +kernel
theorem dX2_hearAs_51 : decode cX2_hearAs 51 = .ok (.iinc 4 1, 3) := by decide +kernel
theorem dX2_hearAs_54 : decode cX2_hearAs 54 = .ok (.goto (-41), 3) := by decide +kernel
theorem dX2_hearAs_57 : decode cX2_hearAs 57 = .ok (.return_, 1) := by decide +kernel
theorem dX2_greatestPartAlike_0 : decode cX2_greatestPartAlike 0 = .ok (.iconst 0, 1) := by decide +kernel
theorem dX2_greatestPartAlike_1 : decode cX2_greatestPartAlike 1 = .ok (.istore_n 3, 1) := by decide +kernel
theorem dX2_greatestPartAlike_2 : decode cX2_greatestPartAlike 2 = .ok (.iconst 0, 1) := by decide +kernel
theorem dX2_greatestPartAlike_3 : decode cX2_greatestPartAlike 3 = .ok (.istore 4, 2) := by decide +kernel
theorem dX2_greatestPartAlike_5 : decode cX2_greatestPartAlike 5 = .ok (.iload 4, 2) := by decide +kernel
theorem dX2_greatestPartAlike_7 : decode cX2_greatestPartAlike 7 = .ok (.aload_n 2, 1) := by decide +kernel
theorem dX2_greatestPartAlike_8 : decode cX2_greatestPartAlike 8 = .ok (.getfield 38, 3) := by decide +kernel
theorem dX2_greatestPartAlike_11 : decode cX2_greatestPartAlike 11 = .ok (.if_icmp .ge 31, 3) := by decide +kernel
theorem dX2_greatestPartAlike_14 : decode cX2_greatestPartAlike 14 = .ok (.aload_n 0, 1) := by decide +kernel
theorem dX2_greatestPartAlike_15 : decode cX2_greatestPartAlike 15 = .ok (.iload 4, 2) := by decide +kernel
theorem dX2_greatestPartAlike_17 : decode cX2_greatestPartAlike 17 = .ok (.invokevirtual 46, 3) := by decide +kernel
theorem dX2_greatestPartAlike_20 : decode cX2_greatestPartAlike 20 = .ok (.ifCond .eq 16, 3) := by decide +kernel
theorem dX2_greatestPartAlike_23 : decode cX2_greatestPartAlike 23 = .ok (.iload_n 3, 1) := by decide +kernel
theorem dX2_greatestPartAlike_24 : decode cX2_greatestPartAlike 24 = .ok (.aload_n 0, 1) := by decide +kernel
theorem dX2_greatestPartAlike_25 : decode cX2_greatestPartAlike 25 = .ok (.iload_n 1, 1) := by decide +kernel
theorem dX2_greatestPartAlike_26 : decode cX2_greatestPartAlike 26 = .ok (.iload 4, 2) := by decide +kernel
theorem dX2_greatestPartAlike_28 : decode cX2_greatestPartAlike 28 = .ok (.aload_n 2, 1) := by decide +kernel
theorem dX2_greatestPartAlike_29 : decode cX2_greatestPartAlike 29 = .ok (.invokevirtual 50, 3) := by decide +kernel
theorem dX2_greatestPartAlike_32 : decode cX2_greatestPartAlike 32 = .ok (.invokestatic 54, 3) := by decide +kernel
theorem dX2_greatestPartAlike_35 : decode cX2_greatestPartAlike 35 = .ok (.istore_n 3, 1) := by decide +kernel
theorem dX2_greatestPartAlike_36 : decode cX2_greatestPartAlike 36 = .ok (.iinc 4 1, 3) := by decide +kernel
theorem dX2_greatestPartAlike_39 : decode cX2_greatestPartAlike 39 = .ok (.goto (-34), 3) := by decide +kernel
theorem dX2_greatestPartAlike_42 : decode cX2_greatestPartAlike 42 = .ok (.iload_n 3, 1) := by decide +kernel
theorem dX2_greatestPartAlike_43 : decode cX2_greatestPartAlike 43 = .ok (.ireturn, 1) := by decide +kernel
theorem dX2_heardAlike_0 : decode cX2_heardAlike 0 = .ok (.iload_n 1, 1) := by decide +kernel
theorem dX2_heardAlike_1 : decode cX2_heardAlike 1 = .ok (.iload_n 2, 1) := by decide +kernel
theorem dX2_heardAlike_2 : decode cX2_heardAlike 2 = .ok (.aload_n 3, 1) := by decide +kernel
theorem dX2_heardAlike_3 : decode cX2_heardAlike 3 = .ok (.getfield 38, 3) := by decide +kernel
theorem dX2_heardAlike_6 : decode cX2_heardAlike 6 = .ok (.invokestatic 40, 3) := by decide +kernel
theorem dX2_heardAlike_9 : decode cX2_heardAlike 9 = .ok (.istore 4, 2) := by decide +kernel
theorem dX2_heardAlike_11 : decode cX2_heardAlike 11 = .ok (.iconst 0, 1) := by decide +kernel
theorem dX2_heardAlike_12 : decode cX2_heardAlike 12 = .ok (.istore 5, 2) := by decide +kernel
theorem dX2_heardAlike_14 : decode cX2_heardAlike 14 = .ok (.iconst 0, 1) := by decide +kernel
theorem dX2_heardAlike_15 : decode cX2_heardAlike 15 = .ok (.istore 6, 2) := by decide +kernel
theorem dX2_heardAlike_17 : decode cX2_heardAlike 17 = .ok (.iload 6, 2) := by decide +kernel
theorem dX2_heardAlike_19 : decode cX2_heardAlike 19 = .ok (.aload_n 3, 1) := by decide +kernel
theorem dX2_heardAlike_20 : decode cX2_heardAlike 20 = .ok (.getfield 38, 3) := by decide +kernel
theorem dX2_heardAlike_23 : decode cX2_heardAlike 23 = .ok (.if_icmp .ge 36, 3) := by decide +kernel
theorem dX2_heardAlike_26 : decode cX2_heardAlike 26 = .ok (.aload_n 0, 1) := by decide +kernel
theorem dX2_heardAlike_27 : decode cX2_heardAlike 27 = .ok (.iload 6, 2) := by decide +kernel
theorem dX2_heardAlike_29 : decode cX2_heardAlike 29 = .ok (.invokevirtual 46, 3) := by decide +kernel
theorem dX2_heardAlike_32 : decode cX2_heardAlike 32 = .ok (.ifCond .eq 21, 3) := by decide +kernel
theorem dX2_heardAlike_35 : decode cX2_heardAlike 35 = .ok (.iload_n 1, 1) := by decide +kernel
theorem dX2_heardAlike_36 : decode cX2_heardAlike 36 = .ok (.iload 6, 2) := by decide +kernel
theorem dX2_heardAlike_38 : decode cX2_heardAlike 38 = .ok (.aload_n 3, 1) := by decide +kernel
theorem dX2_heardAlike_39 : decode cX2_heardAlike 39 = .ok (.getfield 38, 3) := by decide +kernel
theorem dX2_heardAlike_42 : decode cX2_heardAlike 42 = .ok (.invokestatic 40, 3) := by decide +kernel
theorem dX2_heardAlike_45 : decode cX2_heardAlike 45 = .ok (.iload 4, 2) := by decide +kernel
theorem dX2_heardAlike_47 : decode cX2_heardAlike 47 = .ok (.if_icmp .ne 6, 3) := by decide +kernel
theorem dX2_heardAlike_50 : decode cX2_heardAlike 50 = .ok (.iinc 5 1, 3) := by decide +kernel
theorem dX2_heardAlike_53 : decode cX2_heardAlike 53 = .ok (.iinc 6 1, 3) := by decide +kernel
theorem dX2_heardAlike_56 : decode cX2_heardAlike 56 = .ok (.goto (-39), 3) := by decide +kernel
theorem dX2_heardAlike_59 : decode cX2_heardAlike 59 = .ok (.iload 5, 2) := by decide +kernel
theorem dX2_heardAlike_61 : decode cX2_heardAlike 61 = .ok (.ireturn, 1) := by decide +kernel
theorem dX2_mayBeLate_0 : decode cX2_mayBeLate 0 = .ok (.aload_n 0, 1) := by decide +kernel
theorem dX2_mayBeLate_1 : decode cX2_mayBeLate 1 = .ok (.getfield 35, 3) := by decide +kernel
theorem dX2_mayBeLate_4 : decode cX2_mayBeLate 4 = .ok (.iload_n 1, 1) := by decide +kernel
theorem dX2_mayBeLate_5 : decode cX2_mayBeLate 5 = .ok (.ishr, 1) := by decide +kernel
theorem dX2_mayBeLate_6 : decode cX2_mayBeLate 6 = .ok (.iconst 1, 1) := by decide +kernel
theorem dX2_mayBeLate_7 : decode cX2_mayBeLate 7 = .ok (.iand, 1) := by decide +kernel
theorem dX2_mayBeLate_8 : decode cX2_mayBeLate 8 = .ok (.ifCond .eq 7, 3) := by decide +kernel
theorem dX2_mayBeLate_11 : decode cX2_mayBeLate 11 = .ok (.iconst 1, 1) := by decide +kernel
theorem dX2_mayBeLate_12 : decode cX2_mayBeLate 12 = .ok (.goto 4, 3) := by decide +kernel
theorem dX2_mayBeLate_15 : decode cX2_mayBeLate 15 = .ok (.iconst 0, 1) := by decide +kernel
theorem dX2_mayBeLate_16 : decode cX2_mayBeLate 16 = .ok (.ireturn, 1) := by decide +kernel
theorem dX2_enter_0 : decode cX2_enter 0 = .ok (.aload_n 0, 1) := by decide +kernel
theorem dX2_enter_1 : decode cX2_enter 1 = .ok (.getfield 22, 3) := by decide +kernel
theorem dX2_enter_4 : decode cX2_enter 4 = .ok (.bipush 15, 2) := by decide +kernel
theorem dX2_enter_6 : decode cX2_enter 6 = .ok (.if_icmp .lt 5, 3) := by decide +kernel
theorem dX2_enter_9 : decode cX2_enter 9 = .ok (.iconst 0, 1) := by decide +kernel
theorem dX2_enter_10 : decode cX2_enter 10 = .ok (.ireturn, 1) := by decide +kernel
theorem dX2_enter_11 : decode cX2_enter 11 = .ok (.aload_n 0, 1) := by decide +kernel
theorem dX2_enter_12 : decode cX2_enter 12 = .ok (.getfield 9, 3) := by decide +kernel
theorem dX2_enter_15 : decode cX2_enter 15 = .ok (.aload_n 0, 1) := by decide +kernel
theorem dX2_enter_16 : decode cX2_enter 16 = .ok (.getfield 22, 3) := by decide +kernel
theorem dX2_enter_19 : decode cX2_enter 19 = .ok (.iload_n 1, 1) := by decide +kernel
theorem dX2_enter_20 : decode cX2_enter 20 = .ok (.iastore, 1) := by decide +kernel
theorem dX2_enter_21 : decode cX2_enter 21 = .ok (.aload_n 0, 1) := by decide +kernel
theorem dX2_enter_22 : decode cX2_enter 22 = .ok (.getfield 15, 3) := by decide +kernel
theorem dX2_enter_25 : decode cX2_enter 25 = .ok (.aload_n 0, 1) := by decide +kernel
theorem dX2_enter_26 : decode cX2_enter 26 = .ok (.getfield 22, 3) := by decide +kernel
theorem dX2_enter_29 : decode cX2_enter 29 = .ok (.iload_n 2, 1) := by decide +kernel
theorem dX2_enter_30 : decode cX2_enter 30 = .ok (.iastore, 1) := by decide +kernel
theorem dX2_enter_31 : decode cX2_enter 31 = .ok (.aload_n 0, 1) := by decide +kernel
theorem dX2_enter_32 : decode cX2_enter 32 = .ok (.dup, 1) := by decide +kernel
theorem dX2_enter_33 : decode cX2_enter 33 = .ok (.getfield 22, 3) := by decide +kernel
theorem dX2_enter_36 : decode cX2_enter 36 = .ok (.iconst 1, 1) := by decide +kernel
theorem dX2_enter_37 : decode cX2_enter 37 = .ok (.iadd, 1) := by decide +kernel
theorem dX2_enter_38 : decode cX2_enter 38 = .ok (.putfield 22, 3) := by decide +kernel
theorem dX2_enter_41 : decode cX2_enter 41 = .ok (.iconst 1, 1) := by decide +kernel
theorem dX2_enter_42 : decode cX2_enter 42 = .ok (.ireturn, 1) := by decide +kernel
theorem dX2_firstWrong_0 : decode cX2_firstWrong 0 = .ok (.iconst 0, 1) := by decide +kernel
theorem dX2_firstWrong_1 : decode cX2_firstWrong 1 = .ok (.istore_n 3, 1) := by decide +kernel
theorem dX2_firstWrong_2 : decode cX2_firstWrong 2 = .ok (.iload_n 3, 1) := by decide +kernel
theorem dX2_firstWrong_3 : decode cX2_firstWrong 3 = .ok (.aload_n 0, 1) := by decide +kernel
theorem dX2_firstWrong_4 : decode cX2_firstWrong 4 = .ok (.getfield 22, 3) := by decide +kernel
theorem dX2_firstWrong_7 : decode cX2_firstWrong 7 = .ok (.if_icmp .ge 40, 3) := by decide +kernel
theorem dX2_firstWrong_10 : decode cX2_firstWrong 10 = .ok (.iload_n 3, 1) := by decide +kernel
theorem dX2_firstWrong_11 : decode cX2_firstWrong 11 = .ok (.bipush 15, 2) := by decide +kernel
theorem dX2_firstWrong_13 : decode cX2_firstWrong 13 = .ok (.if_icmp .ge 34, 3) := by decide +kernel
theorem dX2_firstWrong_16 : decode cX2_firstWrong 16 = .ok (.iload_n 1, 1) := by decide +kernel
theorem dX2_firstWrong_17 : decode cX2_firstWrong 17 = .ok (.aload_n 0, 1) := by decide +kernel
theorem dX2_firstWrong_18 : decode cX2_firstWrong 18 = .ok (.getfield 9, 3) := by decide +kernel
theorem dX2_firstWrong_21 : decode cX2_firstWrong 21 = .ok (.iload_n 3, 1) := by decide +kernel
theorem dX2_firstWrong_22 : decode cX2_firstWrong 22 = .ok (.iaload, 1) := by decide +kernel
theorem dX2_firstWrong_23 : decode cX2_firstWrong 23 = .ok (.aload_n 2, 1) := by decide +kernel
theorem dX2_firstWrong_24 : decode cX2_firstWrong 24 = .ok (.getfield 38, 3) := by decide +kernel
theorem dX2_firstWrong_27 : decode cX2_firstWrong 27 = .ok (.invokestatic 60, 3) := by decide +kernel
theorem dX2_firstWrong_30 : decode cX2_firstWrong 30 = .ok (.aload_n 0, 1) := by decide +kernel
theorem dX2_firstWrong_31 : decode cX2_firstWrong 31 = .ok (.getfield 15, 3) := by decide +kernel
theorem dX2_firstWrong_34 : decode cX2_firstWrong 34 = .ok (.iload_n 3, 1) := by decide +kernel
theorem dX2_firstWrong_35 : decode cX2_firstWrong 35 = .ok (.iaload, 1) := by decide +kernel
theorem dX2_firstWrong_36 : decode cX2_firstWrong 36 = .ok (.if_icmp .eq 5, 3) := by decide +kernel
theorem dX2_firstWrong_39 : decode cX2_firstWrong 39 = .ok (.iload_n 3, 1) := by decide +kernel
theorem dX2_firstWrong_40 : decode cX2_firstWrong 40 = .ok (.ireturn, 1) := by decide +kernel
theorem dX2_firstWrong_41 : decode cX2_firstWrong 41 = .ok (.iinc 3 1, 3) := by decide +kernel
theorem dX2_firstWrong_44 : decode cX2_firstWrong 44 = .ok (.goto (-42), 3) := by decide +kernel
theorem dX2_firstWrong_47 : decode cX2_firstWrong 47 = .ok (.iconst (-1), 1) := by decide +kernel
theorem dX2_firstWrong_48 : decode cX2_firstWrong 48 = .ok (.ireturn, 1) := by decide +kernel
theorem dX3_init_0 : decode cX3_init 0 = .ok (.aload_n 0, 1) := by decide +kernel
theorem dX3_init_1 : decode cX3_init 1 = .ok (.invokespecial 1, 3) := by decide +kernel
theorem dX3_init_4 : decode cX3_init 4 = .ok (.aload_n 0, 1) := by decide +kernel
theorem dX3_init_5 : decode cX3_init 5 = .ok (.bipush 16, 2) := by decide +kernel
theorem dX3_init_7 : decode cX3_init 7 = .ok (.anewarray 9, 3) := by decide +kernel
theorem dX3_init_10 : decode cX3_init 10 = .ok (.putfield 11, 3) := by decide +kernel
theorem dX3_init_13 : decode cX3_init 13 = .ok (.iconst 0, 1) := by decide +kernel
theorem dX3_init_14 : decode cX3_init 14 = .ok (.istore_n 1, 1) := by decide +kernel
theorem dX3_init_15 : decode cX3_init 15 = .ok (.iload_n 1, 1) := by decide +kernel
theorem dX3_init_16 : decode cX3_init 16 = .ok (.bipush 16, 2) := by decide +kernel
theorem dX3_init_18 : decode cX3_init 18 = .ok (.if_icmp .ge 22, 3) := by decide +kernel
theorem dX3_init_21 : decode cX3_init 21 = .ok (.aload_n 0, 1) := by decide +kernel
theorem dX3_init_22 : decode cX3_init 22 = .ok (.getfield 11, 3) := by decide +kernel
theorem dX3_init_25 : decode cX3_init 25 = .ok (.iload_n 1, 1) := by decide +kernel
theorem dX3_init_26 : decode cX3_init 26 = .ok (.new 9, 3) := by decide +kernel
theorem dX3_init_29 : decode cX3_init 29 = .ok (.dup, 1) := by decide +kernel
theorem dX3_init_30 : decode cX3_init 30 = .ok (.invokespecial 15, 3) := by decide +kernel
theorem dX3_init_33 : decode cX3_init 33 = .ok (.aastore, 1) := by decide +kernel
theorem dX3_init_34 : decode cX3_init 34 = .ok (.iinc 1 1, 3) := by decide +kernel
theorem dX3_init_37 : decode cX3_init 37 = .ok (.goto (-22), 3) := by decide +kernel
theorem dX3_init_40 : decode cX3_init 40 = .ok (.return_, 1) := by decide +kernel
theorem dX3_forget_0 : decode cX3_forget 0 = .ok (.aload_n 0, 1) := by decide +kernel
theorem dX3_forget_1 : decode cX3_forget 1 = .ok (.iconst 0, 1) := by decide +kernel
theorem dX3_forget_2 : decode cX3_forget 2 = .ok (.putfield 16, 3) := by decide +kernel
theorem dX3_forget_5 : decode cX3_forget 5 = .ok (.aload_n 0, 1) := by decide +kernel
theorem dX3_forget_6 : decode cX3_forget 6 = .ok (.iconst 0, 1) := by decide +kernel
theorem dX3_forget_7 : decode cX3_forget 7 = .ok (.putfield 20, 3) := by decide +kernel
theorem dX3_forget_10 : decode cX3_forget 10 = .ok (.return_, 1) := by decide +kernel
theorem dX3_remember_0 : decode cX3_remember 0 = .ok (.aload_n 0, 1) := by decide +kernel
theorem dX3_remember_1 : decode cX3_remember 1 = .ok (.getfield 11, 3) := by decide +kernel
theorem dX3_remember_4 : decode cX3_remember 4 = .ok (.aload_n 0, 1) := by decide +kernel
theorem dX3_remember_5 : decode cX3_remember 5 = .ok (.getfield 20, 3) := by decide +kernel
theorem dX3_remember_8 : decode cX3_remember 8 = .ok (.invokestatic 23, 3) := by decide +kernel
theorem dX3_remember_11 : decode cX3_remember 11 = .ok (.aaload, 1) := by decide +kernel
theorem dX3_remember_12 : decode cX3_remember 12 = .ok (.aload_n 1, 1) := by decide +kernel
theorem dX3_remember_13 : decode cX3_remember 13 = .ok (.invokevirtual 27, 3) := by decide +kernel
theorem dX3_remember_16 : decode cX3_remember 16 = .ok (.aload_n 0, 1) := by decide +kernel
theorem dX3_remember_17 : decode cX3_remember 17 = .ok (.aload_n 0, 1) := by decide +kernel
theorem dX3_remember_18 : decode cX3_remember 18 = .ok (.getfield 20, 3) := by decide +kernel
theorem dX3_remember_21 : decode cX3_remember 21 = .ok (.iconst 1, 1) := by decide +kernel
theorem dX3_remember_22 : decode cX3_remember 22 = .ok (.iadd, 1) := by decide +kernel
theorem dX3_remember_23 : decode cX3_remember 23 = .ok (.invokestatic 23, 3) := by decide +kernel
theorem dX3_remember_26 : decode cX3_remember 26 = .ok (.putfield 20, 3) := by decide +kernel
theorem dX3_remember_29 : decode cX3_remember 29 = .ok (.aload_n 0, 1) := by decide +kernel
theorem dX3_remember_30 : decode cX3_remember 30 = .ok (.bipush 16, 2) := by decide +kernel
theorem dX3_remember_32 : decode cX3_remember 32 = .ok (.aload_n 0, 1) := by decide +kernel
theorem dX3_remember_33 : decode cX3_remember 33 = .ok (.getfield 16, 3) := by decide +kernel
theorem dX3_remember_36 : decode cX3_remember 36 = .ok (.iconst 1, 1) := by decide +kernel
theorem dX3_remember_37 : decode cX3_remember 37 = .ok (.iadd, 1) := by decide +kernel
theorem dX3_remember_38 : decode cX3_remember 38 = .ok (.invokestatic 31, 3) := by decide +kernel
theorem dX3_remember_41 : decode cX3_remember 41 = .ok (.putfield 16, 3) := by decide +kernel
theorem dX3_remember_44 : decode cX3_remember 44 = .ok (.return_, 1) := by decide +kernel
theorem dX3_restore_0 : decode cX3_restore 0 = .ok (.aload_n 0, 1) := by decide +kernel
theorem dX3_restore_1 : decode cX3_restore 1 = .ok (.getfield 16, 3) := by decide +kernel
theorem dX3_restore_4 : decode cX3_restore 4 = .ok (.ifCond .ne 5, 3) := by decide +kernel
theorem dX3_restore_7 : decode cX3_restore 7 = .ok (.iconst 0, 1) := by decide +kernel
theorem dX3_restore_8 : decode cX3_restore 8 = .ok (.ireturn, 1) := by decide +kernel
theorem dX3_restore_9 : decode cX3_restore 9 = .ok (.aload_n 0, 1) := by decide +kernel
theorem dX3_restore_10 : decode cX3_restore 10 = .ok (.aload_n 0, 1) := by decide +kernel
theorem dX3_restore_11 : decode cX3_restore 11 = .ok (.getfield 20, 3) := by decide +kernel
theorem dX3_restore_14 : decode cX3_restore 14 = .ok (.iconst 1, 1) := by decide +kernel
theorem dX3_restore_15 : decode cX3_restore 15 = .ok (.isub, 1) := by decide +kernel
theorem dX3_restore_16 : decode cX3_restore 16 = .ok (.invokestatic 23, 3) := by decide +kernel
theorem dX3_restore_19 : decode cX3_restore 19 = .ok (.putfield 20, 3) := by decide +kernel
theorem dX3_restore_22 : decode cX3_restore 22 = .ok (.aload_n 0, 1) := by decide +kernel
theorem dX3_restore_23 : decode cX3_restore 23 = .ok (.dup, 1) := by decide +kernel
theorem dX3_restore_24 : decode cX3_restore 24 = .ok (.getfield 16, 3) := by decide +kernel
theorem dX3_restore_27 : decode cX3_restore 27 = .ok (.iconst 1, 1) := by decide +kernel
theorem dX3_restore_28 : decode cX3_restore 28 = .ok (.isub, 1) := by decide +kernel
theorem dX3_restore_29 : decode cX3_restore 29 = .ok (.putfield 16, 3) := by decide +kernel
theorem dX3_restore_32 : decode cX3_restore 32 = .ok (.aload_n 1, 1) := by decide +kernel
theorem dX3_restore_33 : decode cX3_restore 33 = .ok (.aload_n 0, 1) := by decide +kernel
theorem dX3_restore_34 : decode cX3_restore 34 = .ok (.getfield 11, 3) := by decide +kernel
theorem dX3_restore_37 : decode cX3_restore 37 = .ok (.aload_n 0, 1) := by decide +kernel
theorem dX3_restore_38 : decode cX3_restore 38 = .ok (.getfield 20, 3) := by decide +kernel
theorem dX3_restore_41 : decode cX3_restore 41 = .ok (.aaload, 1) := by decide +kernel
theorem dX3_restore_42 : decode cX3_restore 42 = .ok (.invokevirtual 27, 3) := by decide +kernel
theorem dX3_restore_45 : decode cX3_restore 45 = .ok (.iconst 1, 1) := by decide +kernel
theorem dX3_restore_46 : decode cX3_restore 46 = .ok (.ireturn, 1) := by decide +kernel
theorem dX3_within_0 : decode cX3_within 0 = .ok (.iload_n 0, 1) := by decide +kernel
theorem dX3_within_1 : decode cX3_within 1 = .ok (.bipush 15, 2) := by decide +kernel
theorem dX3_within_3 : decode cX3_within 3 = .ok (.iand, 1) := by decide +kernel
theorem dX3_within_4 : decode cX3_within 4 = .ok (.ireturn, 1) := by decide +kernel
theorem dX4_init_0 : decode cX4_init 0 = .ok (.aload_n 0, 1) := by decide +kernel
theorem dX4_init_1 : decode cX4_init 1 = .ok (.invokespecial 3, 3) := by decide +kernel
theorem dX4_init_4 : decode cX4_init 4 = .ok (.aload_n 0, 1) := by decide +kernel
theorem dX4_init_5 : decode cX4_init 5 = .ok (.bipush 64, 2) := by decide +kernel
theorem dX4_init_7 : decode cX4_init 7 = .ok (.newarray .int, 2) := by decide +kernel
theorem dX4_init_9 : decode cX4_init 9 = .ok (.putfield 9, 3) := by decide +kernel
theorem dX4_init_12 : decode cX4_init 12 = .ok (.aload_n 0, 1) := by decide +kernel
theorem dX4_init_13 : decode cX4_init 13 = .ok (.bipush 6, 2) := by decide +kernel
theorem dX4_init_15 : decode cX4_init 15 = .ok (.newarray .int, 2) := by decide +kernel
theorem dX4_init_17 : decode cX4_init 17 = .ok (.putfield 15, 3) := by decide +kernel
theorem dX4_init_20 : decode cX4_init 20 = .ok (.return_, 1) := by decide +kernel
theorem dX4_share_0 : decode cX4_share 0 = .ok (.aload_n 0, 1) := by decide +kernel
theorem dX4_share_1 : decode cX4_share 1 = .ok (.getfield 9, 3) := by decide +kernel
theorem dX4_share_4 : decode cX4_share 4 = .ok (.iconst 0, 1) := by decide +kernel
theorem dX4_share_5 : decode cX4_share 5 = .ok (.iconst 0, 1) := by decide +kernel
theorem dX4_share_6 : decode cX4_share 6 = .ok (.iastore, 1) := by decide +kernel
theorem dX4_share_7 : decode cX4_share 7 = .ok (.iconst 1, 1) := by decide +kernel
theorem dX4_share_8 : decode cX4_share 8 = .ok (.istore_n 2, 1) := by decide +kernel
theorem dX4_share_9 : decode cX4_share 9 = .ok (.iload_n 2, 1) := by decide +kernel
theorem dX4_share_10 : decode cX4_share 10 = .ok (.iconst 1, 1) := by decide +kernel
theorem dX4_share_11 : decode cX4_share 11 = .ok (.aload_n 1, 1) := by decide +kernel
theorem dX4_share_12 : decode cX4_share 12 = .ok (.getfield 18, 3) := by decide +kernel
theorem dX4_share_15 : decode cX4_share 15 = .ok (.ishl, 1) := by decide +kernel
theorem dX4_share_16 : decode cX4_share 16 = .ok (.if_icmp .ge 48, 3) := by decide +kernel
theorem dX4_share_19 : decode cX4_share 19 = .ok (.iload_n 2, 1) := by decide +kernel
theorem dX4_share_20 : decode cX4_share 20 = .ok (.aload_n 0, 1) := by decide +kernel
theorem dX4_share_21 : decode cX4_share 21 = .ok (.getfield 9, 3) := by decide +kernel
theorem dX4_share_24 : decode cX4_share 24 = .ok (.arraylength, 1) := by decide +kernel
theorem dX4_share_25 : decode cX4_share 25 = .ok (.if_icmp .ge 39, 3) := by decide +kernel
theorem dX4_share_28 : decode cX4_share 28 = .ok (.aload_n 1, 1) := by decide +kernel
theorem dX4_share_29 : decode cX4_share 29 = .ok (.getfield 18, 3) := by decide +kernel
theorem dX4_share_32 : decode cX4_share 32 = .ok (.iload_n 2, 1) := by decide +kernel
theorem dX4_share_33 : decode cX4_share 33 = .ok (.invokestatic 24, 3) := by decide +kernel
theorem dX4_share_36 : decode cX4_share 36 = .ok (.isub, 1) := by decide +kernel
theorem dX4_share_37 : decode cX4_share 37 = .ok (.istore_n 3, 1) := by decide +kernel
theorem dX4_share_38 : decode cX4_share 38 = .ok (.aload_n 0, 1) := by decide +kernel
theorem dX4_share_39 : decode cX4_share 39 = .ok (.getfield 9, 3) := by decide +kernel
theorem dX4_share_42 : decode cX4_share 42 = .ok (.iload_n 2, 1) := by decide +kernel
theorem dX4_share_43 : decode cX4_share 43 = .ok (.aload_n 0, 1) := by decide +kernel
theorem dX4_share_44 : decode cX4_share 44 = .ok (.iload_n 3, 1) := by decide +kernel
theorem dX4_share_45 : decode cX4_share 45 = .ok (.aload_n 0, 1) := by decide +kernel
theorem dX4_share_46 : decode cX4_share 46 = .ok (.aload_n 1, 1) := by decide +kernel
theorem dX4_share_47 : decode cX4_share 47 = .ok (.iload_n 3, 1) := by decide +kernel
theorem dX4_share_48 : decode cX4_share 48 = .ok (.iload_n 2, 1) := by decide +kernel
theorem dX4_share_49 : decode cX4_share 49 = .ok (.invokevirtual 30, 3) := by decide +kernel
theorem dX4_share_52 : decode cX4_share 52 = .ok (.iload_n 2, 1) := by decide +kernel
theorem dX4_share_53 : decode cX4_share 53 = .ok (.aload_n 1, 1) := by decide +kernel
theorem dX4_share_54 : decode cX4_share 54 = .ok (.invokevirtual 34, 3) := by decide +kernel
theorem dX4_share_57 : decode cX4_share 57 = .ok (.iastore, 1) := by decide +kernel
theorem dX4_share_58 : decode cX4_share 58 = .ok (.iinc 2 1, 3) := by decide +kernel
theorem dX4_share_61 : decode cX4_share 61 = .ok (.goto (-52), 3) := by decide +kernel
theorem dX4_share_64 : decode cX4_share 64 = .ok (.aload_n 1, 1) := by decide +kernel
theorem dX4_share_65 : decode cX4_share 65 = .ok (.invokestatic 38, 3) := by decide +kernel
theorem dX4_share_68 : decode cX4_share 68 = .ok (.istore_n 2, 1) := by decide +kernel
theorem dX4_share_69 : decode cX4_share 69 = .ok (.iconst 0, 1) := by decide +kernel
theorem dX4_share_70 : decode cX4_share 70 = .ok (.istore_n 3, 1) := by decide +kernel
theorem dX4_share_71 : decode cX4_share 71 = .ok (.iload_n 3, 1) := by decide +kernel
theorem dX4_share_72 : decode cX4_share 72 = .ok (.aload_n 1, 1) := by decide +kernel
theorem dX4_share_73 : decode cX4_share 73 = .ok (.getfield 18, 3) := by decide +kernel
theorem dX4_share_76 : decode cX4_share 76 = .ok (.if_icmp .ge 41, 3) := by decide +kernel
theorem dX4_share_79 : decode cX4_share 79 = .ok (.iload_n 3, 1) := by decide +kernel
theorem dX4_share_80 : decode cX4_share 80 = .ok (.bipush 6, 2) := by decide +kernel
theorem dX4_share_82 : decode cX4_share 82 = .ok (.if_icmp .ge 35, 3) := by decide +kernel
theorem dX4_share_85 : decode cX4_share 85 = .ok (.aload_n 0, 1) := by decide +kernel
theorem dX4_share_86 : decode cX4_share 86 = .ok (.getfield 15, 3) := by decide +kernel
theorem dX4_share_89 : decode cX4_share 89 = .ok (.iload_n 3, 1) := by decide +kernel
theorem dX4_share_90 : decode cX4_share 90 = .ok (.aload_n 0, 1) := by decide +kernel
theorem dX4_share_91 : decode cX4_share 91 = .ok (.aload_n 1, 1) := by decide +kernel
theorem dX4_share_92 : decode cX4_share 92 = .ok (.iload_n 3, 1) := by decide +kernel
theorem dX4_share_93 : decode cX4_share 93 = .ok (.iload_n 2, 1) := by decide +kernel
theorem dX4_share_94 : decode cX4_share 94 = .ok (.invokevirtual 30, 3) := by decide +kernel
theorem dX4_share_97 : decode cX4_share 97 = .ok (.iastore, 1) := by decide +kernel
theorem dX4_share_98 : decode cX4_share 98 = .ok (.iload_n 2, 1) := by decide +kernel
theorem dX4_share_99 : decode cX4_share 99 = .ok (.iconst 1, 1) := by decide +kernel
theorem dX4_share_100 : decode cX4_share 100 = .ok (.aload_n 0, 1) := by decide +kernel
theorem dX4_share_101 : decode cX4_share 101 = .ok (.getfield 15, 3) := by decide +kernel
theorem dX4_share_104 : decode cX4_share 104 = .ok (.iload_n 3, 1) := by decide +kernel
theorem dX4_share_105 : decode cX4_share 105 = .ok (.iaload, 1) := by decide +kernel
theorem dX4_share_106 : decode cX4_share 106 = .ok (.ishl, 1) := by decide +kernel
theorem dX4_share_107 : decode cX4_share 107 = .ok (.iconst (-1), 1) := by decide +kernel
theorem dX4_share_108 : decode cX4_share 108 = .ok (.ixor, 1) := by decide +kernel
theorem dX4_share_109 : decode cX4_share 109 = .ok (.iand, 1) := by decide +kernel
theorem dX4_share_110 : decode cX4_share 110 = .ok (.istore_n 2, 1) := by decide +kernel
theorem dX4_share_111 : decode cX4_share 111 = .ok (.iinc 3 1, 3) := by decide +kernel
theorem dX4_share_114 : decode cX4_share 114 = .ok (.goto (-43), 3) := by decide +kernel
theorem dX4_share_117 : decode cX4_share 117 = .ok (.return_, 1) := by decide +kernel
theorem dX4_leastTogether_0 : decode cX4_leastTogether 0 = .ok (.aload_n 0, 1) := by decide +kernel
theorem dX4_leastTogether_1 : decode cX4_leastTogether 1 = .ok (.getfield 9, 3) := by decide +kernel
theorem dX4_leastTogether_4 : decode cX4_leastTogether 4 = .ok (.aload_n 1, 1) := by decide +kernel
theorem dX4_leastTogether_5 : decode cX4_leastTogether 5 = .ok (.invokestatic 38, 3) := by decide +kernel
theorem dX4_leastTogether_8 : decode cX4_leastTogether 8 = .ok (.iaload, 1) := by decide +kernel
theorem dX4_leastTogether_9 : decode cX4_leastTogether 9 = .ok (.ireturn, 1) := by decide +kernel
theorem dX4_bellFor_0 : decode cX4_bellFor 0 = .ok (.iload_n 1, 1) := by decide +kernel
theorem dX4_bellFor_1 : decode cX4_bellFor 1 = .ok (.ifCond .lt 18, 3) := by decide +kernel
theorem dX4_bellFor_4 : decode cX4_bellFor 4 = .ok (.iload_n 1, 1) := by decide +kernel
theorem dX4_bellFor_5 : decode cX4_bellFor 5 = .ok (.bipush 6, 2) := by decide +kernel
theorem dX4_bellFor_7 : decode cX4_bellFor 7 = .ok (.if_icmp .ge 12, 3) := by decide +kernel
theorem dX4_bellFor_10 : decode cX4_bellFor 10 = .ok (.aload_n 0, 1) := by decide +kernel
theorem dX4_bellFor_11 : decode cX4_bellFor 11 = .ok (.getfield 15, 3) := by decide +kernel
theorem dX4_bellFor_14 : decode cX4_bellFor 14 = .ok (.iload_n 1, 1) := by decide +kernel
theorem dX4_bellFor_15 : decode cX4_bellFor 15 = .ok (.iaload, 1) := by decide +kernel
theorem dX4_bellFor_16 : decode cX4_bellFor 16 = .ok (.goto 4, 3) := by decide +kernel
theorem dX4_bellFor_19 : decode cX4_bellFor 19 = .ok (.iconst (-1), 1) := by decide +kernel
theorem dX4_bellFor_20 : decode cX4_bellFor 20 = .ok (.ireturn, 1) := by decide +kernel
theorem dX4_allBells_0 : decode cX4_allBells 0 = .ok (.iconst 1, 1) := by decide +kernel
theorem dX4_allBells_1 : decode cX4_allBells 1 = .ok (.aload_n 0, 1) := by decide +kernel
theorem dX4_allBells_2 : decode cX4_allBells 2 = .ok (.getfield 18, 3) := by decide +kernel
theorem dX4_allBells_5 : decode cX4_allBells 5 = .ok (.bipush 6, 2) := by decide +kernel
theorem dX4_allBells_7 : decode cX4_allBells 7 = .ok (.invokestatic 42, 3) := by decide +kernel
theorem dX4_allBells_10 : decode cX4_allBells 10 = .ok (.ishl, 1) := by decide +kernel
theorem dX4_allBells_11 : decode cX4_allBells 11 = .ok (.iconst 1, 1) := by decide +kernel
theorem dX4_allBells_12 : decode cX4_allBells 12 = .ok (.isub, 1) := by decide +kernel
theorem dX4_allBells_13 : decode cX4_allBells 13 = .ok (.ireturn, 1) := by decide +kernel
theorem dX4_firstBell_0 : decode cX4_firstBell 0 = .ok (.iload_n 3, 1) := by decide +kernel
theorem dX4_firstBell_1 : decode cX4_firstBell 1 = .ok (.invokestatic 48, 3) := by decide +kernel
theorem dX4_firstBell_4 : decode cX4_firstBell 4 = .ok (.istore 4, 2) := by decide +kernel
theorem dX4_firstBell_6 : decode cX4_firstBell 6 = .ok (.iload 4, 2) := by decide +kernel
theorem dX4_firstBell_8 : decode cX4_firstBell 8 = .ok (.iconst 1, 1) := by decide +kernel
theorem dX4_firstBell_9 : decode cX4_firstBell 9 = .ok (.iadd, 1) := by decide +kernel
theorem dX4_firstBell_10 : decode cX4_firstBell 10 = .ok (.istore 5, 2) := by decide +kernel
theorem dX4_firstBell_12 : decode cX4_firstBell 12 = .ok (.iload 5, 2) := by decide +kernel
theorem dX4_firstBell_14 : decode cX4_firstBell 14 = .ok (.aload_n 1, 1) := by decide +kernel
theorem dX4_firstBell_15 : decode cX4_firstBell 15 = .ok (.getfield 18, 3) := by decide +kernel
theorem dX4_firstBell_18 : decode cX4_firstBell 18 = .ok (.if_icmp .ge 55, 3) := by decide +kernel
theorem dX4_firstBell_21 : decode cX4_firstBell 21 = .ok (.iload_n 3, 1) := by decide +kernel
theorem dX4_firstBell_22 : decode cX4_firstBell 22 = .ok (.iload 5, 2) := by decide +kernel
theorem dX4_firstBell_24 : decode cX4_firstBell 24 = .ok (.ishr, 1) := by decide +kernel
theorem dX4_firstBell_25 : decode cX4_firstBell 25 = .ok (.iconst 1, 1) := by decide +kernel
theorem dX4_firstBell_26 : decode cX4_firstBell 26 = .ok (.iand, 1) := by decide +kernel
theorem dX4_firstBell_27 : decode cX4_firstBell 27 = .ok (.ifCond .eq 7, 3) := by decide +kernel
theorem dX4_firstBell_30 : decode cX4_firstBell 30 = .ok (.iconst 1, 1) := by decide +kernel
theorem dX4_firstBell_31 : decode cX4_firstBell 31 = .ok (.goto 4, 3) := by decide +kernel
theorem dX4_firstBell_34 : decode cX4_firstBell 34 = .ok (.iconst 0, 1) := by decide +kernel
theorem dX4_firstBell_35 : decode cX4_firstBell 35 = .ok (.istore 6, 2) := by decide +kernel
theorem dX4_firstBell_37 : decode cX4_firstBell 37 = .ok (.iload 6, 2) := by decide +kernel
theorem dX4_firstBell_39 : decode cX4_firstBell 39 = .ok (.ifCond .eq 28, 3) := by decide +kernel
theorem dX4_firstBell_42 : decode cX4_firstBell 42 = .ok (.aload_n 0, 1) := by decide +kernel
theorem dX4_firstBell_43 : decode cX4_firstBell 43 = .ok (.iload_n 2, 1) := by decide +kernel
theorem dX4_firstBell_44 : decode cX4_firstBell 44 = .ok (.iload 5, 2) := by decide +kernel
theorem dX4_firstBell_46 : decode cX4_firstBell 46 = .ok (.iload_n 3, 1) := by decide +kernel
theorem dX4_firstBell_47 : decode cX4_firstBell 47 = .ok (.aload_n 1, 1) := by decide +kernel
theorem dX4_firstBell_48 : decode cX4_firstBell 48 = .ok (.invokevirtual 34, 3) := by decide +kernel
theorem dX4_firstBell_51 : decode cX4_firstBell 51 = .ok (.aload_n 0, 1) := by decide +kernel
theorem dX4_firstBell_52 : decode cX4_firstBell 52 = .ok (.iload_n 2, 1) := by decide +kernel
theorem dX4_firstBell_53 : decode cX4_firstBell 53 = .ok (.iload 4, 2) := by decide +kernel
theorem dX4_firstBell_55 : decode cX4_firstBell 55 = .ok (.iload_n 3, 1) := by decide +kernel
theorem dX4_firstBell_56 : decode cX4_firstBell 56 = .ok (.aload_n 1, 1) := by decide +kernel
theorem dX4_firstBell_57 : decode cX4_firstBell 57 = .ok (.invokevirtual 34, 3) := by decide +kernel
theorem dX4_firstBell_60 : decode cX4_firstBell 60 = .ok (.if_icmp .ge 7, 3) := by decide +kernel
theorem dX4_firstBell_63 : decode cX4_firstBell 63 = .ok (.iload 5, 2) := by decide +kernel
theorem dX4_firstBell_65 : decode cX4_firstBell 65 = .ok (.istore 4, 2) := by decide +kernel
theorem dX4_firstBell_67 : decode cX4_firstBell 67 = .ok (.iinc 5 1, 3) := by decide +kernel
theorem dX4_firstBell_70 : decode cX4_firstBell 70 = .ok (.goto (-58), 3) := by decide +kernel
theorem dX4_firstBell_73 : decode cX4_firstBell 73 = .ok (.iload 4, 2) := by decide +kernel
theorem dX4_firstBell_75 : decode cX4_firstBell 75 = .ok (.ireturn, 1) := by decide +kernel
theorem dX4_leastFrom_0 : decode cX4_leastFrom 0 = .ok (.iload_n 3, 1) := by decide +kernel
theorem dX4_leastFrom_1 : decode cX4_leastFrom 1 = .ok (.iconst 1, 1) := by decide +kernel
theorem dX4_leastFrom_2 : decode cX4_leastFrom 2 = .ok (.iload_n 2, 1) := by decide +kernel
theorem dX4_leastFrom_3 : decode cX4_leastFrom 3 = .ok (.ishl, 1) := by decide +kernel
theorem dX4_leastFrom_4 : decode cX4_leastFrom 4 = .ok (.iconst (-1), 1) := by decide +kernel
theorem dX4_leastFrom_5 : decode cX4_leastFrom 5 = .ok (.ixor, 1) := by decide +kernel
theorem dX4_leastFrom_6 : decode cX4_leastFrom 6 = .ok (.iand, 1) := by decide +kernel
theorem dX4_leastFrom_7 : decode cX4_leastFrom 7 = .ok (.aload_n 0, 1) := by decide +kernel
theorem dX4_leastFrom_8 : decode cX4_leastFrom 8 = .ok (.getfield 9, 3) := by decide +kernel
theorem dX4_leastFrom_11 : decode cX4_leastFrom 11 = .ok (.arraylength, 1) := by decide +kernel
theorem dX4_leastFrom_12 : decode cX4_leastFrom 12 = .ok (.iconst 1, 1) := by decide +kernel
theorem dX4_leastFrom_13 : decode cX4_leastFrom 13 = .ok (.isub, 1) := by decide +kernel
theorem dX4_leastFrom_14 : decode cX4_leastFrom 14 = .ok (.iand, 1) := by decide +kernel
theorem dX4_leastFrom_15 : decode cX4_leastFrom 15 = .ok (.istore 5, 2) := by decide +kernel
theorem dX4_leastFrom_17 : decode cX4_leastFrom 17 = .ok (.aload 4, 2) := by decide +kernel
theorem dX4_leastFrom_19 : decode cX4_leastFrom 19 = .ok (.iload_n 1, 1) := by decide +kernel
theorem dX4_leastFrom_20 : decode cX4_leastFrom 20 = .ok (.iload_n 2, 1) := by decide +kernel
theorem dX4_leastFrom_21 : decode cX4_leastFrom 21 = .ok (.invokevirtual 51, 3) := by decide +kernel
theorem dX4_leastFrom_24 : decode cX4_leastFrom 24 = .ok (.aload_n 0, 1) := by decide +kernel
theorem dX4_leastFrom_25 : decode cX4_leastFrom 25 = .ok (.getfield 9, 3) := by decide +kernel
theorem dX4_leastFrom_28 : decode cX4_leastFrom 28 = .ok (.iload 5, 2) := by decide +kernel
theorem dX4_leastFrom_30 : decode cX4_leastFrom 30 = .ok (.iaload, 1) := by decide +kernel
theorem dX4_leastFrom_31 : decode cX4_leastFrom 31 = .ok (.iadd, 1) := by decide +kernel
theorem dX4_leastFrom_32 : decode cX4_leastFrom 32 = .ok (.ireturn, 1) := by decide +kernel
theorem dX5_rounds_0 : decode cX5_rounds 0 = .ok (.iconst 0, 1) := by decide +kernel
theorem dX5_rounds_1 : decode cX5_rounds 1 = .ok (.istore_n 1, 1) := by decide +kernel
theorem dX5_rounds_2 : decode cX5_rounds 2 = .ok (.iconst 0, 1) := by decide +kernel
theorem dX5_rounds_3 : decode cX5_rounds 3 = .ok (.istore_n 2, 1) := by decide +kernel
theorem dX5_rounds_4 : decode cX5_rounds 4 = .ok (.iload_n 2, 1) := by decide +kernel
theorem dX5_rounds_5 : decode cX5_rounds 5 = .ok (.iload_n 0, 1) := by decide +kernel
theorem dX5_rounds_6 : decode cX5_rounds 6 = .ok (.if_icmp .ge 17, 3) := by decide +kernel
theorem dX5_rounds_9 : decode cX5_rounds 9 = .ok (.iload_n 1, 1) := by decide +kernel
theorem dX5_rounds_10 : decode cX5_rounds 10 = .ok (.iload_n 2, 1) := by decide +kernel
theorem dX5_rounds_11 : decode cX5_rounds 11 = .ok (.iconst 3, 1) := by decide +kernel
theorem dX5_rounds_12 : decode cX5_rounds 12 = .ok (.iload_n 2, 1) := by decide +kernel
theorem dX5_rounds_13 : decode cX5_rounds 13 = .ok (.imul, 1) := by decide +kernel
theorem dX5_rounds_14 : decode cX5_rounds 14 = .ok (.ishl, 1) := by decide +kernel
theorem dX5_rounds_15 : decode cX5_rounds 15 = .ok (.ior, 1) := by decide +kernel
theorem dX5_rounds_16 : decode cX5_rounds 16 = .ok (.istore_n 1, 1) := by decide +kernel
theorem dX5_rounds_17 : decode cX5_rounds 17 = .ok (.iinc 2 1, 3) := by decide +kernel
theorem dX5_rounds_20 : decode cX5_rounds 20 = .ok (.goto (-16), 3) := by decide +kernel
theorem dX5_rounds_23 : decode cX5_rounds 23 = .ok (.iload_n 1, 1) := by decide +kernel
theorem dX5_rounds_24 : decode cX5_rounds 24 = .ok (.ireturn, 1) := by decide +kernel
theorem dX5_bellIn_0 : decode cX5_bellIn 0 = .ok (.iload_n 0, 1) := by decide +kernel
theorem dX5_bellIn_1 : decode cX5_bellIn 1 = .ok (.iconst 3, 1) := by decide +kernel
theorem dX5_bellIn_2 : decode cX5_bellIn 2 = .ok (.iload_n 1, 1) := by decide +kernel
theorem dX5_bellIn_3 : decode cX5_bellIn 3 = .ok (.imul, 1) := by decide +kernel
theorem dX5_bellIn_4 : decode cX5_bellIn 4 = .ok (.ishr, 1) := by decide +kernel
theorem dX5_bellIn_5 : decode cX5_bellIn 5 = .ok (.bipush 7, 2) := by decide +kernel
theorem dX5_bellIn_7 : decode cX5_bellIn 7 = .ok (.iand, 1) := by decide +kernel
theorem dX5_bellIn_8 : decode cX5_bellIn 8 = .ok (.ireturn, 1) := by decide +kernel
theorem dX5_placeOf_0 : decode cX5_placeOf 0 = .ok (.iconst 0, 1) := by decide +kernel
theorem dX5_placeOf_1 : decode cX5_placeOf 1 = .ok (.istore_n 3, 1) := by decide +kernel
theorem dX5_placeOf_2 : decode cX5_placeOf 2 = .ok (.iload_n 3, 1) := by decide +kernel
theorem dX5_placeOf_3 : decode cX5_placeOf 3 = .ok (.iload_n 2, 1) := by decide +kernel
theorem dX5_placeOf_4 : decode cX5_placeOf 4 = .ok (.if_icmp .ge 20, 3) := by decide +kernel
theorem dX5_placeOf_7 : decode cX5_placeOf 7 = .ok (.iload_n 0, 1) := by decide +kernel
theorem dX5_placeOf_8 : decode cX5_placeOf 8 = .ok (.iload_n 3, 1) := by decide +kernel
theorem dX5_placeOf_9 : decode cX5_placeOf 9 = .ok (.invokestatic 11, 3) := by decide +kernel
theorem dX5_placeOf_12 : decode cX5_placeOf 12 = .ok (.iload_n 1, 1) := by decide +kernel
theorem dX5_placeOf_13 : decode cX5_placeOf 13 = .ok (.if_icmp .ne 5, 3) := by decide +kernel
theorem dX5_placeOf_16 : decode cX5_placeOf 16 = .ok (.iload_n 3, 1) := by decide +kernel
theorem dX5_placeOf_17 : decode cX5_placeOf 17 = .ok (.ireturn, 1) := by decide +kernel
theorem dX5_placeOf_18 : decode cX5_placeOf 18 = .ok (.iinc 3 1, 3) := by decide +kernel
theorem dX5_placeOf_21 : decode cX5_placeOf 21 = .ok (.goto (-19), 3) := by decide +kernel
theorem dX5_placeOf_24 : decode cX5_placeOf 24 = .ok (.iconst (-1), 1) := by decide +kernel
theorem dX5_placeOf_25 : decode cX5_placeOf 25 = .ok (.ireturn, 1) := by decide +kernel
theorem dX5_figures_0 : decode cX5_figures 0 = .ok (.iconst 0, 1) := by decide +kernel
theorem dX5_figures_1 : decode cX5_figures 1 = .ok (.istore_n 2, 1) := by decide +kernel
theorem dX5_figures_2 : decode cX5_figures 2 = .ok (.iconst 0, 1) := by decide +kernel
theorem dX5_figures_3 : decode cX5_figures 3 = .ok (.istore_n 3, 1) := by decide +kernel
theorem dX5_figures_4 : decode cX5_figures 4 = .ok (.iload_n 3, 1) := by decide +kernel
theorem dX5_figures_5 : decode cX5_figures 5 = .ok (.iload_n 1, 1) := by decide +kernel
theorem dX5_figures_6 : decode cX5_figures 6 = .ok (.if_icmp .ge 22, 3) := by decide +kernel
theorem dX5_figures_9 : decode cX5_figures 9 = .ok (.iload_n 2, 1) := by decide +kernel
theorem dX5_figures_10 : decode cX5_figures 10 = .ok (.bipush 10, 2) := by decide +kernel
theorem dX5_figures_12 : decode cX5_figures 12 = .ok (.imul, 1) := by decide +kernel
theorem dX5_figures_13 : decode cX5_figures 13 = .ok (.iload_n 0, 1) := by decide +kernel
theorem dX5_figures_14 : decode cX5_figures 14 = .ok (.iload_n 3, 1) := by decide +kernel
theorem dX5_figures_15 : decode cX5_figures 15 = .ok (.invokestatic 11, 3) := by decide +kernel
theorem dX5_figures_18 : decode cX5_figures 18 = .ok (.iadd, 1) := by decide +kernel
theorem dX5_figures_19 : decode cX5_figures 19 = .ok (.iconst 1, 1) := by decide +kernel
theorem dX5_figures_20 : decode cX5_figures 20 = .ok (.iadd, 1) := by decide +kernel
theorem dX5_figures_21 : decode cX5_figures 21 = .ok (.istore_n 2, 1) := by decide +kernel
theorem dX5_figures_22 : decode cX5_figures 22 = .ok (.iinc 3 1, 3) := by decide +kernel
theorem dX5_figures_25 : decode cX5_figures 25 = .ok (.goto (-21), 3) := by decide +kernel
theorem dX5_figures_28 : decode cX5_figures 28 = .ok (.iload_n 2, 1) := by decide +kernel
theorem dX5_figures_29 : decode cX5_figures 29 = .ok (.ireturn, 1) := by decide +kernel
theorem dX5_fromFigures_0 : decode cX5_fromFigures 0 = .ok (.iconst 0, 1) := by decide +kernel
theorem dX5_fromFigures_1 : decode cX5_fromFigures 1 = .ok (.istore_n 2, 1) := by decide +kernel
theorem dX5_fromFigures_2 : decode cX5_fromFigures 2 = .ok (.iconst 0, 1) := by decide +kernel
theorem dX5_fromFigures_3 : decode cX5_fromFigures 3 = .ok (.istore_n 3, 1) := by decide +kernel
theorem dX5_fromFigures_4 : decode cX5_fromFigures 4 = .ok (.iload_n 0, 1) := by decide +kernel
theorem dX5_fromFigures_5 : decode cX5_fromFigures 5 = .ok (.istore 4, 2) := by decide +kernel
theorem dX5_fromFigures_7 : decode cX5_fromFigures 7 = .ok (.iload_n 1, 1) := by decide +kernel
theorem dX5_fromFigures_8 : decode cX5_fromFigures 8 = .ok (.iconst 1, 1) := by decide +kernel
theorem dX5_fromFigures_9 : decode cX5_fromFigures 9 = .ok (.isub, 1) := by decide +kernel
theorem dX5_fromFigures_10 : decode cX5_fromFigures 10 = .ok (.istore 5, 2) := by decide +kernel
theorem dX5_fromFigures_12 : decode cX5_fromFigures 12 = .ok (.iload 5, 2) := by decide +kernel
theorem dX5_fromFigures_14 : decode cX5_fromFigures 14 = .ok (.ifCond .lt 64, 3) := by decide +kernel
theorem dX5_fromFigures_17 : decode cX5_fromFigures 17 = .ok (.iload 4, 2) := by decide +kernel
theorem dX5_fromFigures_19 : decode cX5_fromFigures 19 = .ok (.bipush 10, 2) := by decide +kernel
theorem dX5_fromFigures_21 : decode cX5_fromFigures 21 = .ok (.irem, 1) := by decide +kernel
theorem dX5_fromFigures_22 : decode cX5_fromFigures 22 = .ok (.iconst 1, 1) := by decide +kernel
theorem dX5_fromFigures_23 : decode cX5_fromFigures 23 = .ok (.isub, 1) := by decide +kernel
theorem dX5_fromFigures_24 : decode cX5_fromFigures 24 = .ok (.istore 6, 2) := by decide +kernel
theorem dX5_fromFigures_26 : decode cX5_fromFigures 26 = .ok (.iload 6, 2) := by decide +kernel
theorem dX5_fromFigures_28 : decode cX5_fromFigures 28 = .ok (.ifCond .lt 18, 3) := by decide +kernel
theorem dX5_fromFigures_31 : decode cX5_fromFigures 31 = .ok (.iload 6, 2) := by decide +kernel
theorem dX5_fromFigures_33 : decode cX5_fromFigures 33 = .ok (.iload_n 1, 1) := by decide +kernel
theorem dX5_fromFigures_34 : decode cX5_fromFigures 34 = .ok (.if_icmp .ge 12, 3) := by decide +kernel
theorem dX5_fromFigures_37 : decode cX5_fromFigures 37 = .ok (.iload_n 3, 1) := by decide +kernel
theorem dX5_fromFigures_38 : decode cX5_fromFigures 38 = .ok (.iload 6, 2) := by decide +kernel
theorem dX5_fromFigures_40 : decode cX5_fromFigures 40 = .ok (.ishr, 1) := by decide +kernel
theorem dX5_fromFigures_41 : decode cX5_fromFigures 41 = .ok (.iconst 1, 1) := by decide +kernel
theorem dX5_fromFigures_42 : decode cX5_fromFigures 42 = .ok (.iand, 1) := by decide +kernel
theorem dX5_fromFigures_43 : decode cX5_fromFigures 43 = .ok (.ifCond .eq 5, 3) := by decide +kernel
theorem dX5_fromFigures_46 : decode cX5_fromFigures 46 = .ok (.iconst (-1), 1) := by decide +kernel
theorem dX5_fromFigures_47 : decode cX5_fromFigures 47 = .ok (.ireturn, 1) := by decide +kernel
theorem dX5_fromFigures_48 : decode cX5_fromFigures 48 = .ok (.iload_n 3, 1) := by decide +kernel
theorem dX5_fromFigures_49 : decode cX5_fromFigures 49 = .ok (.iconst 1, 1) := by decide +kernel
theorem dX5_fromFigures_50 : decode cX5_fromFigures 50 = .ok (.iload 6, 2) := by decide +kernel
theorem dX5_fromFigures_52 : decode cX5_fromFigures 52 = .ok (.ishl, 1) := by decide +kernel
theorem dX5_fromFigures_53 : decode cX5_fromFigures 53 = .ok (.ior, 1) := by decide +kernel
theorem dX5_fromFigures_54 : decode cX5_fromFigures 54 = .ok (.istore_n 3, 1) := by decide +kernel
theorem dX5_fromFigures_55 : decode cX5_fromFigures 55 = .ok (.iload_n 2, 1) := by decide +kernel
theorem dX5_fromFigures_56 : decode cX5_fromFigures 56 = .ok (.iload 6, 2) := by decide +kernel
theorem dX5_fromFigures_58 : decode cX5_fromFigures 58 = .ok (.iconst 3, 1) := by decide +kernel
theorem dX5_fromFigures_59 : decode cX5_fromFigures 59 = .ok (.iload 5, 2) := by decide +kernel
theorem dX5_fromFigures_61 : decode cX5_fromFigures 61 = .ok (.imul, 1) := by decide +kernel
theorem dX5_fromFigures_62 : decode cX5_fromFigures 62 = .ok (.ishl, 1) := by decide +kernel
theorem dX5_fromFigures_63 : decode cX5_fromFigures 63 = .ok (.ior, 1) := by decide +kernel
theorem dX5_fromFigures_64 : decode cX5_fromFigures 64 = .ok (.istore_n 2, 1) := by decide +kernel
theorem dX5_fromFigures_65 : decode cX5_fromFigures 65 = .ok (.iload 4, 2) := by decide +kernel
theorem dX5_fromFigures_67 : decode cX5_fromFigures 67 = .ok (.bipush 10, 2) := by decide +kernel
theorem dX5_fromFigures_69 : decode cX5_fromFigures 69 = .ok (.idiv, 1) := by decide +kernel
theorem dX5_fromFigures_70 : decode cX5_fromFigures 70 = .ok (.istore 4, 2) := by decide +kernel
theorem dX5_fromFigures_72 : decode cX5_fromFigures 72 = .ok (.iinc 5 (-1), 3) := by decide +kernel
theorem dX5_fromFigures_75 : decode cX5_fromFigures 75 = .ok (.goto (-63), 3) := by decide +kernel
theorem dX5_fromFigures_78 : decode cX5_fromFigures 78 = .ok (.iload_n 1, 1) := by decide +kernel
theorem dX5_fromFigures_79 : decode cX5_fromFigures 79 = .ok (.ifCond .le 12, 3) := by decide +kernel
theorem dX5_fromFigures_82 : decode cX5_fromFigures 82 = .ok (.iload 4, 2) := by decide +kernel
theorem dX5_fromFigures_84 : decode cX5_fromFigures 84 = .ok (.ifCond .ne 7, 3) := by decide +kernel
theorem dX5_fromFigures_87 : decode cX5_fromFigures 87 = .ok (.iload_n 2, 1) := by decide +kernel
theorem dX5_fromFigures_88 : decode cX5_fromFigures 88 = .ok (.goto 4, 3) := by decide +kernel
theorem dX5_fromFigures_91 : decode cX5_fromFigures 91 = .ok (.iconst (-1), 1) := by decide +kernel
theorem dX5_fromFigures_92 : decode cX5_fromFigures 92 = .ok (.ireturn, 1) := by decide +kernel
theorem dX5_placesAlike_0 : decode cX5_placesAlike 0 = .ok (.iconst 0, 1) := by decide +kernel
theorem dX5_placesAlike_1 : decode cX5_placesAlike 1 = .ok (.istore_n 3, 1) := by decide +kernel
theorem dX5_placesAlike_2 : decode cX5_placesAlike 2 = .ok (.iconst 0, 1) := by decide +kernel
theorem dX5_placesAlike_3 : decode cX5_placesAlike 3 = .ok (.istore 4, 2) := by decide +kernel
theorem dX5_placesAlike_5 : decode cX5_placesAlike 5 = .ok (.iload 4, 2) := by decide +kernel
theorem dX5_placesAlike_7 : decode cX5_placesAlike 7 = .ok (.iload_n 2, 1) := by decide +kernel
theorem dX5_placesAlike_8 : decode cX5_placesAlike 8 = .ok (.if_icmp .ge 31, 3) := by decide +kernel
theorem dX5_placesAlike_11 : decode cX5_placesAlike 11 = .ok (.iload_n 0, 1) := by decide +kernel
theorem dX5_placesAlike_12 : decode cX5_placesAlike 12 = .ok (.iload 4, 2) := by decide +kernel
theorem dX5_placesAlike_14 : decode cX5_placesAlike 14 = .ok (.invokestatic 11, 3) := by decide +kernel
theorem dX5_placesAlike_17 : decode cX5_placesAlike 17 = .ok (.iload_n 1, 1) := by decide +kernel
theorem dX5_placesAlike_18 : decode cX5_placesAlike 18 = .ok (.iload 4, 2) := by decide +kernel
theorem dX5_placesAlike_20 : decode cX5_placesAlike 20 = .ok (.invokestatic 11, 3) := by decide +kernel
theorem dX5_placesAlike_23 : decode cX5_placesAlike 23 = .ok (.if_icmp .ne 10, 3) := by decide +kernel
theorem dX5_placesAlike_26 : decode cX5_placesAlike 26 = .ok (.iload_n 3, 1) := by decide +kernel
theorem dX5_placesAlike_27 : decode cX5_placesAlike 27 = .ok (.iconst 1, 1) := by decide +kernel
theorem dX5_placesAlike_28 : decode cX5_placesAlike 28 = .ok (.iload 4, 2) := by decide +kernel
theorem dX5_placesAlike_30 : decode cX5_placesAlike 30 = .ok (.ishl, 1) := by decide +kernel
theorem dX5_placesAlike_31 : decode cX5_placesAlike 31 = .ok (.ior, 1) := by decide +kernel
theorem dX5_placesAlike_32 : decode cX5_placesAlike 32 = .ok (.istore_n 3, 1) := by decide +kernel
theorem dX5_placesAlike_33 : decode cX5_placesAlike 33 = .ok (.iinc 4 1, 3) := by decide +kernel
theorem dX5_placesAlike_36 : decode cX5_placesAlike 36 = .ok (.goto (-31), 3) := by decide +kernel
theorem dX5_placesAlike_39 : decode cX5_placesAlike 39 = .ok (.iload_n 3, 1) := by decide +kernel
theorem dX5_placesAlike_40 : decode cX5_placesAlike 40 = .ok (.ireturn, 1) := by decide +kernel
theorem dX5_without_0 : decode cX5_without 0 = .ok (.iload_n 0, 1) := by decide +kernel
theorem dX5_without_1 : decode cX5_without 1 = .ok (.iload_n 1, 1) := by decide +kernel
theorem dX5_without_2 : decode cX5_without 2 = .ok (.iload_n 2, 1) := by decide +kernel
theorem dX5_without_3 : decode cX5_without 3 = .ok (.invokestatic 15, 3) := by decide +kernel
theorem dX5_without_6 : decode cX5_without 6 = .ok (.istore_n 3, 1) := by decide +kernel
theorem dX5_without_7 : decode cX5_without 7 = .ok (.iload_n 3, 1) := by decide +kernel
theorem dX5_without_8 : decode cX5_without 8 = .ok (.iconst (-1), 1) := by decide +kernel
theorem dX5_without_9 : decode cX5_without 9 = .ok (.if_icmp .ne 5, 3) := by decide +kernel
theorem dX5_without_12 : decode cX5_without 12 = .ok (.iload_n 0, 1) := by decide +kernel
theorem dX5_without_13 : decode cX5_without 13 = .ok (.ireturn, 1) := by decide +kernel
theorem dX5_without_14 : decode cX5_without 14 = .ok (.iload_n 0, 1) := by decide +kernel
theorem dX5_without_15 : decode cX5_without 15 = .ok (.iconst 1, 1) := by decide +kernel
theorem dX5_without_16 : decode cX5_without 16 = .ok (.iconst 3, 1) := by decide +kernel
theorem dX5_without_17 : decode cX5_without 17 = .ok (.iload_n 3, 1) := by decide +kernel
theorem dX5_without_18 : decode cX5_without 18 = .ok (.imul, 1) := by decide +kernel
theorem dX5_without_19 : decode cX5_without 19 = .ok (.ishl, 1) := by decide +kernel
theorem dX5_without_20 : decode cX5_without 20 = .ok (.iconst 1, 1) := by decide +kernel
theorem dX5_without_21 : decode cX5_without 21 = .ok (.isub, 1) := by decide +kernel
theorem dX5_without_22 : decode cX5_without 22 = .ok (.iand, 1) := by decide +kernel
theorem dX5_without_23 : decode cX5_without 23 = .ok (.istore 4, 2) := by decide +kernel
theorem dX5_without_25 : decode cX5_without 25 = .ok (.iload_n 0, 1) := by decide +kernel
theorem dX5_without_26 : decode cX5_without 26 = .ok (.iconst 3, 1) := by decide +kernel
theorem dX5_without_27 : decode cX5_without 27 = .ok (.iload_n 3, 1) := by decide +kernel
theorem dX5_without_28 : decode cX5_without 28 = .ok (.iconst 1, 1) := by decide +kernel
theorem dX5_without_29 : decode cX5_without 29 = .ok (.iadd, 1) := by decide +kernel
theorem dX5_without_30 : decode cX5_without 30 = .ok (.imul, 1) := by decide +kernel
theorem dX5_without_31 : decode cX5_without 31 = .ok (.ishr, 1) := by decide +kernel
theorem dX5_without_32 : decode cX5_without 32 = .ok (.istore 5, 2) := by decide +kernel
theorem dX5_without_34 : decode cX5_without 34 = .ok (.iload 4, 2) := by decide +kernel
theorem dX5_without_36 : decode cX5_without 36 = .ok (.iload 5, 2) := by decide +kernel
theorem dX5_without_38 : decode cX5_without 38 = .ok (.iconst 3, 1) := by decide +kernel
theorem dX5_without_39 : decode cX5_without 39 = .ok (.iload_n 3, 1) := by decide +kernel
theorem dX5_without_40 : decode cX5_without 40 = .ok (.imul, 1) := by decide +kernel
theorem dX5_without_41 : decode cX5_without 41 = .ok (.ishl, 1) := by decide +kernel
theorem dX5_without_42 : decode cX5_without 42 = .ok (.ior, 1) := by decide +kernel
theorem dX5_without_43 : decode cX5_without 43 = .ok (.ireturn, 1) := by decide +kernel
theorem dX5_withLate_0 : decode cX5_withLate 0 = .ok (.iload_n 0, 1) := by decide +kernel
theorem dX5_withLate_1 : decode cX5_withLate 1 = .ok (.iload_n 1, 1) := by decide +kernel
theorem dX5_withLate_2 : decode cX5_withLate 2 = .ok (.iload_n 2, 1) := by decide +kernel
theorem dX5_withLate_3 : decode cX5_withLate 3 = .ok (.invokestatic 15, 3) := by decide +kernel
theorem dX5_withLate_6 : decode cX5_withLate 6 = .ok (.istore_n 3, 1) := by decide +kernel
theorem dX5_withLate_7 : decode cX5_withLate 7 = .ok (.iload_n 3, 1) := by decide +kernel
theorem dX5_withLate_8 : decode cX5_withLate 8 = .ok (.iconst (-1), 1) := by decide +kernel
theorem dX5_withLate_9 : decode cX5_withLate 9 = .ok (.if_icmp .eq 10, 3) := by decide +kernel
theorem dX5_withLate_12 : decode cX5_withLate 12 = .ok (.iload_n 3, 1) := by decide +kernel
theorem dX5_withLate_13 : decode cX5_withLate 13 = .ok (.iload_n 2, 1) := by decide +kernel
theorem dX5_withLate_14 : decode cX5_withLate 14 = .ok (.iconst 1, 1) := by decide +kernel
theorem dX5_withLate_15 : decode cX5_withLate 15 = .ok (.isub, 1) := by decide +kernel
theorem dX5_withLate_16 : decode cX5_withLate 16 = .ok (.if_icmp .ne 5, 3) := by decide +kernel
theorem dX5_withLate_19 : decode cX5_withLate 19 = .ok (.iload_n 0, 1) := by decide +kernel
theorem dX5_withLate_20 : decode cX5_withLate 20 = .ok (.ireturn, 1) := by decide +kernel
theorem dX5_withLate_21 : decode cX5_withLate 21 = .ok (.iload_n 0, 1) := by decide +kernel
theorem dX5_withLate_22 : decode cX5_withLate 22 = .ok (.iload_n 3, 1) := by decide +kernel
theorem dX5_withLate_23 : decode cX5_withLate 23 = .ok (.invokestatic 11, 3) := by decide +kernel
theorem dX5_withLate_26 : decode cX5_withLate 26 = .ok (.iload_n 0, 1) := by decide +kernel
theorem dX5_withLate_27 : decode cX5_withLate 27 = .ok (.iload_n 3, 1) := by decide +kernel
theorem dX5_withLate_28 : decode cX5_withLate 28 = .ok (.iconst 1, 1) := by decide +kernel
theorem dX5_withLate_29 : decode cX5_withLate 29 = .ok (.iadd, 1) := by decide +kernel
theorem dX5_withLate_30 : decode cX5_withLate 30 = .ok (.invokestatic 11, 3) := by decide +kernel
theorem dX5_withLate_33 : decode cX5_withLate 33 = .ok (.ixor, 1) := by decide +kernel
theorem dX5_withLate_34 : decode cX5_withLate 34 = .ok (.iconst 3, 1) := by decide +kernel
theorem dX5_withLate_35 : decode cX5_withLate 35 = .ok (.iload_n 3, 1) := by decide +kernel
theorem dX5_withLate_36 : decode cX5_withLate 36 = .ok (.imul, 1) := by decide +kernel
theorem dX5_withLate_37 : decode cX5_withLate 37 = .ok (.ishl, 1) := by decide +kernel
theorem dX5_withLate_38 : decode cX5_withLate 38 = .ok (.istore 4, 2) := by decide +kernel
theorem dX5_withLate_40 : decode cX5_withLate 40 = .ok (.iload_n 0, 1) := by decide +kernel
theorem dX5_withLate_41 : decode cX5_withLate 41 = .ok (.iload 4, 2) := by decide +kernel
theorem dX5_withLate_43 : decode cX5_withLate 43 = .ok (.ixor, 1) := by decide +kernel
theorem dX5_withLate_44 : decode cX5_withLate 44 = .ok (.iload 4, 2) := by decide +kernel
theorem dX5_withLate_46 : decode cX5_withLate 46 = .ok (.iconst 3, 1) := by decide +kernel
theorem dX5_withLate_47 : decode cX5_withLate 47 = .ok (.ishl, 1) := by decide +kernel
theorem dX5_withLate_48 : decode cX5_withLate 48 = .ok (.ixor, 1) := by decide +kernel
theorem dX5_withLate_49 : decode cX5_withLate 49 = .ok (.ireturn, 1) := by decide +kernel
theorem dX6_init_0 : decode cX6_init 0 = .ok (.aload_n 0, 1) := by decide +kernel
theorem dX6_init_1 : decode cX6_init 1 = .ok (.invokespecial 1, 3) := by decide +kernel
theorem dX6_init_4 : decode cX6_init 4 = .ok (.aload_n 0, 1) := by decide +kernel
theorem dX6_init_5 : decode cX6_init 5 = .ok (.sipush 1024, 3) := by decide +kernel
theorem dX6_init_8 : decode cX6_init 8 = .ok (.newarray .int, 2) := by decide +kernel
theorem dX6_init_10 : decode cX6_init 10 = .ok (.putfield 9, 3) := by decide +kernel
theorem dX6_init_13 : decode cX6_init 13 = .ok (.return_, 1) := by decide +kernel
theorem dX6_clear_0 : decode cX6_clear 0 = .ok (.aload_n 0, 1) := by decide +kernel
theorem dX6_clear_1 : decode cX6_clear 1 = .ok (.getfield 9, 3) := by decide +kernel
theorem dX6_clear_4 : decode cX6_clear 4 = .ok (.iconst 0, 1) := by decide +kernel
theorem dX6_clear_5 : decode cX6_clear 5 = .ok (.invokestatic 13, 3) := by decide +kernel
theorem dX6_clear_8 : decode cX6_clear 8 = .ok (.return_, 1) := by decide +kernel
theorem dX6_add_0 : decode cX6_add 0 = .ok (.iload_n 1, 1) := by decide +kernel
theorem dX6_add_1 : decode cX6_add 1 = .ok (.sipush 32767, 3) := by decide +kernel
theorem dX6_add_4 : decode cX6_add 4 = .ok (.iand, 1) := by decide +kernel
theorem dX6_add_5 : decode cX6_add 5 = .ok (.istore_n 2, 1) := by decide +kernel
theorem dX6_add_6 : decode cX6_add 6 = .ok (.iconst 1, 1) := by decide +kernel
theorem dX6_add_7 : decode cX6_add 7 = .ok (.iload_n 2, 1) := by decide +kernel
theorem dX6_add_8 : decode cX6_add 8 = .ok (.bipush 32, 2) := by decide +kernel
theorem dX6_add_10 : decode cX6_add 10 = .ok (.irem, 1) := by decide +kernel
theorem dX6_add_11 : decode cX6_add 11 = .ok (.ishl, 1) := by decide +kernel
theorem dX6_add_12 : decode cX6_add 12 = .ok (.istore_n 3, 1) := by decide +kernel
theorem dX6_add_13 : decode cX6_add 13 = .ok (.iload_n 2, 1) := by decide +kernel
theorem dX6_add_14 : decode cX6_add 14 = .ok (.bipush 32, 2) := by decide +kernel
theorem dX6_add_16 : decode cX6_add 16 = .ok (.idiv, 1) := by decide +kernel
theorem dX6_add_17 : decode cX6_add 17 = .ok (.istore 4, 2) := by decide +kernel
theorem dX6_add_19 : decode cX6_add 19 = .ok (.aload_n 0, 1) := by decide +kernel
theorem dX6_add_20 : decode cX6_add 20 = .ok (.getfield 9, 3) := by decide +kernel
theorem dX6_add_23 : decode cX6_add 23 = .ok (.iload 4, 2) := by decide +kernel
theorem dX6_add_25 : decode cX6_add 25 = .ok (.iaload, 1) := by decide +kernel
theorem dX6_add_26 : decode cX6_add 26 = .ok (.iload_n 3, 1) := by decide +kernel
theorem dX6_add_27 : decode cX6_add 27 = .ok (.iand, 1) := by decide +kernel
theorem dX6_add_28 : decode cX6_add 28 = .ok (.ifCond .eq 5, 3) := by decide +kernel
theorem dX6_add_31 : decode cX6_add 31 = .ok (.iconst 0, 1) := by decide +kernel
theorem dX6_add_32 : decode cX6_add 32 = .ok (.ireturn, 1) := by decide +kernel
theorem dX6_add_33 : decode cX6_add 33 = .ok (.aload_n 0, 1) := by decide +kernel
theorem dX6_add_34 : decode cX6_add 34 = .ok (.getfield 9, 3) := by decide +kernel
theorem dX6_add_37 : decode cX6_add 37 = .ok (.iload 4, 2) := by decide +kernel
theorem dX6_add_39 : decode cX6_add 39 = .ok (.dup2, 1) := by decide +kernel
theorem dX6_add_40 : decode cX6_add 40 = .ok (.iaload, 1) := by decide +kernel
theorem dX6_add_41 : decode cX6_add 41 = .ok (.iload_n 3, 1) := by decide +kernel
theorem dX6_add_42 : decode cX6_add 42 = .ok (.ior, 1) := by decide +kernel
theorem dX6_add_43 : decode cX6_add 43 = .ok (.iastore, 1) := by decide +kernel
theorem dX6_add_44 : decode cX6_add 44 = .ok (.iconst 1, 1) := by decide +kernel
theorem dX6_add_45 : decode cX6_add 45 = .ok (.ireturn, 1) := by decide +kernel
theorem dX6_remove_0 : decode cX6_remove 0 = .ok (.iload_n 1, 1) := by decide +kernel
theorem dX6_remove_1 : decode cX6_remove 1 = .ok (.sipush 32767, 3) := by decide +kernel
theorem dX6_remove_4 : decode cX6_remove 4 = .ok (.iand, 1) := by decide +kernel
theorem dX6_remove_5 : decode cX6_remove 5 = .ok (.istore_n 2, 1) := by decide +kernel
theorem dX6_remove_6 : decode cX6_remove 6 = .ok (.aload_n 0, 1) := by decide +kernel
theorem dX6_remove_7 : decode cX6_remove 7 = .ok (.getfield 9, 3) := by decide +kernel
theorem dX6_remove_10 : decode cX6_remove 10 = .ok (.iload_n 2, 1) := by decide +kernel
theorem dX6_remove_11 : decode cX6_remove 11 = .ok (.bipush 32, 2) := by decide +kernel
theorem dX6_remove_13 : decode cX6_remove 13 = .ok (.idiv, 1) := by decide +kernel
theorem dX6_remove_14 : decode cX6_remove 14 = .ok (.dup2, 1) := by decide +kernel
theorem dX6_remove_15 : decode cX6_remove 15 = .ok (.iaload, 1) := by decide +kernel
theorem dX6_remove_16 : decode cX6_remove 16 = .ok (.iconst 1, 1) := by decide +kernel
theorem dX6_remove_17 : decode cX6_remove 17 = .ok (.iload_n 2, 1) := by decide +kernel
theorem dX6_remove_18 : decode cX6_remove 18 = .ok (.bipush 32, 2) := by decide +kernel
theorem dX6_remove_20 : decode cX6_remove 20 = .ok (.irem, 1) := by decide +kernel
theorem dX6_remove_21 : decode cX6_remove 21 = .ok (.ishl, 1) := by decide +kernel
theorem dX6_remove_22 : decode cX6_remove 22 = .ok (.iconst (-1), 1) := by decide +kernel
theorem dX6_remove_23 : decode cX6_remove 23 = .ok (.ixor, 1) := by decide +kernel
theorem dX6_remove_24 : decode cX6_remove 24 = .ok (.iand, 1) := by decide +kernel
theorem dX6_remove_25 : decode cX6_remove 25 = .ok (.iastore, 1) := by decide +kernel
theorem dX6_remove_26 : decode cX6_remove 26 = .ok (.return_, 1) := by decide +kernel
theorem dX7_init_0 : decode cX7_init 0 = .ok (.aload_n 0, 1) := by decide +kernel
theorem dX7_init_1 : decode cX7_init 1 = .ok (.invokespecial 3, 3) := by decide +kernel
theorem dX7_init_4 : decode cX7_init 4 = .ok (.aload_n 0, 1) := by decide +kernel
theorem dX7_init_5 : decode cX7_init 5 = .ok (.iconst (-1), 1) := by decide +kernel
theorem dX7_init_6 : decode cX7_init 6 = .ok (.putfield 9, 3) := by decide +kernel
theorem dX7_init_9 : decode cX7_init 9 = .ok (.aload_n 0, 1) := by decide +kernel
theorem dX7_init_10 : decode cX7_init 10 = .ok (.sipush 240, 3) := by decide +kernel
theorem dX7_init_13 : decode cX7_init 13 = .ok (.newarray .int, 2) := by decide +kernel
theorem dX7_init_15 : decode cX7_init 15 = .ok (.putfield 15, 3) := by decide +kernel
theorem dX7_init_18 : decode cX7_init 18 = .ok (.return_, 1) := by decide +kernel
theorem dX7_add_0 : decode cX7_add 0 = .ok (.aload_n 0, 1) := by decide +kernel
theorem dX7_add_1 : decode cX7_add 1 = .ok (.getfield 19, 3) := by decide +kernel
theorem dX7_add_4 : decode cX7_add 4 = .ok (.sipush 240, 3) := by decide +kernel
theorem dX7_add_7 : decode cX7_add 7 = .ok (.if_icmp .lt 5, 3) := by decide +kernel
theorem dX7_add_10 : decode cX7_add 10 = .ok (.iconst 0, 1) := by decide +kernel
theorem dX7_add_11 : decode cX7_add 11 = .ok (.ireturn, 1) := by decide +kernel
theorem dX7_add_12 : decode cX7_add 12 = .ok (.aload_n 0, 1) := by decide +kernel
theorem dX7_add_13 : decode cX7_add 13 = .ok (.getfield 15, 3) := by decide +kernel
theorem dX7_add_16 : decode cX7_add 16 = .ok (.aload_n 0, 1) := by decide +kernel
theorem dX7_add_17 : decode cX7_add 17 = .ok (.dup, 1) := by decide +kernel
theorem dX7_add_18 : decode cX7_add 18 = .ok (.getfield 19, 3) := by decide +kernel
theorem dX7_add_21 : decode cX7_add 21 = .ok (.dup_x1, 1) := by decide +kernel
theorem dX7_add_22 : decode cX7_add 22 = .ok (.iconst 1, 1) := by decide +kernel
theorem dX7_add_23 : decode cX7_add 23 = .ok (.iadd, 1) := by decide +kernel
theorem dX7_add_24 : decode cX7_add 24 = .ok (.putfield 19, 3) := by decide +kernel
theorem dX7_add_27 : decode cX7_add 27 = .ok (.iload_n 1, 1) := by decide +kernel
theorem dX7_add_28 : decode cX7_add 28 = .ok (.iastore, 1) := by decide +kernel
theorem dX7_add_29 : decode cX7_add 29 = .ok (.iconst 1, 1) := by decide +kernel
theorem dX7_add_30 : decode cX7_add 30 = .ok (.ireturn, 1) := by decide +kernel
theorem dX7_readInto_0 : decode cX7_readInto 0 = .ok (.aload_n 1, 1) := by decide +kernel
theorem dX7_readInto_1 : decode cX7_readInto 1 = .ok (.invokevirtual 22, 3) := by decide +kernel
theorem dX7_readInto_4 : decode cX7_readInto 4 = .ok (.aload_n 0, 1) := by decide +kernel
theorem dX7_readInto_5 : decode cX7_readInto 5 = .ok (.iconst 0, 1) := by decide +kernel
theorem dX7_readInto_6 : decode cX7_readInto 6 = .ok (.putfield 27, 3) := by decide +kernel
theorem dX7_readInto_9 : decode cX7_readInto 9 = .ok (.aload_n 0, 1) := by decide +kernel
theorem dX7_readInto_10 : decode cX7_readInto 10 = .ok (.iconst 0, 1) := by decide +kernel
theorem dX7_readInto_11 : decode cX7_readInto 11 = .ok (.putfield 30, 3) := by decide +kernel
theorem dX7_readInto_14 : decode cX7_readInto 14 = .ok (.aload_n 0, 1) := by decide +kernel
theorem dX7_readInto_15 : decode cX7_readInto 15 = .ok (.iconst (-1), 1) := by decide +kernel
theorem dX7_readInto_16 : decode cX7_readInto 16 = .ok (.putfield 9, 3) := by decide +kernel
theorem dX7_readInto_19 : decode cX7_readInto 19 = .ok (.aload_n 0, 1) := by decide +kernel
theorem dX7_readInto_20 : decode cX7_readInto 20 = .ok (.invokevirtual 33, 3) := by decide +kernel
theorem dX7_readInto_23 : decode cX7_readInto 23 = .ok (.iconst 0, 1) := by decide +kernel
theorem dX7_readInto_24 : decode cX7_readInto 24 = .ok (.istore_n 2, 1) := by decide +kernel
theorem dX7_readInto_25 : decode cX7_readInto 25 = .ok (.iload_n 2, 1) := by decide +kernel
theorem dX7_readInto_26 : decode cX7_readInto 26 = .ok (.sipush 240, 3) := by decide +kernel
theorem dX7_readInto_29 : decode cX7_readInto 29 = .ok (.if_icmp .ge 36, 3) := by decide +kernel
theorem dX7_readInto_32 : decode cX7_readInto 32 = .ok (.aload_n 0, 1) := by decide +kernel
theorem dX7_readInto_33 : decode cX7_readInto 33 = .ok (.getfield 27, 3) := by decide +kernel
theorem dX7_readInto_36 : decode cX7_readInto 36 = .ok (.aload_n 0, 1) := by decide +kernel
theorem dX7_readInto_37 : decode cX7_readInto 37 = .ok (.getfield 19, 3) := by decide +kernel
theorem dX7_readInto_40 : decode cX7_readInto 40 = .ok (.if_icmp .ge 25, 3) := by decide +kernel
theorem dX7_readInto_43 : decode cX7_readInto 43 = .ok (.aload_n 0, 1) := by decide +kernel
theorem dX7_readInto_44 : decode cX7_readInto 44 = .ok (.getfield 30, 3) := by decide +kernel
theorem dX7_readInto_47 : decode cX7_readInto 47 = .ok (.ifCond .ne 18, 3) := by decide +kernel
theorem dX7_readInto_50 : decode cX7_readInto 50 = .ok (.aload_n 0, 1) := by decide +kernel
theorem dX7_readInto_51 : decode cX7_readInto 51 = .ok (.aload_n 1, 1) := by decide +kernel
theorem dX7_readInto_52 : decode cX7_readInto 52 = .ok (.invokevirtual 36, 3) := by decide +kernel
theorem dX7_readInto_55 : decode cX7_readInto 55 = .ok (.aload_n 0, 1) := by decide +kernel
theorem dX7_readInto_56 : decode cX7_readInto 56 = .ok (.invokevirtual 33, 3) := by decide +kernel
theorem dX7_readInto_59 : decode cX7_readInto 59 = .ok (.iinc 2 1, 3) := by decide +kernel
theorem dX7_readInto_62 : decode cX7_readInto 62 = .ok (.goto (-37), 3) := by decide +kernel
theorem dX7_readInto_65 : decode cX7_readInto 65 = .ok (.aload_n 0, 1) := by decide +kernel
theorem dX7_readInto_66 : decode cX7_readInto 66 = .ok (.getfield 30, 3) := by decide +kernel
theorem dX7_readInto_69 : decode cX7_readInto 69 = .ok (.ifCond .ne 7, 3) := by decide +kernel
theorem dX7_readInto_72 : decode cX7_readInto 72 = .ok (.aload_n 1, 1) := by decide +kernel
theorem dX7_readInto_73 : decode cX7_readInto 73 = .ok (.invokevirtual 40, 3) := by decide +kernel
theorem dX7_readInto_76 : decode cX7_readInto 76 = .ok (.aload_n 0, 1) := by decide +kernel
theorem dX7_readInto_77 : decode cX7_readInto 77 = .ok (.iconst 0, 1) := by decide +kernel
theorem dX7_readInto_78 : decode cX7_readInto 78 = .ok (.putfield 19, 3) := by decide +kernel
theorem dX7_readInto_81 : decode cX7_readInto 81 = .ok (.aload_n 0, 1) := by decide +kernel
theorem dX7_readInto_82 : decode cX7_readInto 82 = .ok (.getfield 30, 3) := by decide +kernel
theorem dX7_readInto_85 : decode cX7_readInto 85 = .ok (.ireturn, 1) := by decide +kernel
theorem dX7_letterHere_0 : decode cX7_letterHere 0 = .ok (.aload_n 0, 1) := by decide +kernel
theorem dX7_letterHere_1 : decode cX7_letterHere 1 = .ok (.getfield 27, 3) := by decide +kernel
theorem dX7_letterHere_4 : decode cX7_letterHere 4 = .ok (.ifCond .lt 36, 3) := by decide +kernel
theorem dX7_letterHere_7 : decode cX7_letterHere 7 = .ok (.aload_n 0, 1) := by decide +kernel
theorem dX7_letterHere_8 : decode cX7_letterHere 8 = .ok (.getfield 27, 3) := by decide +kernel
theorem dX7_letterHere_11 : decode cX7_letterHere 11 = .ok (.aload_n 0, 1) := by decide +kernel
theorem dX7_letterHere_12 : decode cX7_letterHere 12 = .ok (.getfield 19, 3) := by decide +kernel
theorem dX7_letterHere_15 : decode cX7_letterHere 15 = .ok (.if_icmp .ge 25, 3) := by decide +kernel
theorem dX7_letterHere_18 : decode cX7_letterHere 18 = .ok (.aload_n 0, 1) := by decide +kernel
theorem dX7_letterHere_19 : decode cX7_letterHere 19 = .ok (.getfield 27, 3) := by decide +kernel
theorem dX7_letterHere_22 : decode cX7_letterHere 22 = .ok (.sipush 240, 3) := by decide +kernel
theorem dX7_letterHere_25 : decode cX7_letterHere 25 = .ok (.if_icmp .ge 15, 3) := by decide +kernel
theorem dX7_letterHere_28 : decode cX7_letterHere 28 = .ok (.aload_n 0, 1) := by decide +kernel
theorem dX7_letterHere_29 : decode cX7_letterHere 29 = .ok (.getfield 15, 3) := by decide +kernel
theorem dX7_letterHere_32 : decode cX7_letterHere 32 = .ok (.aload_n 0, 1) := by decide +kernel
theorem dX7_letterHere_33 : decode cX7_letterHere 33 = .ok (.getfield 27, 3) := by decide +kernel
theorem dX7_letterHere_36 : decode cX7_letterHere 36 = .ok (.iaload, 1) := by decide +kernel
theorem dX7_letterHere_37 : decode cX7_letterHere 37 = .ok (.goto 4, 3) := by decide +kernel
theorem dX7_letterHere_40 : decode cX7_letterHere 40 = .ok (.iconst (-1), 1) := by decide +kernel
theorem dX7_letterHere_41 : decode cX7_letterHere 41 = .ok (.ireturn, 1) := by decide +kernel
theorem dX7_skipBlanks_0 : decode cX7_skipBlanks 0 = .ok (.aload_n 0, 1) := by decide +kernel
theorem dX7_skipBlanks_1 : decode cX7_skipBlanks 1 = .ok (.getfield 27, 3) := by decide +kernel
theorem dX7_skipBlanks_4 : decode cX7_skipBlanks 4 = .ok (.aload_n 0, 1) := by decide +kernel
theorem dX7_skipBlanks_5 : decode cX7_skipBlanks 5 = .ok (.getfield 19, 3) := by decide +kernel
theorem dX7_skipBlanks_8 : decode cX7_skipBlanks 8 = .ok (.if_icmp .ge 25, 3) := by decide +kernel
theorem dX7_skipBlanks_11 : decode cX7_skipBlanks 11 = .ok (.aload_n 0, 1) := by decide +kernel
theorem dX7_skipBlanks_12 : decode cX7_skipBlanks 12 = .ok (.invokevirtual 43, 3) := by decide +kernel
theorem dX7_skipBlanks_15 : decode cX7_skipBlanks 15 = .ok (.bipush 32, 2) := by decide +kernel
theorem dX7_skipBlanks_17 : decode cX7_skipBlanks 17 = .ok (.if_icmp .ne 16, 3) := by decide +kernel
theorem dX7_skipBlanks_20 : decode cX7_skipBlanks 20 = .ok (.aload_n 0, 1) := by decide +kernel
theorem dX7_skipBlanks_21 : decode cX7_skipBlanks 21 = .ok (.dup, 1) := by decide +kernel
theorem dX7_skipBlanks_22 : decode cX7_skipBlanks 22 = .ok (.getfield 27, 3) := by decide +kernel
theorem dX7_skipBlanks_25 : decode cX7_skipBlanks 25 = .ok (.iconst 1, 1) := by decide +kernel
theorem dX7_skipBlanks_26 : decode cX7_skipBlanks 26 = .ok (.iadd, 1) := by decide +kernel
theorem dX7_skipBlanks_27 : decode cX7_skipBlanks 27 = .ok (.putfield 27, 3) := by decide +kernel
theorem dX7_skipBlanks_30 : decode cX7_skipBlanks 30 = .ok (.goto (-30), 3) := by decide +kernel
theorem dX7_skipBlanks_33 : decode cX7_skipBlanks 33 = .ok (.return_, 1) := by decide +kernel
theorem dX7_fail_0 : decode cX7_fail 0 = .ok (.aload_n 0, 1) := by decide +kernel
theorem dX7_fail_1 : decode cX7_fail 1 = .ok (.iload_n 1, 1) := by decide +kernel
theorem dX7_fail_2 : decode cX7_fail 2 = .ok (.putfield 30, 3) := by decide +kernel
theorem dX7_fail_5 : decode cX7_fail 5 = .ok (.aload_n 0, 1) := by decide +kernel
theorem dX7_fail_6 : decode cX7_fail 6 = .ok (.iload_n 2, 1) := by decide +kernel
theorem dX7_fail_7 : decode cX7_fail 7 = .ok (.putfield 9, 3) := by decide +kernel
theorem dX7_fail_10 : decode cX7_fail 10 = .ok (.return_, 1) := by decide +kernel
theorem dX7_readClause_0 : decode cX7_readClause 0 = .ok (.aload_n 0, 1) := by decide +kernel
theorem dX7_readClause_1 : decode cX7_readClause 1 = .ok (.invokevirtual 43, 3) := by decide +kernel
theorem dX7_readClause_4 : decode cX7_readClause 4 = .ok (.istore_n 2, 1) := by decide +kernel
theorem dX7_readClause_5 : decode cX7_readClause 5 = .ok (.iload_n 2, 1) := by decide +kernel
theorem dX7_readClause_6 : decode cX7_readClause 6 = .ok (.aload_n 1, 1) := by decide +kernel
theorem dX7_readClause_7 : decode cX7_readClause 7 = .ok (.invokestatic 47, 3) := by decide +kernel
theorem dX7_readClause_10 : decode cX7_readClause 10 = .ok (.istore_n 3, 1) := by decide +kernel
theorem dX7_readClause_11 : decode cX7_readClause 11 = .ok (.iload_n 3, 1) := by decide +kernel
theorem dX7_readClause_12 : decode cX7_readClause 12 = .ok (.ifCond .eq 13, 3) := by decide +kernel
theorem dX7_readClause_15 : decode cX7_readClause 15 = .ok (.aload_n 0, 1) := by decide +kernel
theorem dX7_readClause_16 : decode cX7_readClause 16 = .ok (.iload_n 3, 1) := by decide +kernel
theorem dX7_readClause_17 : decode cX7_readClause 17 = .ok (.aload_n 0, 1) := by decide +kernel
theorem dX7_readClause_18 : decode cX7_readClause 18 = .ok (.getfield 27, 3) := by decide +kernel
theorem dX7_readClause_21 : decode cX7_readClause 21 = .ok (.invokevirtual 51, 3) := by decide +kernel
theorem dX7_readClause_24 : decode cX7_readClause 24 = .ok (.return_, 1) := by decide +kernel
theorem dX7_readClause_25 : decode cX7_readClause 25 = .ok (.aload_n 0, 1) := by decide +kernel
theorem dX7_readClause_26 : decode cX7_readClause 26 = .ok (.dup, 1) := by decide +kernel
theorem dX7_readClause_27 : decode cX7_readClause 27 = .ok (.getfield 27, 3) := by decide +kernel
theorem dX7_readClause_30 : decode cX7_readClause 30 = .ok (.iconst 1, 1) := by decide +kernel
theorem dX7_readClause_31 : decode cX7_readClause 31 = .ok (.iadd, 1) := by decide +kernel
theorem dX7_readClause_32 : decode cX7_readClause 32 = .ok (.putfield 27, 3) := by decide +kernel
theorem dX7_readClause_35 : decode cX7_readClause 35 = .ok (.iload_n 2, 1) := by decide +kernel
theorem dX7_readClause_36 : decode cX7_readClause 36 = .ok (.invokestatic 55, 3) := by decide +kernel
theorem dX7_readClause_39 : decode cX7_readClause 39 = .ok (.istore 4, 2) := by decide +kernel
theorem dX7_readClause_41 : decode cX7_readClause 41 = .ok (.iconst 1, 1) := by decide +kernel
theorem dX7_readClause_42 : decode cX7_readClause 42 = .ok (.istore 5, 2) := by decide +kernel
theorem dX7_readClause_44 : decode cX7_readClause 44 = .ok (.iconst 1, 1) := by decide +kernel
theorem dX7_readClause_45 : decode cX7_readClause 45 = .ok (.istore 6, 2) := by decide +kernel
theorem dX7_readClause_47 : decode cX7_readClause 47 = .ok (.iload 6, 2) := by decide +kernel
theorem dX7_readClause_49 : decode cX7_readClause 49 = .ok (.iload 4, 2) := by decide +kernel
theorem dX7_readClause_51 : decode cX7_readClause 51 = .ok (.if_icmp .gt 72, 3) := by decide +kernel
theorem dX7_readClause_54 : decode cX7_readClause 54 = .ok (.iload 5, 2) := by decide +kernel
theorem dX7_readClause_56 : decode cX7_readClause 56 = .ok (.ifCond .eq 67, 3) := by decide +kernel
theorem dX7_readClause_59 : decode cX7_readClause 59 = .ok (.aload_n 0, 1) := by decide +kernel
theorem dX7_readClause_60 : decode cX7_readClause 60 = .ok (.iload_n 2, 1) := by decide +kernel
theorem dX7_readClause_61 : decode cX7_readClause 61 = .ok (.aload_n 1, 1) := by decide +kernel
theorem dX7_readClause_62 : decode cX7_readClause 62 = .ok (.invokevirtual 59, 3) := by decide +kernel
theorem dX7_readClause_65 : decode cX7_readClause 65 = .ok (.istore 7, 2) := by decide +kernel
theorem dX7_readClause_67 : decode cX7_readClause 67 = .ok (.aload_n 0, 1) := by decide +kernel
theorem dX7_readClause_68 : decode cX7_readClause 68 = .ok (.getfield 30, 3) := by decide +kernel
theorem dX7_readClause_71 : decode cX7_readClause 71 = .ok (.ifCond .ne 22, 3) := by decide +kernel
theorem dX7_readClause_74 : decode cX7_readClause 74 = .ok (.iload_n 2, 1) := by decide +kernel
theorem dX7_readClause_75 : decode cX7_readClause 75 = .ok (.iload 7, 2) := by decide +kernel
theorem dX7_readClause_77 : decode cX7_readClause 77 = .ok (.aload_n 1, 1) := by decide +kernel
theorem dX7_readClause_78 : decode cX7_readClause 78 = .ok (.invokestatic 62, 3) := by decide +kernel
theorem dX7_readClause_81 : decode cX7_readClause 81 = .ok (.ifCond .ne 12, 3) := by decide +kernel
theorem dX7_readClause_84 : decode cX7_readClause 84 = .ok (.aload_n 0, 1) := by decide +kernel
theorem dX7_readClause_85 : decode cX7_readClause 85 = .ok (.iconst 4, 1) := by decide +kernel
theorem dX7_readClause_86 : decode cX7_readClause 86 = .ok (.aload_n 0, 1) := by decide +kernel
theorem dX7_readClause_87 : decode cX7_readClause 87 = .ok (.getfield 66, 3) := by decide +kernel
theorem dX7_readClause_90 : decode cX7_readClause 90 = .ok (.invokevirtual 51, 3) := by decide +kernel
theorem dX7_readClause_93 : decode cX7_readClause 93 = .ok (.aload_n 0, 1) := by decide +kernel
theorem dX7_readClause_94 : decode cX7_readClause 94 = .ok (.getfield 30, 3) := by decide +kernel
theorem dX7_readClause_97 : decode cX7_readClause 97 = .ok (.ifCond .ne 17, 3) := by decide +kernel
theorem dX7_readClause_100 : decode cX7_readClause 100 = .ok (.aload_n 0, 1) := by decide +kernel
theorem dX7_readClause_101 : decode cX7_readClause 101 = .ok (.iload_n 2, 1) := by decide +kernel
theorem dX7_readClause_102 : decode cX7_readClause 102 = .ok (.iload 6, 2) := by decide +kernel
theorem dX7_readClause_104 : decode cX7_readClause 104 = .ok (.invokevirtual 69, 3) := by decide +kernel
theorem dX7_readClause_107 : decode cX7_readClause 107 = .ok (.ifCond .eq 7, 3) := by decide +kernel
theorem dX7_readClause_110 : decode cX7_readClause 110 = .ok (.iconst 1, 1) := by decide +kernel
theorem dX7_readClause_111 : decode cX7_readClause 111 = .ok (.goto 4, 3) := by decide +kernel
theorem dX7_readClause_114 : decode cX7_readClause 114 = .ok (.iconst 0, 1) := by decide +kernel
theorem dX7_readClause_115 : decode cX7_readClause 115 = .ok (.istore 5, 2) := by decide +kernel
theorem dX7_readClause_117 : decode cX7_readClause 117 = .ok (.iinc 6 1, 3) := by decide +kernel
theorem dX7_readClause_120 : decode cX7_readClause 120 = .ok (.goto (-73), 3) := by decide +kernel
theorem dX7_readClause_123 : decode cX7_readClause 123 = .ok (.return_, 1) := by decide +kernel
theorem dX7_faultOfWord_0 : decode cX7_faultOfWord 0 = .ok (.aload_n 1, 1) := by decide +kernel
theorem dX7_faultOfWord_1 : decode cX7_faultOfWord 1 = .ok (.invokevirtual 73, 3) := by decide +kernel
theorem dX7_faultOfWord_4 : decode cX7_faultOfWord 4 = .ok (.ifCond .ne 15, 3) := by decide +kernel
theorem dX7_faultOfWord_7 : decode cX7_faultOfWord 7 = .ok (.iload_n 0, 1) := by decide +kernel
theorem dX7_faultOfWord_8 : decode cX7_faultOfWord 8 = .ok (.bipush 98, 2) := by decide +kernel
theorem dX7_faultOfWord_10 : decode cX7_faultOfWord 10 = .ok (.if_icmp .ne 7, 3) := by decide +kernel
theorem dX7_faultOfWord_13 : decode cX7_faultOfWord 13 = .ok (.iconst 0, 1) := by decide +kernel
theorem dX7_faultOfWord_14 : decode cX7_faultOfWord 14 = .ok (.goto 4, 3) := by decide +kernel
theorem dX7_faultOfWord_17 : decode cX7_faultOfWord 17 = .ok (.iconst 1, 1) := by decide +kernel
theorem dX7_faultOfWord_18 : decode cX7_faultOfWord 18 = .ok (.ireturn, 1) := by decide +kernel
theorem dX7_faultOfWord_19 : decode cX7_faultOfWord 19 = .ok (.iload_n 0, 1) := by decide +kernel
theorem dX7_faultOfWord_20 : decode cX7_faultOfWord 20 = .ok (.lookupswitch 89 #[(98, 44), (99, 76), (109, 46), (114, 59)], 44) := by decide +kernel
theorem dX7_faultOfWord_64 : decode cX7_faultOfWord 64 = .ok (.iconst 3, 1) := by decide +kernel
theorem dX7_faultOfWord_65 : decode cX7_faultOfWord 65 = .ok (.ireturn, 1) := by decide +kernel
theorem dX7_faultOfWord_66 : decode cX7_faultOfWord 66 = .ok (.aload_n 1, 1) := by decide +kernel
theorem dX7_faultOfWord_67 : decode cX7_faultOfWord 67 = .ok (.getfield 77, 3) := by decide +kernel
theorem dX7_faultOfWord_70 : decode cX7_faultOfWord 70 = .ok (.ifCond .le 7, 3) := by decide +kernel
theorem dX7_faultOfWord_73 : decode cX7_faultOfWord 73 = .ok (.iconst 3, 1) := by decide +kernel
theorem dX7_faultOfWord_74 : decode cX7_faultOfWord 74 = .ok (.goto 4, 3) := by decide +kernel
theorem dX7_faultOfWord_77 : decode cX7_faultOfWord 77 = .ok (.iconst 0, 1) := by decide +kernel
theorem dX7_faultOfWord_78 : decode cX7_faultOfWord 78 = .ok (.ireturn, 1) := by decide +kernel
theorem dX7_faultOfWord_79 : decode cX7_faultOfWord 79 = .ok (.aload_n 1, 1) := by decide +kernel
theorem dX7_faultOfWord_80 : decode cX7_faultOfWord 80 = .ok (.getfield 80, 3) := by decide +kernel
theorem dX7_faultOfWord_83 : decode cX7_faultOfWord 83 = .ok (.aload_n 1, 1) := by decide +kernel
theorem dX7_faultOfWord_84 : decode cX7_faultOfWord 84 = .ok (.getfield 83, 3) := by decide +kernel
theorem dX7_faultOfWord_87 : decode cX7_faultOfWord 87 = .ok (.if_icmp .ge 7, 3) := by decide +kernel
theorem dX7_faultOfWord_90 : decode cX7_faultOfWord 90 = .ok (.iconst 0, 1) := by decide +kernel
theorem dX7_faultOfWord_91 : decode cX7_faultOfWord 91 = .ok (.goto 4, 3) := by decide +kernel
theorem dX7_faultOfWord_94 : decode cX7_faultOfWord 94 = .ok (.iconst 3, 1) := by decide +kernel
theorem dX7_faultOfWord_95 : decode cX7_faultOfWord 95 = .ok (.ireturn, 1) := by decide +kernel
theorem dX7_faultOfWord_96 : decode cX7_faultOfWord 96 = .ok (.aload_n 1, 1) := by decide +kernel
theorem dX7_faultOfWord_97 : decode cX7_faultOfWord 97 = .ok (.getfield 86, 3) := by decide +kernel
theorem dX7_faultOfWord_100 : decode cX7_faultOfWord 100 = .ok (.ifCond .eq 7, 3) := by decide +kernel
theorem dX7_faultOfWord_103 : decode cX7_faultOfWord 103 = .ok (.iconst 3, 1) := by decide +kernel
theorem dX7_faultOfWord_104 : decode cX7_faultOfWord 104 = .ok (.goto 4, 3) := by decide +kernel
theorem dX7_faultOfWord_107 : decode cX7_faultOfWord 107 = .ok (.iconst 0, 1) := by decide +kernel
theorem dX7_faultOfWord_108 : decode cX7_faultOfWord 108 = .ok (.ireturn, 1) := by decide +kernel
theorem dX7_faultOfWord_109 : decode cX7_faultOfWord 109 = .ok (.iconst 1, 1) := by decide +kernel
theorem dX7_faultOfWord_110 : decode cX7_faultOfWord 110 = .ok (.ireturn, 1) := by decide +kernel
theorem dX7_mostNumbers_0 : decode cX7_mostNumbers 0 = .ok (.iload_n 0, 1) := by decide +kernel
theorem dX7_mostNumbers_1 : decode cX7_mostNumbers 1 = .ok (.lookupswitch 33 #[(98, 27), (109, 30)], 27) := by decide +kernel
theorem dX7_mostNumbers_28 : decode cX7_mostNumbers 28 = .ok (.bipush 6, 2) := by decide +kernel
theorem dX7_mostNumbers_30 : decode cX7_mostNumbers 30 = .ok (.ireturn, 1) := by decide +kernel
theorem dX7_mostNumbers_31 : decode cX7_mostNumbers 31 = .ok (.bipush 12, 2) := by decide +kernel
theorem dX7_mostNumbers_33 : decode cX7_mostNumbers 33 = .ok (.ireturn, 1) := by decide +kernel
theorem dX7_mostNumbers_34 : decode cX7_mostNumbers 34 = .ok (.iconst 1, 1) := by decide +kernel
theorem dX7_mostNumbers_35 : decode cX7_mostNumbers 35 = .ok (.ireturn, 1) := by decide +kernel
theorem dX7_goesOn_0 : decode cX7_goesOn 0 = .ok (.aload_n 0, 1) := by decide +kernel
theorem dX7_goesOn_1 : decode cX7_goesOn 1 = .ok (.invokevirtual 33, 3) := by decide +kernel
theorem dX7_goesOn_4 : decode cX7_goesOn 4 = .ok (.iload_n 1, 1) := by decide +kernel
theorem dX7_goesOn_5 : decode cX7_goesOn 5 = .ok (.bipush 98, 2) := by decide +kernel
theorem dX7_goesOn_7 : decode cX7_goesOn 7 = .ok (.if_icmp .ne 7, 3) := by decide +kernel
theorem dX7_goesOn_10 : decode cX7_goesOn 10 = .ok (.iconst 3, 1) := by decide +kernel
theorem dX7_goesOn_11 : decode cX7_goesOn 11 = .ok (.goto 4, 3) := by decide +kernel
theorem dX7_goesOn_14 : decode cX7_goesOn 14 = .ok (.iconst 1, 1) := by decide +kernel
theorem dX7_goesOn_15 : decode cX7_goesOn 15 = .ok (.istore_n 3, 1) := by decide +kernel
theorem dX7_goesOn_16 : decode cX7_goesOn 16 = .ok (.aload_n 0, 1) := by decide +kernel
theorem dX7_goesOn_17 : decode cX7_goesOn 17 = .ok (.invokevirtual 43, 3) := by decide +kernel
theorem dX7_goesOn_20 : decode cX7_goesOn 20 = .ok (.istore 4, 2) := by decide +kernel
theorem dX7_goesOn_22 : decode cX7_goesOn 22 = .ok (.iload 4, 2) := by decide +kernel
theorem dX7_goesOn_24 : decode cX7_goesOn 24 = .ok (.bipush 44, 2) := by decide +kernel
theorem dX7_goesOn_26 : decode cX7_goesOn 26 = .ok (.if_icmp .ne 15, 3) := by decide +kernel
theorem dX7_goesOn_29 : decode cX7_goesOn 29 = .ok (.iload_n 2, 1) := by decide +kernel
theorem dX7_goesOn_30 : decode cX7_goesOn 30 = .ok (.iload_n 1, 1) := by decide +kernel
theorem dX7_goesOn_31 : decode cX7_goesOn 31 = .ok (.invokestatic 55, 3) := by decide +kernel
theorem dX7_goesOn_34 : decode cX7_goesOn 34 = .ok (.if_icmp .ge 7, 3) := by decide +kernel
theorem dX7_goesOn_37 : decode cX7_goesOn 37 = .ok (.iconst 1, 1) := by decide +kernel
theorem dX7_goesOn_38 : decode cX7_goesOn 38 = .ok (.goto 4, 3) := by decide +kernel
theorem dX7_goesOn_41 : decode cX7_goesOn 41 = .ok (.iconst 0, 1) := by decide +kernel
theorem dX7_goesOn_42 : decode cX7_goesOn 42 = .ok (.istore 5, 2) := by decide +kernel
theorem dX7_goesOn_44 : decode cX7_goesOn 44 = .ok (.iload 4, 2) := by decide +kernel
theorem dX7_goesOn_46 : decode cX7_goesOn 46 = .ok (.bipush 59, 2) := by decide +kernel
theorem dX7_goesOn_48 : decode cX7_goesOn 48 = .ok (.if_icmp .ne 12, 3) := by decide +kernel
theorem dX7_goesOn_51 : decode cX7_goesOn 51 = .ok (.iload_n 2, 1) := by decide +kernel
theorem dX7_goesOn_52 : decode cX7_goesOn 52 = .ok (.iload_n 3, 1) := by decide +kernel
theorem dX7_goesOn_53 : decode cX7_goesOn 53 = .ok (.if_icmp .lt 7, 3) := by decide +kernel
theorem dX7_goesOn_56 : decode cX7_goesOn 56 = .ok (.iconst 1, 1) := by decide +kernel
theorem dX7_goesOn_57 : decode cX7_goesOn 57 = .ok (.goto 4, 3) := by decide +kernel
theorem dX7_goesOn_60 : decode cX7_goesOn 60 = .ok (.iconst 0, 1) := by decide +kernel
theorem dX7_goesOn_61 : decode cX7_goesOn 61 = .ok (.istore 6, 2) := by decide +kernel
theorem dX7_goesOn_63 : decode cX7_goesOn 63 = .ok (.iload 5, 2) := by decide +kernel
theorem dX7_goesOn_65 : decode cX7_goesOn 65 = .ok (.ifCond .ne 8, 3) := by decide +kernel
theorem dX7_goesOn_68 : decode cX7_goesOn 68 = .ok (.iload 6, 2) := by decide +kernel
theorem dX7_goesOn_70 : decode cX7_goesOn 70 = .ok (.ifCond .eq 16, 3) := by decide +kernel
theorem dX7_goesOn_73 : decode cX7_goesOn 73 = .ok (.aload_n 0, 1) := by decide +kernel
theorem dX7_goesOn_74 : decode cX7_goesOn 74 = .ok (.dup, 1) := by decide +kernel
theorem dX7_goesOn_75 : decode cX7_goesOn 75 = .ok (.getfield 27, 3) := by decide +kernel
theorem dX7_goesOn_78 : decode cX7_goesOn 78 = .ok (.iconst 1, 1) := by decide +kernel
theorem dX7_goesOn_79 : decode cX7_goesOn 79 = .ok (.iadd, 1) := by decide +kernel
theorem dX7_goesOn_80 : decode cX7_goesOn 80 = .ok (.putfield 27, 3) := by decide +kernel
theorem dX7_goesOn_83 : decode cX7_goesOn 83 = .ok (.goto 12, 3) := by decide +kernel
theorem dX7_goesOn_86 : decode cX7_goesOn 86 = .ok (.aload_n 0, 1) := by decide +kernel
theorem dX7_goesOn_87 : decode cX7_goesOn 87 = .ok (.iconst 1, 1) := by decide +kernel
theorem dX7_goesOn_88 : decode cX7_goesOn 88 = .ok (.aload_n 0, 1) := by decide +kernel
theorem dX7_goesOn_89 : decode cX7_goesOn 89 = .ok (.getfield 27, 3) := by decide +kernel
theorem dX7_goesOn_92 : decode cX7_goesOn 92 = .ok (.invokevirtual 51, 3) := by decide +kernel
theorem dX7_goesOn_95 : decode cX7_goesOn 95 = .ok (.iload 5, 2) := by decide +kernel
theorem dX7_goesOn_97 : decode cX7_goesOn 97 = .ok (.ireturn, 1) := by decide +kernel
theorem dX7_readNumber_0 : decode cX7_readNumber 0 = .ok (.aload_n 0, 1) := by decide +kernel
theorem dX7_readNumber_1 : decode cX7_readNumber 1 = .ok (.invokevirtual 33, 3) := by decide +kernel
theorem dX7_readNumber_4 : decode cX7_readNumber 4 = .ok (.aload_n 0, 1) := by decide +kernel
theorem dX7_readNumber_5 : decode cX7_readNumber 5 = .ok (.aload_n 0, 1) := by decide +kernel
theorem dX7_readNumber_6 : decode cX7_readNumber 6 = .ok (.getfield 27, 3) := by decide +kernel
theorem dX7_readNumber_9 : decode cX7_readNumber 9 = .ok (.putfield 66, 3) := by decide +kernel
theorem dX7_readNumber_12 : decode cX7_readNumber 12 = .ok (.iconst 0, 1) := by decide +kernel
theorem dX7_readNumber_13 : decode cX7_readNumber 13 = .ok (.istore_n 3, 1) := by decide +kernel
theorem dX7_readNumber_14 : decode cX7_readNumber 14 = .ok (.aload_n 0, 1) := by decide +kernel
theorem dX7_readNumber_15 : decode cX7_readNumber 15 = .ok (.getfield 27, 3) := by decide +kernel
theorem dX7_readNumber_18 : decode cX7_readNumber 18 = .ok (.aload_n 0, 1) := by decide +kernel
theorem dX7_readNumber_19 : decode cX7_readNumber 19 = .ok (.getfield 19, 3) := by decide +kernel
theorem dX7_readNumber_22 : decode cX7_readNumber 22 = .ok (.if_icmp .ge 52, 3) := by decide +kernel
theorem dX7_readNumber_25 : decode cX7_readNumber 25 = .ok (.aload_n 0, 1) := by decide +kernel
theorem dX7_readNumber_26 : decode cX7_readNumber 26 = .ok (.invokevirtual 43, 3) := by decide +kernel
theorem dX7_readNumber_29 : decode cX7_readNumber 29 = .ok (.invokestatic 90, 3) := by decide +kernel
theorem dX7_readNumber_32 : decode cX7_readNumber 32 = .ok (.ifCond .eq 42, 3) := by decide +kernel
theorem dX7_readNumber_35 : decode cX7_readNumber 35 = .ok (.aload_n 0, 1) := by decide +kernel
theorem dX7_readNumber_36 : decode cX7_readNumber 36 = .ok (.getfield 27, 3) := by decide +kernel
theorem dX7_readNumber_39 : decode cX7_readNumber 39 = .ok (.aload_n 0, 1) := by decide +kernel
theorem dX7_readNumber_40 : decode cX7_readNumber 40 = .ok (.getfield 66, 3) := by decide +kernel
theorem dX7_readNumber_43 : decode cX7_readNumber 43 = .ok (.isub, 1) := by decide +kernel
theorem dX7_readNumber_44 : decode cX7_readNumber 44 = .ok (.iconst 3, 1) := by decide +kernel
theorem dX7_readNumber_45 : decode cX7_readNumber 45 = .ok (.if_icmp .ge 16, 3) := by decide +kernel
theorem dX7_readNumber_48 : decode cX7_readNumber 48 = .ok (.iload_n 3, 1) := by decide +kernel
theorem dX7_readNumber_49 : decode cX7_readNumber 49 = .ok (.bipush 10, 2) := by decide +kernel
theorem dX7_readNumber_51 : decode cX7_readNumber 51 = .ok (.imul, 1) := by decide +kernel
theorem dX7_readNumber_52 : decode cX7_readNumber 52 = .ok (.aload_n 0, 1) := by decide +kernel
theorem dX7_readNumber_53 : decode cX7_readNumber 53 = .ok (.invokevirtual 43, 3) := by decide +kernel
theorem dX7_readNumber_56 : decode cX7_readNumber 56 = .ok (.iadd, 1) := by decide +kernel
theorem dX7_readNumber_57 : decode cX7_readNumber 57 = .ok (.bipush 48, 2) := by decide +kernel
theorem dX7_readNumber_59 : decode cX7_readNumber 59 = .ok (.isub, 1) := by decide +kernel
theorem dX7_readNumber_60 : decode cX7_readNumber 60 = .ok (.istore_n 3, 1) := by decide +kernel
theorem dX7_readNumber_61 : decode cX7_readNumber 61 = .ok (.aload_n 0, 1) := by decide +kernel
theorem dX7_readNumber_62 : decode cX7_readNumber 62 = .ok (.dup, 1) := by decide +kernel
theorem dX7_readNumber_63 : decode cX7_readNumber 63 = .ok (.getfield 27, 3) := by decide +kernel
theorem dX7_readNumber_66 : decode cX7_readNumber 66 = .ok (.iconst 1, 1) := by decide +kernel
theorem dX7_readNumber_67 : decode cX7_readNumber 67 = .ok (.iadd, 1) := by decide +kernel
theorem dX7_readNumber_68 : decode cX7_readNumber 68 = .ok (.putfield 27, 3) := by decide +kernel
theorem dX7_readNumber_71 : decode cX7_readNumber 71 = .ok (.goto (-57), 3) := by decide +kernel
theorem dX7_readNumber_74 : decode cX7_readNumber 74 = .ok (.aload_n 0, 1) := by decide +kernel
theorem dX7_readNumber_75 : decode cX7_readNumber 75 = .ok (.getfield 27, 3) := by decide +kernel
theorem dX7_readNumber_78 : decode cX7_readNumber 78 = .ok (.aload_n 0, 1) := by decide +kernel
theorem dX7_readNumber_79 : decode cX7_readNumber 79 = .ok (.getfield 66, 3) := by decide +kernel
theorem dX7_readNumber_82 : decode cX7_readNumber 82 = .ok (.isub, 1) := by decide +kernel
theorem dX7_readNumber_83 : decode cX7_readNumber 83 = .ok (.istore 4, 2) := by decide +kernel
theorem dX7_readNumber_85 : decode cX7_readNumber 85 = .ok (.iload 4, 2) := by decide +kernel
theorem dX7_readNumber_87 : decode cX7_readNumber 87 = .ok (.ifCond .ne 15, 3) := by decide +kernel
theorem dX7_readNumber_90 : decode cX7_readNumber 90 = .ok (.aload_n 0, 1) := by decide +kernel
theorem dX7_readNumber_91 : decode cX7_readNumber 91 = .ok (.iconst 1, 1) := by decide +kernel
theorem dX7_readNumber_92 : decode cX7_readNumber 92 = .ok (.aload_n 0, 1) := by decide +kernel
theorem dX7_readNumber_93 : decode cX7_readNumber 93 = .ok (.getfield 27, 3) := by decide +kernel
theorem dX7_readNumber_96 : decode cX7_readNumber 96 = .ok (.invokevirtual 51, 3) := by decide +kernel
theorem dX7_readNumber_99 : decode cX7_readNumber 99 = .ok (.goto 27, 3) := by decide +kernel
theorem dX7_readNumber_102 : decode cX7_readNumber 102 = .ok (.iload 4, 2) := by decide +kernel
theorem dX7_readNumber_104 : decode cX7_readNumber 104 = .ok (.iconst 3, 1) := by decide +kernel
theorem dX7_readNumber_105 : decode cX7_readNumber 105 = .ok (.if_icmp .gt 12, 3) := by decide +kernel
theorem dX7_readNumber_108 : decode cX7_readNumber 108 = .ok (.iload_n 1, 1) := by decide +kernel
theorem dX7_readNumber_109 : decode cX7_readNumber 109 = .ok (.iload_n 3, 1) := by decide +kernel
theorem dX7_readNumber_110 : decode cX7_readNumber 110 = .ok (.aload_n 2, 1) := by decide +kernel
theorem dX7_readNumber_111 : decode cX7_readNumber 111 = .ok (.invokestatic 94, 3) := by decide +kernel
theorem dX7_readNumber_114 : decode cX7_readNumber 114 = .ok (.ifCond .ne 12, 3) := by decide +kernel
theorem dX7_readNumber_117 : decode cX7_readNumber 117 = .ok (.aload_n 0, 1) := by decide +kernel
theorem dX7_readNumber_118 : decode cX7_readNumber 118 = .ok (.iconst 2, 1) := by decide +kernel
theorem dX7_readNumber_119 : decode cX7_readNumber 119 = .ok (.aload_n 0, 1) := by decide +kernel
theorem dX7_readNumber_120 : decode cX7_readNumber 120 = .ok (.getfield 66, 3) := by decide +kernel
theorem dX7_readNumber_123 : decode cX7_readNumber 123 = .ok (.invokevirtual 51, 3) := by decide +kernel
theorem dX7_readNumber_126 : decode cX7_readNumber 126 = .ok (.iload_n 3, 1) := by decide +kernel
theorem dX7_readNumber_127 : decode cX7_readNumber 127 = .ok (.ireturn, 1) := by decide +kernel
theorem dX7_isFigure_0 : decode cX7_isFigure 0 = .ok (.iload_n 0, 1) := by decide +kernel
theorem dX7_isFigure_1 : decode cX7_isFigure 1 = .ok (.bipush 48, 2) := by decide +kernel
theorem dX7_isFigure_3 : decode cX7_isFigure 3 = .ok (.if_icmp .lt 13, 3) := by decide +kernel
theorem dX7_isFigure_6 : decode cX7_isFigure 6 = .ok (.iload_n 0, 1) := by decide +kernel
theorem dX7_isFigure_7 : decode cX7_isFigure 7 = .ok (.bipush 57, 2) := by decide +kernel
theorem dX7_isFigure_9 : decode cX7_isFigure 9 = .ok (.if_icmp .gt 7, 3) := by decide +kernel
theorem dX7_isFigure_12 : decode cX7_isFigure 12 = .ok (.iconst 1, 1) := by decide +kernel
theorem dX7_isFigure_13 : decode cX7_isFigure 13 = .ok (.goto 4, 3) := by decide +kernel
theorem dX7_isFigure_16 : decode cX7_isFigure 16 = .ok (.iconst 0, 1) := by decide +kernel
theorem dX7_isFigure_17 : decode cX7_isFigure 17 = .ok (.ireturn, 1) := by decide +kernel
theorem dX7_withinBounds_0 : decode cX7_withinBounds 0 = .ok (.iload_n 0, 1) := by decide +kernel
theorem dX7_withinBounds_1 : decode cX7_withinBounds 1 = .ok (.bipush 98, 2) := by decide +kernel
theorem dX7_withinBounds_3 : decode cX7_withinBounds 3 = .ok (.if_icmp .eq 9, 3) := by decide +kernel
theorem dX7_withinBounds_6 : decode cX7_withinBounds 6 = .ok (.iload_n 0, 1) := by decide +kernel
theorem dX7_withinBounds_7 : decode cX7_withinBounds 7 = .ok (.bipush 114, 2) := by decide +kernel
theorem dX7_withinBounds_9 : decode cX7_withinBounds 9 = .ok (.if_icmp .ne 20, 3) := by decide +kernel
theorem dX7_withinBounds_12 : decode cX7_withinBounds 12 = .ok (.iload_n 1, 1) := by decide +kernel
theorem dX7_withinBounds_13 : decode cX7_withinBounds 13 = .ok (.iconst 1, 1) := by decide +kernel
theorem dX7_withinBounds_14 : decode cX7_withinBounds 14 = .ok (.if_icmp .lt 13, 3) := by decide +kernel
theorem dX7_withinBounds_17 : decode cX7_withinBounds 17 = .ok (.iload_n 1, 1) := by decide +kernel
theorem dX7_withinBounds_18 : decode cX7_withinBounds 18 = .ok (.bipush 20, 2) := by decide +kernel
theorem dX7_withinBounds_20 : decode cX7_withinBounds 20 = .ok (.if_icmp .gt 7, 3) := by decide +kernel
theorem dX7_withinBounds_23 : decode cX7_withinBounds 23 = .ok (.iconst 1, 1) := by decide +kernel
theorem dX7_withinBounds_24 : decode cX7_withinBounds 24 = .ok (.goto 4, 3) := by decide +kernel
theorem dX7_withinBounds_27 : decode cX7_withinBounds 27 = .ok (.iconst 0, 1) := by decide +kernel
theorem dX7_withinBounds_28 : decode cX7_withinBounds 28 = .ok (.ireturn, 1) := by decide +kernel
theorem dX7_withinBounds_29 : decode cX7_withinBounds 29 = .ok (.iload_n 1, 1) := by decide +kernel
theorem dX7_withinBounds_30 : decode cX7_withinBounds 30 = .ok (.aload_n 2, 1) := by decide +kernel
theorem dX7_withinBounds_31 : decode cX7_withinBounds 31 = .ok (.invokevirtual 97, 3) := by decide +kernel
theorem dX7_withinBounds_34 : decode cX7_withinBounds 34 = .ok (.if_icmp .gt 7, 3) := by decide +kernel
theorem dX7_withinBounds_37 : decode cX7_withinBounds 37 = .ok (.iconst 1, 1) := by decide +kernel
theorem dX7_withinBounds_38 : decode cX7_withinBounds 38 = .ok (.goto 4, 3) := by decide +kernel
theorem dX7_withinBounds_41 : decode cX7_withinBounds 41 = .ok (.iconst 0, 1) := by decide +kernel
theorem dX7_withinBounds_42 : decode cX7_withinBounds 42 = .ok (.ireturn, 1) := by decide +kernel
theorem dX7_enter_0 : decode cX7_enter 0 = .ok (.iload_n 0, 1) := by decide +kernel
theorem dX7_enter_1 : decode cX7_enter 1 = .ok (.lookupswitch 55 #[(98, 35), (109, 49), (114, 42)], 35) := by decide +kernel
theorem dX7_enter_36 : decode cX7_enter 36 = .ok (.aload_n 2, 1) := by decide +kernel
theorem dX7_enter_37 : decode cX7_enter 37 = .ok (.iload_n 1, 1) := by decide +kernel
theorem dX7_enter_38 : decode cX7_enter 38 = .ok (.invokevirtual 100, 3) := by decide +kernel
theorem dX7_enter_41 : decode cX7_enter 41 = .ok (.iconst 1, 1) := by decide +kernel
theorem dX7_enter_42 : decode cX7_enter 42 = .ok (.ireturn, 1) := by decide +kernel
theorem dX7_enter_43 : decode cX7_enter 43 = .ok (.aload_n 2, 1) := by decide +kernel
theorem dX7_enter_44 : decode cX7_enter 44 = .ok (.iload_n 1, 1) := by decide +kernel
theorem dX7_enter_45 : decode cX7_enter 45 = .ok (.invokevirtual 104, 3) := by decide +kernel
theorem dX7_enter_48 : decode cX7_enter 48 = .ok (.iconst 1, 1) := by decide +kernel
theorem dX7_enter_49 : decode cX7_enter 49 = .ok (.ireturn, 1) := by decide +kernel
theorem dX7_enter_50 : decode cX7_enter 50 = .ok (.aload_n 2, 1) := by decide +kernel
theorem dX7_enter_51 : decode cX7_enter 51 = .ok (.iload_n 1, 1) := by decide +kernel
theorem dX7_enter_52 : decode cX7_enter 52 = .ok (.invokevirtual 107, 3) := by decide +kernel
theorem dX7_enter_55 : decode cX7_enter 55 = .ok (.ireturn, 1) := by decide +kernel
theorem dX7_enter_56 : decode cX7_enter 56 = .ok (.aload_n 2, 1) := by decide +kernel
theorem dX7_enter_57 : decode cX7_enter 57 = .ok (.iload_n 1, 1) := by decide +kernel
theorem dX7_enter_58 : decode cX7_enter 58 = .ok (.invokevirtual 110, 3) := by decide +kernel
theorem dX7_enter_61 : decode cX7_enter 61 = .ok (.ireturn, 1) := by decide +kernel
theorem dX8_init_0 : decode cX8_init 0 = .ok (.aload_n 0, 1) := by decide +kernel
theorem dX8_init_1 : decode cX8_init 1 = .ok (.invokespecial 3, 3) := by decide +kernel
theorem dX8_init_4 : decode cX8_init 4 = .ok (.return_, 1) := by decide +kernel
theorem dX8_search_0 : decode cX8_search 0 = .ok (.aload_n 0, 1) := by decide +kernel
theorem dX8_search_1 : decode cX8_search 1 = .ok (.iload_n 3, 1) := by decide +kernel
theorem dX8_search_2 : decode cX8_search 2 = .ok (.bipush 8, 2) := by decide +kernel
theorem dX8_search_4 : decode cX8_search 4 = .ok (.invokestatic 9, 3) := by decide +kernel
theorem dX8_search_7 : decode cX8_search 7 = .ok (.putfield 15, 3) := by decide +kernel
theorem dX8_search_10 : decode cX8_search 10 = .ok (.aload_n 0, 1) := by decide +kernel
theorem dX8_search_11 : decode cX8_search 11 = .ok (.aload_n 1, 1) := by decide +kernel
theorem dX8_search_12 : decode cX8_search 12 = .ok (.getfield 21, 3) := by decide +kernel
theorem dX8_search_15 : decode cX8_search 15 = .ok (.invokestatic 26, 3) := by decide +kernel
theorem dX8_search_18 : decode cX8_search 18 = .ok (.putfield 32, 3) := by decide +kernel
theorem dX8_search_21 : decode cX8_search 21 = .ok (.aload_n 0, 1) := by decide +kernel
theorem dX8_search_22 : decode cX8_search 22 = .ok (.iconst 0, 1) := by decide +kernel
theorem dX8_search_23 : decode cX8_search 23 = .ok (.putfield 34, 3) := by decide +kernel
theorem dX8_search_26 : decode cX8_search 26 = .ok (.aload_n 0, 1) := by decide +kernel
theorem dX8_search_27 : decode cX8_search 27 = .ok (.iconst (-1), 1) := by decide +kernel
theorem dX8_search_28 : decode cX8_search 28 = .ok (.putfield 37, 3) := by decide +kernel
theorem dX8_search_31 : decode cX8_search 31 = .ok (.aload_n 2, 1) := by decide +kernel
theorem dX8_search_32 : decode cX8_search 32 = .ok (.invokevirtual 40, 3) := by decide +kernel
theorem dX8_search_35 : decode cX8_search 35 = .ok (.aload_n 0, 1) := by decide +kernel
theorem dX8_search_36 : decode cX8_search 36 = .ok (.aload_n 1, 1) := by decide +kernel
theorem dX8_search_37 : decode cX8_search 37 = .ok (.aload_n 2, 1) := by decide +kernel
theorem dX8_search_38 : decode cX8_search 38 = .ok (.aload_n 0, 1) := by decide +kernel
theorem dX8_search_39 : decode cX8_search 39 = .ok (.getfield 32, 3) := by decide +kernel
theorem dX8_search_42 : decode cX8_search 42 = .ok (.iconst 0, 1) := by decide +kernel
theorem dX8_search_43 : decode cX8_search 43 = .ok (.iconst 0, 1) := by decide +kernel
theorem dX8_search_44 : decode cX8_search 44 = .ok (.invokevirtual 45, 3) := by decide +kernel
theorem dX8_search_47 : decode cX8_search 47 = .ok (.return_, 1) := by decide +kernel
theorem dX8_goOn_0 : decode cX8_goOn 0 = .ok (.iload_n 3, 1) := by decide +kernel
theorem dX8_goOn_1 : decode cX8_goOn 1 = .ok (.istore 6, 2) := by decide +kernel
theorem dX8_goOn_3 : decode cX8_goOn 3 = .ok (.iconst 0, 1) := by decide +kernel
theorem dX8_goOn_4 : decode cX8_goOn 4 = .ok (.istore 7, 2) := by decide +kernel
theorem dX8_goOn_6 : decode cX8_goOn 6 = .ok (.aload_n 2, 1) := by decide +kernel
theorem dX8_goOn_7 : decode cX8_goOn 7 = .ok (.iload 6, 2) := by decide +kernel
theorem dX8_goOn_9 : decode cX8_goOn 9 = .ok (.invokevirtual 49, 3) := by decide +kernel
theorem dX8_goOn_12 : decode cX8_goOn 12 = .ok (.istore 8, 2) := by decide +kernel
theorem dX8_goOn_14 : decode cX8_goOn 14 = .ok (.iload 8, 2) := by decide +kernel
theorem dX8_goOn_16 : decode cX8_goOn 16 = .ok (.ifCond .eq 41, 3) := by decide +kernel
theorem dX8_goOn_19 : decode cX8_goOn 19 = .ok (.iload 7, 2) := by decide +kernel
theorem dX8_goOn_21 : decode cX8_goOn 21 = .ok (.iconst 1, 1) := by decide +kernel
theorem dX8_goOn_22 : decode cX8_goOn 22 = .ok (.iadd, 1) := by decide +kernel
theorem dX8_goOn_23 : decode cX8_goOn 23 = .ok (.aload_n 1, 1) := by decide +kernel
theorem dX8_goOn_24 : decode cX8_goOn 24 = .ok (.getfield 53, 3) := by decide +kernel
theorem dX8_goOn_27 : decode cX8_goOn 27 = .ok (.if_icmp .ge 30, 3) := by decide +kernel
theorem dX8_goOn_30 : decode cX8_goOn 30 = .ok (.aload_n 1, 1) := by decide +kernel
theorem dX8_goOn_31 : decode cX8_goOn 31 = .ok (.iload 7, 2) := by decide +kernel
theorem dX8_goOn_33 : decode cX8_goOn 33 = .ok (.invokevirtual 56, 3) := by decide +kernel
theorem dX8_goOn_36 : decode cX8_goOn 36 = .ok (.iload 6, 2) := by decide +kernel
theorem dX8_goOn_38 : decode cX8_goOn 38 = .ok (.invokevirtual 60, 3) := by decide +kernel
theorem dX8_goOn_41 : decode cX8_goOn 41 = .ok (.istore 6, 2) := by decide +kernel
theorem dX8_goOn_43 : decode cX8_goOn 43 = .ok (.iinc 7 1, 3) := by decide +kernel
theorem dX8_goOn_46 : decode cX8_goOn 46 = .ok (.aload_n 2, 1) := by decide +kernel
theorem dX8_goOn_47 : decode cX8_goOn 47 = .ok (.iload 6, 2) := by decide +kernel
theorem dX8_goOn_49 : decode cX8_goOn 49 = .ok (.invokevirtual 49, 3) := by decide +kernel
theorem dX8_goOn_52 : decode cX8_goOn 52 = .ok (.istore 8, 2) := by decide +kernel
theorem dX8_goOn_54 : decode cX8_goOn 54 = .ok (.goto (-40), 3) := by decide +kernel
theorem dX8_goOn_57 : decode cX8_goOn 57 = .ok (.iload 8, 2) := by decide +kernel
theorem dX8_goOn_59 : decode cX8_goOn 59 = .ok (.ifCond .eq 55, 3) := by decide +kernel
theorem dX8_goOn_62 : decode cX8_goOn 62 = .ok (.aload_n 0, 1) := by decide +kernel
theorem dX8_goOn_63 : decode cX8_goOn 63 = .ok (.aload_n 1, 1) := by decide +kernel
theorem dX8_goOn_64 : decode cX8_goOn 64 = .ok (.aload_n 2, 1) := by decide +kernel
theorem dX8_goOn_65 : decode cX8_goOn 65 = .ok (.aload_n 1, 1) := by decide +kernel
theorem dX8_goOn_66 : decode cX8_goOn 66 = .ok (.aload_n 1, 1) := by decide +kernel
theorem dX8_goOn_67 : decode cX8_goOn 67 = .ok (.getfield 53, 3) := by decide +kernel
theorem dX8_goOn_70 : decode cX8_goOn 70 = .ok (.iconst 1, 1) := by decide +kernel
theorem dX8_goOn_71 : decode cX8_goOn 71 = .ok (.isub, 1) := by decide +kernel
theorem dX8_goOn_72 : decode cX8_goOn 72 = .ok (.invokevirtual 56, 3) := by decide +kernel
theorem dX8_goOn_75 : decode cX8_goOn 75 = .ok (.iload 6, 2) := by decide +kernel
theorem dX8_goOn_77 : decode cX8_goOn 77 = .ok (.invokevirtual 60, 3) := by decide +kernel
theorem dX8_goOn_80 : decode cX8_goOn 80 = .ok (.iload 4, 2) := by decide +kernel
theorem dX8_goOn_82 : decode cX8_goOn 82 = .ok (.iload 5, 2) := by decide +kernel
theorem dX8_goOn_84 : decode cX8_goOn 84 = .ok (.invokevirtual 65, 3) := by decide +kernel
theorem dX8_goOn_87 : decode cX8_goOn 87 = .ok (.aload_n 0, 1) := by decide +kernel
theorem dX8_goOn_88 : decode cX8_goOn 88 = .ok (.aload_n 1, 1) := by decide +kernel
theorem dX8_goOn_89 : decode cX8_goOn 89 = .ok (.aload_n 2, 1) := by decide +kernel
theorem dX8_goOn_90 : decode cX8_goOn 90 = .ok (.aload_n 1, 1) := by decide +kernel
theorem dX8_goOn_91 : decode cX8_goOn 91 = .ok (.getfield 68, 3) := by decide +kernel
theorem dX8_goOn_94 : decode cX8_goOn 94 = .ok (.iload 6, 2) := by decide +kernel
theorem dX8_goOn_96 : decode cX8_goOn 96 = .ok (.invokevirtual 60, 3) := by decide +kernel
theorem dX8_goOn_99 : decode cX8_goOn 99 = .ok (.iload 4, 2) := by decide +kernel
theorem dX8_goOn_101 : decode cX8_goOn 101 = .ok (.iload 5, 2) := by decide +kernel
theorem dX8_goOn_103 : decode cX8_goOn 103 = .ok (.iconst 1, 1) := by decide +kernel
theorem dX8_goOn_104 : decode cX8_goOn 104 = .ok (.iload 4, 2) := by decide +kernel
theorem dX8_goOn_106 : decode cX8_goOn 106 = .ok (.ishl, 1) := by decide +kernel
theorem dX8_goOn_107 : decode cX8_goOn 107 = .ok (.ior, 1) := by decide +kernel
theorem dX8_goOn_108 : decode cX8_goOn 108 = .ok (.invokevirtual 65, 3) := by decide +kernel
theorem dX8_goOn_111 : decode cX8_goOn 111 = .ok (.iinc 7 1, 3) := by decide +kernel
theorem dX8_goOn_114 : decode cX8_goOn 114 = .ok (.aload_n 1, 1) := by decide +kernel
theorem dX8_goOn_115 : decode cX8_goOn 115 = .ok (.aload_n 2, 1) := by decide +kernel
theorem dX8_goOn_116 : decode cX8_goOn 116 = .ok (.iload_n 3, 1) := by decide +kernel
theorem dX8_goOn_117 : decode cX8_goOn 117 = .ok (.iload 7, 2) := by decide +kernel
theorem dX8_goOn_119 : decode cX8_goOn 119 = .ok (.invokestatic 72, 3) := by decide +kernel
theorem dX8_goOn_122 : decode cX8_goOn 122 = .ok (.return_, 1) := by decide +kernel
theorem dX8_endLead_0 : decode cX8_endLead 0 = .ok (.iload 4, 2) := by decide +kernel
theorem dX8_endLead_2 : decode cX8_endLead 2 = .ok (.iconst 1, 1) := by decide +kernel
theorem dX8_endLead_3 : decode cX8_endLead 3 = .ok (.iadd, 1) := by decide +kernel
theorem dX8_endLead_4 : decode cX8_endLead 4 = .ok (.aload_n 0, 1) := by decide +kernel
theorem dX8_endLead_5 : decode cX8_endLead 5 = .ok (.getfield 15, 3) := by decide +kernel
theorem dX8_endLead_8 : decode cX8_endLead 8 = .ok (.if_icmp .ge 19, 3) := by decide +kernel
theorem dX8_endLead_11 : decode cX8_endLead 11 = .ok (.aload_n 0, 1) := by decide +kernel
theorem dX8_endLead_12 : decode cX8_endLead 12 = .ok (.aload_n 1, 1) := by decide +kernel
theorem dX8_endLead_13 : decode cX8_endLead 13 = .ok (.aload_n 2, 1) := by decide +kernel
theorem dX8_endLead_14 : decode cX8_endLead 14 = .ok (.iload_n 3, 1) := by decide +kernel
theorem dX8_endLead_15 : decode cX8_endLead 15 = .ok (.iload 4, 2) := by decide +kernel
theorem dX8_endLead_17 : decode cX8_endLead 17 = .ok (.iconst 1, 1) := by decide +kernel
theorem dX8_endLead_18 : decode cX8_endLead 18 = .ok (.iadd, 1) := by decide +kernel
theorem dX8_endLead_19 : decode cX8_endLead 19 = .ok (.iload 5, 2) := by decide +kernel
theorem dX8_endLead_21 : decode cX8_endLead 21 = .ok (.invokevirtual 45, 3) := by decide +kernel
theorem dX8_endLead_24 : decode cX8_endLead 24 = .ok (.goto 46, 3) := by decide +kernel
theorem dX8_endLead_27 : decode cX8_endLead 27 = .ok (.iload_n 3, 1) := by decide +kernel
theorem dX8_endLead_28 : decode cX8_endLead 28 = .ok (.aload_n 0, 1) := by decide +kernel
theorem dX8_endLead_29 : decode cX8_endLead 29 = .ok (.getfield 32, 3) := by decide +kernel
theorem dX8_endLead_32 : decode cX8_endLead 32 = .ok (.if_icmp .ne 38, 3) := by decide +kernel
theorem dX8_endLead_35 : decode cX8_endLead 35 = .ok (.aload_n 0, 1) := by decide +kernel
theorem dX8_endLead_36 : decode cX8_endLead 36 = .ok (.aload_n 0, 1) := by decide +kernel
theorem dX8_endLead_37 : decode cX8_endLead 37 = .ok (.getfield 34, 3) := by decide +kernel
theorem dX8_endLead_40 : decode cX8_endLead 40 = .ok (.ifCond .ne 8, 3) := by decide +kernel
theorem dX8_endLead_43 : decode cX8_endLead 43 = .ok (.iload 5, 2) := by decide +kernel
theorem dX8_endLead_45 : decode cX8_endLead 45 = .ok (.goto 12, 3) := by decide +kernel
theorem dX8_endLead_48 : decode cX8_endLead 48 = .ok (.aload_n 0, 1) := by decide +kernel
theorem dX8_endLead_49 : decode cX8_endLead 49 = .ok (.getfield 37, 3) := by decide +kernel
theorem dX8_endLead_52 : decode cX8_endLead 52 = .ok (.iload 5, 2) := by decide +kernel
theorem dX8_endLead_54 : decode cX8_endLead 54 = .ok (.invokestatic 9, 3) := by decide +kernel
theorem dX8_endLead_57 : decode cX8_endLead 57 = .ok (.putfield 37, 3) := by decide +kernel
theorem dX8_endLead_60 : decode cX8_endLead 60 = .ok (.aload_n 0, 1) := by decide +kernel
theorem dX8_endLead_61 : decode cX8_endLead 61 = .ok (.dup, 1) := by decide +kernel
theorem dX8_endLead_62 : decode cX8_endLead 62 = .ok (.getfield 34, 3) := by decide +kernel
theorem dX8_endLead_65 : decode cX8_endLead 65 = .ok (.iconst 1, 1) := by decide +kernel
theorem dX8_endLead_66 : decode cX8_endLead 66 = .ok (.iadd, 1) := by decide +kernel
theorem dX8_endLead_67 : decode cX8_endLead 67 = .ok (.putfield 34, 3) := by decide +kernel
theorem dX8_endLead_70 : decode cX8_endLead 70 = .ok (.return_, 1) := by decide +kernel
theorem dX8_leave_0 : decode cX8_leave 0 = .ok (.iload_n 2, 1) := by decide +kernel
theorem dX8_leave_1 : decode cX8_leave 1 = .ok (.istore 4, 2) := by decide +kernel
theorem dX8_leave_3 : decode cX8_leave 3 = .ok (.iconst 0, 1) := by decide +kernel
theorem dX8_leave_4 : decode cX8_leave 4 = .ok (.istore 5, 2) := by decide +kernel
theorem dX8_leave_6 : decode cX8_leave 6 = .ok (.iload 5, 2) := by decide +kernel
theorem dX8_leave_8 : decode cX8_leave 8 = .ok (.iload_n 3, 1) := by decide +kernel
theorem dX8_leave_9 : decode cX8_leave 9 = .ok (.if_icmp .ge 28, 3) := by decide +kernel
theorem dX8_leave_12 : decode cX8_leave 12 = .ok (.aload_n 1, 1) := by decide +kernel
theorem dX8_leave_13 : decode cX8_leave 13 = .ok (.iload 4, 2) := by decide +kernel
theorem dX8_leave_15 : decode cX8_leave 15 = .ok (.invokevirtual 76, 3) := by decide +kernel
theorem dX8_leave_18 : decode cX8_leave 18 = .ok (.aload_n 0, 1) := by decide +kernel
theorem dX8_leave_19 : decode cX8_leave 19 = .ok (.iload 5, 2) := by decide +kernel
theorem dX8_leave_21 : decode cX8_leave 21 = .ok (.invokevirtual 56, 3) := by decide +kernel
theorem dX8_leave_24 : decode cX8_leave 24 = .ok (.iload 4, 2) := by decide +kernel
theorem dX8_leave_26 : decode cX8_leave 26 = .ok (.invokevirtual 60, 3) := by decide +kernel
theorem dX8_leave_29 : decode cX8_leave 29 = .ok (.istore 4, 2) := by decide +kernel
theorem dX8_leave_31 : decode cX8_leave 31 = .ok (.iinc 5 1, 3) := by decide +kernel
theorem dX8_leave_34 : decode cX8_leave 34 = .ok (.goto (-28), 3) := by decide +kernel
theorem dX8_leave_37 : decode cX8_leave 37 = .ok (.return_, 1) := by decide +kernel
theorem dX9_init_0 : decode cX9_init 0 = .ok (.aload_n 0, 1) := by decide +kernel
theorem dX9_init_1 : decode cX9_init 1 = .ok (.invokespecial 3, 3) := by decide +kernel
theorem dX9_init_4 : decode cX9_init 4 = .ok (.aload_n 0, 1) := by decide +kernel
theorem dX9_init_5 : decode cX9_init 5 = .ok (.new 9, 3) := by decide +kernel
theorem dX9_init_8 : decode cX9_init 8 = .ok (.dup, 1) := by decide +kernel
theorem dX9_init_9 : decode cX9_init 9 = .ok (.invokespecial 11, 3) := by decide +kernel
theorem dX9_init_12 : decode cX9_init 12 = .ok (.putfield 12, 3) := by decide +kernel
theorem dX9_init_15 : decode cX9_init 15 = .ok (.aload_n 0, 1) := by decide +kernel
theorem dX9_init_16 : decode cX9_init 16 = .ok (.bipush 12, 2) := by decide +kernel
theorem dX9_init_18 : decode cX9_init 18 = .ok (.anewarray 9, 3) := by decide +kernel
theorem dX9_init_21 : decode cX9_init 21 = .ok (.putfield 18, 3) := by decide +kernel
theorem dX9_init_24 : decode cX9_init 24 = .ok (.aload_n 0, 1) := by decide +kernel
theorem dX9_init_25 : decode cX9_init 25 = .ok (.bipush 6, 2) := by decide +kernel
theorem dX9_init_27 : decode cX9_init 27 = .ok (.newarray .int, 2) := by decide +kernel
theorem dX9_init_29 : decode cX9_init 29 = .ok (.putfield 22, 3) := by decide +kernel
theorem dX9_init_32 : decode cX9_init 32 = .ok (.aload_n 0, 1) := by decide +kernel
theorem dX9_init_33 : decode cX9_init 33 = .ok (.bipush 6, 2) := by decide +kernel
theorem dX9_init_35 : decode cX9_init 35 = .ok (.newarray .int, 2) := by decide +kernel
theorem dX9_init_37 : decode cX9_init 37 = .ok (.putfield 26, 3) := by decide +kernel
theorem dX9_init_40 : decode cX9_init 40 = .ok (.iconst 0, 1) := by decide +kernel
theorem dX9_init_41 : decode cX9_init 41 = .ok (.istore_n 1, 1) := by decide +kernel
theorem dX9_init_42 : decode cX9_init 42 = .ok (.iload_n 1, 1) := by decide +kernel
theorem dX9_init_43 : decode cX9_init 43 = .ok (.bipush 12, 2) := by decide +kernel
theorem dX9_init_45 : decode cX9_init 45 = .ok (.if_icmp .ge 22, 3) := by decide +kernel
theorem dX9_init_48 : decode cX9_init 48 = .ok (.aload_n 0, 1) := by decide +kernel
theorem dX9_init_49 : decode cX9_init 49 = .ok (.getfield 18, 3) := by decide +kernel
theorem dX9_init_52 : decode cX9_init 52 = .ok (.iload_n 1, 1) := by decide +kernel
theorem dX9_init_53 : decode cX9_init 53 = .ok (.new 9, 3) := by decide +kernel
theorem dX9_init_56 : decode cX9_init 56 = .ok (.dup, 1) := by decide +kernel
theorem dX9_init_57 : decode cX9_init 57 = .ok (.invokespecial 11, 3) := by decide +kernel
theorem dX9_init_60 : decode cX9_init 60 = .ok (.aastore, 1) := by decide +kernel
theorem dX9_init_61 : decode cX9_init 61 = .ok (.iinc 1 1, 3) := by decide +kernel
theorem dX9_init_64 : decode cX9_init 64 = .ok (.goto (-22), 3) := by decide +kernel
theorem dX9_init_67 : decode cX9_init 67 = .ok (.return_, 1) := by decide +kernel
theorem dX9_clear_0 : decode cX9_clear 0 = .ok (.aload_n 0, 1) := by decide +kernel
theorem dX9_clear_1 : decode cX9_clear 1 = .ok (.iconst 0, 1) := by decide +kernel
theorem dX9_clear_2 : decode cX9_clear 2 = .ok (.putfield 29, 3) := by decide +kernel
theorem dX9_clear_5 : decode cX9_clear 5 = .ok (.aload_n 0, 1) := by decide +kernel
theorem dX9_clear_6 : decode cX9_clear 6 = .ok (.iconst 0, 1) := by decide +kernel
theorem dX9_clear_7 : decode cX9_clear 7 = .ok (.putfield 33, 3) := by decide +kernel
theorem dX9_clear_10 : decode cX9_clear 10 = .ok (.aload_n 0, 1) := by decide +kernel
theorem dX9_clear_11 : decode cX9_clear 11 = .ok (.iconst 0, 1) := by decide +kernel
theorem dX9_clear_12 : decode cX9_clear 12 = .ok (.putfield 36, 3) := by decide +kernel
theorem dX9_clear_15 : decode cX9_clear 15 = .ok (.aload_n 0, 1) := by decide +kernel
theorem dX9_clear_16 : decode cX9_clear 16 = .ok (.iconst 0, 1) := by decide +kernel
theorem dX9_clear_17 : decode cX9_clear 17 = .ok (.putfield 39, 3) := by decide +kernel
theorem dX9_clear_20 : decode cX9_clear 20 = .ok (.return_, 1) := by decide +kernel
theorem dX9_stands_0 : decode cX9_stands 0 = .ok (.aload_n 0, 1) := by decide +kernel
theorem dX9_stands_1 : decode cX9_stands 1 = .ok (.getfield 29, 3) := by decide +kernel
theorem dX9_stands_4 : decode cX9_stands 4 = .ok (.ifCond .le 7, 3) := by decide +kernel
theorem dX9_stands_7 : decode cX9_stands 7 = .ok (.iconst 1, 1) := by decide +kernel
theorem dX9_stands_8 : decode cX9_stands 8 = .ok (.goto 4, 3) := by decide +kernel
theorem dX9_stands_11 : decode cX9_stands 11 = .ok (.iconst 0, 1) := by decide +kernel
theorem dX9_stands_12 : decode cX9_stands 12 = .ok (.ireturn, 1) := by decide +kernel
theorem dX9_hasBell_0 : decode cX9_hasBell 0 = .ok (.iload_n 1, 1) := by decide +kernel
theorem dX9_hasBell_1 : decode cX9_hasBell 1 = .ok (.ifCond .lt 15, 3) := by decide +kernel
theorem dX9_hasBell_4 : decode cX9_hasBell 4 = .ok (.iload_n 1, 1) := by decide +kernel
theorem dX9_hasBell_5 : decode cX9_hasBell 5 = .ok (.aload_n 0, 1) := by decide +kernel
theorem dX9_hasBell_6 : decode cX9_hasBell 6 = .ok (.getfield 29, 3) := by decide +kernel
theorem dX9_hasBell_9 : decode cX9_hasBell 9 = .ok (.if_icmp .ge 7, 3) := by decide +kernel
theorem dX9_hasBell_12 : decode cX9_hasBell 12 = .ok (.iconst 1, 1) := by decide +kernel
theorem dX9_hasBell_13 : decode cX9_hasBell 13 = .ok (.goto 4, 3) := by decide +kernel
theorem dX9_hasBell_16 : decode cX9_hasBell 16 = .ok (.iconst 0, 1) := by decide +kernel
theorem dX9_hasBell_17 : decode cX9_hasBell 17 = .ok (.ireturn, 1) := by decide +kernel
theorem dX9_hasSuitor_0 : decode cX9_hasSuitor 0 = .ok (.iload_n 1, 1) := by decide +kernel
theorem dX9_hasSuitor_1 : decode cX9_hasSuitor 1 = .ok (.ifCond .lt 15, 3) := by decide +kernel
theorem dX9_hasSuitor_4 : decode cX9_hasSuitor 4 = .ok (.iload_n 1, 1) := by decide +kernel
theorem dX9_hasSuitor_5 : decode cX9_hasSuitor 5 = .ok (.aload_n 0, 1) := by decide +kernel
theorem dX9_hasSuitor_6 : decode cX9_hasSuitor 6 = .ok (.getfield 36, 3) := by decide +kernel
theorem dX9_hasSuitor_9 : decode cX9_hasSuitor 9 = .ok (.if_icmp .ge 7, 3) := by decide +kernel
theorem dX9_hasSuitor_12 : decode cX9_hasSuitor 12 = .ok (.iconst 1, 1) := by decide +kernel
theorem dX9_hasSuitor_13 : decode cX9_hasSuitor 13 = .ok (.goto 4, 3) := by decide +kernel
theorem dX9_hasSuitor_16 : decode cX9_hasSuitor 16 = .ok (.iconst 0, 1) := by decide +kernel
theorem dX9_hasSuitor_17 : decode cX9_hasSuitor 17 = .ok (.ireturn, 1) := by decide +kernel
theorem dX9_allPlaces_0 : decode cX9_allPlaces 0 = .ok (.iconst 1, 1) := by decide +kernel
theorem dX9_allPlaces_1 : decode cX9_allPlaces 1 = .ok (.aload_n 0, 1) := by decide +kernel
theorem dX9_allPlaces_2 : decode cX9_allPlaces 2 = .ok (.getfield 29, 3) := by decide +kernel
theorem dX9_allPlaces_5 : decode cX9_allPlaces 5 = .ok (.ishl, 1) := by decide +kernel
theorem dX9_allPlaces_6 : decode cX9_allPlaces 6 = .ok (.iconst 1, 1) := by decide +kernel
theorem dX9_allPlaces_7 : decode cX9_allPlaces 7 = .ok (.isub, 1) := by decide +kernel
theorem dX9_allPlaces_8 : decode cX9_allPlaces 8 = .ok (.ireturn, 1) := by decide +kernel
theorem dX9_weightOf_0 : decode cX9_weightOf 0 = .ok (.aload_n 0, 1) := by decide +kernel
theorem dX9_weightOf_1 : decode cX9_weightOf 1 = .ok (.iload_n 1, 1) := by decide +kernel
theorem dX9_weightOf_2 : decode cX9_weightOf 2 = .ok (.invokevirtual 43, 3) := by decide +kernel
theorem dX9_weightOf_5 : decode cX9_weightOf 5 = .ok (.ifCond .eq 12, 3) := by decide +kernel
theorem dX9_weightOf_8 : decode cX9_weightOf 8 = .ok (.aload_n 0, 1) := by decide +kernel
theorem dX9_weightOf_9 : decode cX9_weightOf 9 = .ok (.getfield 22, 3) := by decide +kernel
theorem dX9_weightOf_12 : decode cX9_weightOf 12 = .ok (.iload_n 1, 1) := by decide +kernel
theorem dX9_weightOf_13 : decode cX9_weightOf 13 = .ok (.iaload, 1) := by decide +kernel
theorem dX9_weightOf_14 : decode cX9_weightOf 14 = .ok (.goto 4, 3) := by decide +kernel
theorem dX9_weightOf_17 : decode cX9_weightOf 17 = .ok (.iconst 0, 1) := by decide +kernel
theorem dX9_weightOf_18 : decode cX9_weightOf 18 = .ok (.ireturn, 1) := by decide +kernel
theorem dX9_strengthOf_0 : decode cX9_strengthOf 0 = .ok (.aload_n 0, 1) := by decide +kernel
theorem dX9_strengthOf_1 : decode cX9_strengthOf 1 = .ok (.iload_n 1, 1) := by decide +kernel
theorem dX9_strengthOf_2 : decode cX9_strengthOf 2 = .ok (.invokevirtual 47, 3) := by decide +kernel
theorem dX9_strengthOf_5 : decode cX9_strengthOf 5 = .ok (.ifCond .eq 12, 3) := by decide +kernel
theorem dX9_strengthOf_8 : decode cX9_strengthOf 8 = .ok (.aload_n 0, 1) := by decide +kernel
theorem dX9_strengthOf_9 : decode cX9_strengthOf 9 = .ok (.getfield 26, 3) := by decide +kernel
theorem dX9_strengthOf_12 : decode cX9_strengthOf 12 = .ok (.iload_n 1, 1) := by decide +kernel
theorem dX9_strengthOf_13 : decode cX9_strengthOf 13 = .ok (.iaload, 1) := by decide +kernel
theorem dX9_strengthOf_14 : decode cX9_strengthOf 14 = .ok (.goto 4, 3) := by decide +kernel
theorem dX9_strengthOf_17 : decode cX9_strengthOf 17 = .ok (.iconst 0, 1) := by decide +kernel
theorem dX9_strengthOf_18 : decode cX9_strengthOf 18 = .ok (.ireturn, 1) := by decide +kernel
theorem dX9_excess_0 : decode cX9_excess 0 = .ok (.iconst 0, 1) := by decide +kernel
theorem dX9_excess_1 : decode cX9_excess 1 = .ok (.aload_n 0, 1) := by decide +kernel
theorem dX9_excess_2 : decode cX9_excess 2 = .ok (.iload_n 2, 1) := by decide +kernel
theorem dX9_excess_3 : decode cX9_excess 3 = .ok (.invokevirtual 50, 3) := by decide +kernel
theorem dX9_excess_6 : decode cX9_excess 6 = .ok (.aload_n 0, 1) := by decide +kernel
theorem dX9_excess_7 : decode cX9_excess 7 = .ok (.iload_n 1, 1) := by decide +kernel
theorem dX9_excess_8 : decode cX9_excess 8 = .ok (.invokevirtual 54, 3) := by decide +kernel
theorem dX9_excess_11 : decode cX9_excess 11 = .ok (.isub, 1) := by decide +kernel
theorem dX9_excess_12 : decode cX9_excess 12 = .ok (.invokestatic 57, 3) := by decide +kernel
theorem dX9_excess_15 : decode cX9_excess 15 = .ok (.ireturn, 1) := by decide +kernel
theorem dX9_changeAt_0 : decode cX9_changeAt 0 = .ok (.iload_n 1, 1) := by decide +kernel
theorem dX9_changeAt_1 : decode cX9_changeAt 1 = .ok (.ifCond .lt 20, 3) := by decide +kernel
theorem dX9_changeAt_4 : decode cX9_changeAt 4 = .ok (.iload_n 1, 1) := by decide +kernel
theorem dX9_changeAt_5 : decode cX9_changeAt 5 = .ok (.aload_n 0, 1) := by decide +kernel
theorem dX9_changeAt_6 : decode cX9_changeAt 6 = .ok (.getfield 33, 3) := by decide +kernel
theorem dX9_changeAt_9 : decode cX9_changeAt 9 = .ok (.if_icmp .ge 12, 3) := by decide +kernel
theorem dX9_changeAt_12 : decode cX9_changeAt 12 = .ok (.aload_n 0, 1) := by decide +kernel
theorem dX9_changeAt_13 : decode cX9_changeAt 13 = .ok (.getfield 18, 3) := by decide +kernel
theorem dX9_changeAt_16 : decode cX9_changeAt 16 = .ok (.iload_n 1, 1) := by decide +kernel
theorem dX9_changeAt_17 : decode cX9_changeAt 17 = .ok (.aaload, 1) := by decide +kernel
theorem dX9_changeAt_18 : decode cX9_changeAt 18 = .ok (.goto 7, 3) := by decide +kernel
theorem dX9_changeAt_21 : decode cX9_changeAt 21 = .ok (.aload_n 0, 1) := by decide +kernel
theorem dX9_changeAt_22 : decode cX9_changeAt 22 = .ok (.getfield 12, 3) := by decide +kernel
theorem dX9_changeAt_25 : decode cX9_changeAt 25 = .ok (.areturn, 1) := by decide +kernel
theorem dX9_addBell_0 : decode cX9_addBell 0 = .ok (.aload_n 0, 1) := by decide +kernel
theorem dX9_addBell_1 : decode cX9_addBell 1 = .ok (.getfield 29, 3) := by decide +kernel
theorem dX9_addBell_4 : decode cX9_addBell 4 = .ok (.bipush 6, 2) := by decide +kernel
theorem dX9_addBell_6 : decode cX9_addBell 6 = .ok (.if_icmp .ge 20, 3) := by decide +kernel
theorem dX9_addBell_9 : decode cX9_addBell 9 = .ok (.aload_n 0, 1) := by decide +kernel
theorem dX9_addBell_10 : decode cX9_addBell 10 = .ok (.getfield 22, 3) := by decide +kernel
theorem dX9_addBell_13 : decode cX9_addBell 13 = .ok (.aload_n 0, 1) := by decide +kernel
theorem dX9_addBell_14 : decode cX9_addBell 14 = .ok (.dup, 1) := by decide +kernel
theorem dX9_addBell_15 : decode cX9_addBell 15 = .ok (.getfield 29, 3) := by decide +kernel
theorem dX9_addBell_18 : decode cX9_addBell 18 = .ok (.dup_x1, 1) := by decide +kernel
theorem dX9_addBell_19 : decode cX9_addBell 19 = .ok (.iconst 1, 1) := by decide +kernel
theorem dX9_addBell_20 : decode cX9_addBell 20 = .ok (.iadd, 1) := by decide +kernel
theorem dX9_addBell_21 : decode cX9_addBell 21 = .ok (.putfield 29, 3) := by decide +kernel
theorem dX9_addBell_24 : decode cX9_addBell 24 = .ok (.iload_n 1, 1) := by decide +kernel
theorem dX9_addBell_25 : decode cX9_addBell 25 = .ok (.iastore, 1) := by decide +kernel
theorem dX9_addBell_26 : decode cX9_addBell 26 = .ok (.return_, 1) := by decide +kernel
theorem dX9_addSuitor_0 : decode cX9_addSuitor 0 = .ok (.aload_n 0, 1) := by decide +kernel
theorem dX9_addSuitor_1 : decode cX9_addSuitor 1 = .ok (.getfield 36, 3) := by decide +kernel
theorem dX9_addSuitor_4 : decode cX9_addSuitor 4 = .ok (.bipush 6, 2) := by decide +kernel
theorem dX9_addSuitor_6 : decode cX9_addSuitor 6 = .ok (.if_icmp .ge 20, 3) := by decide +kernel
theorem dX9_addSuitor_9 : decode cX9_addSuitor 9 = .ok (.aload_n 0, 1) := by decide +kernel
theorem dX9_addSuitor_10 : decode cX9_addSuitor 10 = .ok (.getfield 26, 3) := by decide +kernel
theorem dX9_addSuitor_13 : decode cX9_addSuitor 13 = .ok (.aload_n 0, 1) := by decide +kernel
theorem dX9_addSuitor_14 : decode cX9_addSuitor 14 = .ok (.dup, 1) := by decide +kernel
theorem dX9_addSuitor_15 : decode cX9_addSuitor 15 = .ok (.getfield 36, 3) := by decide +kernel
theorem dX9_addSuitor_18 : decode cX9_addSuitor 18 = .ok (.dup_x1, 1) := by decide +kernel
theorem dX9_addSuitor_19 : decode cX9_addSuitor 19 = .ok (.iconst 1, 1) := by decide +kernel
theorem dX9_addSuitor_20 : decode cX9_addSuitor 20 = .ok (.iadd, 1) := by decide +kernel
theorem dX9_addSuitor_21 : decode cX9_addSuitor 21 = .ok (.putfield 36, 3) := by decide +kernel
theorem dX9_addSuitor_24 : decode cX9_addSuitor 24 = .ok (.iload_n 1, 1) := by decide +kernel
theorem dX9_addSuitor_25 : decode cX9_addSuitor 25 = .ok (.iastore, 1) := by decide +kernel
theorem dX9_addSuitor_26 : decode cX9_addSuitor 26 = .ok (.return_, 1) := by decide +kernel
theorem dX9_addChange_0 : decode cX9_addChange 0 = .ok (.aload_n 0, 1) := by decide +kernel
theorem dX9_addChange_1 : decode cX9_addChange 1 = .ok (.getfield 33, 3) := by decide +kernel
theorem dX9_addChange_4 : decode cX9_addChange 4 = .ok (.bipush 12, 2) := by decide +kernel
theorem dX9_addChange_6 : decode cX9_addChange 6 = .ok (.if_icmp .ge 23, 3) := by decide +kernel
theorem dX9_addChange_9 : decode cX9_addChange 9 = .ok (.aload_n 0, 1) := by decide +kernel
theorem dX9_addChange_10 : decode cX9_addChange 10 = .ok (.getfield 18, 3) := by decide +kernel
theorem dX9_addChange_13 : decode cX9_addChange 13 = .ok (.aload_n 0, 1) := by decide +kernel
theorem dX9_addChange_14 : decode cX9_addChange 14 = .ok (.getfield 33, 3) := by decide +kernel
theorem dX9_addChange_17 : decode cX9_addChange 17 = .ok (.aaload, 1) := by decide +kernel
theorem dX9_addChange_18 : decode cX9_addChange 18 = .ok (.iload_n 1, 1) := by decide +kernel
theorem dX9_addChange_19 : decode cX9_addChange 19 = .ok (.aload_n 0, 1) := by decide +kernel
theorem dX9_addChange_20 : decode cX9_addChange 20 = .ok (.getfield 29, 3) := by decide +kernel
theorem dX9_addChange_23 : decode cX9_addChange 23 = .ok (.invokevirtual 63, 3) := by decide +kernel
theorem dX9_addChange_26 : decode cX9_addChange 26 = .ok (.ifCond .ne 5, 3) := by decide +kernel
theorem dX9_addChange_29 : decode cX9_addChange 29 = .ok (.iconst 0, 1) := by decide +kernel
theorem dX9_addChange_30 : decode cX9_addChange 30 = .ok (.ireturn, 1) := by decide +kernel
theorem dX9_addChange_31 : decode cX9_addChange 31 = .ok (.aload_n 0, 1) := by decide +kernel
theorem dX9_addChange_32 : decode cX9_addChange 32 = .ok (.dup, 1) := by decide +kernel
theorem dX9_addChange_33 : decode cX9_addChange 33 = .ok (.getfield 33, 3) := by decide +kernel
theorem dX9_addChange_36 : decode cX9_addChange 36 = .ok (.iconst 1, 1) := by decide +kernel
theorem dX9_addChange_37 : decode cX9_addChange 37 = .ok (.iadd, 1) := by decide +kernel
theorem dX9_addChange_38 : decode cX9_addChange 38 = .ok (.putfield 33, 3) := by decide +kernel
theorem dX9_addChange_41 : decode cX9_addChange 41 = .ok (.iconst 1, 1) := by decide +kernel
theorem dX9_addChange_42 : decode cX9_addChange 42 = .ok (.ireturn, 1) := by decide +kernel
theorem dX9_tellCall_0 : decode cX9_tellCall 0 = .ok (.aload_n 0, 1) := by decide +kernel
theorem dX9_tellCall_1 : decode cX9_tellCall 1 = .ok (.iconst 1, 1) := by decide +kernel
theorem dX9_tellCall_2 : decode cX9_tellCall 2 = .ok (.putfield 39, 3) := by decide +kernel
theorem dX9_tellCall_5 : decode cX9_tellCall 5 = .ok (.aload_n 0, 1) := by decide +kernel
theorem dX9_tellCall_6 : decode cX9_tellCall 6 = .ok (.getfield 12, 3) := by decide +kernel
theorem dX9_tellCall_9 : decode cX9_tellCall 9 = .ok (.iload_n 1, 1) := by decide +kernel
theorem dX9_tellCall_10 : decode cX9_tellCall 10 = .ok (.aload_n 0, 1) := by decide +kernel
theorem dX9_tellCall_11 : decode cX9_tellCall 11 = .ok (.getfield 29, 3) := by decide +kernel
theorem dX9_tellCall_14 : decode cX9_tellCall 14 = .ok (.invokevirtual 63, 3) := by decide +kernel
theorem dX9_tellCall_17 : decode cX9_tellCall 17 = .ok (.ireturn, 1) := by decide +kernel
theorem dX9_complete_0 : decode cX9_complete 0 = .ok (.aload_n 0, 1) := by decide +kernel
theorem dX9_complete_1 : decode cX9_complete 1 = .ok (.invokevirtual 67, 3) := by decide +kernel
theorem dX9_complete_4 : decode cX9_complete 4 = .ok (.ifCond .eq 19, 3) := by decide +kernel
theorem dX9_complete_7 : decode cX9_complete 7 = .ok (.aload_n 0, 1) := by decide +kernel
theorem dX9_complete_8 : decode cX9_complete 8 = .ok (.getfield 33, 3) := by decide +kernel
theorem dX9_complete_11 : decode cX9_complete 11 = .ok (.ifCond .ne 12, 3) := by decide +kernel
theorem dX9_complete_14 : decode cX9_complete 14 = .ok (.aload_n 0, 1) := by decide +kernel
theorem dX9_complete_15 : decode cX9_complete 15 = .ok (.aload_n 0, 1) := by decide +kernel
theorem dX9_complete_16 : decode cX9_complete 16 = .ok (.invokevirtual 71, 3) := by decide +kernel
theorem dX9_complete_19 : decode cX9_complete 19 = .ok (.invokevirtual 75, 3) := by decide +kernel
theorem dX9_complete_22 : decode cX9_complete 22 = .ok (.pop, 1) := by decide +kernel
theorem dX9_complete_23 : decode cX9_complete 23 = .ok (.aload_n 0, 1) := by decide +kernel
theorem dX9_complete_24 : decode cX9_complete 24 = .ok (.invokevirtual 67, 3) := by decide +kernel
theorem dX9_complete_27 : decode cX9_complete 27 = .ok (.ifCond .eq 19, 3) := by decide +kernel
theorem dX9_complete_30 : decode cX9_complete 30 = .ok (.aload_n 0, 1) := by decide +kernel
theorem dX9_complete_31 : decode cX9_complete 31 = .ok (.getfield 39, 3) := by decide +kernel
theorem dX9_complete_34 : decode cX9_complete 34 = .ok (.ifCond .ne 12, 3) := by decide +kernel
theorem dX9_complete_37 : decode cX9_complete 37 = .ok (.aload_n 0, 1) := by decide +kernel
theorem dX9_complete_38 : decode cX9_complete 38 = .ok (.aload_n 0, 1) := by decide +kernel
theorem dX9_complete_39 : decode cX9_complete 39 = .ok (.invokevirtual 71, 3) := by decide +kernel
theorem dX9_complete_42 : decode cX9_complete 42 = .ok (.invokevirtual 78, 3) := by decide +kernel
theorem dX9_complete_45 : decode cX9_complete 45 = .ok (.pop, 1) := by decide +kernel
theorem dX9_complete_46 : decode cX9_complete 46 = .ok (.return_, 1) := by decide +kernel
theorem dX10_init_0 : decode cX10_init 0 = .ok (.aload_n 0, 1) := by decide +kernel
theorem dX10_init_1 : decode cX10_init 1 = .ok (.invokespecial 1, 3) := by decide +kernel
theorem dX10_init_4 : decode cX10_init 4 = .ok (.return_, 1) := by decide +kernel
theorem dX10_begin_0 : decode cX10_begin 0 = .ok (.aload_n 0, 1) := by decide +kernel
theorem dX10_begin_1 : decode cX10_begin 1 = .ok (.aload_n 1, 1) := by decide +kernel
theorem dX10_begin_2 : decode cX10_begin 2 = .ok (.getfield 7, 3) := by decide +kernel
theorem dX10_begin_5 : decode cX10_begin 5 = .ok (.invokestatic 13, 3) := by decide +kernel
theorem dX10_begin_8 : decode cX10_begin 8 = .ok (.putfield 19, 3) := by decide +kernel
theorem dX10_begin_11 : decode cX10_begin 11 = .ok (.aload_n 0, 1) := by decide +kernel
theorem dX10_begin_12 : decode cX10_begin 12 = .ok (.iconst 0, 1) := by decide +kernel
theorem dX10_begin_13 : decode cX10_begin 13 = .ok (.putfield 24, 3) := by decide +kernel
theorem dX10_begin_16 : decode cX10_begin 16 = .ok (.aload_n 0, 1) := by decide +kernel
theorem dX10_begin_17 : decode cX10_begin 17 = .ok (.iconst 0, 1) := by decide +kernel
theorem dX10_begin_18 : decode cX10_begin 18 = .ok (.putfield 27, 3) := by decide +kernel
theorem dX10_begin_21 : decode cX10_begin 21 = .ok (.return_, 1) := by decide +kernel
theorem dX10_copyFrom_0 : decode cX10_copyFrom 0 = .ok (.aload_n 0, 1) := by decide +kernel
theorem dX10_copyFrom_1 : decode cX10_copyFrom 1 = .ok (.aload_n 1, 1) := by decide +kernel
theorem dX10_copyFrom_2 : decode cX10_copyFrom 2 = .ok (.getfield 19, 3) := by decide +kernel
theorem dX10_copyFrom_5 : decode cX10_copyFrom 5 = .ok (.putfield 19, 3) := by decide +kernel
theorem dX10_copyFrom_8 : decode cX10_copyFrom 8 = .ok (.aload_n 0, 1) := by decide +kernel
theorem dX10_copyFrom_9 : decode cX10_copyFrom 9 = .ok (.aload_n 1, 1) := by decide +kernel
theorem dX10_copyFrom_10 : decode cX10_copyFrom 10 = .ok (.getfield 24, 3) := by decide +kernel
theorem dX10_copyFrom_13 : decode cX10_copyFrom 13 = .ok (.putfield 24, 3) := by decide +kernel
theorem dX10_copyFrom_16 : decode cX10_copyFrom 16 = .ok (.aload_n 0, 1) := by decide +kernel
theorem dX10_copyFrom_17 : decode cX10_copyFrom 17 = .ok (.aload_n 1, 1) := by decide +kernel
theorem dX10_copyFrom_18 : decode cX10_copyFrom 18 = .ok (.getfield 27, 3) := by decide +kernel
theorem dX10_copyFrom_21 : decode cX10_copyFrom 21 = .ok (.putfield 27, 3) := by decide +kernel
theorem dX10_copyFrom_24 : decode cX10_copyFrom 24 = .ok (.return_, 1) := by decide +kernel
theorem dX10_step_0 : decode cX10_step 0 = .ok (.aload_n 0, 1) := by decide +kernel
theorem dX10_step_1 : decode cX10_step 1 = .ok (.getfield 27, 3) := by decide +kernel
theorem dX10_step_4 : decode cX10_step 4 = .ok (.ifCond .eq 10, 3) := by decide +kernel
theorem dX10_step_7 : decode cX10_step 7 = .ok (.aload_n 1, 1) := by decide +kernel
theorem dX10_step_8 : decode cX10_step 8 = .ok (.getfield 31, 3) := by decide +kernel
theorem dX10_step_11 : decode cX10_step 11 = .ok (.goto 11, 3) := by decide +kernel
theorem dX10_step_14 : decode cX10_step 14 = .ok (.aload_n 1, 1) := by decide +kernel
theorem dX10_step_15 : decode cX10_step 15 = .ok (.aload_n 0, 1) := by decide +kernel
theorem dX10_step_16 : decode cX10_step 16 = .ok (.getfield 24, 3) := by decide +kernel
theorem dX10_step_19 : decode cX10_step 19 = .ok (.invokevirtual 35, 3) := by decide +kernel
theorem dX10_step_22 : decode cX10_step 22 = .ok (.astore_n 2, 1) := by decide +kernel
theorem dX10_step_23 : decode cX10_step 23 = .ok (.aload_n 0, 1) := by decide +kernel
theorem dX10_step_24 : decode cX10_step 24 = .ok (.aload_n 2, 1) := by decide +kernel
theorem dX10_step_25 : decode cX10_step 25 = .ok (.aload_n 0, 1) := by decide +kernel
theorem dX10_step_26 : decode cX10_step 26 = .ok (.getfield 19, 3) := by decide +kernel
theorem dX10_step_29 : decode cX10_step 29 = .ok (.invokevirtual 39, 3) := by decide +kernel
theorem dX10_step_32 : decode cX10_step 32 = .ok (.putfield 19, 3) := by decide +kernel
theorem dX10_step_35 : decode cX10_step 35 = .ok (.aload_n 0, 1) := by decide +kernel
theorem dX10_step_36 : decode cX10_step 36 = .ok (.iconst 0, 1) := by decide +kernel
theorem dX10_step_37 : decode cX10_step 37 = .ok (.putfield 27, 3) := by decide +kernel
theorem dX10_step_40 : decode cX10_step 40 = .ok (.aload_n 0, 1) := by decide +kernel
theorem dX10_step_41 : decode cX10_step 41 = .ok (.aload_n 0, 1) := by decide +kernel
theorem dX10_step_42 : decode cX10_step 42 = .ok (.getfield 24, 3) := by decide +kernel
theorem dX10_step_45 : decode cX10_step 45 = .ok (.iconst 1, 1) := by decide +kernel
theorem dX10_step_46 : decode cX10_step 46 = .ok (.iadd, 1) := by decide +kernel
theorem dX10_step_47 : decode cX10_step 47 = .ok (.aload_n 1, 1) := by decide +kernel
theorem dX10_step_48 : decode cX10_step 48 = .ok (.getfield 44, 3) := by decide +kernel
theorem dX10_step_51 : decode cX10_step 51 = .ok (.if_icmp .ge 12, 3) := by decide +kernel
theorem dX10_step_54 : decode cX10_step 54 = .ok (.aload_n 0, 1) := by decide +kernel
theorem dX10_step_55 : decode cX10_step 55 = .ok (.getfield 24, 3) := by decide +kernel
theorem dX10_step_58 : decode cX10_step 58 = .ok (.iconst 1, 1) := by decide +kernel
theorem dX10_step_59 : decode cX10_step 59 = .ok (.iadd, 1) := by decide +kernel
theorem dX10_step_60 : decode cX10_step 60 = .ok (.goto 4, 3) := by decide +kernel
theorem dX10_step_63 : decode cX10_step 63 = .ok (.iconst 0, 1) := by decide +kernel
theorem dX10_step_64 : decode cX10_step 64 = .ok (.putfield 24, 3) := by decide +kernel
theorem dX10_step_67 : decode cX10_step 67 = .ok (.return_, 1) := by decide +kernel
theorem dX10_endsLead_0 : decode cX10_endsLead 0 = .ok (.aload_n 0, 1) := by decide +kernel
theorem dX10_endsLead_1 : decode cX10_endsLead 1 = .ok (.getfield 24, 3) := by decide +kernel
theorem dX10_endsLead_4 : decode cX10_endsLead 4 = .ok (.ifCond .ne 7, 3) := by decide +kernel
theorem dX10_endsLead_7 : decode cX10_endsLead 7 = .ok (.iconst 1, 1) := by decide +kernel
theorem dX10_endsLead_8 : decode cX10_endsLead 8 = .ok (.goto 4, 3) := by decide +kernel
theorem dX10_endsLead_11 : decode cX10_endsLead 11 = .ok (.iconst 0, 1) := by decide +kernel
theorem dX10_endsLead_12 : decode cX10_endsLead 12 = .ok (.ireturn, 1) := by decide +kernel
theorem dX11_init_0 : decode cX11_init 0 = .ok (.aload_n 0, 1) := by decide +kernel
theorem dX11_init_1 : decode cX11_init 1 = .ok (.invokespecial 1, 3) := by decide +kernel
theorem dX11_init_4 : decode cX11_init 4 = .ok (.aload_n 0, 1) := by decide +kernel
theorem dX11_init_5 : decode cX11_init 5 = .ok (.new 7, 3) := by decide +kernel
theorem dX11_init_8 : decode cX11_init 8 = .ok (.dup, 1) := by decide +kernel
theorem dX11_init_9 : decode cX11_init 9 = .ok (.invokespecial 9, 3) := by decide +kernel
theorem dX11_init_12 : decode cX11_init 12 = .ok (.putfield 10, 3) := by decide +kernel
theorem dX11_init_15 : decode cX11_init 15 = .ok (.aload_n 0, 1) := by decide +kernel
theorem dX11_init_16 : decode cX11_init 16 = .ok (.new 7, 3) := by decide +kernel
theorem dX11_init_19 : decode cX11_init 19 = .ok (.dup, 1) := by decide +kernel
theorem dX11_init_20 : decode cX11_init 20 = .ok (.invokespecial 9, 3) := by decide +kernel
theorem dX11_init_23 : decode cX11_init 23 = .ok (.putfield 16, 3) := by decide +kernel
theorem dX11_init_26 : decode cX11_init 26 = .ok (.aload_n 0, 1) := by decide +kernel
theorem dX11_init_27 : decode cX11_init 27 = .ok (.new 19, 3) := by decide +kernel
theorem dX11_init_30 : decode cX11_init 30 = .ok (.dup, 1) := by decide +kernel
theorem dX11_init_31 : decode cX11_init 31 = .ok (.invokespecial 21, 3) := by decide +kernel
theorem dX11_init_34 : decode cX11_init 34 = .ok (.putfield 22, 3) := by decide +kernel
theorem dX11_init_37 : decode cX11_init 37 = .ok (.aload_n 0, 1) := by decide +kernel
theorem dX11_init_38 : decode cX11_init 38 = .ok (.new 26, 3) := by decide +kernel
theorem dX11_init_41 : decode cX11_init 41 = .ok (.dup, 1) := by decide +kernel
theorem dX11_init_42 : decode cX11_init 42 = .ok (.invokespecial 28, 3) := by decide +kernel
theorem dX11_init_45 : decode cX11_init 45 = .ok (.putfield 29, 3) := by decide +kernel
theorem dX11_init_48 : decode cX11_init 48 = .ok (.aload_n 0, 1) := by decide +kernel
theorem dX11_init_49 : decode cX11_init 49 = .ok (.new 33, 3) := by decide +kernel
theorem dX11_init_52 : decode cX11_init 52 = .ok (.dup, 1) := by decide +kernel
theorem dX11_init_53 : decode cX11_init 53 = .ok (.invokespecial 35, 3) := by decide +kernel
theorem dX11_init_56 : decode cX11_init 56 = .ok (.putfield 36, 3) := by decide +kernel
theorem dX11_init_59 : decode cX11_init 59 = .ok (.aload_n 0, 1) := by decide +kernel
theorem dX11_init_60 : decode cX11_init 60 = .ok (.iconst 2, 1) := by decide +kernel
theorem dX11_init_61 : decode cX11_init 61 = .ok (.anewarray 26, 3) := by decide +kernel
theorem dX11_init_64 : decode cX11_init 64 = .ok (.putfield 40, 3) := by decide +kernel
theorem dX11_init_67 : decode cX11_init 67 = .ok (.aload_n 0, 1) := by decide +kernel
theorem dX11_init_68 : decode cX11_init 68 = .ok (.iconst 2, 1) := by decide +kernel
theorem dX11_init_69 : decode cX11_init 69 = .ok (.newarray .int, 2) := by decide +kernel
theorem dX11_init_71 : decode cX11_init 71 = .ok (.putfield 44, 3) := by decide +kernel
theorem dX11_init_74 : decode cX11_init 74 = .ok (.aload_n 0, 1) := by decide +kernel
theorem dX11_init_75 : decode cX11_init 75 = .ok (.iconst 0, 1) := by decide +kernel
theorem dX11_init_76 : decode cX11_init 76 = .ok (.putfield 48, 3) := by decide +kernel
theorem dX11_init_79 : decode cX11_init 79 = .ok (.aload_n 0, 1) := by decide +kernel
theorem dX11_init_80 : decode cX11_init 80 = .ok (.new 52, 3) := by decide +kernel
theorem dX11_init_83 : decode cX11_init 83 = .ok (.dup, 1) := by decide +kernel
theorem dX11_init_84 : decode cX11_init 84 = .ok (.invokespecial 54, 3) := by decide +kernel
theorem dX11_init_87 : decode cX11_init 87 = .ok (.putfield 55, 3) := by decide +kernel
theorem dX11_init_90 : decode cX11_init 90 = .ok (.aload_n 0, 1) := by decide +kernel
theorem dX11_init_91 : decode cX11_init 91 = .ok (.new 59, 3) := by decide +kernel
theorem dX11_init_94 : decode cX11_init 94 = .ok (.dup, 1) := by decide +kernel
theorem dX11_init_95 : decode cX11_init 95 = .ok (.invokespecial 61, 3) := by decide +kernel
theorem dX11_init_98 : decode cX11_init 98 = .ok (.putfield 62, 3) := by decide +kernel
theorem dX11_init_101 : decode cX11_init 101 = .ok (.aload_n 0, 1) := by decide +kernel
theorem dX11_init_102 : decode cX11_init 102 = .ok (.new 66, 3) := by decide +kernel
theorem dX11_init_105 : decode cX11_init 105 = .ok (.dup, 1) := by decide +kernel
theorem dX11_init_106 : decode cX11_init 106 = .ok (.invokespecial 68, 3) := by decide +kernel
theorem dX11_init_109 : decode cX11_init 109 = .ok (.putfield 69, 3) := by decide +kernel
theorem dX11_init_112 : decode cX11_init 112 = .ok (.aload_n 0, 1) := by decide +kernel
theorem dX11_init_113 : decode cX11_init 113 = .ok (.new 73, 3) := by decide +kernel
theorem dX11_init_116 : decode cX11_init 116 = .ok (.dup, 1) := by decide +kernel
theorem dX11_init_117 : decode cX11_init 117 = .ok (.invokespecial 75, 3) := by decide +kernel
theorem dX11_init_120 : decode cX11_init 120 = .ok (.putfield 76, 3) := by decide +kernel
theorem dX11_init_123 : decode cX11_init 123 = .ok (.aload_n 0, 1) := by decide +kernel
theorem dX11_init_124 : decode cX11_init 124 = .ok (.new 80, 3) := by decide +kernel
theorem dX11_init_127 : decode cX11_init 127 = .ok (.dup, 1) := by decide +kernel
theorem dX11_init_128 : decode cX11_init 128 = .ok (.invokespecial 82, 3) := by decide +kernel
theorem dX11_init_131 : decode cX11_init 131 = .ok (.putfield 83, 3) := by decide +kernel
theorem dX11_init_134 : decode cX11_init 134 = .ok (.aload_n 0, 1) := by decide +kernel
theorem dX11_init_135 : decode cX11_init 135 = .ok (.new 87, 3) := by decide +kernel
theorem dX11_init_138 : decode cX11_init 138 = .ok (.dup, 1) := by decide +kernel
theorem dX11_init_139 : decode cX11_init 139 = .ok (.invokespecial 89, 3) := by decide +kernel
theorem dX11_init_142 : decode cX11_init 142 = .ok (.putfield 90, 3) := by decide +kernel
theorem dX11_init_145 : decode cX11_init 145 = .ok (.aload_n 0, 1) := by decide +kernel
theorem dX11_init_146 : decode cX11_init 146 = .ok (.iconst (-1), 1) := by decide +kernel
theorem dX11_init_147 : decode cX11_init 147 = .ok (.putfield 94, 3) := by decide +kernel
theorem dX11_init_150 : decode cX11_init 150 = .ok (.aload_n 0, 1) := by decide +kernel
theorem dX11_init_151 : decode cX11_init 151 = .ok (.iconst 0, 1) := by decide +kernel
theorem dX11_init_152 : decode cX11_init 152 = .ok (.putfield 97, 3) := by decide +kernel
theorem dX11_init_155 : decode cX11_init 155 = .ok (.iconst 0, 1) := by decide +kernel
theorem dX11_init_156 : decode cX11_init 156 = .ok (.istore_n 1, 1) := by decide +kernel
theorem dX11_init_157 : decode cX11_init 157 = .ok (.iload_n 1, 1) := by decide +kernel
theorem dX11_init_158 : decode cX11_init 158 = .ok (.iconst 2, 1) := by decide +kernel
theorem dX11_init_159 : decode cX11_init 159 = .ok (.if_icmp .ge 22, 3) := by decide +kernel
theorem dX11_init_162 : decode cX11_init 162 = .ok (.aload_n 0, 1) := by decide +kernel
theorem dX11_init_163 : decode cX11_init 163 = .ok (.getfield 40, 3) := by decide +kernel
theorem dX11_init_166 : decode cX11_init 166 = .ok (.iload_n 1, 1) := by decide +kernel
theorem dX11_init_167 : decode cX11_init 167 = .ok (.new 26, 3) := by decide +kernel
theorem dX11_init_170 : decode cX11_init 170 = .ok (.dup, 1) := by decide +kernel
theorem dX11_init_171 : decode cX11_init 171 = .ok (.invokespecial 28, 3) := by decide +kernel
theorem dX11_init_174 : decode cX11_init 174 = .ok (.aastore, 1) := by decide +kernel
theorem dX11_init_175 : decode cX11_init 175 = .ok (.iinc 1 1, 3) := by decide +kernel
theorem dX11_init_178 : decode cX11_init 178 = .ok (.goto (-21), 3) := by decide +kernel
theorem dX11_init_181 : decode cX11_init 181 = .ok (.return_, 1) := by decide +kernel
theorem dX11_feed_0 : decode cX11_feed 0 = .ok (.iload_n 1, 1) := by decide +kernel
theorem dX11_feed_1 : decode cX11_feed 1 = .ok (.ifCond .lt 10, 3) := by decide +kernel
theorem dX11_feed_4 : decode cX11_feed 4 = .ok (.iload_n 1, 1) := by decide +kernel
theorem dX11_feed_5 : decode cX11_feed 5 = .ok (.sipush 255, 3) := by decide +kernel
theorem dX11_feed_8 : decode cX11_feed 8 = .ok (.if_icmp .le 6, 3) := by decide +kernel
theorem dX11_feed_11 : decode cX11_feed 11 = .ok (.ldc 100, 2) := by decide +kernel
theorem dX11_feed_13 : decode cX11_feed 13 = .ok (.ireturn, 1) := by decide +kernel
theorem dX11_feed_14 : decode cX11_feed 14 = .ok (.aload_n 0, 1) := by decide +kernel
theorem dX11_feed_15 : decode cX11_feed 15 = .ok (.getfield 22, 3) := by decide +kernel
theorem dX11_feed_18 : decode cX11_feed 18 = .ok (.iload_n 1, 1) := by decide +kernel
theorem dX11_feed_19 : decode cX11_feed 19 = .ok (.invokevirtual 101, 3) := by decide +kernel
theorem dX11_feed_22 : decode cX11_feed 22 = .ok (.ifCond .eq 13, 3) := by decide +kernel
theorem dX11_feed_25 : decode cX11_feed 25 = .ok (.aload_n 0, 1) := by decide +kernel
theorem dX11_feed_26 : decode cX11_feed 26 = .ok (.getfield 22, 3) := by decide +kernel
theorem dX11_feed_29 : decode cX11_feed 29 = .ok (.getfield 105, 3) := by decide +kernel
theorem dX11_feed_32 : decode cX11_feed 32 = .ok (.goto 5, 3) := by decide +kernel
theorem dX11_feed_35 : decode cX11_feed 35 = .ok (.ldc 108, 2) := by decide +kernel
theorem dX11_feed_37 : decode cX11_feed 37 = .ok (.ireturn, 1) := by decide +kernel
theorem dX11_tower_0 : decode cX11_tower 0 = .ok (.aload_n 0, 1) := by decide +kernel
theorem dX11_tower_1 : decode cX11_tower 1 = .ok (.getfield 22, 3) := by decide +kernel
theorem dX11_tower_4 : decode cX11_tower 4 = .ok (.aload_n 0, 1) := by decide +kernel
theorem dX11_tower_5 : decode cX11_tower 5 = .ok (.getfield 16, 3) := by decide +kernel
theorem dX11_tower_8 : decode cX11_tower 8 = .ok (.invokevirtual 109, 3) := by decide +kernel
theorem dX11_tower_11 : decode cX11_tower 11 = .ok (.istore_n 1, 1) := by decide +kernel
theorem dX11_tower_12 : decode cX11_tower 12 = .ok (.aload_n 0, 1) := by decide +kernel
theorem dX11_tower_13 : decode cX11_tower 13 = .ok (.aload_n 0, 1) := by decide +kernel
theorem dX11_tower_14 : decode cX11_tower 14 = .ok (.getfield 22, 3) := by decide +kernel
theorem dX11_tower_17 : decode cX11_tower 17 = .ok (.getfield 113, 3) := by decide +kernel
theorem dX11_tower_20 : decode cX11_tower 20 = .ok (.putfield 94, 3) := by decide +kernel
theorem dX11_tower_23 : decode cX11_tower 23 = .ok (.iload_n 1, 1) := by decide +kernel
theorem dX11_tower_24 : decode cX11_tower 24 = .ok (.ifCond .eq 8, 3) := by decide +kernel
theorem dX11_tower_27 : decode cX11_tower 27 = .ok (.bipush (-10), 2) := by decide +kernel
theorem dX11_tower_29 : decode cX11_tower 29 = .ok (.iload_n 1, 1) := by decide +kernel
theorem dX11_tower_30 : decode cX11_tower 30 = .ok (.isub, 1) := by decide +kernel
theorem dX11_tower_31 : decode cX11_tower 31 = .ok (.ireturn, 1) := by decide +kernel
theorem dX11_tower_32 : decode cX11_tower 32 = .ok (.aload_n 0, 1) := by decide +kernel
theorem dX11_tower_33 : decode cX11_tower 33 = .ok (.getfield 10, 3) := by decide +kernel
theorem dX11_tower_36 : decode cX11_tower 36 = .ok (.astore_n 2, 1) := by decide +kernel
theorem dX11_tower_37 : decode cX11_tower 37 = .ok (.aload_n 0, 1) := by decide +kernel
theorem dX11_tower_38 : decode cX11_tower 38 = .ok (.aload_n 0, 1) := by decide +kernel
theorem dX11_tower_39 : decode cX11_tower 39 = .ok (.getfield 16, 3) := by decide +kernel
theorem dX11_tower_42 : decode cX11_tower 42 = .ok (.putfield 10, 3) := by decide +kernel
theorem dX11_tower_45 : decode cX11_tower 45 = .ok (.aload_n 0, 1) := by decide +kernel
theorem dX11_tower_46 : decode cX11_tower 46 = .ok (.aload_n 2, 1) := by decide +kernel
theorem dX11_tower_47 : decode cX11_tower 47 = .ok (.putfield 16, 3) := by decide +kernel
theorem dX11_tower_50 : decode cX11_tower 50 = .ok (.aload_n 0, 1) := by decide +kernel
theorem dX11_tower_51 : decode cX11_tower 51 = .ok (.getfield 29, 3) := by decide +kernel
theorem dX11_tower_54 : decode cX11_tower 54 = .ok (.aload_n 0, 1) := by decide +kernel
theorem dX11_tower_55 : decode cX11_tower 55 = .ok (.getfield 10, 3) := by decide +kernel
theorem dX11_tower_58 : decode cX11_tower 58 = .ok (.invokevirtual 114, 3) := by decide +kernel
theorem dX11_tower_61 : decode cX11_tower 61 = .ok (.aload_n 0, 1) := by decide +kernel
theorem dX11_tower_62 : decode cX11_tower 62 = .ok (.getfield 90, 3) := by decide +kernel
theorem dX11_tower_65 : decode cX11_tower 65 = .ok (.aload_n 0, 1) := by decide +kernel
theorem dX11_tower_66 : decode cX11_tower 66 = .ok (.getfield 10, 3) := by decide +kernel
theorem dX11_tower_69 : decode cX11_tower 69 = .ok (.invokevirtual 118, 3) := by decide +kernel
theorem dX11_tower_72 : decode cX11_tower 72 = .ok (.aload_n 0, 1) := by decide +kernel
theorem dX11_tower_73 : decode cX11_tower 73 = .ok (.getfield 36, 3) := by decide +kernel
theorem dX11_tower_76 : decode cX11_tower 76 = .ok (.invokevirtual 121, 3) := by decide +kernel
theorem dX11_tower_79 : decode cX11_tower 79 = .ok (.aload_n 0, 1) := by decide +kernel
theorem dX11_tower_80 : decode cX11_tower 80 = .ok (.iconst 0, 1) := by decide +kernel
theorem dX11_tower_81 : decode cX11_tower 81 = .ok (.putfield 48, 3) := by decide +kernel
theorem dX11_tower_84 : decode cX11_tower 84 = .ok (.aload_n 0, 1) := by decide +kernel
theorem dX11_tower_85 : decode cX11_tower 85 = .ok (.getfield 10, 3) := by decide +kernel
theorem dX11_tower_88 : decode cX11_tower 88 = .ok (.getfield 124, 3) := by decide +kernel
theorem dX11_tower_91 : decode cX11_tower 91 = .ok (.ireturn, 1) := by decide +kernel
theorem dX11_fault_0 : decode cX11_fault 0 = .ok (.aload_n 0, 1) := by decide +kernel
theorem dX11_fault_1 : decode cX11_fault 1 = .ok (.getfield 94, 3) := by decide +kernel
theorem dX11_fault_4 : decode cX11_fault 4 = .ok (.ireturn, 1) := by decide +kernel
theorem dX11_told_0 : decode cX11_told 0 = .ok (.iload_n 1, 1) := by decide +kernel
theorem dX11_told_1 : decode cX11_told 1 = .ok (.tableswitch 218 0 14 #[75, 83, 91, 99, 107, 115, 120, 128, 140, 159, 175, 186, 194, 202, 210], 75) := by decide +kernel
theorem dX11_told_76 : decode cX11_told 76 = .ok (.aload_n 0, 1) := by decide +kernel
theorem dX11_told_77 : decode cX11_told 77 = .ok (.getfield 10, 3) := by decide +kernel
theorem dX11_told_80 : decode cX11_told 80 = .ok (.getfield 124, 3) := by decide +kernel
theorem dX11_told_83 : decode cX11_told 83 = .ok (.ireturn, 1) := by decide +kernel
theorem dX11_told_84 : decode cX11_told 84 = .ok (.aload_n 0, 1) := by decide +kernel
theorem dX11_told_85 : decode cX11_told 85 = .ok (.getfield 10, 3) := by decide +kernel
theorem dX11_told_88 : decode cX11_told 88 = .ok (.getfield 127, 3) := by decide +kernel
theorem dX11_told_91 : decode cX11_told 91 = .ok (.ireturn, 1) := by decide +kernel
theorem dX11_told_92 : decode cX11_told 92 = .ok (.aload_n 0, 1) := by decide +kernel
theorem dX11_told_93 : decode cX11_told 93 = .ok (.getfield 10, 3) := by decide +kernel
theorem dX11_told_96 : decode cX11_told 96 = .ok (.getfield 130, 3) := by decide +kernel
theorem dX11_told_99 : decode cX11_told 99 = .ok (.ireturn, 1) := by decide +kernel
theorem dX11_told_100 : decode cX11_told 100 = .ok (.aload_n 0, 1) := by decide +kernel
theorem dX11_told_101 : decode cX11_told 101 = .ok (.getfield 22, 3) := by decide +kernel
theorem dX11_told_104 : decode cX11_told 104 = .ok (.getfield 105, 3) := by decide +kernel
theorem dX11_told_107 : decode cX11_told 107 = .ok (.ireturn, 1) := by decide +kernel
theorem dX11_told_108 : decode cX11_told 108 = .ok (.aload_n 0, 1) := by decide +kernel
theorem dX11_told_109 : decode cX11_told 109 = .ok (.getfield 29, 3) := by decide +kernel
theorem dX11_told_112 : decode cX11_told 112 = .ok (.getfield 133, 3) := by decide +kernel
theorem dX11_told_115 : decode cX11_told 115 = .ok (.ireturn, 1) := by decide +kernel
theorem dX11_told_116 : decode cX11_told 116 = .ok (.aload_n 0, 1) := by decide +kernel
theorem dX11_told_117 : decode cX11_told 117 = .ok (.invokevirtual 136, 3) := by decide +kernel
theorem dX11_told_120 : decode cX11_told 120 = .ok (.ireturn, 1) := by decide +kernel
theorem dX11_told_121 : decode cX11_told 121 = .ok (.aload_n 0, 1) := by decide +kernel
theorem dX11_told_122 : decode cX11_told 122 = .ok (.getfield 29, 3) := by decide +kernel
theorem dX11_told_125 : decode cX11_told 125 = .ok (.getfield 140, 3) := by decide +kernel
theorem dX11_told_128 : decode cX11_told 128 = .ok (.ireturn, 1) := by decide +kernel
theorem dX11_told_129 : decode cX11_told 129 = .ok (.aload_n 0, 1) := by decide +kernel
theorem dX11_told_130 : decode cX11_told 130 = .ok (.getfield 29, 3) := by decide +kernel
theorem dX11_told_133 : decode cX11_told 133 = .ok (.aload_n 0, 1) := by decide +kernel
theorem dX11_told_134 : decode cX11_told 134 = .ok (.getfield 10, 3) := by decide +kernel
theorem dX11_told_137 : decode cX11_told 137 = .ok (.invokevirtual 143, 3) := by decide +kernel
theorem dX11_told_140 : decode cX11_told 140 = .ok (.ireturn, 1) := by decide +kernel
theorem dX11_told_141 : decode cX11_told 141 = .ok (.aload_n 0, 1) := by decide +kernel
theorem dX11_told_142 : decode cX11_told 142 = .ok (.getfield 29, 3) := by decide +kernel
theorem dX11_told_145 : decode cX11_told 145 = .ok (.getfield 146, 3) := by decide +kernel
theorem dX11_told_148 : decode cX11_told 148 = .ok (.getfield 149, 3) := by decide +kernel
theorem dX11_told_151 : decode cX11_told 151 = .ok (.ifCond .eq 7, 3) := by decide +kernel
theorem dX11_told_154 : decode cX11_told 154 = .ok (.iconst 1, 1) := by decide +kernel
theorem dX11_told_155 : decode cX11_told 155 = .ok (.goto 4, 3) := by decide +kernel
theorem dX11_told_158 : decode cX11_told 158 = .ok (.iconst 0, 1) := by decide +kernel
theorem dX11_told_159 : decode cX11_told 159 = .ok (.ireturn, 1) := by decide +kernel
theorem dX11_told_160 : decode cX11_told 160 = .ok (.aload_n 0, 1) := by decide +kernel
theorem dX11_told_161 : decode cX11_told 161 = .ok (.getfield 29, 3) := by decide +kernel
theorem dX11_told_164 : decode cX11_told 164 = .ok (.getfield 153, 3) := by decide +kernel
theorem dX11_told_167 : decode cX11_told 167 = .ok (.ifCond .eq 7, 3) := by decide +kernel
theorem dX11_told_170 : decode cX11_told 170 = .ok (.iconst 1, 1) := by decide +kernel
theorem dX11_told_171 : decode cX11_told 171 = .ok (.goto 4, 3) := by decide +kernel
theorem dX11_told_174 : decode cX11_told 174 = .ok (.iconst 0, 1) := by decide +kernel
theorem dX11_told_175 : decode cX11_told 175 = .ok (.ireturn, 1) := by decide +kernel
theorem dX11_told_176 : decode cX11_told 176 = .ok (.aload_n 0, 1) := by decide +kernel
theorem dX11_told_177 : decode cX11_told 177 = .ok (.getfield 29, 3) := by decide +kernel
theorem dX11_told_180 : decode cX11_told 180 = .ok (.getfield 146, 3) := by decide +kernel
theorem dX11_told_183 : decode cX11_told 183 = .ok (.getfield 156, 3) := by decide +kernel
theorem dX11_told_186 : decode cX11_told 186 = .ok (.ireturn, 1) := by decide +kernel
theorem dX11_told_187 : decode cX11_told 187 = .ok (.aload_n 0, 1) := by decide +kernel
theorem dX11_told_188 : decode cX11_told 188 = .ok (.getfield 90, 3) := by decide +kernel
theorem dX11_told_191 : decode cX11_told 191 = .ok (.getfield 159, 3) := by decide +kernel
theorem dX11_told_194 : decode cX11_told 194 = .ok (.ireturn, 1) := by decide +kernel
theorem dX11_told_195 : decode cX11_told 195 = .ok (.aload_n 0, 1) := by decide +kernel
theorem dX11_told_196 : decode cX11_told 196 = .ok (.getfield 90, 3) := by decide +kernel
theorem dX11_told_199 : decode cX11_told 199 = .ok (.getfield 162, 3) := by decide +kernel
theorem dX11_told_202 : decode cX11_told 202 = .ok (.ireturn, 1) := by decide +kernel
theorem dX11_told_203 : decode cX11_told 203 = .ok (.aload_n 0, 1) := by decide +kernel
theorem dX11_told_204 : decode cX11_told 204 = .ok (.getfield 90, 3) := by decide +kernel
theorem dX11_told_207 : decode cX11_told 207 = .ok (.getfield 165, 3) := by decide +kernel
theorem dX11_told_210 : decode cX11_told 210 = .ok (.ireturn, 1) := by decide +kernel
theorem dX11_told_211 : decode cX11_told 211 = .ok (.aload_n 0, 1) := by decide +kernel
theorem dX11_told_212 : decode cX11_told 212 = .ok (.getfield 36, 3) := by decide +kernel
theorem dX11_told_215 : decode cX11_told 215 = .ok (.getfield 168, 3) := by decide +kernel
theorem dX11_told_218 : decode cX11_told 218 = .ok (.ireturn, 1) := by decide +kernel
theorem dX11_told_219 : decode cX11_told 219 = .ok (.ldc 100, 2) := by decide +kernel
theorem dX11_told_221 : decode cX11_told 221 = .ok (.ireturn, 1) := by decide +kernel
theorem dX11_method_0 : decode cX11_method 0 = .ok (.aload_n 0, 1) := by decide +kernel
theorem dX11_method_1 : decode cX11_method 1 = .ok (.getfield 10, 3) := by decide +kernel
theorem dX11_method_4 : decode cX11_method 4 = .ok (.invokevirtual 171, 3) := by decide +kernel
theorem dX11_method_7 : decode cX11_method 7 = .ok (.ifCond .ne 6, 3) := by decide +kernel
theorem dX11_method_10 : decode cX11_method 10 = .ok (.ldc 175, 2) := by decide +kernel
theorem dX11_method_12 : decode cX11_method 12 = .ok (.ireturn, 1) := by decide +kernel
theorem dX11_method_13 : decode cX11_method 13 = .ok (.iload_n 1, 1) := by decide +kernel
theorem dX11_method_14 : decode cX11_method 14 = .ok (.iconst (-1), 1) := by decide +kernel
theorem dX11_method_15 : decode cX11_method 15 = .ok (.if_icmp .ne 14, 3) := by decide +kernel
theorem dX11_method_18 : decode cX11_method 18 = .ok (.aload_n 0, 1) := by decide +kernel
theorem dX11_method_19 : decode cX11_method 19 = .ok (.getfield 10, 3) := by decide +kernel
theorem dX11_method_22 : decode cX11_method 22 = .ok (.getfield 176, 3) := by decide +kernel
theorem dX11_method_25 : decode cX11_method 25 = .ok (.getfield 179, 3) := by decide +kernel
theorem dX11_method_28 : decode cX11_method 28 = .ok (.ireturn, 1) := by decide +kernel
theorem dX11_method_29 : decode cX11_method 29 = .ok (.iload_n 1, 1) := by decide +kernel
theorem dX11_method_30 : decode cX11_method 30 = .ok (.ifCond .lt 28, 3) := by decide +kernel
theorem dX11_method_33 : decode cX11_method 33 = .ok (.iload_n 1, 1) := by decide +kernel
theorem dX11_method_34 : decode cX11_method 34 = .ok (.aload_n 0, 1) := by decide +kernel
theorem dX11_method_35 : decode cX11_method 35 = .ok (.getfield 10, 3) := by decide +kernel
theorem dX11_method_38 : decode cX11_method 38 = .ok (.getfield 127, 3) := by decide +kernel
theorem dX11_method_41 : decode cX11_method 41 = .ok (.if_icmp .ge 17, 3) := by decide +kernel
theorem dX11_method_44 : decode cX11_method 44 = .ok (.aload_n 0, 1) := by decide +kernel
theorem dX11_method_45 : decode cX11_method 45 = .ok (.getfield 10, 3) := by decide +kernel
theorem dX11_method_48 : decode cX11_method 48 = .ok (.iload_n 1, 1) := by decide +kernel
theorem dX11_method_49 : decode cX11_method 49 = .ok (.invokevirtual 182, 3) := by decide +kernel
theorem dX11_method_52 : decode cX11_method 52 = .ok (.getfield 179, 3) := by decide +kernel
theorem dX11_method_55 : decode cX11_method 55 = .ok (.goto 4, 3) := by decide +kernel
theorem dX11_method_58 : decode cX11_method 58 = .ok (.iconst (-1), 1) := by decide +kernel
theorem dX11_method_59 : decode cX11_method 59 = .ok (.ireturn, 1) := by decide +kernel
theorem dX11_bell_0 : decode cX11_bell 0 = .ok (.aload_n 0, 1) := by decide +kernel
theorem dX11_bell_1 : decode cX11_bell 1 = .ok (.getfield 10, 3) := by decide +kernel
theorem dX11_bell_4 : decode cX11_bell 4 = .ok (.iload_n 1, 1) := by decide +kernel
theorem dX11_bell_5 : decode cX11_bell 5 = .ok (.invokevirtual 186, 3) := by decide +kernel
theorem dX11_bell_8 : decode cX11_bell 8 = .ok (.ifCond .ne 6, 3) := by decide +kernel
theorem dX11_bell_11 : decode cX11_bell 11 = .ok (.ldc 189, 2) := by decide +kernel
theorem dX11_bell_13 : decode cX11_bell 13 = .ok (.ireturn, 1) := by decide +kernel
theorem dX11_bell_14 : decode cX11_bell 14 = .ok (.iload_n 2, 1) := by decide +kernel
theorem dX11_bell_15 : decode cX11_bell 15 = .ok (.tableswitch 69 0 2 #[25, 34, 56], 25) := by decide +kernel
theorem dX11_bell_40 : decode cX11_bell 40 = .ok (.aload_n 0, 1) := by decide +kernel
theorem dX11_bell_41 : decode cX11_bell 41 = .ok (.getfield 10, 3) := by decide +kernel
theorem dX11_bell_44 : decode cX11_bell 44 = .ok (.iload_n 1, 1) := by decide +kernel
theorem dX11_bell_45 : decode cX11_bell 45 = .ok (.invokevirtual 190, 3) := by decide +kernel
theorem dX11_bell_48 : decode cX11_bell 48 = .ok (.ireturn, 1) := by decide +kernel
theorem dX11_bell_49 : decode cX11_bell 49 = .ok (.aload_n 0, 1) := by decide +kernel
theorem dX11_bell_50 : decode cX11_bell 50 = .ok (.getfield 29, 3) := by decide +kernel
theorem dX11_bell_53 : decode cX11_bell 53 = .ok (.getfield 146, 3) := by decide +kernel
theorem dX11_bell_56 : decode cX11_bell 56 = .ok (.getfield 194, 3) := by decide +kernel
theorem dX11_bell_59 : decode cX11_bell 59 = .ok (.iload_n 1, 1) := by decide +kernel
theorem dX11_bell_60 : decode cX11_bell 60 = .ok (.aload_n 0, 1) := by decide +kernel
theorem dX11_bell_61 : decode cX11_bell 61 = .ok (.getfield 10, 3) := by decide +kernel
theorem dX11_bell_64 : decode cX11_bell 64 = .ok (.getfield 124, 3) := by decide +kernel
theorem dX11_bell_67 : decode cX11_bell 67 = .ok (.invokestatic 197, 3) := by decide +kernel
theorem dX11_bell_70 : decode cX11_bell 70 = .ok (.ireturn, 1) := by decide +kernel
theorem dX11_bell_71 : decode cX11_bell 71 = .ok (.aload_n 0, 1) := by decide +kernel
theorem dX11_bell_72 : decode cX11_bell 72 = .ok (.getfield 29, 3) := by decide +kernel
theorem dX11_bell_75 : decode cX11_bell 75 = .ok (.iload_n 1, 1) := by decide +kernel
theorem dX11_bell_76 : decode cX11_bell 76 = .ok (.aload_n 0, 1) := by decide +kernel
theorem dX11_bell_77 : decode cX11_bell 77 = .ok (.getfield 10, 3) := by decide +kernel
theorem dX11_bell_80 : decode cX11_bell 80 = .ok (.invokevirtual 203, 3) := by decide +kernel
theorem dX11_bell_83 : decode cX11_bell 83 = .ok (.ireturn, 1) := by decide +kernel
theorem dX11_bell_84 : decode cX11_bell 84 = .ok (.ldc 100, 2) := by decide +kernel
theorem dX11_bell_86 : decode cX11_bell 86 = .ok (.ireturn, 1) := by decide +kernel
theorem dX11_suitor_0 : decode cX11_suitor 0 = .ok (.aload_n 0, 1) := by decide +kernel
theorem dX11_suitor_1 : decode cX11_suitor 1 = .ok (.getfield 10, 3) := by decide +kernel
theorem dX11_suitor_4 : decode cX11_suitor 4 = .ok (.iload_n 1, 1) := by decide +kernel
theorem dX11_suitor_5 : decode cX11_suitor 5 = .ok (.invokevirtual 207, 3) := by decide +kernel
theorem dX11_suitor_8 : decode cX11_suitor 8 = .ok (.ifCond .ne 6, 3) := by decide +kernel
theorem dX11_suitor_11 : decode cX11_suitor 11 = .ok (.ldc 189, 2) := by decide +kernel
theorem dX11_suitor_13 : decode cX11_suitor 13 = .ok (.ireturn, 1) := by decide +kernel
theorem dX11_suitor_14 : decode cX11_suitor 14 = .ok (.iload_n 2, 1) := by decide +kernel
theorem dX11_suitor_15 : decode cX11_suitor 15 = .ok (.tableswitch 73 0 3 #[29, 38, 47, 56], 29) := by decide +kernel
theorem dX11_suitor_44 : decode cX11_suitor 44 = .ok (.aload_n 0, 1) := by decide +kernel
theorem dX11_suitor_45 : decode cX11_suitor 45 = .ok (.getfield 10, 3) := by decide +kernel
theorem dX11_suitor_48 : decode cX11_suitor 48 = .ok (.iload_n 1, 1) := by decide +kernel
theorem dX11_suitor_49 : decode cX11_suitor 49 = .ok (.invokevirtual 210, 3) := by decide +kernel
theorem dX11_suitor_52 : decode cX11_suitor 52 = .ok (.ireturn, 1) := by decide +kernel
theorem dX11_suitor_53 : decode cX11_suitor 53 = .ok (.aload_n 0, 1) := by decide +kernel
theorem dX11_suitor_54 : decode cX11_suitor 54 = .ok (.getfield 29, 3) := by decide +kernel
theorem dX11_suitor_57 : decode cX11_suitor 57 = .ok (.iload_n 1, 1) := by decide +kernel
theorem dX11_suitor_58 : decode cX11_suitor 58 = .ok (.invokevirtual 213, 3) := by decide +kernel
theorem dX11_suitor_61 : decode cX11_suitor 61 = .ok (.ireturn, 1) := by decide +kernel
theorem dX11_suitor_62 : decode cX11_suitor 62 = .ok (.aload_n 0, 1) := by decide +kernel
theorem dX11_suitor_63 : decode cX11_suitor 63 = .ok (.getfield 29, 3) := by decide +kernel
theorem dX11_suitor_66 : decode cX11_suitor 66 = .ok (.iload_n 1, 1) := by decide +kernel
theorem dX11_suitor_67 : decode cX11_suitor 67 = .ok (.invokevirtual 216, 3) := by decide +kernel
theorem dX11_suitor_70 : decode cX11_suitor 70 = .ok (.ireturn, 1) := by decide +kernel
theorem dX11_suitor_71 : decode cX11_suitor 71 = .ok (.aload_n 0, 1) := by decide +kernel
theorem dX11_suitor_72 : decode cX11_suitor 72 = .ok (.getfield 29, 3) := by decide +kernel
theorem dX11_suitor_75 : decode cX11_suitor 75 = .ok (.iload_n 1, 1) := by decide +kernel
theorem dX11_suitor_76 : decode cX11_suitor 76 = .ok (.invokevirtual 219, 3) := by decide +kernel
theorem dX11_suitor_79 : decode cX11_suitor 79 = .ok (.ifCond .eq 7, 3) := by decide +kernel
theorem dX11_suitor_82 : decode cX11_suitor 82 = .ok (.iconst 1, 1) := by decide +kernel
theorem dX11_suitor_83 : decode cX11_suitor 83 = .ok (.goto 4, 3) := by decide +kernel
theorem dX11_suitor_86 : decode cX11_suitor 86 = .ok (.iconst 0, 1) := by decide +kernel
theorem dX11_suitor_87 : decode cX11_suitor 87 = .ok (.ireturn, 1) := by decide +kernel
theorem dX11_suitor_88 : decode cX11_suitor 88 = .ok (.ldc 100, 2) := by decide +kernel
theorem dX11_suitor_90 : decode cX11_suitor 90 = .ok (.ireturn, 1) := by decide +kernel
theorem dX11_ring_0 : decode cX11_ring 0 = .ok (.aload_n 0, 1) := by decide +kernel
theorem dX11_ring_1 : decode cX11_ring 1 = .ok (.iload_n 1, 1) := by decide +kernel
theorem dX11_ring_2 : decode cX11_ring 2 = .ok (.sipush 200, 3) := by decide +kernel
theorem dX11_ring_5 : decode cX11_ring 5 = .ok (.invokevirtual 222, 3) := by decide +kernel
theorem dX11_ring_8 : decode cX11_ring 8 = .ok (.istore_n 2, 1) := by decide +kernel
theorem dX11_ring_9 : decode cX11_ring 9 = .ok (.iload_n 2, 1) := by decide +kernel
theorem dX11_ring_10 : decode cX11_ring 10 = .ok (.ifCond .eq 5, 3) := by decide +kernel
theorem dX11_ring_13 : decode cX11_ring 13 = .ok (.iload_n 2, 1) := by decide +kernel
theorem dX11_ring_14 : decode cX11_ring 14 = .ok (.ireturn, 1) := by decide +kernel
theorem dX11_ring_15 : decode cX11_ring 15 = .ok (.aload_n 0, 1) := by decide +kernel
theorem dX11_ring_16 : decode cX11_ring 16 = .ok (.getfield 36, 3) := by decide +kernel
theorem dX11_ring_19 : decode cX11_ring 19 = .ok (.aload_n 0, 1) := by decide +kernel
theorem dX11_ring_20 : decode cX11_ring 20 = .ok (.getfield 29, 3) := by decide +kernel
theorem dX11_ring_23 : decode cX11_ring 23 = .ok (.invokevirtual 226, 3) := by decide +kernel
theorem dX11_ring_26 : decode cX11_ring 26 = .ok (.iconst 0, 1) := by decide +kernel
theorem dX11_ring_27 : decode cX11_ring 27 = .ok (.istore_n 3, 1) := by decide +kernel
theorem dX11_ring_28 : decode cX11_ring 28 = .ok (.iload_n 3, 1) := by decide +kernel
theorem dX11_ring_29 : decode cX11_ring 29 = .ok (.iload_n 1, 1) := by decide +kernel
theorem dX11_ring_30 : decode cX11_ring 30 = .ok (.if_icmp .ge 20, 3) := by decide +kernel
theorem dX11_ring_33 : decode cX11_ring 33 = .ok (.aload_n 0, 1) := by decide +kernel
theorem dX11_ring_34 : decode cX11_ring 34 = .ok (.getfield 29, 3) := by decide +kernel
theorem dX11_ring_37 : decode cX11_ring 37 = .ok (.aload_n 0, 1) := by decide +kernel
theorem dX11_ring_38 : decode cX11_ring 38 = .ok (.getfield 10, 3) := by decide +kernel
theorem dX11_ring_41 : decode cX11_ring 41 = .ok (.invokevirtual 230, 3) := by decide +kernel
theorem dX11_ring_44 : decode cX11_ring 44 = .ok (.iinc 3 1, 3) := by decide +kernel
theorem dX11_ring_47 : decode cX11_ring 47 = .ok (.goto (-19), 3) := by decide +kernel
theorem dX11_ring_50 : decode cX11_ring 50 = .ok (.aload_n 0, 1) := by decide +kernel
theorem dX11_ring_51 : decode cX11_ring 51 = .ok (.invokevirtual 136, 3) := by decide +kernel
theorem dX11_ring_54 : decode cX11_ring 54 = .ok (.ireturn, 1) := by decide +kernel
theorem dX11_call_0 : decode cX11_call 0 = .ok (.aload_n 0, 1) := by decide +kernel
theorem dX11_call_1 : decode cX11_call 1 = .ok (.getfield 10, 3) := by decide +kernel
theorem dX11_call_4 : decode cX11_call 4 = .ok (.invokevirtual 171, 3) := by decide +kernel
theorem dX11_call_7 : decode cX11_call 7 = .ok (.ifCond .eq 16, 3) := by decide +kernel
theorem dX11_call_10 : decode cX11_call 10 = .ok (.aload_n 0, 1) := by decide +kernel
theorem dX11_call_11 : decode cX11_call 11 = .ok (.getfield 29, 3) := by decide +kernel
theorem dX11_call_14 : decode cX11_call 14 = .ok (.getfield 146, 3) := by decide +kernel
theorem dX11_call_17 : decode cX11_call 17 = .ok (.getfield 149, 3) := by decide +kernel
theorem dX11_call_20 : decode cX11_call 20 = .ok (.ifCond .eq 6, 3) := by decide +kernel
theorem dX11_call_23 : decode cX11_call 23 = .ok (.ldc 175, 2) := by decide +kernel
theorem dX11_call_25 : decode cX11_call 25 = .ok (.ireturn, 1) := by decide +kernel
theorem dX11_call_26 : decode cX11_call 26 = .ok (.aload_n 0, 1) := by decide +kernel
theorem dX11_call_27 : decode cX11_call 27 = .ok (.getfield 36, 3) := by decide +kernel
theorem dX11_call_30 : decode cX11_call 30 = .ok (.aload_n 0, 1) := by decide +kernel
theorem dX11_call_31 : decode cX11_call 31 = .ok (.getfield 29, 3) := by decide +kernel
theorem dX11_call_34 : decode cX11_call 34 = .ok (.invokevirtual 226, 3) := by decide +kernel
theorem dX11_call_37 : decode cX11_call 37 = .ok (.aload_n 0, 1) := by decide +kernel
theorem dX11_call_38 : decode cX11_call 38 = .ok (.getfield 29, 3) := by decide +kernel
theorem dX11_call_41 : decode cX11_call 41 = .ok (.getfield 146, 3) := by decide +kernel
theorem dX11_call_44 : decode cX11_call 44 = .ok (.iconst 1, 1) := by decide +kernel
theorem dX11_call_45 : decode cX11_call 45 = .ok (.putfield 149, 3) := by decide +kernel
theorem dX11_call_48 : decode cX11_call 48 = .ok (.aload_n 0, 1) := by decide +kernel
theorem dX11_call_49 : decode cX11_call 49 = .ok (.getfield 29, 3) := by decide +kernel
theorem dX11_call_52 : decode cX11_call 52 = .ok (.getfield 146, 3) := by decide +kernel
theorem dX11_call_55 : decode cX11_call 55 = .ok (.getfield 156, 3) := by decide +kernel
theorem dX11_call_58 : decode cX11_call 58 = .ok (.ireturn, 1) := by decide +kernel
theorem dX11_swap_0 : decode cX11_swap 0 = .ok (.aload_n 0, 1) := by decide +kernel
theorem dX11_swap_1 : decode cX11_swap 1 = .ok (.getfield 10, 3) := by decide +kernel
theorem dX11_swap_4 : decode cX11_swap 4 = .ok (.iload_n 1, 1) := by decide +kernel
theorem dX11_swap_5 : decode cX11_swap 5 = .ok (.invokevirtual 207, 3) := by decide +kernel
theorem dX11_swap_8 : decode cX11_swap 8 = .ok (.ifCond .eq 19, 3) := by decide +kernel
theorem dX11_swap_11 : decode cX11_swap 11 = .ok (.aload_n 0, 1) := by decide +kernel
theorem dX11_swap_12 : decode cX11_swap 12 = .ok (.getfield 10, 3) := by decide +kernel
theorem dX11_swap_15 : decode cX11_swap 15 = .ok (.iload_n 2, 1) := by decide +kernel
theorem dX11_swap_16 : decode cX11_swap 16 = .ok (.invokevirtual 207, 3) := by decide +kernel
theorem dX11_swap_19 : decode cX11_swap 19 = .ok (.ifCond .eq 8, 3) := by decide +kernel
theorem dX11_swap_22 : decode cX11_swap 22 = .ok (.iload_n 1, 1) := by decide +kernel
theorem dX11_swap_23 : decode cX11_swap 23 = .ok (.iload_n 2, 1) := by decide +kernel
theorem dX11_swap_24 : decode cX11_swap 24 = .ok (.if_icmp .ne 6, 3) := by decide +kernel
theorem dX11_swap_27 : decode cX11_swap 27 = .ok (.ldc 189, 2) := by decide +kernel
theorem dX11_swap_29 : decode cX11_swap 29 = .ok (.ireturn, 1) := by decide +kernel
theorem dX11_swap_30 : decode cX11_swap 30 = .ok (.aload_n 0, 1) := by decide +kernel
theorem dX11_swap_31 : decode cX11_swap 31 = .ok (.getfield 36, 3) := by decide +kernel
theorem dX11_swap_34 : decode cX11_swap 34 = .ok (.aload_n 0, 1) := by decide +kernel
theorem dX11_swap_35 : decode cX11_swap 35 = .ok (.getfield 29, 3) := by decide +kernel
theorem dX11_swap_38 : decode cX11_swap 38 = .ok (.invokevirtual 226, 3) := by decide +kernel
theorem dX11_swap_41 : decode cX11_swap 41 = .ok (.aload_n 0, 1) := by decide +kernel
theorem dX11_swap_42 : decode cX11_swap 42 = .ok (.getfield 29, 3) := by decide +kernel
theorem dX11_swap_45 : decode cX11_swap 45 = .ok (.iload_n 1, 1) := by decide +kernel
theorem dX11_swap_46 : decode cX11_swap 46 = .ok (.iload_n 2, 1) := by decide +kernel
theorem dX11_swap_47 : decode cX11_swap 47 = .ok (.invokevirtual 233, 3) := by decide +kernel
theorem dX11_swap_50 : decode cX11_swap 50 = .ok (.aload_n 0, 1) := by decide +kernel
theorem dX11_swap_51 : decode cX11_swap 51 = .ok (.getfield 29, 3) := by decide +kernel
theorem dX11_swap_54 : decode cX11_swap 54 = .ok (.iload_n 1, 1) := by decide +kernel
theorem dX11_swap_55 : decode cX11_swap 55 = .ok (.invokevirtual 213, 3) := by decide +kernel
theorem dX11_swap_58 : decode cX11_swap 58 = .ok (.ireturn, 1) := by decide +kernel
theorem dX11_stand_0 : decode cX11_stand 0 = .ok (.aload_n 0, 1) := by decide +kernel
theorem dX11_stand_1 : decode cX11_stand 1 = .ok (.getfield 10, 3) := by decide +kernel
theorem dX11_stand_4 : decode cX11_stand 4 = .ok (.invokevirtual 171, 3) := by decide +kernel
theorem dX11_stand_7 : decode cX11_stand 7 = .ok (.ifCond .ne 6, 3) := by decide +kernel
theorem dX11_stand_10 : decode cX11_stand 10 = .ok (.ldc 175, 2) := by decide +kernel
theorem dX11_stand_12 : decode cX11_stand 12 = .ok (.ireturn, 1) := by decide +kernel
theorem dX11_stand_13 : decode cX11_stand 13 = .ok (.aload_n 0, 1) := by decide +kernel
theorem dX11_stand_14 : decode cX11_stand 14 = .ok (.invokevirtual 136, 3) := by decide +kernel
theorem dX11_stand_17 : decode cX11_stand 17 = .ok (.istore_n 1, 1) := by decide +kernel
theorem dX11_stand_18 : decode cX11_stand 18 = .ok (.aload_n 0, 1) := by decide +kernel
theorem dX11_stand_19 : decode cX11_stand 19 = .ok (.getfield 36, 3) := by decide +kernel
theorem dX11_stand_22 : decode cX11_stand 22 = .ok (.aload_n 0, 1) := by decide +kernel
theorem dX11_stand_23 : decode cX11_stand 23 = .ok (.getfield 29, 3) := by decide +kernel
theorem dX11_stand_26 : decode cX11_stand 26 = .ok (.invokevirtual 226, 3) := by decide +kernel
theorem dX11_stand_29 : decode cX11_stand 29 = .ok (.aload_n 0, 1) := by decide +kernel
theorem dX11_stand_30 : decode cX11_stand 30 = .ok (.getfield 29, 3) := by decide +kernel
theorem dX11_stand_33 : decode cX11_stand 33 = .ok (.aload_n 0, 1) := by decide +kernel
theorem dX11_stand_34 : decode cX11_stand 34 = .ok (.getfield 10, 3) := by decide +kernel
theorem dX11_stand_37 : decode cX11_stand 37 = .ok (.invokevirtual 237, 3) := by decide +kernel
theorem dX11_stand_40 : decode cX11_stand 40 = .ok (.iload_n 1, 1) := by decide +kernel
theorem dX11_stand_41 : decode cX11_stand 41 = .ok (.ireturn, 1) := by decide +kernel
theorem dX11_wet_0 : decode cX11_wet 0 = .ok (.aload_n 0, 1) := by decide +kernel
theorem dX11_wet_1 : decode cX11_wet 1 = .ok (.getfield 10, 3) := by decide +kernel
theorem dX11_wet_4 : decode cX11_wet 4 = .ok (.invokevirtual 171, 3) := by decide +kernel
theorem dX11_wet_7 : decode cX11_wet 7 = .ok (.ifCond .ne 6, 3) := by decide +kernel
theorem dX11_wet_10 : decode cX11_wet 10 = .ok (.ldc 175, 2) := by decide +kernel
theorem dX11_wet_12 : decode cX11_wet 12 = .ok (.ireturn, 1) := by decide +kernel
theorem dX11_wet_13 : decode cX11_wet 13 = .ok (.aload_n 0, 1) := by decide +kernel
theorem dX11_wet_14 : decode cX11_wet 14 = .ok (.getfield 29, 3) := by decide +kernel
theorem dX11_wet_17 : decode cX11_wet 17 = .ok (.getfield 153, 3) := by decide +kernel
theorem dX11_wet_20 : decode cX11_wet 20 = .ok (.ifCond .eq 7, 3) := by decide +kernel
theorem dX11_wet_23 : decode cX11_wet 23 = .ok (.iconst 1, 1) := by decide +kernel
theorem dX11_wet_24 : decode cX11_wet 24 = .ok (.goto 4, 3) := by decide +kernel
theorem dX11_wet_27 : decode cX11_wet 27 = .ok (.iconst 0, 1) := by decide +kernel
theorem dX11_wet_28 : decode cX11_wet 28 = .ok (.istore_n 2, 1) := by decide +kernel
theorem dX11_wet_29 : decode cX11_wet 29 = .ok (.aload_n 0, 1) := by decide +kernel
theorem dX11_wet_30 : decode cX11_wet 30 = .ok (.getfield 36, 3) := by decide +kernel
theorem dX11_wet_33 : decode cX11_wet 33 = .ok (.aload_n 0, 1) := by decide +kernel
theorem dX11_wet_34 : decode cX11_wet 34 = .ok (.getfield 29, 3) := by decide +kernel
theorem dX11_wet_37 : decode cX11_wet 37 = .ok (.invokevirtual 226, 3) := by decide +kernel
theorem dX11_wet_40 : decode cX11_wet 40 = .ok (.aload_n 0, 1) := by decide +kernel
theorem dX11_wet_41 : decode cX11_wet 41 = .ok (.getfield 29, 3) := by decide +kernel
theorem dX11_wet_44 : decode cX11_wet 44 = .ok (.iload_n 1, 1) := by decide +kernel
theorem dX11_wet_45 : decode cX11_wet 45 = .ok (.putfield 153, 3) := by decide +kernel
theorem dX11_wet_48 : decode cX11_wet 48 = .ok (.iload_n 2, 1) := by decide +kernel
theorem dX11_wet_49 : decode cX11_wet 49 = .ok (.ireturn, 1) := by decide +kernel
theorem dX11_forgive_0 : decode cX11_forgive 0 = .ok (.aload_n 0, 1) := by decide +kernel
theorem dX11_forgive_1 : decode cX11_forgive 1 = .ok (.getfield 10, 3) := by decide +kernel
theorem dX11_forgive_4 : decode cX11_forgive 4 = .ok (.iload_n 1, 1) := by decide +kernel
theorem dX11_forgive_5 : decode cX11_forgive 5 = .ok (.invokevirtual 207, 3) := by decide +kernel
theorem dX11_forgive_8 : decode cX11_forgive 8 = .ok (.ifCond .ne 6, 3) := by decide +kernel
theorem dX11_forgive_11 : decode cX11_forgive 11 = .ok (.ldc 189, 2) := by decide +kernel
theorem dX11_forgive_13 : decode cX11_forgive 13 = .ok (.ireturn, 1) := by decide +kernel
theorem dX11_forgive_14 : decode cX11_forgive 14 = .ok (.aload_n 0, 1) := by decide +kernel
theorem dX11_forgive_15 : decode cX11_forgive 15 = .ok (.getfield 29, 3) := by decide +kernel
theorem dX11_forgive_18 : decode cX11_forgive 18 = .ok (.iload_n 1, 1) := by decide +kernel
theorem dX11_forgive_19 : decode cX11_forgive 19 = .ok (.invokevirtual 219, 3) := by decide +kernel
theorem dX11_forgive_22 : decode cX11_forgive 22 = .ok (.ifCond .ne 6, 3) := by decide +kernel
theorem dX11_forgive_25 : decode cX11_forgive 25 = .ok (.ldc 175, 2) := by decide +kernel
theorem dX11_forgive_27 : decode cX11_forgive 27 = .ok (.ireturn, 1) := by decide +kernel
theorem dX11_forgive_28 : decode cX11_forgive 28 = .ok (.aload_n 0, 1) := by decide +kernel
theorem dX11_forgive_29 : decode cX11_forgive 29 = .ok (.getfield 36, 3) := by decide +kernel
theorem dX11_forgive_32 : decode cX11_forgive 32 = .ok (.aload_n 0, 1) := by decide +kernel
theorem dX11_forgive_33 : decode cX11_forgive 33 = .ok (.getfield 29, 3) := by decide +kernel
theorem dX11_forgive_36 : decode cX11_forgive 36 = .ok (.invokevirtual 226, 3) := by decide +kernel
theorem dX11_forgive_39 : decode cX11_forgive 39 = .ok (.aload_n 0, 1) := by decide +kernel
theorem dX11_forgive_40 : decode cX11_forgive 40 = .ok (.getfield 29, 3) := by decide +kernel
theorem dX11_forgive_43 : decode cX11_forgive 43 = .ok (.dup, 1) := by decide +kernel
theorem dX11_forgive_44 : decode cX11_forgive 44 = .ok (.getfield 140, 3) := by decide +kernel
theorem dX11_forgive_47 : decode cX11_forgive 47 = .ok (.iconst 1, 1) := by decide +kernel
theorem dX11_forgive_48 : decode cX11_forgive 48 = .ok (.iload_n 1, 1) := by decide +kernel
theorem dX11_forgive_49 : decode cX11_forgive 49 = .ok (.ishl, 1) := by decide +kernel
theorem dX11_forgive_50 : decode cX11_forgive 50 = .ok (.iconst (-1), 1) := by decide +kernel
theorem dX11_forgive_51 : decode cX11_forgive 51 = .ok (.ixor, 1) := by decide +kernel
theorem dX11_forgive_52 : decode cX11_forgive 52 = .ok (.iand, 1) := by decide +kernel
theorem dX11_forgive_53 : decode cX11_forgive 53 = .ok (.putfield 140, 3) := by decide +kernel
theorem dX11_forgive_56 : decode cX11_forgive 56 = .ok (.aload_n 0, 1) := by decide +kernel
theorem dX11_forgive_57 : decode cX11_forgive 57 = .ok (.getfield 29, 3) := by decide +kernel
theorem dX11_forgive_60 : decode cX11_forgive 60 = .ok (.getfield 140, 3) := by decide +kernel
theorem dX11_forgive_63 : decode cX11_forgive 63 = .ok (.ireturn, 1) := by decide +kernel
theorem dX11_drift_0 : decode cX11_drift 0 = .ok (.aload_n 0, 1) := by decide +kernel
theorem dX11_drift_1 : decode cX11_drift 1 = .ok (.iload_n 1, 1) := by decide +kernel
theorem dX11_drift_2 : decode cX11_drift 2 = .ok (.bipush 60, 2) := by decide +kernel
theorem dX11_drift_4 : decode cX11_drift 4 = .ok (.invokevirtual 222, 3) := by decide +kernel
theorem dX11_drift_7 : decode cX11_drift 7 = .ok (.istore_n 2, 1) := by decide +kernel
theorem dX11_drift_8 : decode cX11_drift 8 = .ok (.iload_n 2, 1) := by decide +kernel
theorem dX11_drift_9 : decode cX11_drift 9 = .ok (.ifCond .eq 5, 3) := by decide +kernel
theorem dX11_drift_12 : decode cX11_drift 12 = .ok (.iload_n 2, 1) := by decide +kernel
theorem dX11_drift_13 : decode cX11_drift 13 = .ok (.ireturn, 1) := by decide +kernel
theorem dX11_drift_14 : decode cX11_drift 14 = .ok (.aload_n 0, 1) := by decide +kernel
theorem dX11_drift_15 : decode cX11_drift 15 = .ok (.getfield 36, 3) := by decide +kernel
theorem dX11_drift_18 : decode cX11_drift 18 = .ok (.aload_n 0, 1) := by decide +kernel
theorem dX11_drift_19 : decode cX11_drift 19 = .ok (.getfield 29, 3) := by decide +kernel
theorem dX11_drift_22 : decode cX11_drift 22 = .ok (.invokevirtual 226, 3) := by decide +kernel
theorem dX11_drift_25 : decode cX11_drift 25 = .ok (.iconst 0, 1) := by decide +kernel
theorem dX11_drift_26 : decode cX11_drift 26 = .ok (.istore_n 3, 1) := by decide +kernel
theorem dX11_drift_27 : decode cX11_drift 27 = .ok (.iload_n 3, 1) := by decide +kernel
theorem dX11_drift_28 : decode cX11_drift 28 = .ok (.iload_n 1, 1) := by decide +kernel
theorem dX11_drift_29 : decode cX11_drift 29 = .ok (.if_icmp .ge 24, 3) := by decide +kernel
theorem dX11_drift_32 : decode cX11_drift 32 = .ok (.aload_n 0, 1) := by decide +kernel
theorem dX11_drift_33 : decode cX11_drift 33 = .ok (.invokevirtual 240, 3) := by decide +kernel
theorem dX11_drift_36 : decode cX11_drift 36 = .ok (.aload_n 0, 1) := by decide +kernel
theorem dX11_drift_37 : decode cX11_drift 37 = .ok (.getfield 29, 3) := by decide +kernel
theorem dX11_drift_40 : decode cX11_drift 40 = .ok (.aload_n 0, 1) := by decide +kernel
theorem dX11_drift_41 : decode cX11_drift 41 = .ok (.getfield 10, 3) := by decide +kernel
theorem dX11_drift_44 : decode cX11_drift 44 = .ok (.invokevirtual 230, 3) := by decide +kernel
theorem dX11_drift_47 : decode cX11_drift 47 = .ok (.iinc 3 1, 3) := by decide +kernel
theorem dX11_drift_50 : decode cX11_drift 50 = .ok (.goto (-23), 3) := by decide +kernel
theorem dX11_drift_53 : decode cX11_drift 53 = .ok (.aload_n 0, 1) := by decide +kernel
