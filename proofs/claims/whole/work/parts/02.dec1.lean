theorem dX0_init_0 : decode cX0_init 0 = .ok (.aload_n 0, 1) := by decide +kernel
theorem dX0_init_1 : decode cX0_init 1 = .ok (.invokespecial 3, 3) := by decide +kernel
theorem dX0_init_4 : decode cX0_init 4 = .ok (.aload_n 0, 1) := by decide +kernel
theorem dX0_init_5 : decode cX0_init 5 = .ok (.sipush 4096, 3) := by decide +kernel
theorem dX0_init_8 : decode cX0_init 8 = .ok (.newarray .int, 2) := by decide +kernel
theorem dX0_init_10 : decode cX0_init 10 = .ok (.putfield 9, 3) := by decide +kernel
theorem dX0_init_13 : decode cX0_init 13 = .ok (.aload_n 0, 1) := by decide +kernel
theorem dX0_init_14 : decode cX0_init 14 = .ok (.bipush 12, 2) := by decide +kernel
theorem dX0_init_16 : decode cX0_init 16 = .ok (.newarray .int, 2) := by decide +kernel
theorem dX0_init_18 : decode cX0_init 18 = .ok (.putfield 15, 3) := by decide +kernel
theorem dX0_init_21 : decode cX0_init 21 = .ok (.aload_n 0, 1) := by decide +kernel
theorem dX0_init_22 : decode cX0_init 22 = .ok (.new 18, 3) := by decide +kernel
theorem dX0_init_25 : decode cX0_init 25 = .ok (.dup, 1) := by decide +kernel
theorem dX0_init_26 : decode cX0_init 26 = .ok (.invokespecial 20, 3) := by decide +kernel
theorem dX0_init_29 : decode cX0_init 29 = .ok (.putfield 21, 3) := by decide +kernel
theorem dX0_init_32 : decode cX0_init 32 = .ok (.aload_n 0, 1) := by decide +kernel
theorem dX0_init_33 : decode cX0_init 33 = .ok (.getfield 9, 3) := by decide +kernel
theorem dX0_init_36 : decode cX0_init 36 = .ok (.iconst (-1), 1) := by decide +kernel
theorem dX0_init_37 : decode cX0_init 37 = .ok (.invokestatic 25, 3) := by decide +kernel
theorem dX0_init_40 : decode cX0_init 40 = .ok (.return_, 1) := by decide +kernel
theorem dX0_begin_0 : decode cX0_begin 0 = .ok (.aload_n 0, 1) := by decide +kernel
theorem dX0_begin_1 : decode cX0_begin 1 = .ok (.getfield 21, 3) := by decide +kernel
theorem dX0_begin_4 : decode cX0_begin 4 = .ok (.astore_n 3, 1) := by decide +kernel
theorem dX0_begin_5 : decode cX0_begin 5 = .ok (.aload_n 0, 1) := by decide +kernel
theorem dX0_begin_6 : decode cX0_begin 6 = .ok (.aload_n 1, 1) := by decide +kernel
theorem dX0_begin_7 : decode cX0_begin 7 = .ok (.putfield 21, 3) := by decide +kernel
theorem dX0_begin_10 : decode cX0_begin 10 = .ok (.aload_n 0, 1) := by decide +kernel
theorem dX0_begin_11 : decode cX0_begin 11 = .ok (.iload_n 2, 1) := by decide +kernel
theorem dX0_begin_12 : decode cX0_begin 12 = .ok (.putfield 31, 3) := by decide +kernel
theorem dX0_begin_15 : decode cX0_begin 15 = .ok (.aload_n 0, 1) := by decide +kernel
theorem dX0_begin_16 : decode cX0_begin 16 = .ok (.iconst 0, 1) := by decide +kernel
theorem dX0_begin_17 : decode cX0_begin 17 = .ok (.putfield 35, 3) := by decide +kernel
theorem dX0_begin_20 : decode cX0_begin 20 = .ok (.aload_n 0, 1) := by decide +kernel
theorem dX0_begin_21 : decode cX0_begin 21 = .ok (.getfield 9, 3) := by decide +kernel
theorem dX0_begin_24 : decode cX0_begin 24 = .ok (.iconst (-1), 1) := by decide +kernel
theorem dX0_begin_25 : decode cX0_begin 25 = .ok (.invokestatic 25, 3) := by decide +kernel
theorem dX0_begin_28 : decode cX0_begin 28 = .ok (.aload_n 0, 1) := by decide +kernel
theorem dX0_begin_29 : decode cX0_begin 29 = .ok (.getfield 15, 3) := by decide +kernel
theorem dX0_begin_32 : decode cX0_begin 32 = .ok (.iconst 0, 1) := by decide +kernel
theorem dX0_begin_33 : decode cX0_begin 33 = .ok (.invokestatic 25, 3) := by decide +kernel
theorem dX0_begin_36 : decode cX0_begin 36 = .ok (.aload_n 3, 1) := by decide +kernel
theorem dX0_begin_37 : decode cX0_begin 37 = .ok (.areturn, 1) := by decide +kernel
theorem dX0_equations_0 : decode cX0_equations 0 = .ok (.aload_n 0, 1) := by decide +kernel
theorem dX0_equations_1 : decode cX0_equations 1 = .ok (.getfield 21, 3) := by decide +kernel
theorem dX0_equations_4 : decode cX0_equations 4 = .ok (.invokevirtual 38, 3) := by decide +kernel
theorem dX0_equations_7 : decode cX0_equations 7 = .ok (.invokestatic 42, 3) := by decide +kernel
theorem dX0_equations_10 : decode cX0_equations 10 = .ok (.ireturn, 1) := by decide +kernel
theorem dX0_terms_0 : decode cX0_terms 0 = .ok (.aload_n 0, 1) := by decide +kernel
theorem dX0_terms_1 : decode cX0_terms 1 = .ok (.getfield 21, 3) := by decide +kernel
theorem dX0_terms_4 : decode cX0_terms 4 = .ok (.invokevirtual 48, 3) := by decide +kernel
theorem dX0_terms_7 : decode cX0_terms 7 = .ok (.ireturn, 1) := by decide +kernel
theorem dX0_resetState_0 : decode cX0_resetState 0 = .ok (.aload_n 0, 1) := by decide +kernel
theorem dX0_resetState_1 : decode cX0_resetState 1 = .ok (.getfield 31, 3) := by decide +kernel
theorem dX0_resetState_4 : decode cX0_resetState 4 = .ok (.ireturn, 1) := by decide +kernel
theorem dX0_isPair_0 : decode cX0_isPair 0 = .ok (.aload_n 0, 1) := by decide +kernel
theorem dX0_isPair_1 : decode cX0_isPair 1 = .ok (.getfield 15, 3) := by decide +kernel
theorem dX0_isPair_4 : decode cX0_isPair 4 = .ok (.iload_n 1, 1) := by decide +kernel
theorem dX0_isPair_5 : decode cX0_isPair 5 = .ok (.iaload, 1) := by decide +kernel
theorem dX0_isPair_6 : decode cX0_isPair 6 = .ok (.iload_n 2, 1) := by decide +kernel
theorem dX0_isPair_7 : decode cX0_isPair 7 = .ok (.invokestatic 51, 3) := by decide +kernel
theorem dX0_isPair_10 : decode cX0_isPair 10 = .ok (.ireturn, 1) := by decide +kernel
theorem dX0_turnPair_0 : decode cX0_turnPair 0 = .ok (.aload_n 0, 1) := by decide +kernel
theorem dX0_turnPair_1 : decode cX0_turnPair 1 = .ok (.getfield 15, 3) := by decide +kernel
theorem dX0_turnPair_4 : decode cX0_turnPair 4 = .ok (.iload_n 1, 1) := by decide +kernel
theorem dX0_turnPair_5 : decode cX0_turnPair 5 = .ok (.dup2, 1) := by decide +kernel
theorem dX0_turnPair_6 : decode cX0_turnPair 6 = .ok (.iaload, 1) := by decide +kernel
theorem dX0_turnPair_7 : decode cX0_turnPair 7 = .ok (.iconst 1, 1) := by decide +kernel
theorem dX0_turnPair_8 : decode cX0_turnPair 8 = .ok (.iload_n 2, 1) := by decide +kernel
theorem dX0_turnPair_9 : decode cX0_turnPair 9 = .ok (.ishl, 1) := by decide +kernel
theorem dX0_turnPair_10 : decode cX0_turnPair 10 = .ok (.ixor, 1) := by decide +kernel
theorem dX0_turnPair_11 : decode cX0_turnPair 11 = .ok (.iastore, 1) := by decide +kernel
theorem dX0_turnPair_12 : decode cX0_turnPair 12 = .ok (.aload_n 0, 1) := by decide +kernel
theorem dX0_turnPair_13 : decode cX0_turnPair 13 = .ok (.getfield 15, 3) := by decide +kernel
theorem dX0_turnPair_16 : decode cX0_turnPair 16 = .ok (.iload_n 2, 1) := by decide +kernel
theorem dX0_turnPair_17 : decode cX0_turnPair 17 = .ok (.dup2, 1) := by decide +kernel
theorem dX0_turnPair_18 : decode cX0_turnPair 18 = .ok (.iaload, 1) := by decide +kernel
theorem dX0_turnPair_19 : decode cX0_turnPair 19 = .ok (.iconst 1, 1) := by decide +kernel
theorem dX0_turnPair_20 : decode cX0_turnPair 20 = .ok (.iload_n 1, 1) := by decide +kernel
theorem dX0_turnPair_21 : decode cX0_turnPair 21 = .ok (.ishl, 1) := by decide +kernel
theorem dX0_turnPair_22 : decode cX0_turnPair 22 = .ok (.ixor, 1) := by decide +kernel
theorem dX0_turnPair_23 : decode cX0_turnPair 23 = .ok (.iastore, 1) := by decide +kernel
theorem dX0_turnPair_24 : decode cX0_turnPair 24 = .ok (.return_, 1) := by decide +kernel
theorem dX0_isStuck_0 : decode cX0_isStuck 0 = .ok (.aload_n 0, 1) := by decide +kernel
theorem dX0_isStuck_1 : decode cX0_isStuck 1 = .ok (.getfield 35, 3) := by decide +kernel
theorem dX0_isStuck_4 : decode cX0_isStuck 4 = .ok (.iload_n 1, 1) := by decide +kernel
theorem dX0_isStuck_5 : decode cX0_isStuck 5 = .ok (.invokestatic 51, 3) := by decide +kernel
theorem dX0_isStuck_8 : decode cX0_isStuck 8 = .ok (.ireturn, 1) := by decide +kernel
theorem dX0_turnStuck_0 : decode cX0_turnStuck 0 = .ok (.aload_n 0, 1) := by decide +kernel
theorem dX0_turnStuck_1 : decode cX0_turnStuck 1 = .ok (.dup, 1) := by decide +kernel
theorem dX0_turnStuck_2 : decode cX0_turnStuck 2 = .ok (.getfield 35, 3) := by decide +kernel
theorem dX0_turnStuck_5 : decode cX0_turnStuck 5 = .ok (.iconst 1, 1) := by decide +kernel
theorem dX0_turnStuck_6 : decode cX0_turnStuck 6 = .ok (.iload_n 1, 1) := by decide +kernel
theorem dX0_turnStuck_7 : decode cX0_turnStuck 7 = .ok (.ishl, 1) := by decide +kernel
theorem dX0_turnStuck_8 : decode cX0_turnStuck 8 = .ok (.ixor, 1) := by decide +kernel
theorem dX0_turnStuck_9 : decode cX0_turnStuck 9 = .ok (.putfield 35, 3) := by decide +kernel
theorem dX0_turnStuck_12 : decode cX0_turnStuck 12 = .ok (.return_, 1) := by decide +kernel
theorem dX0_askedIn_0 : decode cX0_askedIn 0 = .ok (.aload_n 0, 1) := by decide +kernel
theorem dX0_askedIn_1 : decode cX0_askedIn 1 = .ok (.getfield 9, 3) := by decide +kernel
theorem dX0_askedIn_4 : decode cX0_askedIn 4 = .ok (.iload_n 1, 1) := by decide +kernel
theorem dX0_askedIn_5 : decode cX0_askedIn 5 = .ok (.iaload, 1) := by decide +kernel
theorem dX0_askedIn_6 : decode cX0_askedIn 6 = .ok (.iconst (-1), 1) := by decide +kernel
theorem dX0_askedIn_7 : decode cX0_askedIn 7 = .ok (.if_icmp .ne 17, 3) := by decide +kernel
theorem dX0_askedIn_10 : decode cX0_askedIn 10 = .ok (.aload_n 0, 1) := by decide +kernel
theorem dX0_askedIn_11 : decode cX0_askedIn 11 = .ok (.getfield 9, 3) := by decide +kernel
theorem dX0_askedIn_14 : decode cX0_askedIn 14 = .ok (.iload_n 1, 1) := by decide +kernel
theorem dX0_askedIn_15 : decode cX0_askedIn 15 = .ok (.aload_n 0, 1) := by decide +kernel
theorem dX0_askedIn_16 : decode cX0_askedIn 16 = .ok (.getfield 21, 3) := by decide +kernel
theorem dX0_askedIn_19 : decode cX0_askedIn 19 = .ok (.iload_n 1, 1) := by decide +kernel
theorem dX0_askedIn_20 : decode cX0_askedIn 20 = .ok (.invokevirtual 55, 3) := by decide +kernel
theorem dX0_askedIn_23 : decode cX0_askedIn 23 = .ok (.iastore, 1) := by decide +kernel
theorem dX0_askedIn_24 : decode cX0_askedIn 24 = .ok (.aload_n 0, 1) := by decide +kernel
theorem dX0_askedIn_25 : decode cX0_askedIn 25 = .ok (.getfield 9, 3) := by decide +kernel
theorem dX0_askedIn_28 : decode cX0_askedIn 28 = .ok (.iload_n 1, 1) := by decide +kernel
theorem dX0_askedIn_29 : decode cX0_askedIn 29 = .ok (.iaload, 1) := by decide +kernel
theorem dX0_askedIn_30 : decode cX0_askedIn 30 = .ok (.iload_n 1, 1) := by decide +kernel
theorem dX0_askedIn_31 : decode cX0_askedIn 31 = .ok (.ixor, 1) := by decide +kernel
theorem dX0_askedIn_32 : decode cX0_askedIn 32 = .ok (.aload_n 0, 1) := by decide +kernel
theorem dX0_askedIn_33 : decode cX0_askedIn 33 = .ok (.getfield 21, 3) := by decide +kernel
theorem dX0_askedIn_36 : decode cX0_askedIn 36 = .ok (.invokevirtual 38, 3) := by decide +kernel
theorem dX0_askedIn_39 : decode cX0_askedIn 39 = .ok (.iand, 1) := by decide +kernel
theorem dX0_askedIn_40 : decode cX0_askedIn 40 = .ok (.aload_n 0, 1) := by decide +kernel
theorem dX0_askedIn_41 : decode cX0_askedIn 41 = .ok (.getfield 35, 3) := by decide +kernel
theorem dX0_askedIn_44 : decode cX0_askedIn 44 = .ok (.iconst (-1), 1) := by decide +kernel
theorem dX0_askedIn_45 : decode cX0_askedIn 45 = .ok (.ixor, 1) := by decide +kernel
theorem dX0_askedIn_46 : decode cX0_askedIn 46 = .ok (.iand, 1) := by decide +kernel
theorem dX0_askedIn_47 : decode cX0_askedIn 47 = .ok (.ireturn, 1) := by decide +kernel
theorem dX0_takenBackBy_0 : decode cX0_takenBackBy 0 = .ok (.aload_n 0, 1) := by decide +kernel
theorem dX0_takenBackBy_1 : decode cX0_takenBackBy 1 = .ok (.iload_n 2, 1) := by decide +kernel
theorem dX0_takenBackBy_2 : decode cX0_takenBackBy 2 = .ok (.invokevirtual 58, 3) := by decide +kernel
theorem dX0_takenBackBy_5 : decode cX0_takenBackBy 5 = .ok (.iconst 1, 1) := by decide +kernel
theorem dX0_takenBackBy_6 : decode cX0_takenBackBy 6 = .ok (.iload_n 1, 1) := by decide +kernel
theorem dX0_takenBackBy_7 : decode cX0_takenBackBy 7 = .ok (.ishl, 1) := by decide +kernel
theorem dX0_takenBackBy_8 : decode cX0_takenBackBy 8 = .ok (.iconst (-1), 1) := by decide +kernel
theorem dX0_takenBackBy_9 : decode cX0_takenBackBy 9 = .ok (.ixor, 1) := by decide +kernel
theorem dX0_takenBackBy_10 : decode cX0_takenBackBy 10 = .ok (.iand, 1) := by decide +kernel
theorem dX0_takenBackBy_11 : decode cX0_takenBackBy 11 = .ok (.aload_n 0, 1) := by decide +kernel
theorem dX0_takenBackBy_12 : decode cX0_takenBackBy 12 = .ok (.getfield 15, 3) := by decide +kernel
theorem dX0_takenBackBy_15 : decode cX0_takenBackBy 15 = .ok (.iload_n 1, 1) := by decide +kernel
theorem dX0_takenBackBy_16 : decode cX0_takenBackBy 16 = .ok (.iaload, 1) := by decide +kernel
theorem dX0_takenBackBy_17 : decode cX0_takenBackBy 17 = .ok (.iconst (-1), 1) := by decide +kernel
theorem dX0_takenBackBy_18 : decode cX0_takenBackBy 18 = .ok (.ixor, 1) := by decide +kernel
theorem dX0_takenBackBy_19 : decode cX0_takenBackBy 19 = .ok (.iand, 1) := by decide +kernel
theorem dX0_takenBackBy_20 : decode cX0_takenBackBy 20 = .ok (.istore_n 3, 1) := by decide +kernel
theorem dX0_takenBackBy_21 : decode cX0_takenBackBy 21 = .ok (.iload_n 3, 1) := by decide +kernel
theorem dX0_takenBackBy_22 : decode cX0_takenBackBy 22 = .ok (.aload_n 0, 1) := by decide +kernel
theorem dX0_takenBackBy_23 : decode cX0_takenBackBy 23 = .ok (.iload_n 2, 1) := by decide +kernel
theorem dX0_takenBackBy_24 : decode cX0_takenBackBy 24 = .ok (.iconst 1, 1) := by decide +kernel
theorem dX0_takenBackBy_25 : decode cX0_takenBackBy 25 = .ok (.iload_n 1, 1) := by decide +kernel
theorem dX0_takenBackBy_26 : decode cX0_takenBackBy 26 = .ok (.ishl, 1) := by decide +kernel
theorem dX0_takenBackBy_27 : decode cX0_takenBackBy 27 = .ok (.ixor, 1) := by decide +kernel
theorem dX0_takenBackBy_28 : decode cX0_takenBackBy 28 = .ok (.invokevirtual 58, 3) := by decide +kernel
theorem dX0_takenBackBy_31 : decode cX0_takenBackBy 31 = .ok (.iconst (-1), 1) := by decide +kernel
theorem dX0_takenBackBy_32 : decode cX0_takenBackBy 32 = .ok (.ixor, 1) := by decide +kernel
theorem dX0_takenBackBy_33 : decode cX0_takenBackBy 33 = .ok (.iand, 1) := by decide +kernel
theorem dX0_takenBackBy_34 : decode cX0_takenBackBy 34 = .ok (.ireturn, 1) := by decide +kernel
theorem dX0_runByLots_0 : decode cX0_runByLots 0 = .ok (.aload 4, 2) := by decide +kernel
theorem dX0_runByLots_2 : decode cX0_runByLots 2 = .ok (.iconst 0, 1) := by decide +kernel
theorem dX0_runByLots_3 : decode cX0_runByLots 3 = .ok (.invokestatic 25, 3) := by decide +kernel
theorem dX0_runByLots_6 : decode cX0_runByLots 6 = .ok (.aload_n 0, 1) := by decide +kernel
theorem dX0_runByLots_7 : decode cX0_runByLots 7 = .ok (.getfield 31, 3) := by decide +kernel
theorem dX0_runByLots_10 : decode cX0_runByLots 10 = .ok (.istore 5, 2) := by decide +kernel
theorem dX0_runByLots_12 : decode cX0_runByLots 12 = .ok (.lload_n 2, 1) := by decide +kernel
theorem dX0_runByLots_13 : decode cX0_runByLots 13 = .ok (.lstore 6, 2) := by decide +kernel
theorem dX0_runByLots_15 : decode cX0_runByLots 15 = .ok (.iconst 0, 1) := by decide +kernel
theorem dX0_runByLots_16 : decode cX0_runByLots 16 = .ok (.istore 8, 2) := by decide +kernel
theorem dX0_runByLots_18 : decode cX0_runByLots 18 = .ok (.iload 8, 2) := by decide +kernel
theorem dX0_runByLots_20 : decode cX0_runByLots 20 = .ok (.iload_n 1, 1) := by decide +kernel
theorem dX0_runByLots_21 : decode cX0_runByLots 21 = .ok (.if_icmp .ge 79, 3) := by decide +kernel
theorem dX0_runByLots_24 : decode cX0_runByLots 24 = .ok (.aload_n 0, 1) := by decide +kernel
theorem dX0_runByLots_25 : decode cX0_runByLots 25 = .ok (.iload 5, 2) := by decide +kernel
theorem dX0_runByLots_27 : decode cX0_runByLots 27 = .ok (.invokevirtual 58, 3) := by decide +kernel
theorem dX0_runByLots_30 : decode cX0_runByLots 30 = .ok (.istore 9, 2) := by decide +kernel
theorem dX0_runByLots_32 : decode cX0_runByLots 32 = .ok (.iload 9, 2) := by decide +kernel
theorem dX0_runByLots_34 : decode cX0_runByLots 34 = .ok (.invokestatic 42, 3) := by decide +kernel
theorem dX0_runByLots_37 : decode cX0_runByLots 37 = .ok (.istore 10, 2) := by decide +kernel
theorem dX0_runByLots_39 : decode cX0_runByLots 39 = .ok (.iload 10, 2) := by decide +kernel
theorem dX0_runByLots_41 : decode cX0_runByLots 41 = .ok (.ifCond .ne 6, 3) := by decide +kernel
theorem dX0_runByLots_44 : decode cX0_runByLots 44 = .ok (.goto 56, 3) := by decide +kernel
theorem dX0_runByLots_47 : decode cX0_runByLots 47 = .ok (.lload 6, 2) := by decide +kernel
theorem dX0_runByLots_49 : decode cX0_runByLots 49 = .ok (.ldc2_w 61, 3) := by decide +kernel
theorem dX0_runByLots_52 : decode cX0_runByLots 52 = .ok (.lmul, 1) := by decide +kernel
theorem dX0_runByLots_53 : decode cX0_runByLots 53 = .ok (.ldc2_w 63, 3) := by decide +kernel
theorem dX0_runByLots_56 : decode cX0_runByLots 56 = .ok (.ladd, 1) := by decide +kernel
theorem dX0_runByLots_57 : decode cX0_runByLots 57 = .ok (.lstore 6, 2) := by decide +kernel
theorem dX0_runByLots_59 : decode cX0_runByLots 59 = .ok (.iload 9, 2) := by decide +kernel
theorem dX0_runByLots_61 : decode cX0_runByLots 61 = .ok (.lload 6, 2) := by decide +kernel
theorem dX0_runByLots_63 : decode cX0_runByLots 63 = .ok (.bipush 33, 2) := by decide +kernel
theorem dX0_runByLots_65 : decode cX0_runByLots 65 = .ok (.lushr, 1) := by decide +kernel
theorem dX0_runByLots_66 : decode cX0_runByLots 66 = .ok (.iload 10, 2) := by decide +kernel
theorem dX0_runByLots_68 : decode cX0_runByLots 68 = .ok (.i2l, 1) := by decide +kernel
theorem dX0_runByLots_69 : decode cX0_runByLots 69 = .ok (.lrem, 1) := by decide +kernel
theorem dX0_runByLots_70 : decode cX0_runByLots 70 = .ok (.l2i, 1) := by decide +kernel
theorem dX0_runByLots_71 : decode cX0_runByLots 71 = .ok (.invokestatic 65, 3) := by decide +kernel
theorem dX0_runByLots_74 : decode cX0_runByLots 74 = .ok (.istore 11, 2) := by decide +kernel
theorem dX0_runByLots_76 : decode cX0_runByLots 76 = .ok (.iload 5, 2) := by decide +kernel
theorem dX0_runByLots_78 : decode cX0_runByLots 78 = .ok (.iconst 1, 1) := by decide +kernel
theorem dX0_runByLots_79 : decode cX0_runByLots 79 = .ok (.iload 11, 2) := by decide +kernel
theorem dX0_runByLots_81 : decode cX0_runByLots 81 = .ok (.ishl, 1) := by decide +kernel
theorem dX0_runByLots_82 : decode cX0_runByLots 82 = .ok (.ixor, 1) := by decide +kernel
theorem dX0_runByLots_83 : decode cX0_runByLots 83 = .ok (.istore 5, 2) := by decide +kernel
theorem dX0_runByLots_85 : decode cX0_runByLots 85 = .ok (.aload 4, 2) := by decide +kernel
theorem dX0_runByLots_87 : decode cX0_runByLots 87 = .ok (.iload 11, 2) := by decide +kernel
theorem dX0_runByLots_89 : decode cX0_runByLots 89 = .ok (.dup2, 1) := by decide +kernel
theorem dX0_runByLots_90 : decode cX0_runByLots 90 = .ok (.iaload, 1) := by decide +kernel
theorem dX0_runByLots_91 : decode cX0_runByLots 91 = .ok (.iconst 1, 1) := by decide +kernel
theorem dX0_runByLots_92 : decode cX0_runByLots 92 = .ok (.iadd, 1) := by decide +kernel
theorem dX0_runByLots_93 : decode cX0_runByLots 93 = .ok (.iastore, 1) := by decide +kernel
theorem dX0_runByLots_94 : decode cX0_runByLots 94 = .ok (.iinc 8 1, 3) := by decide +kernel
theorem dX0_runByLots_97 : decode cX0_runByLots 97 = .ok (.goto (-79), 3) := by decide +kernel
theorem dX0_runByLots_100 : decode cX0_runByLots 100 = .ok (.iload 5, 2) := by decide +kernel
theorem dX0_runByLots_102 : decode cX0_runByLots 102 = .ok (.ireturn, 1) := by decide +kernel
theorem dX0_signalInPlace_0 : decode cX0_signalInPlace 0 = .ok (.iconst 0, 1) := by decide +kernel
theorem dX0_signalInPlace_1 : decode cX0_signalInPlace 1 = .ok (.istore_n 2, 1) := by decide +kernel
theorem dX0_signalInPlace_2 : decode cX0_signalInPlace 2 = .ok (.iconst 0, 1) := by decide +kernel
theorem dX0_signalInPlace_3 : decode cX0_signalInPlace 3 = .ok (.istore_n 3, 1) := by decide +kernel
theorem dX0_signalInPlace_4 : decode cX0_signalInPlace 4 = .ok (.iload_n 3, 1) := by decide +kernel
theorem dX0_signalInPlace_5 : decode cX0_signalInPlace 5 = .ok (.bipush 12, 2) := by decide +kernel
theorem dX0_signalInPlace_7 : decode cX0_signalInPlace 7 = .ok (.if_icmp .ge 27, 3) := by decide +kernel
theorem dX0_signalInPlace_10 : decode cX0_signalInPlace 10 = .ok (.iload_n 0, 1) := by decide +kernel
theorem dX0_signalInPlace_11 : decode cX0_signalInPlace 11 = .ok (.iload_n 3, 1) := by decide +kernel
theorem dX0_signalInPlace_12 : decode cX0_signalInPlace 12 = .ok (.invokestatic 51, 3) := by decide +kernel
theorem dX0_signalInPlace_15 : decode cX0_signalInPlace 15 = .ok (.ifCond .eq 13, 3) := by decide +kernel
theorem dX0_signalInPlace_18 : decode cX0_signalInPlace 18 = .ok (.iload_n 2, 1) := by decide +kernel
theorem dX0_signalInPlace_19 : decode cX0_signalInPlace 19 = .ok (.iload_n 1, 1) := by decide +kernel
theorem dX0_signalInPlace_20 : decode cX0_signalInPlace 20 = .ok (.if_icmp .ne 5, 3) := by decide +kernel
theorem dX0_signalInPlace_23 : decode cX0_signalInPlace 23 = .ok (.iload_n 3, 1) := by decide +kernel
theorem dX0_signalInPlace_24 : decode cX0_signalInPlace 24 = .ok (.ireturn, 1) := by decide +kernel
theorem dX0_signalInPlace_25 : decode cX0_signalInPlace 25 = .ok (.iinc 2 1, 3) := by decide +kernel
theorem dX0_signalInPlace_28 : decode cX0_signalInPlace 28 = .ok (.iinc 3 1, 3) := by decide +kernel
theorem dX0_signalInPlace_31 : decode cX0_signalInPlace 31 = .ok (.goto (-27), 3) := by decide +kernel
theorem dX0_signalInPlace_34 : decode cX0_signalInPlace 34 = .ok (.iconst 0, 1) := by decide +kernel
theorem dX0_signalInPlace_35 : decode cX0_signalInPlace 35 = .ok (.ireturn, 1) := by decide +kernel
theorem dX1_init_0 : decode cX1_init 0 = .ok (.aload_n 0, 1) := by decide +kernel
theorem dX1_init_1 : decode cX1_init 1 = .ok (.invokespecial 3, 3) := by decide +kernel
theorem dX1_init_4 : decode cX1_init 4 = .ok (.aload_n 0, 1) := by decide +kernel
theorem dX1_init_5 : decode cX1_init 5 = .ok (.sipush 144, 3) := by decide +kernel
theorem dX1_init_8 : decode cX1_init 8 = .ok (.newarray .int, 2) := by decide +kernel
theorem dX1_init_10 : decode cX1_init 10 = .ok (.putfield 9, 3) := by decide +kernel
theorem dX1_init_13 : decode cX1_init 13 = .ok (.aload_n 0, 1) := by decide +kernel
theorem dX1_init_14 : decode cX1_init 14 = .ok (.sipush 144, 3) := by decide +kernel
theorem dX1_init_17 : decode cX1_init 17 = .ok (.newarray .int, 2) := by decide +kernel
theorem dX1_init_19 : decode cX1_init 19 = .ok (.putfield 15, 3) := by decide +kernel
theorem dX1_init_22 : decode cX1_init 22 = .ok (.aload_n 0, 1) := by decide +kernel
theorem dX1_init_23 : decode cX1_init 23 = .ok (.sipush 144, 3) := by decide +kernel
theorem dX1_init_26 : decode cX1_init 26 = .ok (.newarray .int, 2) := by decide +kernel
theorem dX1_init_28 : decode cX1_init 28 = .ok (.putfield 18, 3) := by decide +kernel
theorem dX1_init_31 : decode cX1_init 31 = .ok (.return_, 1) := by decide +kernel
theorem dX1_removeAll_0 : decode cX1_removeAll 0 = .ok (.aload_n 0, 1) := by decide +kernel
theorem dX1_removeAll_1 : decode cX1_removeAll 1 = .ok (.iconst 0, 1) := by decide +kernel
theorem dX1_removeAll_2 : decode cX1_removeAll 2 = .ok (.putfield 21, 3) := by decide +kernel
theorem dX1_removeAll_5 : decode cX1_removeAll 5 = .ok (.aload_n 0, 1) := by decide +kernel
theorem dX1_removeAll_6 : decode cX1_removeAll 6 = .ok (.iconst 0, 1) := by decide +kernel
theorem dX1_removeAll_7 : decode cX1_removeAll 7 = .ok (.putfield 25, 3) := by decide +kernel
theorem dX1_removeAll_10 : decode cX1_removeAll 10 = .ok (.return_, 1) := by decide +kernel
theorem dX1_has_0 : decode cX1_has 0 = .ok (.aload_n 0, 1) := by decide +kernel
theorem dX1_has_1 : decode cX1_has 1 = .ok (.getfield 25, 3) := by decide +kernel
theorem dX1_has_4 : decode cX1_has 4 = .ok (.iload_n 1, 1) := by decide +kernel
theorem dX1_has_5 : decode cX1_has 5 = .ok (.invokestatic 28, 3) := by decide +kernel
theorem dX1_has_8 : decode cX1_has 8 = .ok (.ireturn, 1) := by decide +kernel
theorem dX1_addEquation_0 : decode cX1_addEquation 0 = .ok (.aload_n 0, 1) := by decide +kernel
theorem dX1_addEquation_1 : decode cX1_addEquation 1 = .ok (.dup, 1) := by decide +kernel
theorem dX1_addEquation_2 : decode cX1_addEquation 2 = .ok (.getfield 25, 3) := by decide +kernel
theorem dX1_addEquation_5 : decode cX1_addEquation 5 = .ok (.iconst 1, 1) := by decide +kernel
theorem dX1_addEquation_6 : decode cX1_addEquation 6 = .ok (.iload_n 1, 1) := by decide +kernel
theorem dX1_addEquation_7 : decode cX1_addEquation 7 = .ok (.ishl, 1) := by decide +kernel
theorem dX1_addEquation_8 : decode cX1_addEquation 8 = .ok (.ior, 1) := by decide +kernel
theorem dX1_addEquation_9 : decode cX1_addEquation 9 = .ok (.putfield 25, 3) := by decide +kernel
theorem dX1_addEquation_12 : decode cX1_addEquation 12 = .ok (.return_, 1) := by decide +kernel
theorem dX1_addConstant_0 : decode cX1_addConstant 0 = .ok (.iload_n 2, 1) := by decide +kernel
theorem dX1_addConstant_1 : decode cX1_addConstant 1 = .ok (.ifCond .eq 7, 3) := by decide +kernel
theorem dX1_addConstant_4 : decode cX1_addConstant 4 = .ok (.iconst 0, 1) := by decide +kernel
theorem dX1_addConstant_5 : decode cX1_addConstant 5 = .ok (.goto 4, 3) := by decide +kernel
theorem dX1_addConstant_8 : decode cX1_addConstant 8 = .ok (.iconst 1, 1) := by decide +kernel
theorem dX1_addConstant_9 : decode cX1_addConstant 9 = .ok (.istore_n 3, 1) := by decide +kernel
theorem dX1_addConstant_10 : decode cX1_addConstant 10 = .ok (.aload_n 0, 1) := by decide +kernel
theorem dX1_addConstant_11 : decode cX1_addConstant 11 = .ok (.iload_n 1, 1) := by decide +kernel
theorem dX1_addConstant_12 : decode cX1_addConstant 12 = .ok (.iload_n 3, 1) := by decide +kernel
theorem dX1_addConstant_13 : decode cX1_addConstant 13 = .ok (.iload_n 3, 1) := by decide +kernel
theorem dX1_addConstant_14 : decode cX1_addConstant 14 = .ok (.invokevirtual 32, 3) := by decide +kernel
theorem dX1_addConstant_17 : decode cX1_addConstant 17 = .ok (.return_, 1) := by decide +kernel
theorem dX1_addTerm_0 : decode cX1_addTerm 0 = .ok (.aload_n 0, 1) := by decide +kernel
theorem dX1_addTerm_1 : decode cX1_addTerm 1 = .ok (.getfield 21, 3) := by decide +kernel
theorem dX1_addTerm_4 : decode cX1_addTerm 4 = .ok (.aload_n 0, 1) := by decide +kernel
theorem dX1_addTerm_5 : decode cX1_addTerm 5 = .ok (.getfield 9, 3) := by decide +kernel
theorem dX1_addTerm_8 : decode cX1_addTerm 8 = .ok (.arraylength, 1) := by decide +kernel
theorem dX1_addTerm_9 : decode cX1_addTerm 9 = .ok (.if_icmp .ge 43, 3) := by decide +kernel
theorem dX1_addTerm_12 : decode cX1_addTerm 12 = .ok (.aload_n 0, 1) := by decide +kernel
theorem dX1_addTerm_13 : decode cX1_addTerm 13 = .ok (.getfield 9, 3) := by decide +kernel
theorem dX1_addTerm_16 : decode cX1_addTerm 16 = .ok (.aload_n 0, 1) := by decide +kernel
theorem dX1_addTerm_17 : decode cX1_addTerm 17 = .ok (.getfield 21, 3) := by decide +kernel
theorem dX1_addTerm_20 : decode cX1_addTerm 20 = .ok (.iload_n 1, 1) := by decide +kernel
theorem dX1_addTerm_21 : decode cX1_addTerm 21 = .ok (.iastore, 1) := by decide +kernel
theorem dX1_addTerm_22 : decode cX1_addTerm 22 = .ok (.aload_n 0, 1) := by decide +kernel
theorem dX1_addTerm_23 : decode cX1_addTerm 23 = .ok (.getfield 15, 3) := by decide +kernel
theorem dX1_addTerm_26 : decode cX1_addTerm 26 = .ok (.aload_n 0, 1) := by decide +kernel
theorem dX1_addTerm_27 : decode cX1_addTerm 27 = .ok (.getfield 21, 3) := by decide +kernel
theorem dX1_addTerm_30 : decode cX1_addTerm 30 = .ok (.iload_n 2, 1) := by decide +kernel
theorem dX1_addTerm_31 : decode cX1_addTerm 31 = .ok (.iastore, 1) := by decide +kernel
theorem dX1_addTerm_32 : decode cX1_addTerm 32 = .ok (.aload_n 0, 1) := by decide +kernel
theorem dX1_addTerm_33 : decode cX1_addTerm 33 = .ok (.getfield 18, 3) := by decide +kernel
theorem dX1_addTerm_36 : decode cX1_addTerm 36 = .ok (.aload_n 0, 1) := by decide +kernel
theorem dX1_addTerm_37 : decode cX1_addTerm 37 = .ok (.getfield 21, 3) := by decide +kernel
theorem dX1_addTerm_40 : decode cX1_addTerm 40 = .ok (.iload_n 3, 1) := by decide +kernel
theorem dX1_addTerm_41 : decode cX1_addTerm 41 = .ok (.iastore, 1) := by decide +kernel
theorem dX1_addTerm_42 : decode cX1_addTerm 42 = .ok (.aload_n 0, 1) := by decide +kernel
theorem dX1_addTerm_43 : decode cX1_addTerm 43 = .ok (.dup, 1) := by decide +kernel
theorem dX1_addTerm_44 : decode cX1_addTerm 44 = .ok (.getfield 21, 3) := by decide +kernel
theorem dX1_addTerm_47 : decode cX1_addTerm 47 = .ok (.iconst 1, 1) := by decide +kernel
theorem dX1_addTerm_48 : decode cX1_addTerm 48 = .ok (.iadd, 1) := by decide +kernel
theorem dX1_addTerm_49 : decode cX1_addTerm 49 = .ok (.putfield 21, 3) := by decide +kernel
theorem dX1_addTerm_52 : decode cX1_addTerm 52 = .ok (.return_, 1) := by decide +kernel
theorem dX1_terms_0 : decode cX1_terms 0 = .ok (.aload_n 0, 1) := by decide +kernel
theorem dX1_terms_1 : decode cX1_terms 1 = .ok (.getfield 21, 3) := by decide +kernel
theorem dX1_terms_4 : decode cX1_terms 4 = .ok (.ireturn, 1) := by decide +kernel
theorem dX1_signals_0 : decode cX1_signals 0 = .ok (.aload_n 0, 1) := by decide +kernel
theorem dX1_signals_1 : decode cX1_signals 1 = .ok (.getfield 25, 3) := by decide +kernel
theorem dX1_signals_4 : decode cX1_signals 4 = .ok (.ireturn, 1) := by decide +kernel
theorem dX1_valuesIn_0 : decode cX1_valuesIn 0 = .ok (.iconst 0, 1) := by decide +kernel
theorem dX1_valuesIn_1 : decode cX1_valuesIn 1 = .ok (.istore_n 2, 1) := by decide +kernel
theorem dX1_valuesIn_2 : decode cX1_valuesIn 2 = .ok (.iconst 0, 1) := by decide +kernel
theorem dX1_valuesIn_3 : decode cX1_valuesIn 3 = .ok (.istore_n 3, 1) := by decide +kernel
theorem dX1_valuesIn_4 : decode cX1_valuesIn 4 = .ok (.iload_n 3, 1) := by decide +kernel
theorem dX1_valuesIn_5 : decode cX1_valuesIn 5 = .ok (.aload_n 0, 1) := by decide +kernel
theorem dX1_valuesIn_6 : decode cX1_valuesIn 6 = .ok (.getfield 21, 3) := by decide +kernel
theorem dX1_valuesIn_9 : decode cX1_valuesIn 9 = .ok (.if_icmp .ge 57, 3) := by decide +kernel
theorem dX1_valuesIn_12 : decode cX1_valuesIn 12 = .ok (.iload_n 3, 1) := by decide +kernel
theorem dX1_valuesIn_13 : decode cX1_valuesIn 13 = .ok (.aload_n 0, 1) := by decide +kernel
theorem dX1_valuesIn_14 : decode cX1_valuesIn 14 = .ok (.getfield 9, 3) := by decide +kernel
theorem dX1_valuesIn_17 : decode cX1_valuesIn 17 = .ok (.arraylength, 1) := by decide +kernel
theorem dX1_valuesIn_18 : decode cX1_valuesIn 18 = .ok (.if_icmp .ge 48, 3) := by decide +kernel
theorem dX1_valuesIn_21 : decode cX1_valuesIn 21 = .ok (.iload_n 1, 1) := by decide +kernel
theorem dX1_valuesIn_22 : decode cX1_valuesIn 22 = .ok (.aload_n 0, 1) := by decide +kernel
theorem dX1_valuesIn_23 : decode cX1_valuesIn 23 = .ok (.getfield 15, 3) := by decide +kernel
theorem dX1_valuesIn_26 : decode cX1_valuesIn 26 = .ok (.iload_n 3, 1) := by decide +kernel
theorem dX1_valuesIn_27 : decode cX1_valuesIn 27 = .ok (.iaload, 1) := by decide +kernel
theorem dX1_valuesIn_28 : decode cX1_valuesIn 28 = .ok (.iand, 1) := by decide +kernel
theorem dX1_valuesIn_29 : decode cX1_valuesIn 29 = .ok (.aload_n 0, 1) := by decide +kernel
theorem dX1_valuesIn_30 : decode cX1_valuesIn 30 = .ok (.getfield 15, 3) := by decide +kernel
theorem dX1_valuesIn_33 : decode cX1_valuesIn 33 = .ok (.iload_n 3, 1) := by decide +kernel
theorem dX1_valuesIn_34 : decode cX1_valuesIn 34 = .ok (.iaload, 1) := by decide +kernel
theorem dX1_valuesIn_35 : decode cX1_valuesIn 35 = .ok (.if_icmp .ne 25, 3) := by decide +kernel
theorem dX1_valuesIn_38 : decode cX1_valuesIn 38 = .ok (.iload_n 1, 1) := by decide +kernel
theorem dX1_valuesIn_39 : decode cX1_valuesIn 39 = .ok (.aload_n 0, 1) := by decide +kernel
theorem dX1_valuesIn_40 : decode cX1_valuesIn 40 = .ok (.getfield 18, 3) := by decide +kernel
theorem dX1_valuesIn_43 : decode cX1_valuesIn 43 = .ok (.iload_n 3, 1) := by decide +kernel
theorem dX1_valuesIn_44 : decode cX1_valuesIn 44 = .ok (.iaload, 1) := by decide +kernel
theorem dX1_valuesIn_45 : decode cX1_valuesIn 45 = .ok (.iand, 1) := by decide +kernel
theorem dX1_valuesIn_46 : decode cX1_valuesIn 46 = .ok (.ifCond .ne 14, 3) := by decide +kernel
theorem dX1_valuesIn_49 : decode cX1_valuesIn 49 = .ok (.iload_n 2, 1) := by decide +kernel
theorem dX1_valuesIn_50 : decode cX1_valuesIn 50 = .ok (.iconst 1, 1) := by decide +kernel
theorem dX1_valuesIn_51 : decode cX1_valuesIn 51 = .ok (.aload_n 0, 1) := by decide +kernel
theorem dX1_valuesIn_52 : decode cX1_valuesIn 52 = .ok (.getfield 9, 3) := by decide +kernel
theorem dX1_valuesIn_55 : decode cX1_valuesIn 55 = .ok (.iload_n 3, 1) := by decide +kernel
theorem dX1_valuesIn_56 : decode cX1_valuesIn 56 = .ok (.iaload, 1) := by decide +kernel
theorem dX1_valuesIn_57 : decode cX1_valuesIn 57 = .ok (.ishl, 1) := by decide +kernel
theorem dX1_valuesIn_58 : decode cX1_valuesIn 58 = .ok (.ior, 1) := by decide +kernel
theorem dX1_valuesIn_59 : decode cX1_valuesIn 59 = .ok (.istore_n 2, 1) := by decide +kernel
theorem dX1_valuesIn_60 : decode cX1_valuesIn 60 = .ok (.iinc 3 1, 3) := by decide +kernel
theorem dX1_valuesIn_63 : decode cX1_valuesIn 63 = .ok (.goto (-59), 3) := by decide +kernel
theorem dX1_valuesIn_66 : decode cX1_valuesIn 66 = .ok (.iload_n 2, 1) := by decide +kernel
theorem dX1_valuesIn_67 : decode cX1_valuesIn 67 = .ok (.ireturn, 1) := by decide +kernel
theorem dX2_init_0 : decode cX2_init 0 = .ok (.aload_n 0, 1) := by decide +kernel
theorem dX2_init_1 : decode cX2_init 1 = .ok (.invokespecial 3, 3) := by decide +kernel
theorem dX2_init_4 : decode cX2_init 4 = .ok (.aload_n 0, 1) := by decide +kernel
theorem dX2_init_5 : decode cX2_init 5 = .ok (.sipush 4096, 3) := by decide +kernel
theorem dX2_init_8 : decode cX2_init 8 = .ok (.newarray .int, 2) := by decide +kernel
theorem dX2_init_10 : decode cX2_init 10 = .ok (.putfield 9, 3) := by decide +kernel
theorem dX2_init_13 : decode cX2_init 13 = .ok (.aload_n 0, 1) := by decide +kernel
theorem dX2_init_14 : decode cX2_init 14 = .ok (.aload_n 1, 1) := by decide +kernel
theorem dX2_init_15 : decode cX2_init 15 = .ok (.putfield 15, 3) := by decide +kernel
theorem dX2_init_18 : decode cX2_init 18 = .ok (.aload_n 0, 1) := by decide +kernel
theorem dX2_init_19 : decode cX2_init 19 = .ok (.aload_n 2, 1) := by decide +kernel
theorem dX2_init_20 : decode cX2_init 20 = .ok (.putfield 19, 3) := by decide +kernel
theorem dX2_init_23 : decode cX2_init 23 = .ok (.return_, 1) := by decide +kernel
theorem dX2_forget_0 : decode cX2_forget 0 = .ok (.aload_n 0, 1) := by decide +kernel
theorem dX2_forget_1 : decode cX2_forget 1 = .ok (.iconst 0, 1) := by decide +kernel
theorem dX2_forget_2 : decode cX2_forget 2 = .ok (.putfield 23, 3) := by decide +kernel
theorem dX2_forget_5 : decode cX2_forget 5 = .ok (.return_, 1) := by decide +kernel
theorem dX2_renew_0 : decode cX2_renew 0 = .ok (.aload_n 0, 1) := by decide +kernel
theorem dX2_renew_1 : decode cX2_renew 1 = .ok (.getfield 23, 3) := by decide +kernel
theorem dX2_renew_4 : decode cX2_renew 4 = .ok (.ifCond .eq 4, 3) := by decide +kernel
theorem dX2_renew_7 : decode cX2_renew 7 = .ok (.return_, 1) := by decide +kernel
theorem dX2_renew_8 : decode cX2_renew 8 = .ok (.aload_n 0, 1) := by decide +kernel
theorem dX2_renew_9 : decode cX2_renew 9 = .ok (.iconst 0, 1) := by decide +kernel
theorem dX2_renew_10 : decode cX2_renew 10 = .ok (.putfield 27, 3) := by decide +kernel
theorem dX2_renew_13 : decode cX2_renew 13 = .ok (.iconst 0, 1) := by decide +kernel
theorem dX2_renew_14 : decode cX2_renew 14 = .ok (.istore_n 1, 1) := by decide +kernel
theorem dX2_renew_15 : decode cX2_renew 15 = .ok (.iload_n 1, 1) := by decide +kernel
theorem dX2_renew_16 : decode cX2_renew 16 = .ok (.aload_n 0, 1) := by decide +kernel
theorem dX2_renew_17 : decode cX2_renew 17 = .ok (.getfield 19, 3) := by decide +kernel
theorem dX2_renew_20 : decode cX2_renew 20 = .ok (.invokevirtual 31, 3) := by decide +kernel
theorem dX2_renew_23 : decode cX2_renew 23 = .ok (.if_icmp .ge 47, 3) := by decide +kernel
theorem dX2_renew_26 : decode cX2_renew 26 = .ok (.iload_n 1, 1) := by decide +kernel
theorem dX2_renew_27 : decode cX2_renew 27 = .ok (.sipush 4096, 3) := by decide +kernel
theorem dX2_renew_30 : decode cX2_renew 30 = .ok (.if_icmp .ge 40, 3) := by decide +kernel
theorem dX2_renew_33 : decode cX2_renew 33 = .ok (.aload_n 0, 1) := by decide +kernel
theorem dX2_renew_34 : decode cX2_renew 34 = .ok (.dup, 1) := by decide +kernel
theorem dX2_renew_35 : decode cX2_renew 35 = .ok (.getfield 27, 3) := by decide +kernel
theorem dX2_renew_38 : decode cX2_renew 38 = .ok (.aload_n 0, 1) := by decide +kernel
theorem dX2_renew_39 : decode cX2_renew 39 = .ok (.aload_n 0, 1) := by decide +kernel
theorem dX2_renew_40 : decode cX2_renew 40 = .ok (.getfield 19, 3) := by decide +kernel
theorem dX2_renew_43 : decode cX2_renew 43 = .ok (.iload_n 1, 1) := by decide +kernel
theorem dX2_renew_44 : decode cX2_renew 44 = .ok (.invokevirtual 36, 3) := by decide +kernel
theorem dX2_renew_47 : decode cX2_renew 47 = .ok (.invokevirtual 40, 3) := by decide +kernel
theorem dX2_renew_50 : decode cX2_renew 50 = .ok (.iadd, 1) := by decide +kernel
theorem dX2_renew_51 : decode cX2_renew 51 = .ok (.putfield 27, 3) := by decide +kernel
theorem dX2_renew_54 : decode cX2_renew 54 = .ok (.aload_n 0, 1) := by decide +kernel
theorem dX2_renew_55 : decode cX2_renew 55 = .ok (.getfield 9, 3) := by decide +kernel
theorem dX2_renew_58 : decode cX2_renew 58 = .ok (.iload_n 1, 1) := by decide +kernel
theorem dX2_renew_59 : decode cX2_renew 59 = .ok (.aload_n 0, 1) := by decide +kernel
theorem dX2_renew_60 : decode cX2_renew 60 = .ok (.getfield 27, 3) := by decide +kernel
theorem dX2_renew_63 : decode cX2_renew 63 = .ok (.iastore, 1) := by decide +kernel
theorem dX2_renew_64 : decode cX2_renew 64 = .ok (.iinc 1 1, 3) := by decide +kernel
theorem dX2_renew_67 : decode cX2_renew 67 = .ok (.goto (-52), 3) := by decide +kernel
theorem dX2_renew_70 : decode cX2_renew 70 = .ok (.aload_n 0, 1) := by decide +kernel
theorem dX2_renew_71 : decode cX2_renew 71 = .ok (.iconst 1, 1) := by decide +kernel
theorem dX2_renew_72 : decode cX2_renew 72 = .ok (.putfield 23, 3) := by decide +kernel
theorem dX2_renew_75 : decode cX2_renew 75 = .ok (.return_, 1) := by decide +kernel
theorem dX2_hazardsIn_0 : decode cX2_hazardsIn 0 = .ok (.aload_n 0, 1) := by decide +kernel
theorem dX2_hazardsIn_1 : decode cX2_hazardsIn 1 = .ok (.getfield 15, 3) := by decide +kernel
theorem dX2_hazardsIn_4 : decode cX2_hazardsIn 4 = .ok (.iload_n 1, 1) := by decide +kernel
theorem dX2_hazardsIn_5 : decode cX2_hazardsIn 5 = .ok (.invokevirtual 43, 3) := by decide +kernel
theorem dX2_hazardsIn_8 : decode cX2_hazardsIn 8 = .ok (.istore_n 2, 1) := by decide +kernel
theorem dX2_hazardsIn_9 : decode cX2_hazardsIn 9 = .ok (.iconst 0, 1) := by decide +kernel
theorem dX2_hazardsIn_10 : decode cX2_hazardsIn 10 = .ok (.istore_n 3, 1) := by decide +kernel
theorem dX2_hazardsIn_11 : decode cX2_hazardsIn 11 = .ok (.iconst 0, 1) := by decide +kernel
theorem dX2_hazardsIn_12 : decode cX2_hazardsIn 12 = .ok (.istore 4, 2) := by decide +kernel
theorem dX2_hazardsIn_14 : decode cX2_hazardsIn 14 = .ok (.iload 4, 2) := by decide +kernel
theorem dX2_hazardsIn_16 : decode cX2_hazardsIn 16 = .ok (.bipush 12, 2) := by decide +kernel
theorem dX2_hazardsIn_18 : decode cX2_hazardsIn 18 = .ok (.if_icmp .ge 34, 3) := by decide +kernel
theorem dX2_hazardsIn_21 : decode cX2_hazardsIn 21 = .ok (.iload_n 2, 1) := by decide +kernel
theorem dX2_hazardsIn_22 : decode cX2_hazardsIn 22 = .ok (.iload 4, 2) := by decide +kernel
theorem dX2_hazardsIn_24 : decode cX2_hazardsIn 24 = .ok (.invokestatic 48, 3) := by decide +kernel
theorem dX2_hazardsIn_27 : decode cX2_hazardsIn 27 = .ok (.ifCond .eq 19, 3) := by decide +kernel
theorem dX2_hazardsIn_30 : decode cX2_hazardsIn 30 = .ok (.iload_n 3, 1) := by decide +kernel
theorem dX2_hazardsIn_31 : decode cX2_hazardsIn 31 = .ok (.aload_n 0, 1) := by decide +kernel
theorem dX2_hazardsIn_32 : decode cX2_hazardsIn 32 = .ok (.getfield 15, 3) := by decide +kernel
theorem dX2_hazardsIn_35 : decode cX2_hazardsIn 35 = .ok (.iload 4, 2) := by decide +kernel
theorem dX2_hazardsIn_37 : decode cX2_hazardsIn 37 = .ok (.iload_n 1, 1) := by decide +kernel
theorem dX2_hazardsIn_38 : decode cX2_hazardsIn 38 = .ok (.invokevirtual 52, 3) := by decide +kernel
theorem dX2_hazardsIn_41 : decode cX2_hazardsIn 41 = .ok (.invokestatic 56, 3) := by decide +kernel
theorem dX2_hazardsIn_44 : decode cX2_hazardsIn 44 = .ok (.iadd, 1) := by decide +kernel
theorem dX2_hazardsIn_45 : decode cX2_hazardsIn 45 = .ok (.istore_n 3, 1) := by decide +kernel
theorem dX2_hazardsIn_46 : decode cX2_hazardsIn 46 = .ok (.iinc 4 1, 3) := by decide +kernel
theorem dX2_hazardsIn_49 : decode cX2_hazardsIn 49 = .ok (.goto (-35), 3) := by decide +kernel
theorem dX2_hazardsIn_52 : decode cX2_hazardsIn 52 = .ok (.iload_n 3, 1) := by decide +kernel
theorem dX2_hazardsIn_53 : decode cX2_hazardsIn 53 = .ok (.ireturn, 1) := by decide +kernel
theorem dX2_size_0 : decode cX2_size 0 = .ok (.aload_n 0, 1) := by decide +kernel
theorem dX2_size_1 : decode cX2_size 1 = .ok (.getfield 27, 3) := by decide +kernel
theorem dX2_size_4 : decode cX2_size 4 = .ok (.ireturn, 1) := by decide +kernel
theorem dX2_partOf_0 : decode cX2_partOf 0 = .ok (.iload_n 1, 1) := by decide +kernel
theorem dX2_partOf_1 : decode cX2_partOf 1 = .ok (.ifCond .lt 11, 3) := by decide +kernel
theorem dX2_partOf_4 : decode cX2_partOf 4 = .ok (.iload_n 1, 1) := by decide +kernel
theorem dX2_partOf_5 : decode cX2_partOf 5 = .ok (.aload_n 0, 1) := by decide +kernel
theorem dX2_partOf_6 : decode cX2_partOf 6 = .ok (.getfield 27, 3) := by decide +kernel
theorem dX2_partOf_9 : decode cX2_partOf 9 = .ok (.if_icmp .lt 5, 3) := by decide +kernel
theorem dX2_partOf_12 : decode cX2_partOf 12 = .ok (.iconst (-1), 1) := by decide +kernel
theorem dX2_partOf_13 : decode cX2_partOf 13 = .ok (.ireturn, 1) := by decide +kernel
theorem dX2_partOf_14 : decode cX2_partOf 14 = .ok (.aload_n 0, 1) := by decide +kernel
theorem dX2_partOf_15 : decode cX2_partOf 15 = .ok (.iload_n 1, 1) := by decide +kernel
theorem dX2_partOf_16 : decode cX2_partOf 16 = .ok (.invokevirtual 61, 3) := by decide +kernel
theorem dX2_partOf_19 : decode cX2_partOf 19 = .ok (.istore_n 3, 1) := by decide +kernel
theorem dX2_partOf_20 : decode cX2_partOf 20 = .ok (.aload_n 0, 1) := by decide +kernel
theorem dX2_partOf_21 : decode cX2_partOf 21 = .ok (.getfield 19, 3) := by decide +kernel
theorem dX2_partOf_24 : decode cX2_partOf 24 = .ok (.iload_n 3, 1) := by decide +kernel
theorem dX2_partOf_25 : decode cX2_partOf 25 = .ok (.invokevirtual 36, 3) := by decide +kernel
theorem dX2_partOf_28 : decode cX2_partOf 28 = .ok (.istore 4, 2) := by decide +kernel
theorem dX2_partOf_30 : decode cX2_partOf 30 = .ok (.iload_n 2, 1) := by decide +kernel
theorem dX2_partOf_31 : decode cX2_partOf 31 = .ok (.ifCond .ne 6, 3) := by decide +kernel
theorem dX2_partOf_34 : decode cX2_partOf 34 = .ok (.iload 4, 2) := by decide +kernel
theorem dX2_partOf_36 : decode cX2_partOf 36 = .ok (.ireturn, 1) := by decide +kernel
theorem dX2_partOf_37 : decode cX2_partOf 37 = .ok (.aload_n 0, 1) := by decide +kernel
theorem dX2_partOf_38 : decode cX2_partOf 38 = .ok (.iload 4, 2) := by decide +kernel
theorem dX2_partOf_40 : decode cX2_partOf 40 = .ok (.iload_n 3, 1) := by decide +kernel
theorem dX2_partOf_41 : decode cX2_partOf 41 = .ok (.ifCond .ne 7, 3) := by decide +kernel
theorem dX2_partOf_44 : decode cX2_partOf 44 = .ok (.iload_n 1, 1) := by decide +kernel
theorem dX2_partOf_45 : decode cX2_partOf 45 = .ok (.goto 13, 3) := by decide +kernel
theorem dX2_partOf_48 : decode cX2_partOf 48 = .ok (.iload_n 1, 1) := by decide +kernel
theorem dX2_partOf_49 : decode cX2_partOf 49 = .ok (.aload_n 0, 1) := by decide +kernel
theorem dX2_partOf_50 : decode cX2_partOf 50 = .ok (.getfield 9, 3) := by decide +kernel
theorem dX2_partOf_53 : decode cX2_partOf 53 = .ok (.iload_n 3, 1) := by decide +kernel
theorem dX2_partOf_54 : decode cX2_partOf 54 = .ok (.iconst 1, 1) := by decide +kernel
theorem dX2_partOf_55 : decode cX2_partOf 55 = .ok (.isub, 1) := by decide +kernel
theorem dX2_partOf_56 : decode cX2_partOf 56 = .ok (.iaload, 1) := by decide +kernel
theorem dX2_partOf_57 : decode cX2_partOf 57 = .ok (.isub, 1) := by decide +kernel
theorem dX2_partOf_58 : decode cX2_partOf 58 = .ok (.iload_n 2, 1) := by decide +kernel
theorem dX2_partOf_59 : decode cX2_partOf 59 = .ok (.invokevirtual 64, 3) := by decide +kernel
theorem dX2_partOf_62 : decode cX2_partOf 62 = .ok (.ireturn, 1) := by decide +kernel
theorem dX2_placeWith_0 : decode cX2_placeWith 0 = .ok (.iconst 0, 1) := by decide +kernel
theorem dX2_placeWith_1 : decode cX2_placeWith 1 = .ok (.istore_n 2, 1) := by decide +kernel
theorem dX2_placeWith_2 : decode cX2_placeWith 2 = .ok (.aload_n 0, 1) := by decide +kernel
theorem dX2_placeWith_3 : decode cX2_placeWith 3 = .ok (.getfield 19, 3) := by decide +kernel
theorem dX2_placeWith_6 : decode cX2_placeWith 6 = .ok (.invokevirtual 31, 3) := by decide +kernel
theorem dX2_placeWith_9 : decode cX2_placeWith 9 = .ok (.iconst 1, 1) := by decide +kernel
theorem dX2_placeWith_10 : decode cX2_placeWith 10 = .ok (.isub, 1) := by decide +kernel
theorem dX2_placeWith_11 : decode cX2_placeWith 11 = .ok (.istore_n 3, 1) := by decide +kernel
theorem dX2_placeWith_12 : decode cX2_placeWith 12 = .ok (.iconst 0, 1) := by decide +kernel
theorem dX2_placeWith_13 : decode cX2_placeWith 13 = .ok (.istore 4, 2) := by decide +kernel
theorem dX2_placeWith_15 : decode cX2_placeWith 15 = .ok (.iload 4, 2) := by decide +kernel
theorem dX2_placeWith_17 : decode cX2_placeWith 17 = .ok (.sipush 4096, 3) := by decide +kernel
theorem dX2_placeWith_20 : decode cX2_placeWith 20 = .ok (.if_icmp .ge 43, 3) := by decide +kernel
theorem dX2_placeWith_23 : decode cX2_placeWith 23 = .ok (.iload_n 2, 1) := by decide +kernel
theorem dX2_placeWith_24 : decode cX2_placeWith 24 = .ok (.iload_n 3, 1) := by decide +kernel
theorem dX2_placeWith_25 : decode cX2_placeWith 25 = .ok (.if_icmp .ge 38, 3) := by decide +kernel
theorem dX2_placeWith_28 : decode cX2_placeWith 28 = .ok (.iload_n 2, 1) := by decide +kernel
theorem dX2_placeWith_29 : decode cX2_placeWith 29 = .ok (.iload_n 3, 1) := by decide +kernel
theorem dX2_placeWith_30 : decode cX2_placeWith 30 = .ok (.iadd, 1) := by decide +kernel
theorem dX2_placeWith_31 : decode cX2_placeWith 31 = .ok (.iconst 2, 1) := by decide +kernel
theorem dX2_placeWith_32 : decode cX2_placeWith 32 = .ok (.idiv, 1) := by decide +kernel
theorem dX2_placeWith_33 : decode cX2_placeWith 33 = .ok (.istore 5, 2) := by decide +kernel
theorem dX2_placeWith_35 : decode cX2_placeWith 35 = .ok (.aload_n 0, 1) := by decide +kernel
theorem dX2_placeWith_36 : decode cX2_placeWith 36 = .ok (.getfield 9, 3) := by decide +kernel
theorem dX2_placeWith_39 : decode cX2_placeWith 39 = .ok (.iload 5, 2) := by decide +kernel
theorem dX2_placeWith_41 : decode cX2_placeWith 41 = .ok (.iaload, 1) := by decide +kernel
theorem dX2_placeWith_42 : decode cX2_placeWith 42 = .ok (.iload_n 1, 1) := by decide +kernel
theorem dX2_placeWith_43 : decode cX2_placeWith 43 = .ok (.if_icmp .le 9, 3) := by decide +kernel
theorem dX2_placeWith_46 : decode cX2_placeWith 46 = .ok (.iload 5, 2) := by decide +kernel
theorem dX2_placeWith_48 : decode cX2_placeWith 48 = .ok (.istore_n 3, 1) := by decide +kernel
theorem dX2_placeWith_49 : decode cX2_placeWith 49 = .ok (.goto 8, 3) := by decide +kernel
theorem dX2_placeWith_52 : decode cX2_placeWith 52 = .ok (.iload 5, 2) := by decide +kernel
theorem dX2_placeWith_54 : decode cX2_placeWith 54 = .ok (.iconst 1, 1) := by decide +kernel
theorem dX2_placeWith_55 : decode cX2_placeWith 55 = .ok (.iadd, 1) := by decide +kernel
theorem dX2_placeWith_56 : decode cX2_placeWith 56 = .ok (.istore_n 2, 1) := by decide +kernel
theorem dX2_placeWith_57 : decode cX2_placeWith 57 = .ok (.iinc 4 1, 3) := by decide +kernel
theorem dX2_placeWith_60 : decode cX2_placeWith 60 = .ok (.goto (-45), 3) := by decide +kernel
theorem dX2_placeWith_63 : decode cX2_placeWith 63 = .ok (.iload_n 2, 1) := by decide +kernel
theorem dX2_placeWith_64 : decode cX2_placeWith 64 = .ok (.ireturn, 1) := by decide +kernel
theorem dX2_signalOf_0 : decode cX2_signalOf 0 = .ok (.aload_n 0, 1) := by decide +kernel
theorem dX2_signalOf_1 : decode cX2_signalOf 1 = .ok (.getfield 15, 3) := by decide +kernel
theorem dX2_signalOf_4 : decode cX2_signalOf 4 = .ok (.iload_n 1, 1) := by decide +kernel
theorem dX2_signalOf_5 : decode cX2_signalOf 5 = .ok (.invokevirtual 43, 3) := by decide +kernel
theorem dX2_signalOf_8 : decode cX2_signalOf 8 = .ok (.istore 4, 2) := by decide +kernel
theorem dX2_signalOf_10 : decode cX2_signalOf 10 = .ok (.iconst 0, 1) := by decide +kernel
theorem dX2_signalOf_11 : decode cX2_signalOf 11 = .ok (.istore 5, 2) := by decide +kernel
theorem dX2_signalOf_13 : decode cX2_signalOf 13 = .ok (.iconst 0, 1) := by decide +kernel
theorem dX2_signalOf_14 : decode cX2_signalOf 14 = .ok (.istore 6, 2) := by decide +kernel
theorem dX2_signalOf_16 : decode cX2_signalOf 16 = .ok (.iload 6, 2) := by decide +kernel
theorem dX2_signalOf_18 : decode cX2_signalOf 18 = .ok (.bipush 12, 2) := by decide +kernel
theorem dX2_signalOf_20 : decode cX2_signalOf 20 = .ok (.if_icmp .ge 75, 3) := by decide +kernel
theorem dX2_signalOf_23 : decode cX2_signalOf 23 = .ok (.iconst 0, 1) := by decide +kernel
theorem dX2_signalOf_24 : decode cX2_signalOf 24 = .ok (.istore 7, 2) := by decide +kernel
theorem dX2_signalOf_26 : decode cX2_signalOf 26 = .ok (.iload 7, 2) := by decide +kernel
theorem dX2_signalOf_28 : decode cX2_signalOf 28 = .ok (.bipush 12, 2) := by decide +kernel
theorem dX2_signalOf_30 : decode cX2_signalOf 30 = .ok (.if_icmp .ge 59, 3) := by decide +kernel
theorem dX2_signalOf_33 : decode cX2_signalOf 33 = .ok (.iload 4, 2) := by decide +kernel
theorem dX2_signalOf_35 : decode cX2_signalOf 35 = .ok (.iload 7, 2) := by decide +kernel
theorem dX2_signalOf_37 : decode cX2_signalOf 37 = .ok (.invokestatic 48, 3) := by decide +kernel
theorem dX2_signalOf_40 : decode cX2_signalOf 40 = .ok (.ifCond .eq 43, 3) := by decide +kernel
theorem dX2_signalOf_43 : decode cX2_signalOf 43 = .ok (.aload_n 0, 1) := by decide +kernel
theorem dX2_signalOf_44 : decode cX2_signalOf 44 = .ok (.getfield 15, 3) := by decide +kernel
theorem dX2_signalOf_47 : decode cX2_signalOf 47 = .ok (.iload 7, 2) := by decide +kernel
theorem dX2_signalOf_49 : decode cX2_signalOf 49 = .ok (.iload_n 1, 1) := by decide +kernel
theorem dX2_signalOf_50 : decode cX2_signalOf 50 = .ok (.invokevirtual 52, 3) := by decide +kernel
theorem dX2_signalOf_53 : decode cX2_signalOf 53 = .ok (.iload 6, 2) := by decide +kernel
theorem dX2_signalOf_55 : decode cX2_signalOf 55 = .ok (.invokestatic 48, 3) := by decide +kernel
theorem dX2_signalOf_58 : decode cX2_signalOf 58 = .ok (.ifCond .eq 25, 3) := by decide +kernel
theorem dX2_signalOf_61 : decode cX2_signalOf 61 = .ok (.iload 5, 2) := by decide +kernel
theorem dX2_signalOf_63 : decode cX2_signalOf 63 = .ok (.iload_n 2, 1) := by decide +kernel
theorem dX2_signalOf_64 : decode cX2_signalOf 64 = .ok (.if_icmp .ne 16, 3) := by decide +kernel
theorem dX2_signalOf_67 : decode cX2_signalOf 67 = .ok (.iload_n 3, 1) := by decide +kernel
theorem dX2_signalOf_68 : decode cX2_signalOf 68 = .ok (.iconst 1, 1) := by decide +kernel
theorem dX2_signalOf_69 : decode cX2_signalOf 69 = .ok (.if_icmp .ne 8, 3) := by decide +kernel
theorem dX2_signalOf_72 : decode cX2_signalOf 72 = .ok (.iload 6, 2) := by decide +kernel
theorem dX2_signalOf_74 : decode cX2_signalOf 74 = .ok (.goto 5, 3) := by decide +kernel
theorem dX2_signalOf_77 : decode cX2_signalOf 77 = .ok (.iload 7, 2) := by decide +kernel
theorem dX2_signalOf_79 : decode cX2_signalOf 79 = .ok (.ireturn, 1) := by decide +kernel
theorem dX2_signalOf_80 : decode cX2_signalOf 80 = .ok (.iinc 5 1, 3) := by decide +kernel
theorem dX2_signalOf_83 : decode cX2_signalOf 83 = .ok (.iinc 7 1, 3) := by decide +kernel
theorem dX2_signalOf_86 : decode cX2_signalOf 86 = .ok (.goto (-60), 3) := by decide +kernel
theorem dX2_signalOf_89 : decode cX2_signalOf 89 = .ok (.iinc 6 1, 3) := by decide +kernel
theorem dX2_signalOf_92 : decode cX2_signalOf 92 = .ok (.goto (-76), 3) := by decide +kernel
theorem dX2_signalOf_95 : decode cX2_signalOf 95 = .ok (.iconst (-1), 1) := by decide +kernel
theorem dX2_signalOf_96 : decode cX2_signalOf 96 = .ok (.ireturn, 1) := by decide +kernel
theorem dX3_init_0 : decode cX3_init 0 = .ok (.aload_n 0, 1) := by decide +kernel
theorem dX3_init_1 : decode cX3_init 1 = .ok (.invokespecial 3, 3) := by decide +kernel
theorem dX3_init_4 : decode cX3_init 4 = .ok (.aload_n 0, 1) := by decide +kernel
theorem dX3_init_5 : decode cX3_init 5 = .ok (.sipush 4096, 3) := by decide +kernel
theorem dX3_init_8 : decode cX3_init 8 = .ok (.newarray .boolean, 2) := by decide +kernel
theorem dX3_init_10 : decode cX3_init 10 = .ok (.putfield 9, 3) := by decide +kernel
theorem dX3_init_13 : decode cX3_init 13 = .ok (.aload_n 0, 1) := by decide +kernel
theorem dX3_init_14 : decode cX3_init 14 = .ok (.sipush 4096, 3) := by decide +kernel
theorem dX3_init_17 : decode cX3_init 17 = .ok (.newarray .int, 2) := by decide +kernel
theorem dX3_init_19 : decode cX3_init 19 = .ok (.putfield 15, 3) := by decide +kernel
theorem dX3_init_22 : decode cX3_init 22 = .ok (.aload_n 0, 1) := by decide +kernel
theorem dX3_init_23 : decode cX3_init 23 = .ok (.aload_n 1, 1) := by decide +kernel
theorem dX3_init_24 : decode cX3_init 24 = .ok (.putfield 19, 3) := by decide +kernel
theorem dX3_init_27 : decode cX3_init 27 = .ok (.aload_n 0, 1) := by decide +kernel
theorem dX3_init_28 : decode cX3_init 28 = .ok (.aload_n 2, 1) := by decide +kernel
theorem dX3_init_29 : decode cX3_init 29 = .ok (.putfield 23, 3) := by decide +kernel
theorem dX3_init_32 : decode cX3_init 32 = .ok (.return_, 1) := by decide +kernel
theorem dX3_forget_0 : decode cX3_forget 0 = .ok (.aload_n 0, 1) := by decide +kernel
theorem dX3_forget_1 : decode cX3_forget 1 = .ok (.iconst 0, 1) := by decide +kernel
theorem dX3_forget_2 : decode cX3_forget 2 = .ok (.putfield 27, 3) := by decide +kernel
theorem dX3_forget_5 : decode cX3_forget 5 = .ok (.aload_n 0, 1) := by decide +kernel
theorem dX3_forget_6 : decode cX3_forget 6 = .ok (.iconst 0, 1) := by decide +kernel
theorem dX3_forget_7 : decode cX3_forget 7 = .ok (.putfield 31, 3) := by decide +kernel
theorem dX3_forget_10 : decode cX3_forget 10 = .ok (.return_, 1) := by decide +kernel
theorem dX3_isLive_0 : decode cX3_isLive 0 = .ok (.aload_n 0, 1) := by decide +kernel
theorem dX3_isLive_1 : decode cX3_isLive 1 = .ok (.getfield 27, 3) := by decide +kernel
theorem dX3_isLive_4 : decode cX3_isLive 4 = .ok (.iload_n 1, 1) := by decide +kernel
theorem dX3_isLive_5 : decode cX3_isLive 5 = .ok (.invokestatic 34, 3) := by decide +kernel
theorem dX3_isLive_8 : decode cX3_isLive 8 = .ok (.ifCond .ne 35, 3) := by decide +kernel
theorem dX3_isLive_11 : decode cX3_isLive 11 = .ok (.aload_n 0, 1) := by decide +kernel
theorem dX3_isLive_12 : decode cX3_isLive 12 = .ok (.dup, 1) := by decide +kernel
theorem dX3_isLive_13 : decode cX3_isLive 13 = .ok (.getfield 27, 3) := by decide +kernel
theorem dX3_isLive_16 : decode cX3_isLive 16 = .ok (.iconst 1, 1) := by decide +kernel
theorem dX3_isLive_17 : decode cX3_isLive 17 = .ok (.iload_n 1, 1) := by decide +kernel
theorem dX3_isLive_18 : decode cX3_isLive 18 = .ok (.ishl, 1) := by decide +kernel
theorem dX3_isLive_19 : decode cX3_isLive 19 = .ok (.ior, 1) := by decide +kernel
theorem dX3_isLive_20 : decode cX3_isLive 20 = .ok (.putfield 27, 3) := by decide +kernel
theorem dX3_isLive_23 : decode cX3_isLive 23 = .ok (.aload_n 0, 1) := by decide +kernel
theorem dX3_isLive_24 : decode cX3_isLive 24 = .ok (.iload_n 1, 1) := by decide +kernel
theorem dX3_isLive_25 : decode cX3_isLive 25 = .ok (.invokevirtual 38, 3) := by decide +kernel
theorem dX3_isLive_28 : decode cX3_isLive 28 = .ok (.ifCond .eq 15, 3) := by decide +kernel
theorem dX3_isLive_31 : decode cX3_isLive 31 = .ok (.aload_n 0, 1) := by decide +kernel
theorem dX3_isLive_32 : decode cX3_isLive 32 = .ok (.dup, 1) := by decide +kernel
theorem dX3_isLive_33 : decode cX3_isLive 33 = .ok (.getfield 31, 3) := by decide +kernel
theorem dX3_isLive_36 : decode cX3_isLive 36 = .ok (.iconst 1, 1) := by decide +kernel
theorem dX3_isLive_37 : decode cX3_isLive 37 = .ok (.iload_n 1, 1) := by decide +kernel
theorem dX3_isLive_38 : decode cX3_isLive 38 = .ok (.ishl, 1) := by decide +kernel
theorem dX3_isLive_39 : decode cX3_isLive 39 = .ok (.ior, 1) := by decide +kernel
theorem dX3_isLive_40 : decode cX3_isLive 40 = .ok (.putfield 31, 3) := by decide +kernel
theorem dX3_isLive_43 : decode cX3_isLive 43 = .ok (.aload_n 0, 1) := by decide +kernel
theorem dX3_isLive_44 : decode cX3_isLive 44 = .ok (.getfield 31, 3) := by decide +kernel
theorem dX3_isLive_47 : decode cX3_isLive 47 = .ok (.iload_n 1, 1) := by decide +kernel
theorem dX3_isLive_48 : decode cX3_isLive 48 = .ok (.invokestatic 34, 3) := by decide +kernel
theorem dX3_isLive_51 : decode cX3_isLive 51 = .ok (.ireturn, 1) := by decide +kernel
theorem dX3_leadsThereFromAll_0 : decode cX3_leadsThereFromAll 0 = .ok (.aload_n 0, 1) := by decide +kernel
theorem dX3_leadsThereFromAll_1 : decode cX3_leadsThereFromAll 1 = .ok (.iconst 0, 1) := by decide +kernel
theorem dX3_leadsThereFromAll_2 : decode cX3_leadsThereFromAll 2 = .ok (.putfield 42, 3) := by decide +kernel
theorem dX3_leadsThereFromAll_5 : decode cX3_leadsThereFromAll 5 = .ok (.iconst 0, 1) := by decide +kernel
theorem dX3_leadsThereFromAll_6 : decode cX3_leadsThereFromAll 6 = .ok (.istore_n 2, 1) := by decide +kernel
theorem dX3_leadsThereFromAll_7 : decode cX3_leadsThereFromAll 7 = .ok (.iload_n 2, 1) := by decide +kernel
theorem dX3_leadsThereFromAll_8 : decode cX3_leadsThereFromAll 8 = .ok (.aload_n 0, 1) := by decide +kernel
theorem dX3_leadsThereFromAll_9 : decode cX3_leadsThereFromAll 9 = .ok (.getfield 23, 3) := by decide +kernel
theorem dX3_leadsThereFromAll_12 : decode cX3_leadsThereFromAll 12 = .ok (.invokevirtual 45, 3) := by decide +kernel
theorem dX3_leadsThereFromAll_15 : decode cX3_leadsThereFromAll 15 = .ok (.if_icmp .ge 38, 3) := by decide +kernel
theorem dX3_leadsThereFromAll_18 : decode cX3_leadsThereFromAll 18 = .ok (.aload_n 0, 1) := by decide +kernel
theorem dX3_leadsThereFromAll_19 : decode cX3_leadsThereFromAll 19 = .ok (.getfield 23, 3) := by decide +kernel
theorem dX3_leadsThereFromAll_22 : decode cX3_leadsThereFromAll 22 = .ok (.iload_n 2, 1) := by decide +kernel
theorem dX3_leadsThereFromAll_23 : decode cX3_leadsThereFromAll 23 = .ok (.invokevirtual 51, 3) := by decide +kernel
theorem dX3_leadsThereFromAll_26 : decode cX3_leadsThereFromAll 26 = .ok (.istore_n 3, 1) := by decide +kernel
theorem dX3_leadsThereFromAll_27 : decode cX3_leadsThereFromAll 27 = .ok (.aload_n 0, 1) := by decide +kernel
theorem dX3_leadsThereFromAll_28 : decode cX3_leadsThereFromAll 28 = .ok (.getfield 19, 3) := by decide +kernel
theorem dX3_leadsThereFromAll_31 : decode cX3_leadsThereFromAll 31 = .ok (.iload_n 3, 1) := by decide +kernel
theorem dX3_leadsThereFromAll_32 : decode cX3_leadsThereFromAll 32 = .ok (.invokevirtual 55, 3) := by decide +kernel
theorem dX3_leadsThereFromAll_35 : decode cX3_leadsThereFromAll 35 = .ok (.iload_n 1, 1) := by decide +kernel
theorem dX3_leadsThereFromAll_36 : decode cX3_leadsThereFromAll 36 = .ok (.invokestatic 34, 3) := by decide +kernel
theorem dX3_leadsThereFromAll_39 : decode cX3_leadsThereFromAll 39 = .ok (.ifCond .eq 8, 3) := by decide +kernel
theorem dX3_leadsThereFromAll_42 : decode cX3_leadsThereFromAll 42 = .ok (.aload_n 0, 1) := by decide +kernel
theorem dX3_leadsThereFromAll_43 : decode cX3_leadsThereFromAll 43 = .ok (.iload_n 3, 1) := by decide +kernel
theorem dX3_leadsThereFromAll_44 : decode cX3_leadsThereFromAll 44 = .ok (.invokevirtual 60, 3) := by decide +kernel
theorem dX3_leadsThereFromAll_47 : decode cX3_leadsThereFromAll 47 = .ok (.iinc 2 1, 3) := by decide +kernel
theorem dX3_leadsThereFromAll_50 : decode cX3_leadsThereFromAll 50 = .ok (.goto (-43), 3) := by decide +kernel
theorem dX3_leadsThereFromAll_53 : decode cX3_leadsThereFromAll 53 = .ok (.iconst 0, 1) := by decide +kernel
theorem dX3_leadsThereFromAll_54 : decode cX3_leadsThereFromAll 54 = .ok (.istore_n 2, 1) := by decide +kernel
theorem dX3_leadsThereFromAll_55 : decode cX3_leadsThereFromAll 55 = .ok (.iload_n 2, 1) := by decide +kernel
theorem dX3_leadsThereFromAll_56 : decode cX3_leadsThereFromAll 56 = .ok (.aload_n 0, 1) := by decide +kernel
theorem dX3_leadsThereFromAll_57 : decode cX3_leadsThereFromAll 57 = .ok (.getfield 42, 3) := by decide +kernel
theorem dX3_leadsThereFromAll_60 : decode cX3_leadsThereFromAll 60 = .ok (.if_icmp .ge 26, 3) := by decide +kernel
theorem dX3_leadsThereFromAll_63 : decode cX3_leadsThereFromAll 63 = .ok (.iload_n 2, 1) := by decide +kernel
theorem dX3_leadsThereFromAll_64 : decode cX3_leadsThereFromAll 64 = .ok (.sipush 4096, 3) := by decide +kernel
theorem dX3_leadsThereFromAll_67 : decode cX3_leadsThereFromAll 67 = .ok (.if_icmp .ge 19, 3) := by decide +kernel
theorem dX3_leadsThereFromAll_70 : decode cX3_leadsThereFromAll 70 = .ok (.aload_n 0, 1) := by decide +kernel
theorem dX3_leadsThereFromAll_71 : decode cX3_leadsThereFromAll 71 = .ok (.aload_n 0, 1) := by decide +kernel
theorem dX3_leadsThereFromAll_72 : decode cX3_leadsThereFromAll 72 = .ok (.getfield 15, 3) := by decide +kernel
theorem dX3_leadsThereFromAll_75 : decode cX3_leadsThereFromAll 75 = .ok (.iload_n 2, 1) := by decide +kernel
theorem dX3_leadsThereFromAll_76 : decode cX3_leadsThereFromAll 76 = .ok (.iaload, 1) := by decide +kernel
theorem dX3_leadsThereFromAll_77 : decode cX3_leadsThereFromAll 77 = .ok (.invokevirtual 64, 3) := by decide +kernel
theorem dX3_leadsThereFromAll_80 : decode cX3_leadsThereFromAll 80 = .ok (.iinc 2 1, 3) := by decide +kernel
theorem dX3_leadsThereFromAll_83 : decode cX3_leadsThereFromAll 83 = .ok (.goto (-28), 3) := by decide +kernel
theorem dX3_leadsThereFromAll_86 : decode cX3_leadsThereFromAll 86 = .ok (.aload_n 0, 1) := by decide +kernel
theorem dX3_leadsThereFromAll_87 : decode cX3_leadsThereFromAll 87 = .ok (.getfield 42, 3) := by decide +kernel
theorem dX3_leadsThereFromAll_90 : decode cX3_leadsThereFromAll 90 = .ok (.aload_n 0, 1) := by decide +kernel
theorem dX3_leadsThereFromAll_91 : decode cX3_leadsThereFromAll 91 = .ok (.getfield 23, 3) := by decide +kernel
theorem dX3_leadsThereFromAll_94 : decode cX3_leadsThereFromAll 94 = .ok (.invokevirtual 45, 3) := by decide +kernel
theorem dX3_leadsThereFromAll_97 : decode cX3_leadsThereFromAll 97 = .ok (.if_icmp .ne 7, 3) := by decide +kernel
theorem dX3_leadsThereFromAll_100 : decode cX3_leadsThereFromAll 100 = .ok (.iconst 1, 1) := by decide +kernel
theorem dX3_leadsThereFromAll_101 : decode cX3_leadsThereFromAll 101 = .ok (.goto 4, 3) := by decide +kernel
theorem dX3_leadsThereFromAll_104 : decode cX3_leadsThereFromAll 104 = .ok (.iconst 0, 1) := by decide +kernel
theorem dX3_leadsThereFromAll_105 : decode cX3_leadsThereFromAll 105 = .ok (.istore_n 2, 1) := by decide +kernel
theorem dX3_leadsThereFromAll_106 : decode cX3_leadsThereFromAll 106 = .ok (.iconst 0, 1) := by decide +kernel
theorem dX3_leadsThereFromAll_107 : decode cX3_leadsThereFromAll 107 = .ok (.istore_n 3, 1) := by decide +kernel
theorem dX3_leadsThereFromAll_108 : decode cX3_leadsThereFromAll 108 = .ok (.iload_n 3, 1) := by decide +kernel
theorem dX3_leadsThereFromAll_109 : decode cX3_leadsThereFromAll 109 = .ok (.aload_n 0, 1) := by decide +kernel
theorem dX3_leadsThereFromAll_110 : decode cX3_leadsThereFromAll 110 = .ok (.getfield 42, 3) := by decide +kernel
theorem dX3_leadsThereFromAll_113 : decode cX3_leadsThereFromAll 113 = .ok (.if_icmp .ge 21, 3) := by decide +kernel
theorem dX3_leadsThereFromAll_116 : decode cX3_leadsThereFromAll 116 = .ok (.aload_n 0, 1) := by decide +kernel
theorem dX3_leadsThereFromAll_117 : decode cX3_leadsThereFromAll 117 = .ok (.getfield 9, 3) := by decide +kernel
theorem dX3_leadsThereFromAll_120 : decode cX3_leadsThereFromAll 120 = .ok (.aload_n 0, 1) := by decide +kernel
theorem dX3_leadsThereFromAll_121 : decode cX3_leadsThereFromAll 121 = .ok (.getfield 15, 3) := by decide +kernel
theorem dX3_leadsThereFromAll_124 : decode cX3_leadsThereFromAll 124 = .ok (.iload_n 3, 1) := by decide +kernel
theorem dX3_leadsThereFromAll_125 : decode cX3_leadsThereFromAll 125 = .ok (.iaload, 1) := by decide +kernel
theorem dX3_leadsThereFromAll_126 : decode cX3_leadsThereFromAll 126 = .ok (.iconst 0, 1) := by decide +kernel
theorem dX3_leadsThereFromAll_127 : decode cX3_leadsThereFromAll 127 = .ok (.bastore, 1) := by decide +kernel
theorem dX3_leadsThereFromAll_128 : decode cX3_leadsThereFromAll 128 = .ok (.iinc 3 1, 3) := by decide +kernel
theorem dX3_leadsThereFromAll_131 : decode cX3_leadsThereFromAll 131 = .ok (.goto (-23), 3) := by decide +kernel
theorem dX3_leadsThereFromAll_134 : decode cX3_leadsThereFromAll 134 = .ok (.iload_n 2, 1) := by decide +kernel
theorem dX3_leadsThereFromAll_135 : decode cX3_leadsThereFromAll 135 = .ok (.ireturn, 1) := by decide +kernel
theorem dX3_goBackFrom_0 : decode cX3_goBackFrom 0 = .ok (.iconst 0, 1) := by decide +kernel
theorem dX3_goBackFrom_1 : decode cX3_goBackFrom 1 = .ok (.istore_n 2, 1) := by decide +kernel
theorem dX3_goBackFrom_2 : decode cX3_goBackFrom 2 = .ok (.iload_n 2, 1) := by decide +kernel
theorem dX3_goBackFrom_3 : decode cX3_goBackFrom 3 = .ok (.bipush 12, 2) := by decide +kernel
theorem dX3_goBackFrom_5 : decode cX3_goBackFrom 5 = .ok (.if_icmp .ge 47, 3) := by decide +kernel
theorem dX3_goBackFrom_8 : decode cX3_goBackFrom 8 = .ok (.iload_n 1, 1) := by decide +kernel
theorem dX3_goBackFrom_9 : decode cX3_goBackFrom 9 = .ok (.iconst 1, 1) := by decide +kernel
theorem dX3_goBackFrom_10 : decode cX3_goBackFrom 10 = .ok (.iload_n 2, 1) := by decide +kernel
theorem dX3_goBackFrom_11 : decode cX3_goBackFrom 11 = .ok (.ishl, 1) := by decide +kernel
theorem dX3_goBackFrom_12 : decode cX3_goBackFrom 12 = .ok (.ixor, 1) := by decide +kernel
theorem dX3_goBackFrom_13 : decode cX3_goBackFrom 13 = .ok (.istore_n 3, 1) := by decide +kernel
theorem dX3_goBackFrom_14 : decode cX3_goBackFrom 14 = .ok (.aload_n 0, 1) := by decide +kernel
theorem dX3_goBackFrom_15 : decode cX3_goBackFrom 15 = .ok (.getfield 23, 3) := by decide +kernel
theorem dX3_goBackFrom_18 : decode cX3_goBackFrom 18 = .ok (.iload_n 3, 1) := by decide +kernel
theorem dX3_goBackFrom_19 : decode cX3_goBackFrom 19 = .ok (.invokevirtual 67, 3) := by decide +kernel
theorem dX3_goBackFrom_22 : decode cX3_goBackFrom 22 = .ok (.iconst (-1), 1) := by decide +kernel
theorem dX3_goBackFrom_23 : decode cX3_goBackFrom 23 = .ok (.if_icmp .eq 23, 3) := by decide +kernel
theorem dX3_goBackFrom_26 : decode cX3_goBackFrom 26 = .ok (.aload_n 0, 1) := by decide +kernel
theorem dX3_goBackFrom_27 : decode cX3_goBackFrom 27 = .ok (.getfield 19, 3) := by decide +kernel
theorem dX3_goBackFrom_30 : decode cX3_goBackFrom 30 = .ok (.iload_n 3, 1) := by decide +kernel
theorem dX3_goBackFrom_31 : decode cX3_goBackFrom 31 = .ok (.invokevirtual 55, 3) := by decide +kernel
theorem dX3_goBackFrom_34 : decode cX3_goBackFrom 34 = .ok (.iload_n 2, 1) := by decide +kernel
theorem dX3_goBackFrom_35 : decode cX3_goBackFrom 35 = .ok (.invokestatic 34, 3) := by decide +kernel
theorem dX3_goBackFrom_38 : decode cX3_goBackFrom 38 = .ok (.ifCond .eq 8, 3) := by decide +kernel
theorem dX3_goBackFrom_41 : decode cX3_goBackFrom 41 = .ok (.aload_n 0, 1) := by decide +kernel
theorem dX3_goBackFrom_42 : decode cX3_goBackFrom 42 = .ok (.iload_n 3, 1) := by decide +kernel
theorem dX3_goBackFrom_43 : decode cX3_goBackFrom 43 = .ok (.invokevirtual 60, 3) := by decide +kernel
theorem dX3_goBackFrom_46 : decode cX3_goBackFrom 46 = .ok (.iinc 2 1, 3) := by decide +kernel
theorem dX3_goBackFrom_49 : decode cX3_goBackFrom 49 = .ok (.goto (-47), 3) := by decide +kernel
theorem dX3_goBackFrom_52 : decode cX3_goBackFrom 52 = .ok (.return_, 1) := by decide +kernel
theorem dX3_find_0 : decode cX3_find 0 = .ok (.aload_n 0, 1) := by decide +kernel
theorem dX3_find_1 : decode cX3_find 1 = .ok (.getfield 9, 3) := by decide +kernel
theorem dX3_find_4 : decode cX3_find 4 = .ok (.iload_n 1, 1) := by decide +kernel
theorem dX3_find_5 : decode cX3_find 5 = .ok (.baload, 1) := by decide +kernel
theorem dX3_find_6 : decode cX3_find 6 = .ok (.ifCond .ne 40, 3) := by decide +kernel
theorem dX3_find_9 : decode cX3_find 9 = .ok (.aload_n 0, 1) := by decide +kernel
theorem dX3_find_10 : decode cX3_find 10 = .ok (.getfield 42, 3) := by decide +kernel
theorem dX3_find_13 : decode cX3_find 13 = .ok (.sipush 4096, 3) := by decide +kernel
theorem dX3_find_16 : decode cX3_find 16 = .ok (.if_icmp .ge 30, 3) := by decide +kernel
theorem dX3_find_19 : decode cX3_find 19 = .ok (.aload_n 0, 1) := by decide +kernel
theorem dX3_find_20 : decode cX3_find 20 = .ok (.getfield 9, 3) := by decide +kernel
theorem dX3_find_23 : decode cX3_find 23 = .ok (.iload_n 1, 1) := by decide +kernel
theorem dX3_find_24 : decode cX3_find 24 = .ok (.iconst 1, 1) := by decide +kernel
theorem dX3_find_25 : decode cX3_find 25 = .ok (.bastore, 1) := by decide +kernel
theorem dX3_find_26 : decode cX3_find 26 = .ok (.aload_n 0, 1) := by decide +kernel
theorem dX3_find_27 : decode cX3_find 27 = .ok (.getfield 15, 3) := by decide +kernel
theorem dX3_find_30 : decode cX3_find 30 = .ok (.aload_n 0, 1) := by decide +kernel
theorem dX3_find_31 : decode cX3_find 31 = .ok (.getfield 42, 3) := by decide +kernel
theorem dX3_find_34 : decode cX3_find 34 = .ok (.iload_n 1, 1) := by decide +kernel
theorem dX3_find_35 : decode cX3_find 35 = .ok (.iastore, 1) := by decide +kernel
theorem dX3_find_36 : decode cX3_find 36 = .ok (.aload_n 0, 1) := by decide +kernel
theorem dX3_find_37 : decode cX3_find 37 = .ok (.dup, 1) := by decide +kernel
theorem dX3_find_38 : decode cX3_find 38 = .ok (.getfield 42, 3) := by decide +kernel
theorem dX3_find_41 : decode cX3_find 41 = .ok (.iconst 1, 1) := by decide +kernel
theorem dX3_find_42 : decode cX3_find 42 = .ok (.iadd, 1) := by decide +kernel
theorem dX3_find_43 : decode cX3_find 43 = .ok (.putfield 42, 3) := by decide +kernel
theorem dX3_find_46 : decode cX3_find 46 = .ok (.return_, 1) := by decide +kernel
theorem dX4_init_0 : decode cX4_init 0 = .ok (.aload_n 0, 1) := by decide +kernel
theorem dX4_init_1 : decode cX4_init 1 = .ok (.invokespecial 3, 3) := by decide +kernel
theorem dX4_init_4 : decode cX4_init 4 = .ok (.aload_n 0, 1) := by decide +kernel
theorem dX4_init_5 : decode cX4_init 5 = .ok (.bipush 10, 2) := by decide +kernel
theorem dX4_init_7 : decode cX4_init 7 = .ok (.newarray .int, 2) := by decide +kernel
theorem dX4_init_9 : decode cX4_init 9 = .ok (.putfield 9, 3) := by decide +kernel
theorem dX4_init_12 : decode cX4_init 12 = .ok (.aload_n 0, 1) := by decide +kernel
theorem dX4_init_13 : decode cX4_init 13 = .ok (.bipush 20, 2) := by decide +kernel
theorem dX4_init_15 : decode cX4_init 15 = .ok (.newarray .int, 2) := by decide +kernel
theorem dX4_init_17 : decode cX4_init 17 = .ok (.putfield 15, 3) := by decide +kernel
theorem dX4_init_20 : decode cX4_init 20 = .ok (.aload_n 0, 1) := by decide +kernel
theorem dX4_init_21 : decode cX4_init 21 = .ok (.bipush 20, 2) := by decide +kernel
theorem dX4_init_23 : decode cX4_init 23 = .ok (.newarray .int, 2) := by decide +kernel
theorem dX4_init_25 : decode cX4_init 25 = .ok (.putfield 18, 3) := by decide +kernel
theorem dX4_init_28 : decode cX4_init 28 = .ok (.aload_n 0, 1) := by decide +kernel
theorem dX4_init_29 : decode cX4_init 29 = .ok (.bipush 20, 2) := by decide +kernel
theorem dX4_init_31 : decode cX4_init 31 = .ok (.newarray .int, 2) := by decide +kernel
theorem dX4_init_33 : decode cX4_init 33 = .ok (.putfield 21, 3) := by decide +kernel
theorem dX4_init_36 : decode cX4_init 36 = .ok (.return_, 1) := by decide +kernel
theorem dX4_removeAll_0 : decode cX4_removeAll 0 = .ok (.aload_n 0, 1) := by decide +kernel
theorem dX4_removeAll_1 : decode cX4_removeAll 1 = .ok (.iconst 0, 1) := by decide +kernel
theorem dX4_removeAll_2 : decode cX4_removeAll 2 = .ok (.putfield 24, 3) := by decide +kernel
theorem dX4_removeAll_5 : decode cX4_removeAll 5 = .ok (.aload_n 0, 1) := by decide +kernel
theorem dX4_removeAll_6 : decode cX4_removeAll 6 = .ok (.iconst 0, 1) := by decide +kernel
theorem dX4_removeAll_7 : decode cX4_removeAll 7 = .ok (.putfield 28, 3) := by decide +kernel
theorem dX4_removeAll_10 : decode cX4_removeAll 10 = .ok (.return_, 1) := by decide +kernel
theorem dX4_addNode_0 : decode cX4_addNode 0 = .ok (.aload_n 0, 1) := by decide +kernel
theorem dX4_addNode_1 : decode cX4_addNode 1 = .ok (.getfield 24, 3) := by decide +kernel
theorem dX4_addNode_4 : decode cX4_addNode 4 = .ok (.bipush 10, 2) := by decide +kernel
theorem dX4_addNode_6 : decode cX4_addNode 6 = .ok (.if_icmp .ge 13, 3) := by decide +kernel
theorem dX4_addNode_9 : decode cX4_addNode 9 = .ok (.iload_n 1, 1) := by decide +kernel
theorem dX4_addNode_10 : decode cX4_addNode 10 = .ok (.ifCond .lt 9, 3) := by decide +kernel
theorem dX4_addNode_13 : decode cX4_addNode 13 = .ok (.iload_n 1, 1) := by decide +kernel
theorem dX4_addNode_14 : decode cX4_addNode 14 = .ok (.bipush 100, 2) := by decide +kernel
theorem dX4_addNode_16 : decode cX4_addNode 16 = .ok (.if_icmp .le 5, 3) := by decide +kernel
theorem dX4_addNode_19 : decode cX4_addNode 19 = .ok (.iconst (-1), 1) := by decide +kernel
theorem dX4_addNode_20 : decode cX4_addNode 20 = .ok (.ireturn, 1) := by decide +kernel
theorem dX4_addNode_21 : decode cX4_addNode 21 = .ok (.aload_n 0, 1) := by decide +kernel
theorem dX4_addNode_22 : decode cX4_addNode 22 = .ok (.getfield 9, 3) := by decide +kernel
theorem dX4_addNode_25 : decode cX4_addNode 25 = .ok (.aload_n 0, 1) := by decide +kernel
theorem dX4_addNode_26 : decode cX4_addNode 26 = .ok (.getfield 24, 3) := by decide +kernel
theorem dX4_addNode_29 : decode cX4_addNode 29 = .ok (.iload_n 1, 1) := by decide +kernel
theorem dX4_addNode_30 : decode cX4_addNode 30 = .ok (.iastore, 1) := by decide +kernel
theorem dX4_addNode_31 : decode cX4_addNode 31 = .ok (.aload_n 0, 1) := by decide +kernel
theorem dX4_addNode_32 : decode cX4_addNode 32 = .ok (.dup, 1) := by decide +kernel
theorem dX4_addNode_33 : decode cX4_addNode 33 = .ok (.getfield 24, 3) := by decide +kernel
theorem dX4_addNode_36 : decode cX4_addNode 36 = .ok (.iconst 1, 1) := by decide +kernel
theorem dX4_addNode_37 : decode cX4_addNode 37 = .ok (.iadd, 1) := by decide +kernel
theorem dX4_addNode_38 : decode cX4_addNode 38 = .ok (.putfield 24, 3) := by decide +kernel
theorem dX4_addNode_41 : decode cX4_addNode 41 = .ok (.aload_n 0, 1) := by decide +kernel
theorem dX4_addNode_42 : decode cX4_addNode 42 = .ok (.getfield 24, 3) := by decide +kernel
theorem dX4_addNode_45 : decode cX4_addNode 45 = .ok (.iconst 1, 1) := by decide +kernel
theorem dX4_addNode_46 : decode cX4_addNode 46 = .ok (.isub, 1) := by decide +kernel
theorem dX4_addNode_47 : decode cX4_addNode 47 = .ok (.ireturn, 1) := by decide +kernel
theorem dX4_addArc_0 : decode cX4_addArc 0 = .ok (.aload_n 0, 1) := by decide +kernel
theorem dX4_addArc_1 : decode cX4_addArc 1 = .ok (.getfield 28, 3) := by decide +kernel
theorem dX4_addArc_4 : decode cX4_addArc 4 = .ok (.bipush 20, 2) := by decide +kernel
theorem dX4_addArc_6 : decode cX4_addArc 6 = .ok (.if_icmp .ge 26, 3) := by decide +kernel
theorem dX4_addArc_9 : decode cX4_addArc 9 = .ok (.aload_n 0, 1) := by decide +kernel
theorem dX4_addArc_10 : decode cX4_addArc 10 = .ok (.iload_n 1, 1) := by decide +kernel
theorem dX4_addArc_11 : decode cX4_addArc 11 = .ok (.invokevirtual 31, 3) := by decide +kernel
theorem dX4_addArc_14 : decode cX4_addArc 14 = .ok (.ifCond .eq 18, 3) := by decide +kernel
theorem dX4_addArc_17 : decode cX4_addArc 17 = .ok (.aload_n 0, 1) := by decide +kernel
theorem dX4_addArc_18 : decode cX4_addArc 18 = .ok (.iload_n 2, 1) := by decide +kernel
theorem dX4_addArc_19 : decode cX4_addArc 19 = .ok (.invokevirtual 31, 3) := by decide +kernel
theorem dX4_addArc_22 : decode cX4_addArc 22 = .ok (.ifCond .eq 10, 3) := by decide +kernel
theorem dX4_addArc_25 : decode cX4_addArc 25 = .ok (.iload_n 3, 1) := by decide +kernel
theorem dX4_addArc_26 : decode cX4_addArc 26 = .ok (.invokestatic 35, 3) := by decide +kernel
theorem dX4_addArc_29 : decode cX4_addArc 29 = .ok (.ifCond .ne 5, 3) := by decide +kernel
theorem dX4_addArc_32 : decode cX4_addArc 32 = .ok (.iconst (-1), 1) := by decide +kernel
theorem dX4_addArc_33 : decode cX4_addArc 33 = .ok (.ireturn, 1) := by decide +kernel
theorem dX4_addArc_34 : decode cX4_addArc 34 = .ok (.aload_n 0, 1) := by decide +kernel
theorem dX4_addArc_35 : decode cX4_addArc 35 = .ok (.getfield 15, 3) := by decide +kernel
theorem dX4_addArc_38 : decode cX4_addArc 38 = .ok (.aload_n 0, 1) := by decide +kernel
theorem dX4_addArc_39 : decode cX4_addArc 39 = .ok (.getfield 28, 3) := by decide +kernel
theorem dX4_addArc_42 : decode cX4_addArc 42 = .ok (.iload_n 1, 1) := by decide +kernel
theorem dX4_addArc_43 : decode cX4_addArc 43 = .ok (.iastore, 1) := by decide +kernel
theorem dX4_addArc_44 : decode cX4_addArc 44 = .ok (.aload_n 0, 1) := by decide +kernel
theorem dX4_addArc_45 : decode cX4_addArc 45 = .ok (.getfield 18, 3) := by decide +kernel
theorem dX4_addArc_48 : decode cX4_addArc 48 = .ok (.aload_n 0, 1) := by decide +kernel
theorem dX4_addArc_49 : decode cX4_addArc 49 = .ok (.getfield 28, 3) := by decide +kernel
theorem dX4_addArc_52 : decode cX4_addArc 52 = .ok (.iload_n 2, 1) := by decide +kernel
theorem dX4_addArc_53 : decode cX4_addArc 53 = .ok (.iastore, 1) := by decide +kernel
theorem dX4_addArc_54 : decode cX4_addArc 54 = .ok (.aload_n 0, 1) := by decide +kernel
theorem dX4_addArc_55 : decode cX4_addArc 55 = .ok (.getfield 21, 3) := by decide +kernel
theorem dX4_addArc_58 : decode cX4_addArc 58 = .ok (.aload_n 0, 1) := by decide +kernel
theorem dX4_addArc_59 : decode cX4_addArc 59 = .ok (.getfield 28, 3) := by decide +kernel
theorem dX4_addArc_62 : decode cX4_addArc 62 = .ok (.iload_n 3, 1) := by decide +kernel
theorem dX4_addArc_63 : decode cX4_addArc 63 = .ok (.iastore, 1) := by decide +kernel
theorem dX4_addArc_64 : decode cX4_addArc 64 = .ok (.aload_n 0, 1) := by decide +kernel
theorem dX4_addArc_65 : decode cX4_addArc 65 = .ok (.dup, 1) := by decide +kernel
theorem dX4_addArc_66 : decode cX4_addArc 66 = .ok (.getfield 28, 3) := by decide +kernel
theorem dX4_addArc_69 : decode cX4_addArc 69 = .ok (.iconst 1, 1) := by decide +kernel
theorem dX4_addArc_70 : decode cX4_addArc 70 = .ok (.iadd, 1) := by decide +kernel
theorem dX4_addArc_71 : decode cX4_addArc 71 = .ok (.putfield 28, 3) := by decide +kernel
theorem dX4_addArc_74 : decode cX4_addArc 74 = .ok (.aload_n 0, 1) := by decide +kernel
theorem dX4_addArc_75 : decode cX4_addArc 75 = .ok (.getfield 28, 3) := by decide +kernel
theorem dX4_addArc_78 : decode cX4_addArc 78 = .ok (.iconst 1, 1) := by decide +kernel
theorem dX4_addArc_79 : decode cX4_addArc 79 = .ok (.isub, 1) := by decide +kernel
theorem dX4_addArc_80 : decode cX4_addArc 80 = .ok (.ireturn, 1) := by decide +kernel
theorem dX4_putTokens_0 : decode cX4_putTokens 0 = .ok (.iload_n 1, 1) := by decide +kernel
theorem dX4_putTokens_1 : decode cX4_putTokens 1 = .ok (.ifCond .lt 18, 3) := by decide +kernel
theorem dX4_putTokens_4 : decode cX4_putTokens 4 = .ok (.iload_n 1, 1) := by decide +kernel
theorem dX4_putTokens_5 : decode cX4_putTokens 5 = .ok (.aload_n 0, 1) := by decide +kernel
theorem dX4_putTokens_6 : decode cX4_putTokens 6 = .ok (.getfield 28, 3) := by decide +kernel
theorem dX4_putTokens_9 : decode cX4_putTokens 9 = .ok (.if_icmp .ge 10, 3) := by decide +kernel
theorem dX4_putTokens_12 : decode cX4_putTokens 12 = .ok (.iload_n 2, 1) := by decide +kernel
theorem dX4_putTokens_13 : decode cX4_putTokens 13 = .ok (.invokestatic 35, 3) := by decide +kernel
theorem dX4_putTokens_16 : decode cX4_putTokens 16 = .ok (.ifCond .ne 5, 3) := by decide +kernel
theorem dX4_putTokens_19 : decode cX4_putTokens 19 = .ok (.iconst 0, 1) := by decide +kernel
theorem dX4_putTokens_20 : decode cX4_putTokens 20 = .ok (.ireturn, 1) := by decide +kernel
theorem dX4_putTokens_21 : decode cX4_putTokens 21 = .ok (.aload_n 0, 1) := by decide +kernel
theorem dX4_putTokens_22 : decode cX4_putTokens 22 = .ok (.getfield 21, 3) := by decide +kernel
theorem dX4_putTokens_25 : decode cX4_putTokens 25 = .ok (.iload_n 1, 1) := by decide +kernel
theorem dX4_putTokens_26 : decode cX4_putTokens 26 = .ok (.iload_n 2, 1) := by decide +kernel
theorem dX4_putTokens_27 : decode cX4_putTokens 27 = .ok (.iastore, 1) := by decide +kernel
theorem dX4_putTokens_28 : decode cX4_putTokens 28 = .ok (.iconst 1, 1) := by decide +kernel
theorem dX4_putTokens_29 : decode cX4_putTokens 29 = .ok (.ireturn, 1) := by decide +kernel
theorem dX4_isTokens_0 : decode cX4_isTokens 0 = .ok (.iload_n 0, 1) := by decide +kernel
theorem dX4_isTokens_1 : decode cX4_isTokens 1 = .ok (.ifCond .lt 13, 3) := by decide +kernel
theorem dX4_isTokens_4 : decode cX4_isTokens 4 = .ok (.iload_n 0, 1) := by decide +kernel
theorem dX4_isTokens_5 : decode cX4_isTokens 5 = .ok (.bipush 9, 2) := by decide +kernel
theorem dX4_isTokens_7 : decode cX4_isTokens 7 = .ok (.if_icmp .gt 7, 3) := by decide +kernel
theorem dX4_isTokens_10 : decode cX4_isTokens 10 = .ok (.iconst 1, 1) := by decide +kernel
theorem dX4_isTokens_11 : decode cX4_isTokens 11 = .ok (.goto 4, 3) := by decide +kernel
theorem dX4_isTokens_14 : decode cX4_isTokens 14 = .ok (.iconst 0, 1) := by decide +kernel
theorem dX4_isTokens_15 : decode cX4_isTokens 15 = .ok (.ireturn, 1) := by decide +kernel
theorem dX4_isNode_0 : decode cX4_isNode 0 = .ok (.iload_n 1, 1) := by decide +kernel
theorem dX4_isNode_1 : decode cX4_isNode 1 = .ok (.ifCond .lt 15, 3) := by decide +kernel
theorem dX4_isNode_4 : decode cX4_isNode 4 = .ok (.iload_n 1, 1) := by decide +kernel
theorem dX4_isNode_5 : decode cX4_isNode 5 = .ok (.aload_n 0, 1) := by decide +kernel
theorem dX4_isNode_6 : decode cX4_isNode 6 = .ok (.getfield 24, 3) := by decide +kernel
theorem dX4_isNode_9 : decode cX4_isNode 9 = .ok (.if_icmp .ge 7, 3) := by decide +kernel
theorem dX4_isNode_12 : decode cX4_isNode 12 = .ok (.iconst 1, 1) := by decide +kernel
theorem dX4_isNode_13 : decode cX4_isNode 13 = .ok (.goto 4, 3) := by decide +kernel
theorem dX4_isNode_16 : decode cX4_isNode 16 = .ok (.iconst 0, 1) := by decide +kernel
theorem dX4_isNode_17 : decode cX4_isNode 17 = .ok (.ireturn, 1) := by decide +kernel
theorem dX4_nodes_0 : decode cX4_nodes 0 = .ok (.aload_n 0, 1) := by decide +kernel
theorem dX4_nodes_1 : decode cX4_nodes 1 = .ok (.getfield 24, 3) := by decide +kernel
theorem dX4_nodes_4 : decode cX4_nodes 4 = .ok (.ireturn, 1) := by decide +kernel
theorem dX4_arcs_0 : decode cX4_arcs 0 = .ok (.aload_n 0, 1) := by decide +kernel
theorem dX4_arcs_1 : decode cX4_arcs 1 = .ok (.getfield 28, 3) := by decide +kernel
theorem dX4_arcs_4 : decode cX4_arcs 4 = .ok (.ireturn, 1) := by decide +kernel
theorem dX4_delayOf_0 : decode cX4_delayOf 0 = .ok (.aload_n 0, 1) := by decide +kernel
theorem dX4_delayOf_1 : decode cX4_delayOf 1 = .ok (.getfield 9, 3) := by decide +kernel
theorem dX4_delayOf_4 : decode cX4_delayOf 4 = .ok (.iload_n 1, 1) := by decide +kernel
theorem dX4_delayOf_5 : decode cX4_delayOf 5 = .ok (.iaload, 1) := by decide +kernel
theorem dX4_delayOf_6 : decode cX4_delayOf 6 = .ok (.ireturn, 1) := by decide +kernel
theorem dX4_sourceOf_0 : decode cX4_sourceOf 0 = .ok (.aload_n 0, 1) := by decide +kernel
theorem dX4_sourceOf_1 : decode cX4_sourceOf 1 = .ok (.getfield 15, 3) := by decide +kernel
theorem dX4_sourceOf_4 : decode cX4_sourceOf 4 = .ok (.iload_n 1, 1) := by decide +kernel
theorem dX4_sourceOf_5 : decode cX4_sourceOf 5 = .ok (.iaload, 1) := by decide +kernel
theorem dX4_sourceOf_6 : decode cX4_sourceOf 6 = .ok (.ireturn, 1) := by decide +kernel
theorem dX4_targetOf_0 : decode cX4_targetOf 0 = .ok (.aload_n 0, 1) := by decide +kernel
theorem dX4_targetOf_1 : decode cX4_targetOf 1 = .ok (.getfield 18, 3) := by decide +kernel
theorem dX4_targetOf_4 : decode cX4_targetOf 4 = .ok (.iload_n 1, 1) := by decide +kernel
theorem dX4_targetOf_5 : decode cX4_targetOf 5 = .ok (.iaload, 1) := by decide +kernel
theorem dX4_targetOf_6 : decode cX4_targetOf 6 = .ok (.ireturn, 1) := by decide +kernel
theorem dX4_tokensOf_0 : decode cX4_tokensOf 0 = .ok (.aload_n 0, 1) := by decide +kernel
theorem dX4_tokensOf_1 : decode cX4_tokensOf 1 = .ok (.getfield 21, 3) := by decide +kernel
theorem dX4_tokensOf_4 : decode cX4_tokensOf 4 = .ok (.iload_n 1, 1) := by decide +kernel
theorem dX4_tokensOf_5 : decode cX4_tokensOf 5 = .ok (.iaload, 1) := by decide +kernel
theorem dX4_tokensOf_6 : decode cX4_tokensOf 6 = .ok (.ireturn, 1) := by decide +kernel
theorem dX4_allNodes_0 : decode cX4_allNodes 0 = .ok (.iconst 1, 1) := by decide +kernel
theorem dX4_allNodes_1 : decode cX4_allNodes 1 = .ok (.aload_n 0, 1) := by decide +kernel
theorem dX4_allNodes_2 : decode cX4_allNodes 2 = .ok (.getfield 24, 3) := by decide +kernel
theorem dX4_allNodes_5 : decode cX4_allNodes 5 = .ok (.ishl, 1) := by decide +kernel
theorem dX4_allNodes_6 : decode cX4_allNodes 6 = .ok (.iconst 1, 1) := by decide +kernel
theorem dX4_allNodes_7 : decode cX4_allNodes 7 = .ok (.isub, 1) := by decide +kernel
theorem dX4_allNodes_8 : decode cX4_allNodes 8 = .ok (.ireturn, 1) := by decide +kernel
theorem dX4_hasDeadRing_0 : decode cX4_hasDeadRing 0 = .ok (.aload_n 0, 1) := by decide +kernel
theorem dX4_hasDeadRing_1 : decode cX4_hasDeadRing 1 = .ok (.iconst 0, 1) := by decide +kernel
theorem dX4_hasDeadRing_2 : decode cX4_hasDeadRing 2 = .ok (.invokevirtual 38, 3) := by decide +kernel
theorem dX4_hasDeadRing_5 : decode cX4_hasDeadRing 5 = .ok (.ifCond .eq 7, 3) := by decide +kernel
theorem dX4_hasDeadRing_8 : decode cX4_hasDeadRing 8 = .ok (.iconst 1, 1) := by decide +kernel
theorem dX4_hasDeadRing_9 : decode cX4_hasDeadRing 9 = .ok (.goto 4, 3) := by decide +kernel
theorem dX4_hasDeadRing_12 : decode cX4_hasDeadRing 12 = .ok (.iconst 0, 1) := by decide +kernel
theorem dX4_hasDeadRing_13 : decode cX4_hasDeadRing 13 = .ok (.ireturn, 1) := by decide +kernel
theorem dX4_hasRing_0 : decode cX4_hasRing 0 = .ok (.aload_n 0, 1) := by decide +kernel
theorem dX4_hasRing_1 : decode cX4_hasRing 1 = .ok (.bipush 9, 2) := by decide +kernel
theorem dX4_hasRing_3 : decode cX4_hasRing 3 = .ok (.invokevirtual 38, 3) := by decide +kernel
theorem dX4_hasRing_6 : decode cX4_hasRing 6 = .ok (.ifCond .eq 7, 3) := by decide +kernel
theorem dX4_hasRing_9 : decode cX4_hasRing 9 = .ok (.iconst 1, 1) := by decide +kernel
theorem dX4_hasRing_10 : decode cX4_hasRing 10 = .ok (.goto 4, 3) := by decide +kernel
theorem dX4_hasRing_13 : decode cX4_hasRing 13 = .ok (.iconst 0, 1) := by decide +kernel
theorem dX4_hasRing_14 : decode cX4_hasRing 14 = .ok (.ireturn, 1) := by decide +kernel
theorem dX4_nodesBehindRings_0 : decode cX4_nodesBehindRings 0 = .ok (.iconst 0, 1) := by decide +kernel
theorem dX4_nodesBehindRings_1 : decode cX4_nodesBehindRings 1 = .ok (.istore_n 2, 1) := by decide +kernel
theorem dX4_nodesBehindRings_2 : decode cX4_nodesBehindRings 2 = .ok (.iconst 0, 1) := by decide +kernel
theorem dX4_nodesBehindRings_3 : decode cX4_nodesBehindRings 3 = .ok (.istore_n 3, 1) := by decide +kernel
theorem dX4_nodesBehindRings_4 : decode cX4_nodesBehindRings 4 = .ok (.iload_n 3, 1) := by decide +kernel
theorem dX4_nodesBehindRings_5 : decode cX4_nodesBehindRings 5 = .ok (.aload_n 0, 1) := by decide +kernel
theorem dX4_nodesBehindRings_6 : decode cX4_nodesBehindRings 6 = .ok (.getfield 24, 3) := by decide +kernel
theorem dX4_nodesBehindRings_9 : decode cX4_nodesBehindRings 9 = .ok (.if_icmp .ge 16, 3) := by decide +kernel
theorem dX4_nodesBehindRings_12 : decode cX4_nodesBehindRings 12 = .ok (.aload_n 0, 1) := by decide +kernel
theorem dX4_nodesBehindRings_13 : decode cX4_nodesBehindRings 13 = .ok (.iload_n 2, 1) := by decide +kernel
theorem dX4_nodesBehindRings_14 : decode cX4_nodesBehindRings 14 = .ok (.iload_n 1, 1) := by decide +kernel
theorem dX4_nodesBehindRings_15 : decode cX4_nodesBehindRings 15 = .ok (.invokevirtual 42, 3) := by decide +kernel
theorem dX4_nodesBehindRings_18 : decode cX4_nodesBehindRings 18 = .ok (.istore_n 2, 1) := by decide +kernel
theorem dX4_nodesBehindRings_19 : decode cX4_nodesBehindRings 19 = .ok (.iinc 3 1, 3) := by decide +kernel
theorem dX4_nodesBehindRings_22 : decode cX4_nodesBehindRings 22 = .ok (.goto (-18), 3) := by decide +kernel
theorem dX4_nodesBehindRings_25 : decode cX4_nodesBehindRings 25 = .ok (.aload_n 0, 1) := by decide +kernel
theorem dX4_nodesBehindRings_26 : decode cX4_nodesBehindRings 26 = .ok (.invokevirtual 46, 3) := by decide +kernel
theorem dX4_nodesBehindRings_29 : decode cX4_nodesBehindRings 29 = .ok (.iload_n 2, 1) := by decide +kernel
theorem dX4_nodesBehindRings_30 : decode cX4_nodesBehindRings 30 = .ok (.iconst (-1), 1) := by decide +kernel
theorem dX4_nodesBehindRings_31 : decode cX4_nodesBehindRings 31 = .ok (.ixor, 1) := by decide +kernel
theorem dX4_nodesBehindRings_32 : decode cX4_nodesBehindRings 32 = .ok (.iand, 1) := by decide +kernel
theorem dX4_nodesBehindRings_33 : decode cX4_nodesBehindRings 33 = .ok (.ireturn, 1) := by decide +kernel
theorem dX4_freedBy_0 : decode cX4_freedBy 0 = .ok (.iconst 0, 1) := by decide +kernel
theorem dX4_freedBy_1 : decode cX4_freedBy 1 = .ok (.istore_n 3, 1) := by decide +kernel
theorem dX4_freedBy_2 : decode cX4_freedBy 2 = .ok (.iconst 0, 1) := by decide +kernel
theorem dX4_freedBy_3 : decode cX4_freedBy 3 = .ok (.istore 4, 2) := by decide +kernel
theorem dX4_freedBy_5 : decode cX4_freedBy 5 = .ok (.iload 4, 2) := by decide +kernel
theorem dX4_freedBy_7 : decode cX4_freedBy 7 = .ok (.aload_n 0, 1) := by decide +kernel
theorem dX4_freedBy_8 : decode cX4_freedBy 8 = .ok (.getfield 28, 3) := by decide +kernel
theorem dX4_freedBy_11 : decode cX4_freedBy 11 = .ok (.if_icmp .ge 46, 3) := by decide +kernel
theorem dX4_freedBy_14 : decode cX4_freedBy 14 = .ok (.aload_n 0, 1) := by decide +kernel
theorem dX4_freedBy_15 : decode cX4_freedBy 15 = .ok (.getfield 21, 3) := by decide +kernel
theorem dX4_freedBy_18 : decode cX4_freedBy 18 = .ok (.iload 4, 2) := by decide +kernel
theorem dX4_freedBy_20 : decode cX4_freedBy 20 = .ok (.iaload, 1) := by decide +kernel
theorem dX4_freedBy_21 : decode cX4_freedBy 21 = .ok (.iload_n 2, 1) := by decide +kernel
theorem dX4_freedBy_22 : decode cX4_freedBy 22 = .ok (.if_icmp .gt 29, 3) := by decide +kernel
theorem dX4_freedBy_25 : decode cX4_freedBy 25 = .ok (.iload_n 1, 1) := by decide +kernel
theorem dX4_freedBy_26 : decode cX4_freedBy 26 = .ok (.aload_n 0, 1) := by decide +kernel
theorem dX4_freedBy_27 : decode cX4_freedBy 27 = .ok (.getfield 15, 3) := by decide +kernel
theorem dX4_freedBy_30 : decode cX4_freedBy 30 = .ok (.iload 4, 2) := by decide +kernel
theorem dX4_freedBy_32 : decode cX4_freedBy 32 = .ok (.iaload, 1) := by decide +kernel
theorem dX4_freedBy_33 : decode cX4_freedBy 33 = .ok (.invokestatic 50, 3) := by decide +kernel
theorem dX4_freedBy_36 : decode cX4_freedBy 36 = .ok (.ifCond .ne 15, 3) := by decide +kernel
theorem dX4_freedBy_39 : decode cX4_freedBy 39 = .ok (.iload_n 3, 1) := by decide +kernel
theorem dX4_freedBy_40 : decode cX4_freedBy 40 = .ok (.iconst 1, 1) := by decide +kernel
theorem dX4_freedBy_41 : decode cX4_freedBy 41 = .ok (.aload_n 0, 1) := by decide +kernel
theorem dX4_freedBy_42 : decode cX4_freedBy 42 = .ok (.getfield 18, 3) := by decide +kernel
theorem dX4_freedBy_45 : decode cX4_freedBy 45 = .ok (.iload 4, 2) := by decide +kernel
theorem dX4_freedBy_47 : decode cX4_freedBy 47 = .ok (.iaload, 1) := by decide +kernel
theorem dX4_freedBy_48 : decode cX4_freedBy 48 = .ok (.ishl, 1) := by decide +kernel
theorem dX4_freedBy_49 : decode cX4_freedBy 49 = .ok (.ior, 1) := by decide +kernel
theorem dX4_freedBy_50 : decode cX4_freedBy 50 = .ok (.istore_n 3, 1) := by decide +kernel
theorem dX4_freedBy_51 : decode cX4_freedBy 51 = .ok (.iinc 4 1, 3) := by decide +kernel
theorem dX4_freedBy_54 : decode cX4_freedBy 54 = .ok (.goto (-49), 3) := by decide +kernel
theorem dX4_freedBy_57 : decode cX4_freedBy 57 = .ok (.aload_n 0, 1) := by decide +kernel
theorem dX4_freedBy_58 : decode cX4_freedBy 58 = .ok (.invokevirtual 46, 3) := by decide +kernel
theorem dX4_freedBy_61 : decode cX4_freedBy 61 = .ok (.iload_n 3, 1) := by decide +kernel
theorem dX4_freedBy_62 : decode cX4_freedBy 62 = .ok (.iconst (-1), 1) := by decide +kernel
theorem dX4_freedBy_63 : decode cX4_freedBy 63 = .ok (.ixor, 1) := by decide +kernel
theorem dX4_freedBy_64 : decode cX4_freedBy 64 = .ok (.iand, 1) := by decide +kernel
theorem dX4_freedBy_65 : decode cX4_freedBy 65 = .ok (.ireturn, 1) := by decide +kernel
theorem dX5_init_0 : decode cX5_init 0 = .ok (.aload_n 0, 1) := by decide +kernel
theorem dX5_init_1 : decode cX5_init 1 = .ok (.invokespecial 3, 3) := by decide +kernel
theorem dX5_init_4 : decode cX5_init 4 = .ok (.aload_n 0, 1) := by decide +kernel
theorem dX5_init_5 : decode cX5_init 5 = .ok (.iconst 1, 1) := by decide +kernel
theorem dX5_init_6 : decode cX5_init 6 = .ok (.putfield 9, 3) := by decide +kernel
theorem dX5_init_9 : decode cX5_init 9 = .ok (.return_, 1) := by decide +kernel
theorem dX5_putBelowAll_0 : decode cX5_putBelowAll 0 = .ok (.aload_n 0, 1) := by decide +kernel
theorem dX5_putBelowAll_1 : decode cX5_putBelowAll 1 = .ok (.iconst (-1), 1) := by decide +kernel
theorem dX5_putBelowAll_2 : decode cX5_putBelowAll 2 = .ok (.putfield 15, 3) := by decide +kernel
theorem dX5_putBelowAll_5 : decode cX5_putBelowAll 5 = .ok (.aload_n 0, 1) := by decide +kernel
theorem dX5_putBelowAll_6 : decode cX5_putBelowAll 6 = .ok (.iconst 1, 1) := by decide +kernel
theorem dX5_putBelowAll_7 : decode cX5_putBelowAll 7 = .ok (.putfield 9, 3) := by decide +kernel
theorem dX5_putBelowAll_10 : decode cX5_putBelowAll 10 = .ok (.return_, 1) := by decide +kernel
theorem dX5_put_0 : decode cX5_put 0 = .ok (.iload_n 1, 1) := by decide +kernel
theorem dX5_put_1 : decode cX5_put 1 = .ok (.iload_n 2, 1) := by decide +kernel
theorem dX5_put_2 : decode cX5_put 2 = .ok (.invokestatic 18, 3) := by decide +kernel
theorem dX5_put_5 : decode cX5_put 5 = .ok (.istore_n 3, 1) := by decide +kernel
theorem dX5_put_6 : decode cX5_put 6 = .ok (.iload_n 3, 1) := by decide +kernel
theorem dX5_put_7 : decode cX5_put 7 = .ok (.ifCond .eq 17, 3) := by decide +kernel
theorem dX5_put_10 : decode cX5_put 10 = .ok (.aload_n 0, 1) := by decide +kernel
theorem dX5_put_11 : decode cX5_put 11 = .ok (.iload_n 1, 1) := by decide +kernel
theorem dX5_put_12 : decode cX5_put 12 = .ok (.iload_n 3, 1) := by decide +kernel
theorem dX5_put_13 : decode cX5_put 13 = .ok (.idiv, 1) := by decide +kernel
theorem dX5_put_14 : decode cX5_put 14 = .ok (.putfield 15, 3) := by decide +kernel
theorem dX5_put_17 : decode cX5_put 17 = .ok (.aload_n 0, 1) := by decide +kernel
theorem dX5_put_18 : decode cX5_put 18 = .ok (.iload_n 2, 1) := by decide +kernel
theorem dX5_put_19 : decode cX5_put 19 = .ok (.iload_n 3, 1) := by decide +kernel
theorem dX5_put_20 : decode cX5_put 20 = .ok (.idiv, 1) := by decide +kernel
theorem dX5_put_21 : decode cX5_put 21 = .ok (.putfield 9, 3) := by decide +kernel
theorem dX5_put_24 : decode cX5_put 24 = .ok (.return_, 1) := by decide +kernel
theorem dX5_putAs_0 : decode cX5_putAs 0 = .ok (.aload_n 0, 1) := by decide +kernel
theorem dX5_putAs_1 : decode cX5_putAs 1 = .ok (.aload_n 1, 1) := by decide +kernel
theorem dX5_putAs_2 : decode cX5_putAs 2 = .ok (.getfield 15, 3) := by decide +kernel
theorem dX5_putAs_5 : decode cX5_putAs 5 = .ok (.putfield 15, 3) := by decide +kernel
theorem dX5_putAs_8 : decode cX5_putAs 8 = .ok (.aload_n 0, 1) := by decide +kernel
theorem dX5_putAs_9 : decode cX5_putAs 9 = .ok (.aload_n 1, 1) := by decide +kernel
theorem dX5_putAs_10 : decode cX5_putAs 10 = .ok (.getfield 9, 3) := by decide +kernel
theorem dX5_putAs_13 : decode cX5_putAs 13 = .ok (.putfield 9, 3) := by decide +kernel
theorem dX5_putAs_16 : decode cX5_putAs 16 = .ok (.return_, 1) := by decide +kernel
theorem dX5_top_0 : decode cX5_top 0 = .ok (.aload_n 0, 1) := by decide +kernel
theorem dX5_top_1 : decode cX5_top 1 = .ok (.getfield 15, 3) := by decide +kernel
theorem dX5_top_4 : decode cX5_top 4 = .ok (.ireturn, 1) := by decide +kernel
theorem dX5_bottom_0 : decode cX5_bottom 0 = .ok (.aload_n 0, 1) := by decide +kernel
theorem dX5_bottom_1 : decode cX5_bottom 1 = .ok (.getfield 9, 3) := by decide +kernel
theorem dX5_bottom_4 : decode cX5_bottom 4 = .ok (.ireturn, 1) := by decide +kernel
theorem dX5_isLess_0 : decode cX5_isLess 0 = .ok (.aload_n 0, 1) := by decide +kernel
theorem dX5_isLess_1 : decode cX5_isLess 1 = .ok (.getfield 15, 3) := by decide +kernel
theorem dX5_isLess_4 : decode cX5_isLess 4 = .ok (.aload_n 1, 1) := by decide +kernel
theorem dX5_isLess_5 : decode cX5_isLess 5 = .ok (.getfield 9, 3) := by decide +kernel
theorem dX5_isLess_8 : decode cX5_isLess 8 = .ok (.imul, 1) := by decide +kernel
theorem dX5_isLess_9 : decode cX5_isLess 9 = .ok (.aload_n 1, 1) := by decide +kernel
theorem dX5_isLess_10 : decode cX5_isLess 10 = .ok (.getfield 15, 3) := by decide +kernel
theorem dX5_isLess_13 : decode cX5_isLess 13 = .ok (.aload_n 0, 1) := by decide +kernel
theorem dX5_isLess_14 : decode cX5_isLess 14 = .ok (.getfield 9, 3) := by decide +kernel
theorem dX5_isLess_17 : decode cX5_isLess 17 = .ok (.imul, 1) := by decide +kernel
theorem dX5_isLess_18 : decode cX5_isLess 18 = .ok (.if_icmp .ge 7, 3) := by decide +kernel
theorem dX5_isLess_21 : decode cX5_isLess 21 = .ok (.iconst 1, 1) := by decide +kernel
theorem dX5_isLess_22 : decode cX5_isLess 22 = .ok (.goto 4, 3) := by decide +kernel
theorem dX5_isLess_25 : decode cX5_isLess 25 = .ok (.iconst 0, 1) := by decide +kernel
theorem dX5_isLess_26 : decode cX5_isLess 26 = .ok (.ireturn, 1) := by decide +kernel
theorem dX5_commonDivisor_0 : decode cX5_commonDivisor 0 = .ok (.iload_n 0, 1) := by decide +kernel
theorem dX5_commonDivisor_1 : decode cX5_commonDivisor 1 = .ok (.istore_n 2, 1) := by decide +kernel
theorem dX5_commonDivisor_2 : decode cX5_commonDivisor 2 = .ok (.iload_n 1, 1) := by decide +kernel
theorem dX5_commonDivisor_3 : decode cX5_commonDivisor 3 = .ok (.istore_n 3, 1) := by decide +kernel
theorem dX5_commonDivisor_4 : decode cX5_commonDivisor 4 = .ok (.iconst 0, 1) := by decide +kernel
theorem dX5_commonDivisor_5 : decode cX5_commonDivisor 5 = .ok (.istore 4, 2) := by decide +kernel
theorem dX5_commonDivisor_7 : decode cX5_commonDivisor 7 = .ok (.iload 4, 2) := by decide +kernel
theorem dX5_commonDivisor_9 : decode cX5_commonDivisor 9 = .ok (.bipush 64, 2) := by decide +kernel
theorem dX5_commonDivisor_11 : decode cX5_commonDivisor 11 = .ok (.if_icmp .ge 23, 3) := by decide +kernel
theorem dX5_commonDivisor_14 : decode cX5_commonDivisor 14 = .ok (.iload_n 3, 1) := by decide +kernel
theorem dX5_commonDivisor_15 : decode cX5_commonDivisor 15 = .ok (.ifCond .eq 19, 3) := by decide +kernel
theorem dX5_commonDivisor_18 : decode cX5_commonDivisor 18 = .ok (.iload_n 2, 1) := by decide +kernel
theorem dX5_commonDivisor_19 : decode cX5_commonDivisor 19 = .ok (.iload_n 3, 1) := by decide +kernel
theorem dX5_commonDivisor_20 : decode cX5_commonDivisor 20 = .ok (.irem, 1) := by decide +kernel
theorem dX5_commonDivisor_21 : decode cX5_commonDivisor 21 = .ok (.istore 5, 2) := by decide +kernel
theorem dX5_commonDivisor_23 : decode cX5_commonDivisor 23 = .ok (.iload_n 3, 1) := by decide +kernel
theorem dX5_commonDivisor_24 : decode cX5_commonDivisor 24 = .ok (.istore_n 2, 1) := by decide +kernel
theorem dX5_commonDivisor_25 : decode cX5_commonDivisor 25 = .ok (.iload 5, 2) := by decide +kernel
theorem dX5_commonDivisor_27 : decode cX5_commonDivisor 27 = .ok (.istore_n 3, 1) := by decide +kernel
theorem dX5_commonDivisor_28 : decode cX5_commonDivisor 28 = .ok (.iinc 4 1, 3) := by decide +kernel
theorem dX5_commonDivisor_31 : decode cX5_commonDivisor 31 = .ok (.goto (-24), 3) := by decide +kernel
theorem dX5_commonDivisor_34 : decode cX5_commonDivisor 34 = .ok (.iload_n 2, 1) := by decide +kernel
theorem dX5_commonDivisor_35 : decode cX5_commonDivisor 35 = .ok (.ireturn, 1) := by decide +kernel
theorem dX6_init_0 : decode cX6_init 0 = .ok (.aload_n 0, 1) := by decide +kernel
theorem dX6_init_1 : decode cX6_init 1 = .ok (.invokespecial 3, 3) := by decide +kernel
theorem dX6_init_4 : decode cX6_init 4 = .ok (.aload_n 0, 1) := by decide +kernel
theorem dX6_init_5 : decode cX6_init 5 = .ok (.aload_n 1, 1) := by decide +kernel
theorem dX6_init_6 : decode cX6_init 6 = .ok (.putfield 9, 3) := by decide +kernel
theorem dX6_init_9 : decode cX6_init 9 = .ok (.return_, 1) := by decide +kernel
theorem dX6_read_0 : decode cX6_read 0 = .ok (.aload_n 1, 1) := by decide +kernel
theorem dX6_read_1 : decode cX6_read 1 = .ok (.invokevirtual 15, 3) := by decide +kernel
theorem dX6_read_4 : decode cX6_read 4 = .ok (.aload_n 0, 1) := by decide +kernel
theorem dX6_read_5 : decode cX6_read 5 = .ok (.aload_n 0, 1) := by decide +kernel
theorem dX6_read_6 : decode cX6_read 6 = .ok (.getfield 9, 3) := by decide +kernel
theorem dX6_read_9 : decode cX6_read 9 = .ok (.iconst 0, 1) := by decide +kernel
theorem dX6_read_10 : decode cX6_read 10 = .ok (.invokevirtual 20, 3) := by decide +kernel
theorem dX6_read_13 : decode cX6_read 13 = .ok (.putfield 26, 3) := by decide +kernel
theorem dX6_read_16 : decode cX6_read 16 = .ok (.aload_n 0, 1) := by decide +kernel
theorem dX6_read_17 : decode cX6_read 17 = .ok (.invokevirtual 30, 3) := by decide +kernel
theorem dX6_read_20 : decode cX6_read 20 = .ok (.ifCond .eq 5, 3) := by decide +kernel
theorem dX6_read_23 : decode cX6_read 23 = .ok (.iconst (-1), 1) := by decide +kernel
theorem dX6_read_24 : decode cX6_read 24 = .ok (.ireturn, 1) := by decide +kernel
theorem dX6_read_25 : decode cX6_read 25 = .ok (.iconst 0, 1) := by decide +kernel
theorem dX6_read_26 : decode cX6_read 26 = .ok (.istore_n 2, 1) := by decide +kernel
theorem dX6_read_27 : decode cX6_read 27 = .ok (.iload_n 2, 1) := by decide +kernel
theorem dX6_read_28 : decode cX6_read 28 = .ok (.bipush 12, 2) := by decide +kernel
theorem dX6_read_30 : decode cX6_read 30 = .ok (.if_icmp .ge 49, 3) := by decide +kernel
theorem dX6_read_33 : decode cX6_read 33 = .ok (.aload_n 0, 1) := by decide +kernel
theorem dX6_read_34 : decode cX6_read 34 = .ok (.aload_n 1, 1) := by decide +kernel
theorem dX6_read_35 : decode cX6_read 35 = .ok (.invokevirtual 34, 3) := by decide +kernel
theorem dX6_read_38 : decode cX6_read 38 = .ok (.ifCond .ne 8, 3) := by decide +kernel
theorem dX6_read_41 : decode cX6_read 41 = .ok (.aload_n 0, 1) := by decide +kernel
theorem dX6_read_42 : decode cX6_read 42 = .ok (.getfield 26, 3) := by decide +kernel
theorem dX6_read_45 : decode cX6_read 45 = .ok (.ireturn, 1) := by decide +kernel
theorem dX6_read_46 : decode cX6_read 46 = .ok (.aload_n 0, 1) := by decide +kernel
theorem dX6_read_47 : decode cX6_read 47 = .ok (.invokevirtual 30, 3) := by decide +kernel
theorem dX6_read_50 : decode cX6_read 50 = .ok (.ifCond .eq 5, 3) := by decide +kernel
theorem dX6_read_53 : decode cX6_read 53 = .ok (.iconst (-1), 1) := by decide +kernel
theorem dX6_read_54 : decode cX6_read 54 = .ok (.ireturn, 1) := by decide +kernel
theorem dX6_read_55 : decode cX6_read 55 = .ok (.aload_n 0, 1) := by decide +kernel
theorem dX6_read_56 : decode cX6_read 56 = .ok (.bipush 59, 2) := by decide +kernel
theorem dX6_read_58 : decode cX6_read 58 = .ok (.invokevirtual 38, 3) := by decide +kernel
theorem dX6_read_61 : decode cX6_read 61 = .ok (.ifCond .ne 8, 3) := by decide +kernel
theorem dX6_read_64 : decode cX6_read 64 = .ok (.aload_n 0, 1) := by decide +kernel
theorem dX6_read_65 : decode cX6_read 65 = .ok (.getfield 26, 3) := by decide +kernel
theorem dX6_read_68 : decode cX6_read 68 = .ok (.ireturn, 1) := by decide +kernel
theorem dX6_read_69 : decode cX6_read 69 = .ok (.aload_n 0, 1) := by decide +kernel
theorem dX6_read_70 : decode cX6_read 70 = .ok (.invokevirtual 42, 3) := by decide +kernel
theorem dX6_read_73 : decode cX6_read 73 = .ok (.iinc 2 1, 3) := by decide +kernel
theorem dX6_read_76 : decode cX6_read 76 = .ok (.goto (-49), 3) := by decide +kernel
theorem dX6_read_79 : decode cX6_read 79 = .ok (.aload_n 0, 1) := by decide +kernel
theorem dX6_read_80 : decode cX6_read 80 = .ok (.getfield 26, 3) := by decide +kernel
theorem dX6_read_83 : decode cX6_read 83 = .ok (.ireturn, 1) := by decide +kernel
theorem dX6_readEquation_0 : decode cX6_readEquation 0 = .ok (.aload_n 0, 1) := by decide +kernel
theorem dX6_readEquation_1 : decode cX6_readEquation 1 = .ok (.invokevirtual 45, 3) := by decide +kernel
theorem dX6_readEquation_4 : decode cX6_readEquation 4 = .ok (.istore_n 2, 1) := by decide +kernel
theorem dX6_readEquation_5 : decode cX6_readEquation 5 = .ok (.iload_n 2, 1) := by decide +kernel
theorem dX6_readEquation_6 : decode cX6_readEquation 6 = .ok (.iconst (-1), 1) := by decide +kernel
theorem dX6_readEquation_7 : decode cX6_readEquation 7 = .ok (.if_icmp .eq 11, 3) := by decide +kernel
theorem dX6_readEquation_10 : decode cX6_readEquation 10 = .ok (.aload_n 1, 1) := by decide +kernel
theorem dX6_readEquation_11 : decode cX6_readEquation 11 = .ok (.iload_n 2, 1) := by decide +kernel
theorem dX6_readEquation_12 : decode cX6_readEquation 12 = .ok (.invokevirtual 49, 3) := by decide +kernel
theorem dX6_readEquation_15 : decode cX6_readEquation 15 = .ok (.ifCond .eq 5, 3) := by decide +kernel
theorem dX6_readEquation_18 : decode cX6_readEquation 18 = .ok (.iconst 0, 1) := by decide +kernel
theorem dX6_readEquation_19 : decode cX6_readEquation 19 = .ok (.ireturn, 1) := by decide +kernel
theorem dX6_readEquation_20 : decode cX6_readEquation 20 = .ok (.aload_n 0, 1) := by decide +kernel
theorem dX6_readEquation_21 : decode cX6_readEquation 21 = .ok (.invokevirtual 42, 3) := by decide +kernel
theorem dX6_readEquation_24 : decode cX6_readEquation 24 = .ok (.aload_n 0, 1) := by decide +kernel
theorem dX6_readEquation_25 : decode cX6_readEquation 25 = .ok (.bipush 61, 2) := by decide +kernel
theorem dX6_readEquation_27 : decode cX6_readEquation 27 = .ok (.invokevirtual 38, 3) := by decide +kernel
theorem dX6_readEquation_30 : decode cX6_readEquation 30 = .ok (.ifCond .ne 5, 3) := by decide +kernel
theorem dX6_readEquation_33 : decode cX6_readEquation 33 = .ok (.iconst 0, 1) := by decide +kernel
theorem dX6_readEquation_34 : decode cX6_readEquation 34 = .ok (.ireturn, 1) := by decide +kernel
theorem dX6_readEquation_35 : decode cX6_readEquation 35 = .ok (.aload_n 0, 1) := by decide +kernel
theorem dX6_readEquation_36 : decode cX6_readEquation 36 = .ok (.invokevirtual 42, 3) := by decide +kernel
theorem dX6_readEquation_39 : decode cX6_readEquation 39 = .ok (.aload_n 1, 1) := by decide +kernel
theorem dX6_readEquation_40 : decode cX6_readEquation 40 = .ok (.iload_n 2, 1) := by decide +kernel
theorem dX6_readEquation_41 : decode cX6_readEquation 41 = .ok (.invokevirtual 53, 3) := by decide +kernel
theorem dX6_readEquation_44 : decode cX6_readEquation 44 = .ok (.aload_n 0, 1) := by decide +kernel
theorem dX6_readEquation_45 : decode cX6_readEquation 45 = .ok (.bipush 48, 2) := by decide +kernel
theorem dX6_readEquation_47 : decode cX6_readEquation 47 = .ok (.invokevirtual 38, 3) := by decide +kernel
theorem dX6_readEquation_50 : decode cX6_readEquation 50 = .ok (.ifCond .ne 12, 3) := by decide +kernel
theorem dX6_readEquation_53 : decode cX6_readEquation 53 = .ok (.aload_n 0, 1) := by decide +kernel
theorem dX6_readEquation_54 : decode cX6_readEquation 54 = .ok (.bipush 49, 2) := by decide +kernel
theorem dX6_readEquation_56 : decode cX6_readEquation 56 = .ok (.invokevirtual 38, 3) := by decide +kernel
theorem dX6_readEquation_59 : decode cX6_readEquation 59 = .ok (.ifCond .eq 20, 3) := by decide +kernel
theorem dX6_readEquation_62 : decode cX6_readEquation 62 = .ok (.aload_n 1, 1) := by decide +kernel
theorem dX6_readEquation_63 : decode cX6_readEquation 63 = .ok (.iload_n 2, 1) := by decide +kernel
theorem dX6_readEquation_64 : decode cX6_readEquation 64 = .ok (.aload_n 0, 1) := by decide +kernel
theorem dX6_readEquation_65 : decode cX6_readEquation 65 = .ok (.bipush 49, 2) := by decide +kernel
theorem dX6_readEquation_67 : decode cX6_readEquation 67 = .ok (.invokevirtual 38, 3) := by decide +kernel
theorem dX6_readEquation_70 : decode cX6_readEquation 70 = .ok (.invokevirtual 57, 3) := by decide +kernel
theorem dX6_readEquation_73 : decode cX6_readEquation 73 = .ok (.aload_n 0, 1) := by decide +kernel
theorem dX6_readEquation_74 : decode cX6_readEquation 74 = .ok (.invokevirtual 42, 3) := by decide +kernel
theorem dX6_readEquation_77 : decode cX6_readEquation 77 = .ok (.iconst 1, 1) := by decide +kernel
theorem dX6_readEquation_78 : decode cX6_readEquation 78 = .ok (.ireturn, 1) := by decide +kernel
theorem dX6_readEquation_79 : decode cX6_readEquation 79 = .ok (.aload_n 0, 1) := by decide +kernel
theorem dX6_readEquation_80 : decode cX6_readEquation 80 = .ok (.iload_n 2, 1) := by decide +kernel
theorem dX6_readEquation_81 : decode cX6_readEquation 81 = .ok (.aload_n 1, 1) := by decide +kernel
theorem dX6_readEquation_82 : decode cX6_readEquation 82 = .ok (.invokevirtual 61, 3) := by decide +kernel
theorem dX6_readEquation_85 : decode cX6_readEquation 85 = .ok (.ireturn, 1) := by decide +kernel
theorem dX6_readTerms_0 : decode cX6_readTerms 0 = .ok (.iconst 0, 1) := by decide +kernel
theorem dX6_readTerms_1 : decode cX6_readTerms 1 = .ok (.istore_n 3, 1) := by decide +kernel
theorem dX6_readTerms_2 : decode cX6_readTerms 2 = .ok (.iload_n 3, 1) := by decide +kernel
theorem dX6_readTerms_3 : decode cX6_readTerms 3 = .ok (.bipush 12, 2) := by decide +kernel
theorem dX6_readTerms_5 : decode cX6_readTerms 5 = .ok (.if_icmp .ge 35, 3) := by decide +kernel
theorem dX6_readTerms_8 : decode cX6_readTerms 8 = .ok (.aload_n 0, 1) := by decide +kernel
theorem dX6_readTerms_9 : decode cX6_readTerms 9 = .ok (.iload_n 1, 1) := by decide +kernel
theorem dX6_readTerms_10 : decode cX6_readTerms 10 = .ok (.aload_n 2, 1) := by decide +kernel
theorem dX6_readTerms_11 : decode cX6_readTerms 11 = .ok (.invokevirtual 65, 3) := by decide +kernel
theorem dX6_readTerms_14 : decode cX6_readTerms 14 = .ok (.ifCond .ne 5, 3) := by decide +kernel
theorem dX6_readTerms_17 : decode cX6_readTerms 17 = .ok (.iconst 0, 1) := by decide +kernel
theorem dX6_readTerms_18 : decode cX6_readTerms 18 = .ok (.ireturn, 1) := by decide +kernel
theorem dX6_readTerms_19 : decode cX6_readTerms 19 = .ok (.aload_n 0, 1) := by decide +kernel
theorem dX6_readTerms_20 : decode cX6_readTerms 20 = .ok (.bipush 43, 2) := by decide +kernel
theorem dX6_readTerms_22 : decode cX6_readTerms 22 = .ok (.invokevirtual 38, 3) := by decide +kernel
theorem dX6_readTerms_25 : decode cX6_readTerms 25 = .ok (.ifCond .ne 5, 3) := by decide +kernel
theorem dX6_readTerms_28 : decode cX6_readTerms 28 = .ok (.iconst 1, 1) := by decide +kernel
theorem dX6_readTerms_29 : decode cX6_readTerms 29 = .ok (.ireturn, 1) := by decide +kernel
theorem dX6_readTerms_30 : decode cX6_readTerms 30 = .ok (.aload_n 0, 1) := by decide +kernel
theorem dX6_readTerms_31 : decode cX6_readTerms 31 = .ok (.invokevirtual 42, 3) := by decide +kernel
theorem dX6_readTerms_34 : decode cX6_readTerms 34 = .ok (.iinc 3 1, 3) := by decide +kernel
theorem dX6_readTerms_37 : decode cX6_readTerms 37 = .ok (.goto (-35), 3) := by decide +kernel
theorem dX6_readTerms_40 : decode cX6_readTerms 40 = .ok (.iconst 0, 1) := by decide +kernel
theorem dX6_readTerms_41 : decode cX6_readTerms 41 = .ok (.ireturn, 1) := by decide +kernel
theorem dX6_readTerm_0 : decode cX6_readTerm 0 = .ok (.iconst 0, 1) := by decide +kernel
theorem dX6_readTerm_1 : decode cX6_readTerm 1 = .ok (.istore_n 3, 1) := by decide +kernel
theorem dX6_readTerm_2 : decode cX6_readTerm 2 = .ok (.iconst 0, 1) := by decide +kernel
theorem dX6_readTerm_3 : decode cX6_readTerm 3 = .ok (.istore 4, 2) := by decide +kernel
theorem dX6_readTerm_5 : decode cX6_readTerm 5 = .ok (.aload_n 0, 1) := by decide +kernel
theorem dX6_readTerm_6 : decode cX6_readTerm 6 = .ok (.invokevirtual 45, 3) := by decide +kernel
theorem dX6_readTerm_9 : decode cX6_readTerm 9 = .ok (.istore 5, 2) := by decide +kernel
theorem dX6_readTerm_11 : decode cX6_readTerm 11 = .ok (.iload 5, 2) := by decide +kernel
theorem dX6_readTerm_13 : decode cX6_readTerm 13 = .ok (.iconst (-1), 1) := by decide +kernel
theorem dX6_readTerm_14 : decode cX6_readTerm 14 = .ok (.if_icmp .ne 5, 3) := by decide +kernel
theorem dX6_readTerm_17 : decode cX6_readTerm 17 = .ok (.iconst 0, 1) := by decide +kernel
theorem dX6_readTerm_18 : decode cX6_readTerm 18 = .ok (.ireturn, 1) := by decide +kernel
theorem dX6_readTerm_19 : decode cX6_readTerm 19 = .ok (.iconst 0, 1) := by decide +kernel
theorem dX6_readTerm_20 : decode cX6_readTerm 20 = .ok (.istore 6, 2) := by decide +kernel
theorem dX6_readTerm_22 : decode cX6_readTerm 22 = .ok (.iload 6, 2) := by decide +kernel
theorem dX6_readTerm_24 : decode cX6_readTerm 24 = .ok (.bipush 8, 2) := by decide +kernel
theorem dX6_readTerm_26 : decode cX6_readTerm 26 = .ok (.if_icmp .ge 57, 3) := by decide +kernel
theorem dX6_readTerm_29 : decode cX6_readTerm 29 = .ok (.iload 5, 2) := by decide +kernel
theorem dX6_readTerm_31 : decode cX6_readTerm 31 = .ok (.iconst (-1), 1) := by decide +kernel
theorem dX6_readTerm_32 : decode cX6_readTerm 32 = .ok (.if_icmp .eq 51, 3) := by decide +kernel
theorem dX6_readTerm_35 : decode cX6_readTerm 35 = .ok (.aload_n 0, 1) := by decide +kernel
theorem dX6_readTerm_36 : decode cX6_readTerm 36 = .ok (.invokevirtual 42, 3) := by decide +kernel
theorem dX6_readTerm_39 : decode cX6_readTerm 39 = .ok (.aload_n 0, 1) := by decide +kernel
theorem dX6_readTerm_40 : decode cX6_readTerm 40 = .ok (.bipush 39, 2) := by decide +kernel
theorem dX6_readTerm_42 : decode cX6_readTerm 42 = .ok (.invokevirtual 38, 3) := by decide +kernel
theorem dX6_readTerm_45 : decode cX6_readTerm 45 = .ok (.ifCond .eq 19, 3) := by decide +kernel
theorem dX6_readTerm_48 : decode cX6_readTerm 48 = .ok (.iload 4, 2) := by decide +kernel
theorem dX6_readTerm_50 : decode cX6_readTerm 50 = .ok (.iconst 1, 1) := by decide +kernel
theorem dX6_readTerm_51 : decode cX6_readTerm 51 = .ok (.iload 5, 2) := by decide +kernel
theorem dX6_readTerm_53 : decode cX6_readTerm 53 = .ok (.ishl, 1) := by decide +kernel
theorem dX6_readTerm_54 : decode cX6_readTerm 54 = .ok (.ior, 1) := by decide +kernel
theorem dX6_readTerm_55 : decode cX6_readTerm 55 = .ok (.istore 4, 2) := by decide +kernel
theorem dX6_readTerm_57 : decode cX6_readTerm 57 = .ok (.aload_n 0, 1) := by decide +kernel
theorem dX6_readTerm_58 : decode cX6_readTerm 58 = .ok (.invokevirtual 42, 3) := by decide +kernel
theorem dX6_readTerm_61 : decode cX6_readTerm 61 = .ok (.goto 10, 3) := by decide +kernel
theorem dX6_readTerm_64 : decode cX6_readTerm 64 = .ok (.iload_n 3, 1) := by decide +kernel
theorem dX6_readTerm_65 : decode cX6_readTerm 65 = .ok (.iconst 1, 1) := by decide +kernel
theorem dX6_readTerm_66 : decode cX6_readTerm 66 = .ok (.iload 5, 2) := by decide +kernel
theorem dX6_readTerm_68 : decode cX6_readTerm 68 = .ok (.ishl, 1) := by decide +kernel
theorem dX6_readTerm_69 : decode cX6_readTerm 69 = .ok (.ior, 1) := by decide +kernel
theorem dX6_readTerm_70 : decode cX6_readTerm 70 = .ok (.istore_n 3, 1) := by decide +kernel
theorem dX6_readTerm_71 : decode cX6_readTerm 71 = .ok (.aload_n 0, 1) := by decide +kernel
theorem dX6_readTerm_72 : decode cX6_readTerm 72 = .ok (.invokevirtual 45, 3) := by decide +kernel
theorem dX6_readTerm_75 : decode cX6_readTerm 75 = .ok (.istore 5, 2) := by decide +kernel
theorem dX6_readTerm_77 : decode cX6_readTerm 77 = .ok (.iinc 6 1, 3) := by decide +kernel
theorem dX6_readTerm_80 : decode cX6_readTerm 80 = .ok (.goto (-58), 3) := by decide +kernel
theorem dX6_readTerm_83 : decode cX6_readTerm 83 = .ok (.aload_n 2, 1) := by decide +kernel
theorem dX6_readTerm_84 : decode cX6_readTerm 84 = .ok (.iload_n 1, 1) := by decide +kernel
theorem dX6_readTerm_85 : decode cX6_readTerm 85 = .ok (.iload_n 3, 1) := by decide +kernel
theorem dX6_readTerm_86 : decode cX6_readTerm 86 = .ok (.iload 4, 2) := by decide +kernel
theorem dX6_readTerm_88 : decode cX6_readTerm 88 = .ok (.invokevirtual 68, 3) := by decide +kernel
theorem dX6_readTerm_91 : decode cX6_readTerm 91 = .ok (.iload 5, 2) := by decide +kernel
theorem dX6_readTerm_93 : decode cX6_readTerm 93 = .ok (.iconst (-1), 1) := by decide +kernel
theorem dX6_readTerm_94 : decode cX6_readTerm 94 = .ok (.if_icmp .ne 7, 3) := by decide +kernel
theorem dX6_readTerm_97 : decode cX6_readTerm 97 = .ok (.iconst 1, 1) := by decide +kernel
theorem dX6_readTerm_98 : decode cX6_readTerm 98 = .ok (.goto 4, 3) := by decide +kernel
theorem dX6_readTerm_101 : decode cX6_readTerm 101 = .ok (.iconst 0, 1) := by decide +kernel
theorem dX6_readTerm_102 : decode cX6_readTerm 102 = .ok (.ireturn, 1) := by decide +kernel
theorem dX6_signalHere_0 : decode cX6_signalHere 0 = .ok (.aload_n 0, 1) := by decide +kernel
theorem dX6_signalHere_1 : decode cX6_signalHere 1 = .ok (.getfield 9, 3) := by decide +kernel
theorem dX6_signalHere_4 : decode cX6_signalHere 4 = .ok (.aload_n 0, 1) := by decide +kernel
theorem dX6_signalHere_5 : decode cX6_signalHere 5 = .ok (.getfield 26, 3) := by decide +kernel
theorem dX6_signalHere_8 : decode cX6_signalHere 8 = .ok (.invokevirtual 72, 3) := by decide +kernel
theorem dX6_signalHere_11 : decode cX6_signalHere 11 = .ok (.istore_n 1, 1) := by decide +kernel
theorem dX6_signalHere_12 : decode cX6_signalHere 12 = .ok (.iload_n 1, 1) := by decide +kernel
theorem dX6_signalHere_13 : decode cX6_signalHere 13 = .ok (.bipush 97, 2) := by decide +kernel
theorem dX6_signalHere_15 : decode cX6_signalHere 15 = .ok (.if_icmp .lt 16, 3) := by decide +kernel
theorem dX6_signalHere_18 : decode cX6_signalHere 18 = .ok (.iload_n 1, 1) := by decide +kernel
theorem dX6_signalHere_19 : decode cX6_signalHere 19 = .ok (.bipush 109, 2) := by decide +kernel
theorem dX6_signalHere_21 : decode cX6_signalHere 21 = .ok (.if_icmp .ge 10, 3) := by decide +kernel
theorem dX6_signalHere_24 : decode cX6_signalHere 24 = .ok (.iload_n 1, 1) := by decide +kernel
theorem dX6_signalHere_25 : decode cX6_signalHere 25 = .ok (.bipush 97, 2) := by decide +kernel
theorem dX6_signalHere_27 : decode cX6_signalHere 27 = .ok (.isub, 1) := by decide +kernel
theorem dX6_signalHere_28 : decode cX6_signalHere 28 = .ok (.goto 4, 3) := by decide +kernel
theorem dX6_signalHere_31 : decode cX6_signalHere 31 = .ok (.iconst (-1), 1) := by decide +kernel
theorem dX6_signalHere_32 : decode cX6_signalHere 32 = .ok (.ireturn, 1) := by decide +kernel
theorem dX6_isOn_0 : decode cX6_isOn 0 = .ok (.aload_n 0, 1) := by decide +kernel
theorem dX6_isOn_1 : decode cX6_isOn 1 = .ok (.getfield 9, 3) := by decide +kernel
theorem dX6_isOn_4 : decode cX6_isOn 4 = .ok (.aload_n 0, 1) := by decide +kernel
theorem dX6_isOn_5 : decode cX6_isOn 5 = .ok (.getfield 26, 3) := by decide +kernel
theorem dX6_isOn_8 : decode cX6_isOn 8 = .ok (.invokevirtual 72, 3) := by decide +kernel
theorem dX6_isOn_11 : decode cX6_isOn 11 = .ok (.iload_n 1, 1) := by decide +kernel
theorem dX6_isOn_12 : decode cX6_isOn 12 = .ok (.if_icmp .ne 7, 3) := by decide +kernel
theorem dX6_isOn_15 : decode cX6_isOn 15 = .ok (.iconst 1, 1) := by decide +kernel
theorem dX6_isOn_16 : decode cX6_isOn 16 = .ok (.goto 4, 3) := by decide +kernel
theorem dX6_isOn_19 : decode cX6_isOn 19 = .ok (.iconst 0, 1) := by decide +kernel
theorem dX6_isOn_20 : decode cX6_isOn 20 = .ok (.ireturn, 1) := by decide +kernel
theorem dX6_isAtEnd_0 : decode cX6_isAtEnd 0 = .ok (.aload_n 0, 1) := by decide +kernel
theorem dX6_isAtEnd_1 : decode cX6_isAtEnd 1 = .ok (.getfield 26, 3) := by decide +kernel
theorem dX6_isAtEnd_4 : decode cX6_isAtEnd 4 = .ok (.aload_n 0, 1) := by decide +kernel
theorem dX6_isAtEnd_5 : decode cX6_isAtEnd 5 = .ok (.getfield 9, 3) := by decide +kernel
theorem dX6_isAtEnd_8 : decode cX6_isAtEnd 8 = .ok (.invokevirtual 75, 3) := by decide +kernel
theorem dX6_isAtEnd_11 : decode cX6_isAtEnd 11 = .ok (.if_icmp .lt 7, 3) := by decide +kernel
theorem dX6_isAtEnd_14 : decode cX6_isAtEnd 14 = .ok (.iconst 1, 1) := by decide +kernel
theorem dX6_isAtEnd_15 : decode cX6_isAtEnd 15 = .ok (.goto 4, 3) := by decide +kernel
theorem dX6_isAtEnd_18 : decode cX6_isAtEnd 18 = .ok (.iconst 0, 1) := by decide +kernel
theorem dX6_isAtEnd_19 : decode cX6_isAtEnd 19 = .ok (.ireturn, 1) := by decide +kernel
theorem dX6_step_0 : decode cX6_step 0 = .ok (.aload_n 0, 1) := by decide +kernel
theorem dX6_step_1 : decode cX6_step 1 = .ok (.aload_n 0, 1) := by decide +kernel
theorem dX6_step_2 : decode cX6_step 2 = .ok (.getfield 9, 3) := by decide +kernel
theorem dX6_step_5 : decode cX6_step 5 = .ok (.aload_n 0, 1) := by decide +kernel
theorem dX6_step_6 : decode cX6_step 6 = .ok (.getfield 26, 3) := by decide +kernel
theorem dX6_step_9 : decode cX6_step 9 = .ok (.iconst 1, 1) := by decide +kernel
theorem dX6_step_10 : decode cX6_step 10 = .ok (.iadd, 1) := by decide +kernel
theorem dX6_step_11 : decode cX6_step 11 = .ok (.invokevirtual 20, 3) := by decide +kernel
theorem dX6_step_14 : decode cX6_step 14 = .ok (.putfield 26, 3) := by decide +kernel
theorem dX6_step_17 : decode cX6_step 17 = .ok (.return_, 1) := by decide +kernel
theorem dX7_init_0 : decode cX7_init 0 = .ok (.aload_n 0, 1) := by decide +kernel
theorem dX7_init_1 : decode cX7_init 1 = .ok (.invokespecial 3, 3) := by decide +kernel
theorem dX7_init_4 : decode cX7_init 4 = .ok (.aload_n 0, 1) := by decide +kernel
theorem dX7_init_5 : decode cX7_init 5 = .ok (.sipush 300, 3) := by decide +kernel
theorem dX7_init_8 : decode cX7_init 8 = .ok (.newarray .int, 2) := by decide +kernel
theorem dX7_init_10 : decode cX7_init 10 = .ok (.putfield 9, 3) := by decide +kernel
theorem dX7_init_13 : decode cX7_init 13 = .ok (.return_, 1) := by decide +kernel
theorem dX7_bytesIn_0 : decode cX7_bytesIn 0 = .ok (.iconst 0, 1) := by decide +kernel
theorem dX7_bytesIn_1 : decode cX7_bytesIn 1 = .ok (.istore_n 1, 1) := by decide +kernel
theorem dX7_bytesIn_2 : decode cX7_bytesIn 2 = .ok (.bipush 24, 2) := by decide +kernel
theorem dX7_bytesIn_4 : decode cX7_bytesIn 4 = .ok (.istore_n 2, 1) := by decide +kernel
theorem dX7_bytesIn_5 : decode cX7_bytesIn 5 = .ok (.iload_n 2, 1) := by decide +kernel
theorem dX7_bytesIn_6 : decode cX7_bytesIn 6 = .ok (.ifCond .lt 22, 3) := by decide +kernel
theorem dX7_bytesIn_9 : decode cX7_bytesIn 9 = .ok (.iload_n 0, 1) := by decide +kernel
theorem dX7_bytesIn_10 : decode cX7_bytesIn 10 = .ok (.iload_n 2, 1) := by decide +kernel
theorem dX7_bytesIn_11 : decode cX7_bytesIn 11 = .ok (.iushr, 1) := by decide +kernel
theorem dX7_bytesIn_12 : decode cX7_bytesIn 12 = .ok (.sipush 255, 3) := by decide +kernel
theorem dX7_bytesIn_15 : decode cX7_bytesIn 15 = .ok (.iand, 1) := by decide +kernel
theorem dX7_bytesIn_16 : decode cX7_bytesIn 16 = .ok (.ifCond .eq 6, 3) := by decide +kernel
theorem dX7_bytesIn_19 : decode cX7_bytesIn 19 = .ok (.iinc 1 1, 3) := by decide +kernel
theorem dX7_bytesIn_22 : decode cX7_bytesIn 22 = .ok (.iinc 2 (-8), 3) := by decide +kernel
theorem dX7_bytesIn_25 : decode cX7_bytesIn 25 = .ok (.goto (-20), 3) := by decide +kernel
theorem dX7_bytesIn_28 : decode cX7_bytesIn 28 = .ok (.iload_n 1, 1) := by decide +kernel
theorem dX7_bytesIn_29 : decode cX7_bytesIn 29 = .ok (.ireturn, 1) := by decide +kernel
theorem dX7_append_0 : decode cX7_append 0 = .ok (.bipush 24, 2) := by decide +kernel
theorem dX7_append_2 : decode cX7_append 2 = .ok (.istore_n 2, 1) := by decide +kernel
theorem dX7_append_3 : decode cX7_append 3 = .ok (.iload_n 2, 1) := by decide +kernel
theorem dX7_append_4 : decode cX7_append 4 = .ok (.ifCond .lt 51, 3) := by decide +kernel
theorem dX7_append_7 : decode cX7_append 7 = .ok (.iload_n 1, 1) := by decide +kernel
theorem dX7_append_8 : decode cX7_append 8 = .ok (.iload_n 2, 1) := by decide +kernel
theorem dX7_append_9 : decode cX7_append 9 = .ok (.iushr, 1) := by decide +kernel
theorem dX7_append_10 : decode cX7_append 10 = .ok (.sipush 255, 3) := by decide +kernel
theorem dX7_append_13 : decode cX7_append 13 = .ok (.iand, 1) := by decide +kernel
theorem dX7_append_14 : decode cX7_append 14 = .ok (.istore_n 3, 1) := by decide +kernel
theorem dX7_append_15 : decode cX7_append 15 = .ok (.iload_n 3, 1) := by decide +kernel
theorem dX7_append_16 : decode cX7_append 16 = .ok (.ifCond .eq 33, 3) := by decide +kernel
theorem dX7_append_19 : decode cX7_append 19 = .ok (.aload_n 0, 1) := by decide +kernel
theorem dX7_append_20 : decode cX7_append 20 = .ok (.getfield 15, 3) := by decide +kernel
theorem dX7_append_23 : decode cX7_append 23 = .ok (.sipush 300, 3) := by decide +kernel
theorem dX7_append_26 : decode cX7_append 26 = .ok (.if_icmp .ge 23, 3) := by decide +kernel
theorem dX7_append_29 : decode cX7_append 29 = .ok (.aload_n 0, 1) := by decide +kernel
theorem dX7_append_30 : decode cX7_append 30 = .ok (.getfield 9, 3) := by decide +kernel
theorem dX7_append_33 : decode cX7_append 33 = .ok (.aload_n 0, 1) := by decide +kernel
theorem dX7_append_34 : decode cX7_append 34 = .ok (.getfield 15, 3) := by decide +kernel
theorem dX7_append_37 : decode cX7_append 37 = .ok (.iload_n 3, 1) := by decide +kernel
theorem dX7_append_38 : decode cX7_append 38 = .ok (.iastore, 1) := by decide +kernel
theorem dX7_append_39 : decode cX7_append 39 = .ok (.aload_n 0, 1) := by decide +kernel
theorem dX7_append_40 : decode cX7_append 40 = .ok (.dup, 1) := by decide +kernel
theorem dX7_append_41 : decode cX7_append 41 = .ok (.getfield 15, 3) := by decide +kernel
theorem dX7_append_44 : decode cX7_append 44 = .ok (.iconst 1, 1) := by decide +kernel
theorem dX7_append_45 : decode cX7_append 45 = .ok (.iadd, 1) := by decide +kernel
theorem dX7_append_46 : decode cX7_append 46 = .ok (.putfield 15, 3) := by decide +kernel
theorem dX7_append_49 : decode cX7_append 49 = .ok (.iinc 2 (-8), 3) := by decide +kernel
theorem dX7_append_52 : decode cX7_append 52 = .ok (.goto (-49), 3) := by decide +kernel
theorem dX7_append_55 : decode cX7_append 55 = .ok (.return_, 1) := by decide +kernel
theorem dX7_cut_0 : decode cX7_cut 0 = .ok (.aload_n 0, 1) := by decide +kernel
theorem dX7_cut_1 : decode cX7_cut 1 = .ok (.iload_n 1, 1) := by decide +kernel
theorem dX7_cut_2 : decode cX7_cut 2 = .ok (.putfield 15, 3) := by decide +kernel
theorem dX7_cut_5 : decode cX7_cut 5 = .ok (.return_, 1) := by decide +kernel
theorem dX7_size_0 : decode cX7_size 0 = .ok (.aload_n 0, 1) := by decide +kernel
theorem dX7_size_1 : decode cX7_size 1 = .ok (.getfield 15, 3) := by decide +kernel
theorem dX7_size_4 : decode cX7_size 4 = .ok (.ireturn, 1) := by decide +kernel
theorem dX7_byteAt_0 : decode cX7_byteAt 0 = .ok (.iload_n 1, 1) := by decide +kernel
theorem dX7_byteAt_1 : decode cX7_byteAt 1 = .ok (.ifCond .lt 20, 3) := by decide +kernel
theorem dX7_byteAt_4 : decode cX7_byteAt 4 = .ok (.iload_n 1, 1) := by decide +kernel
theorem dX7_byteAt_5 : decode cX7_byteAt 5 = .ok (.aload_n 0, 1) := by decide +kernel
theorem dX7_byteAt_6 : decode cX7_byteAt 6 = .ok (.getfield 15, 3) := by decide +kernel
theorem dX7_byteAt_9 : decode cX7_byteAt 9 = .ok (.if_icmp .ge 12, 3) := by decide +kernel
theorem dX7_byteAt_12 : decode cX7_byteAt 12 = .ok (.aload_n 0, 1) := by decide +kernel
theorem dX7_byteAt_13 : decode cX7_byteAt 13 = .ok (.getfield 9, 3) := by decide +kernel
theorem dX7_byteAt_16 : decode cX7_byteAt 16 = .ok (.iload_n 1, 1) := by decide +kernel
theorem dX7_byteAt_17 : decode cX7_byteAt 17 = .ok (.iaload, 1) := by decide +kernel
theorem dX7_byteAt_18 : decode cX7_byteAt 18 = .ok (.goto 4, 3) := by decide +kernel
theorem dX7_byteAt_21 : decode cX7_byteAt 21 = .ok (.iconst (-1), 1) := by decide +kernel
theorem dX7_byteAt_22 : decode cX7_byteAt 22 = .ok (.ireturn, 1) := by decide +kernel
theorem dX7_pastBlanks_0 : decode cX7_pastBlanks 0 = .ok (.iload_n 1, 1) := by decide +kernel
theorem dX7_pastBlanks_1 : decode cX7_pastBlanks 1 = .ok (.istore_n 2, 1) := by decide +kernel
theorem dX7_pastBlanks_2 : decode cX7_pastBlanks 2 = .ok (.iload_n 2, 1) := by decide +kernel
theorem dX7_pastBlanks_3 : decode cX7_pastBlanks 3 = .ok (.ifCond .lt 28, 3) := by decide +kernel
theorem dX7_pastBlanks_6 : decode cX7_pastBlanks 6 = .ok (.iload_n 2, 1) := by decide +kernel
theorem dX7_pastBlanks_7 : decode cX7_pastBlanks 7 = .ok (.aload_n 0, 1) := by decide +kernel
theorem dX7_pastBlanks_8 : decode cX7_pastBlanks 8 = .ok (.getfield 15, 3) := by decide +kernel
theorem dX7_pastBlanks_11 : decode cX7_pastBlanks 11 = .ok (.if_icmp .ge 20, 3) := by decide +kernel
theorem dX7_pastBlanks_14 : decode cX7_pastBlanks 14 = .ok (.aload_n 0, 1) := by decide +kernel
theorem dX7_pastBlanks_15 : decode cX7_pastBlanks 15 = .ok (.getfield 9, 3) := by decide +kernel
theorem dX7_pastBlanks_18 : decode cX7_pastBlanks 18 = .ok (.iload_n 2, 1) := by decide +kernel
theorem dX7_pastBlanks_19 : decode cX7_pastBlanks 19 = .ok (.iaload, 1) := by decide +kernel
theorem dX7_pastBlanks_20 : decode cX7_pastBlanks 20 = .ok (.bipush 32, 2) := by decide +kernel
theorem dX7_pastBlanks_22 : decode cX7_pastBlanks 22 = .ok (.if_icmp .ne 9, 3) := by decide +kernel
theorem dX7_pastBlanks_25 : decode cX7_pastBlanks 25 = .ok (.iinc 2 1, 3) := by decide +kernel
theorem dX7_pastBlanks_28 : decode cX7_pastBlanks 28 = .ok (.goto (-26), 3) := by decide +kernel
theorem dX7_pastBlanks_31 : decode cX7_pastBlanks 31 = .ok (.iload_n 2, 1) := by decide +kernel
theorem dX7_pastBlanks_32 : decode cX7_pastBlanks 32 = .ok (.ireturn, 1) := by decide +kernel
theorem dX8_init_0 : decode cX8_init 0 = .ok (.aload_n 0, 1) := by decide +kernel
theorem dX8_init_1 : decode cX8_init 1 = .ok (.invokespecial 3, 3) := by decide +kernel
theorem dX8_init_4 : decode cX8_init 4 = .ok (.aload_n 0, 1) := by decide +kernel
theorem dX8_init_5 : decode cX8_init 5 = .ok (.bipush 10, 2) := by decide +kernel
theorem dX8_init_7 : decode cX8_init 7 = .ok (.sipush 201, 3) := by decide +kernel
theorem dX8_init_10 : decode cX8_init 10 = .ok (.multianewarray 9 2, 4) := by decide +kernel
theorem dX8_init_14 : decode cX8_init 14 = .ok (.putfield 11, 3) := by decide +kernel
theorem dX8_init_17 : decode cX8_init 17 = .ok (.aload_n 0, 1) := by decide +kernel
theorem dX8_init_18 : decode cX8_init 18 = .ok (.bipush 20, 2) := by decide +kernel
theorem dX8_init_20 : decode cX8_init 20 = .ok (.newarray .int, 2) := by decide +kernel
theorem dX8_init_22 : decode cX8_init 22 = .ok (.putfield 16, 3) := by decide +kernel
theorem dX8_init_25 : decode cX8_init 25 = .ok (.aload_n 0, 1) := by decide +kernel
theorem dX8_init_26 : decode cX8_init 26 = .ok (.aload_n 1, 1) := by decide +kernel
theorem dX8_init_27 : decode cX8_init 27 = .ok (.putfield 20, 3) := by decide +kernel
theorem dX8_init_30 : decode cX8_init 30 = .ok (.return_, 1) := by decide +kernel
theorem dX8_forget_0 : decode cX8_forget 0 = .ok (.aload_n 0, 1) := by decide +kernel
theorem dX8_forget_1 : decode cX8_forget 1 = .ok (.iconst 0, 1) := by decide +kernel
theorem dX8_forget_2 : decode cX8_forget 2 = .ok (.putfield 24, 3) := by decide +kernel
theorem dX8_forget_5 : decode cX8_forget 5 = .ok (.return_, 1) := by decide +kernel
theorem dX8_fillTo_0 : decode cX8_fillTo 0 = .ok (.aload_n 0, 1) := by decide +kernel
theorem dX8_fillTo_1 : decode cX8_fillTo 1 = .ok (.getfield 24, 3) := by decide +kernel
theorem dX8_fillTo_4 : decode cX8_fillTo 4 = .ok (.ifCond .ne 7, 3) := by decide +kernel
theorem dX8_fillTo_7 : decode cX8_fillTo 7 = .ok (.aload_n 0, 1) := by decide +kernel
theorem dX8_fillTo_8 : decode cX8_fillTo 8 = .ok (.invokevirtual 28, 3) := by decide +kernel
theorem dX8_fillTo_11 : decode cX8_fillTo 11 = .ok (.aload_n 0, 1) := by decide +kernel
theorem dX8_fillTo_12 : decode cX8_fillTo 12 = .ok (.getfield 24, 3) := by decide +kernel
theorem dX8_fillTo_15 : decode cX8_fillTo 15 = .ok (.iconst 1, 1) := by decide +kernel
theorem dX8_fillTo_16 : decode cX8_fillTo 16 = .ok (.iadd, 1) := by decide +kernel
theorem dX8_fillTo_17 : decode cX8_fillTo 17 = .ok (.istore_n 2, 1) := by decide +kernel
theorem dX8_fillTo_18 : decode cX8_fillTo 18 = .ok (.iload_n 2, 1) := by decide +kernel
theorem dX8_fillTo_19 : decode cX8_fillTo 19 = .ok (.iload_n 1, 1) := by decide +kernel
theorem dX8_fillTo_20 : decode cX8_fillTo 20 = .ok (.if_icmp .gt 26, 3) := by decide +kernel
theorem dX8_fillTo_23 : decode cX8_fillTo 23 = .ok (.iload_n 2, 1) := by decide +kernel
theorem dX8_fillTo_24 : decode cX8_fillTo 24 = .ok (.sipush 200, 3) := by decide +kernel
theorem dX8_fillTo_27 : decode cX8_fillTo 27 = .ok (.if_icmp .gt 19, 3) := by decide +kernel
theorem dX8_fillTo_30 : decode cX8_fillTo 30 = .ok (.aload_n 0, 1) := by decide +kernel
theorem dX8_fillTo_31 : decode cX8_fillTo 31 = .ok (.iload_n 2, 1) := by decide +kernel
theorem dX8_fillTo_32 : decode cX8_fillTo 32 = .ok (.invokevirtual 31, 3) := by decide +kernel
theorem dX8_fillTo_35 : decode cX8_fillTo 35 = .ok (.aload_n 0, 1) := by decide +kernel
theorem dX8_fillTo_36 : decode cX8_fillTo 36 = .ok (.iload_n 2, 1) := by decide +kernel
theorem dX8_fillTo_37 : decode cX8_fillTo 37 = .ok (.putfield 24, 3) := by decide +kernel
theorem dX8_fillTo_40 : decode cX8_fillTo 40 = .ok (.iinc 2 1, 3) := by decide +kernel
theorem dX8_fillTo_43 : decode cX8_fillTo 43 = .ok (.goto (-25), 3) := by decide +kernel
theorem dX8_fillTo_46 : decode cX8_fillTo 46 = .ok (.return_, 1) := by decide +kernel
theorem dX8_doneAt_0 : decode cX8_doneAt 0 = .ok (.iload_n 2, 1) := by decide +kernel
theorem dX8_doneAt_1 : decode cX8_doneAt 1 = .ok (.iconst 1, 1) := by decide +kernel
theorem dX8_doneAt_2 : decode cX8_doneAt 2 = .ok (.if_icmp .ge 5, 3) := by decide +kernel
theorem dX8_doneAt_5 : decode cX8_doneAt 5 = .ok (.iconst 0, 1) := by decide +kernel
theorem dX8_doneAt_6 : decode cX8_doneAt 6 = .ok (.ireturn, 1) := by decide +kernel
theorem dX8_doneAt_7 : decode cX8_doneAt 7 = .ok (.aload_n 0, 1) := by decide +kernel
theorem dX8_doneAt_8 : decode cX8_doneAt 8 = .ok (.getfield 11, 3) := by decide +kernel
theorem dX8_doneAt_11 : decode cX8_doneAt 11 = .ok (.iload_n 1, 1) := by decide +kernel
theorem dX8_doneAt_12 : decode cX8_doneAt 12 = .ok (.aaload, 1) := by decide +kernel
theorem dX8_doneAt_13 : decode cX8_doneAt 13 = .ok (.iload_n 2, 1) := by decide +kernel
theorem dX8_doneAt_14 : decode cX8_doneAt 14 = .ok (.iaload, 1) := by decide +kernel
theorem dX8_doneAt_15 : decode cX8_doneAt 15 = .ok (.istore_n 3, 1) := by decide +kernel
theorem dX8_doneAt_16 : decode cX8_doneAt 16 = .ok (.iload_n 3, 1) := by decide +kernel
theorem dX8_doneAt_17 : decode cX8_doneAt 17 = .ok (.iconst (-1), 1) := by decide +kernel
theorem dX8_doneAt_18 : decode cX8_doneAt 18 = .ok (.if_icmp .ne 7, 3) := by decide +kernel
theorem dX8_doneAt_21 : decode cX8_doneAt 21 = .ok (.iconst (-1), 1) := by decide +kernel
theorem dX8_doneAt_22 : decode cX8_doneAt 22 = .ok (.goto 13, 3) := by decide +kernel
theorem dX8_doneAt_25 : decode cX8_doneAt 25 = .ok (.iload_n 3, 1) := by decide +kernel
theorem dX8_doneAt_26 : decode cX8_doneAt 26 = .ok (.aload_n 0, 1) := by decide +kernel
theorem dX8_doneAt_27 : decode cX8_doneAt 27 = .ok (.getfield 20, 3) := by decide +kernel
theorem dX8_doneAt_30 : decode cX8_doneAt 30 = .ok (.iload_n 1, 1) := by decide +kernel
theorem dX8_doneAt_31 : decode cX8_doneAt 31 = .ok (.invokevirtual 35, 3) := by decide +kernel
theorem dX8_doneAt_34 : decode cX8_doneAt 34 = .ok (.iadd, 1) := by decide +kernel
theorem dX8_doneAt_35 : decode cX8_doneAt 35 = .ok (.ireturn, 1) := by decide +kernel
theorem dX8_orderArcs_0 : decode cX8_orderArcs 0 = .ok (.aload_n 0, 1) := by decide +kernel
theorem dX8_orderArcs_1 : decode cX8_orderArcs 1 = .ok (.iconst 0, 1) := by decide +kernel
theorem dX8_orderArcs_2 : decode cX8_orderArcs 2 = .ok (.putfield 41, 3) := by decide +kernel
theorem dX8_orderArcs_5 : decode cX8_orderArcs 5 = .ok (.aload_n 0, 1) := by decide +kernel
theorem dX8_orderArcs_6 : decode cX8_orderArcs 6 = .ok (.iconst 0, 1) := by decide +kernel
theorem dX8_orderArcs_7 : decode cX8_orderArcs 7 = .ok (.putfield 44, 3) := by decide +kernel
theorem dX8_orderArcs_10 : decode cX8_orderArcs 10 = .ok (.iconst 0, 1) := by decide +kernel
theorem dX8_orderArcs_11 : decode cX8_orderArcs 11 = .ok (.istore_n 1, 1) := by decide +kernel
theorem dX8_orderArcs_12 : decode cX8_orderArcs 12 = .ok (.iload_n 1, 1) := by decide +kernel
theorem dX8_orderArcs_13 : decode cX8_orderArcs 13 = .ok (.aload_n 0, 1) := by decide +kernel
theorem dX8_orderArcs_14 : decode cX8_orderArcs 14 = .ok (.getfield 20, 3) := by decide +kernel
theorem dX8_orderArcs_17 : decode cX8_orderArcs 17 = .ok (.invokevirtual 47, 3) := by decide +kernel
theorem dX8_orderArcs_20 : decode cX8_orderArcs 20 = .ok (.if_icmp .ge 39, 3) := by decide +kernel
theorem dX8_orderArcs_23 : decode cX8_orderArcs 23 = .ok (.aload_n 0, 1) := by decide +kernel
theorem dX8_orderArcs_24 : decode cX8_orderArcs 24 = .ok (.getfield 20, 3) := by decide +kernel
theorem dX8_orderArcs_27 : decode cX8_orderArcs 27 = .ok (.aload_n 0, 1) := by decide +kernel
theorem dX8_orderArcs_28 : decode cX8_orderArcs 28 = .ok (.getfield 44, 3) := by decide +kernel
theorem dX8_orderArcs_31 : decode cX8_orderArcs 31 = .ok (.iconst 0, 1) := by decide +kernel
theorem dX8_orderArcs_32 : decode cX8_orderArcs 32 = .ok (.invokevirtual 51, 3) := by decide +kernel
theorem dX8_orderArcs_35 : decode cX8_orderArcs 35 = .ok (.istore_n 2, 1) := by decide +kernel
theorem dX8_orderArcs_36 : decode cX8_orderArcs 36 = .ok (.aload_n 0, 1) := by decide +kernel
theorem dX8_orderArcs_37 : decode cX8_orderArcs 37 = .ok (.iload_n 2, 1) := by decide +kernel
theorem dX8_orderArcs_38 : decode cX8_orderArcs 38 = .ok (.aload_n 0, 1) := by decide +kernel
theorem dX8_orderArcs_39 : decode cX8_orderArcs 39 = .ok (.getfield 44, 3) := by decide +kernel
theorem dX8_orderArcs_42 : decode cX8_orderArcs 42 = .ok (.iconst (-1), 1) := by decide +kernel
theorem dX8_orderArcs_43 : decode cX8_orderArcs 43 = .ok (.ixor, 1) := by decide +kernel
theorem dX8_orderArcs_44 : decode cX8_orderArcs 44 = .ok (.iand, 1) := by decide +kernel
theorem dX8_orderArcs_45 : decode cX8_orderArcs 45 = .ok (.invokevirtual 55, 3) := by decide +kernel
theorem dX8_orderArcs_48 : decode cX8_orderArcs 48 = .ok (.aload_n 0, 1) := by decide +kernel
theorem dX8_orderArcs_49 : decode cX8_orderArcs 49 = .ok (.iload_n 2, 1) := by decide +kernel
theorem dX8_orderArcs_50 : decode cX8_orderArcs 50 = .ok (.putfield 44, 3) := by decide +kernel
theorem dX8_orderArcs_53 : decode cX8_orderArcs 53 = .ok (.iinc 1 1, 3) := by decide +kernel
theorem dX8_orderArcs_56 : decode cX8_orderArcs 56 = .ok (.goto (-44), 3) := by decide +kernel
theorem dX8_orderArcs_59 : decode cX8_orderArcs 59 = .ok (.return_, 1) := by decide +kernel
theorem dX8_appendArcsTo_0 : decode cX8_appendArcsTo 0 = .ok (.iconst 0, 1) := by decide +kernel
theorem dX8_appendArcsTo_1 : decode cX8_appendArcsTo 1 = .ok (.istore_n 2, 1) := by decide +kernel
theorem dX8_appendArcsTo_2 : decode cX8_appendArcsTo 2 = .ok (.iload_n 2, 1) := by decide +kernel
theorem dX8_appendArcsTo_3 : decode cX8_appendArcsTo 3 = .ok (.aload_n 0, 1) := by decide +kernel
theorem dX8_appendArcsTo_4 : decode cX8_appendArcsTo 4 = .ok (.getfield 20, 3) := by decide +kernel
theorem dX8_appendArcsTo_7 : decode cX8_appendArcsTo 7 = .ok (.invokevirtual 58, 3) := by decide +kernel
theorem dX8_appendArcsTo_10 : decode cX8_appendArcsTo 10 = .ok (.if_icmp .ge 53, 3) := by decide +kernel
theorem dX8_appendArcsTo_13 : decode cX8_appendArcsTo 13 = .ok (.iload_n 1, 1) := by decide +kernel
theorem dX8_appendArcsTo_14 : decode cX8_appendArcsTo 14 = .ok (.aload_n 0, 1) := by decide +kernel
theorem dX8_appendArcsTo_15 : decode cX8_appendArcsTo 15 = .ok (.getfield 20, 3) := by decide +kernel
theorem dX8_appendArcsTo_18 : decode cX8_appendArcsTo 18 = .ok (.iload_n 2, 1) := by decide +kernel
theorem dX8_appendArcsTo_19 : decode cX8_appendArcsTo 19 = .ok (.invokevirtual 61, 3) := by decide +kernel
theorem dX8_appendArcsTo_22 : decode cX8_appendArcsTo 22 = .ok (.invokestatic 64, 3) := by decide +kernel
theorem dX8_appendArcsTo_25 : decode cX8_appendArcsTo 25 = .ok (.ifCond .eq 32, 3) := by decide +kernel
theorem dX8_appendArcsTo_28 : decode cX8_appendArcsTo 28 = .ok (.aload_n 0, 1) := by decide +kernel
theorem dX8_appendArcsTo_29 : decode cX8_appendArcsTo 29 = .ok (.getfield 41, 3) := by decide +kernel
theorem dX8_appendArcsTo_32 : decode cX8_appendArcsTo 32 = .ok (.bipush 20, 2) := by decide +kernel
theorem dX8_appendArcsTo_34 : decode cX8_appendArcsTo 34 = .ok (.if_icmp .ge 23, 3) := by decide +kernel
theorem dX8_appendArcsTo_37 : decode cX8_appendArcsTo 37 = .ok (.aload_n 0, 1) := by decide +kernel
theorem dX8_appendArcsTo_38 : decode cX8_appendArcsTo 38 = .ok (.getfield 16, 3) := by decide +kernel
theorem dX8_appendArcsTo_41 : decode cX8_appendArcsTo 41 = .ok (.aload_n 0, 1) := by decide +kernel
theorem dX8_appendArcsTo_42 : decode cX8_appendArcsTo 42 = .ok (.getfield 41, 3) := by decide +kernel
theorem dX8_appendArcsTo_45 : decode cX8_appendArcsTo 45 = .ok (.iload_n 2, 1) := by decide +kernel
theorem dX8_appendArcsTo_46 : decode cX8_appendArcsTo 46 = .ok (.iastore, 1) := by decide +kernel
theorem dX8_appendArcsTo_47 : decode cX8_appendArcsTo 47 = .ok (.aload_n 0, 1) := by decide +kernel
theorem dX8_appendArcsTo_48 : decode cX8_appendArcsTo 48 = .ok (.dup, 1) := by decide +kernel
theorem dX8_appendArcsTo_49 : decode cX8_appendArcsTo 49 = .ok (.getfield 41, 3) := by decide +kernel
theorem dX8_appendArcsTo_52 : decode cX8_appendArcsTo 52 = .ok (.iconst 1, 1) := by decide +kernel
theorem dX8_appendArcsTo_53 : decode cX8_appendArcsTo 53 = .ok (.iadd, 1) := by decide +kernel
theorem dX8_appendArcsTo_54 : decode cX8_appendArcsTo 54 = .ok (.putfield 41, 3) := by decide +kernel
theorem dX8_appendArcsTo_57 : decode cX8_appendArcsTo 57 = .ok (.iinc 2 1, 3) := by decide +kernel
theorem dX8_appendArcsTo_60 : decode cX8_appendArcsTo 60 = .ok (.goto (-58), 3) := by decide +kernel
theorem dX8_appendArcsTo_63 : decode cX8_appendArcsTo 63 = .ok (.return_, 1) := by decide +kernel
theorem dX8_fill_0 : decode cX8_fill 0 = .ok (.iconst 0, 1) := by decide +kernel
theorem dX8_fill_1 : decode cX8_fill 1 = .ok (.istore_n 2, 1) := by decide +kernel
theorem dX8_fill_2 : decode cX8_fill 2 = .ok (.iload_n 2, 1) := by decide +kernel
theorem dX8_fill_3 : decode cX8_fill 3 = .ok (.aload_n 0, 1) := by decide +kernel
theorem dX8_fill_4 : decode cX8_fill 4 = .ok (.getfield 20, 3) := by decide +kernel
theorem dX8_fill_7 : decode cX8_fill 7 = .ok (.invokevirtual 47, 3) := by decide +kernel
theorem dX8_fill_10 : decode cX8_fill 10 = .ok (.if_icmp .ge 33, 3) := by decide +kernel
theorem dX8_fill_13 : decode cX8_fill 13 = .ok (.aload_n 0, 1) := by decide +kernel
theorem dX8_fill_14 : decode cX8_fill 14 = .ok (.getfield 11, 3) := by decide +kernel
theorem dX8_fill_17 : decode cX8_fill 17 = .ok (.iload_n 2, 1) := by decide +kernel
theorem dX8_fill_18 : decode cX8_fill 18 = .ok (.aaload, 1) := by decide +kernel
theorem dX8_fill_19 : decode cX8_fill 19 = .ok (.iload_n 1, 1) := by decide +kernel
theorem dX8_fill_20 : decode cX8_fill 20 = .ok (.aload_n 0, 1) := by decide +kernel
theorem dX8_fill_21 : decode cX8_fill 21 = .ok (.getfield 44, 3) := by decide +kernel
theorem dX8_fill_24 : decode cX8_fill 24 = .ok (.iload_n 2, 1) := by decide +kernel
theorem dX8_fill_25 : decode cX8_fill 25 = .ok (.invokestatic 64, 3) := by decide +kernel
theorem dX8_fill_28 : decode cX8_fill 28 = .ok (.ifCond .eq 7, 3) := by decide +kernel
theorem dX8_fill_31 : decode cX8_fill 31 = .ok (.iconst 0, 1) := by decide +kernel
theorem dX8_fill_32 : decode cX8_fill 32 = .ok (.goto 4, 3) := by decide +kernel
theorem dX8_fill_35 : decode cX8_fill 35 = .ok (.iconst (-1), 1) := by decide +kernel
theorem dX8_fill_36 : decode cX8_fill 36 = .ok (.iastore, 1) := by decide +kernel
theorem dX8_fill_37 : decode cX8_fill 37 = .ok (.iinc 2 1, 3) := by decide +kernel
theorem dX8_fill_40 : decode cX8_fill 40 = .ok (.goto (-38), 3) := by decide +kernel
theorem dX8_fill_43 : decode cX8_fill 43 = .ok (.iconst 0, 1) := by decide +kernel
theorem dX8_fill_44 : decode cX8_fill 44 = .ok (.istore_n 2, 1) := by decide +kernel
theorem dX8_fill_45 : decode cX8_fill 45 = .ok (.iload_n 2, 1) := by decide +kernel
theorem dX8_fill_46 : decode cX8_fill 46 = .ok (.aload_n 0, 1) := by decide +kernel
theorem dX8_fill_47 : decode cX8_fill 47 = .ok (.getfield 41, 3) := by decide +kernel
theorem dX8_fill_50 : decode cX8_fill 50 = .ok (.if_icmp .ge 73, 3) := by decide +kernel
theorem dX8_fill_53 : decode cX8_fill 53 = .ok (.aload_n 0, 1) := by decide +kernel
theorem dX8_fill_54 : decode cX8_fill 54 = .ok (.getfield 16, 3) := by decide +kernel
theorem dX8_fill_57 : decode cX8_fill 57 = .ok (.iload_n 2, 1) := by decide +kernel
theorem dX8_fill_58 : decode cX8_fill 58 = .ok (.iaload, 1) := by decide +kernel
theorem dX8_fill_59 : decode cX8_fill 59 = .ok (.istore_n 3, 1) := by decide +kernel
theorem dX8_fill_60 : decode cX8_fill 60 = .ok (.aload_n 0, 1) := by decide +kernel
theorem dX8_fill_61 : decode cX8_fill 61 = .ok (.getfield 20, 3) := by decide +kernel
theorem dX8_fill_64 : decode cX8_fill 64 = .ok (.iload_n 3, 1) := by decide +kernel
theorem dX8_fill_65 : decode cX8_fill 65 = .ok (.invokevirtual 61, 3) := by decide +kernel
theorem dX8_fill_68 : decode cX8_fill 68 = .ok (.istore 4, 2) := by decide +kernel
theorem dX8_fill_70 : decode cX8_fill 70 = .ok (.aload_n 0, 1) := by decide +kernel
theorem dX8_fill_71 : decode cX8_fill 71 = .ok (.aload_n 0, 1) := by decide +kernel
theorem dX8_fill_72 : decode cX8_fill 72 = .ok (.getfield 20, 3) := by decide +kernel
theorem dX8_fill_75 : decode cX8_fill 75 = .ok (.iload_n 3, 1) := by decide +kernel
theorem dX8_fill_76 : decode cX8_fill 76 = .ok (.invokevirtual 68, 3) := by decide +kernel
theorem dX8_fill_79 : decode cX8_fill 79 = .ok (.iload_n 1, 1) := by decide +kernel
theorem dX8_fill_80 : decode cX8_fill 80 = .ok (.aload_n 0, 1) := by decide +kernel
theorem dX8_fill_81 : decode cX8_fill 81 = .ok (.getfield 20, 3) := by decide +kernel
theorem dX8_fill_84 : decode cX8_fill 84 = .ok (.iload_n 3, 1) := by decide +kernel
theorem dX8_fill_85 : decode cX8_fill 85 = .ok (.invokevirtual 71, 3) := by decide +kernel
theorem dX8_fill_88 : decode cX8_fill 88 = .ok (.isub, 1) := by decide +kernel
theorem dX8_fill_89 : decode cX8_fill 89 = .ok (.invokevirtual 74, 3) := by decide +kernel
theorem dX8_fill_92 : decode cX8_fill 92 = .ok (.istore 5, 2) := by decide +kernel
theorem dX8_fill_94 : decode cX8_fill 94 = .ok (.aload_n 0, 1) := by decide +kernel
theorem dX8_fill_95 : decode cX8_fill 95 = .ok (.getfield 11, 3) := by decide +kernel
theorem dX8_fill_98 : decode cX8_fill 98 = .ok (.iload 4, 2) := by decide +kernel
theorem dX8_fill_100 : decode cX8_fill 100 = .ok (.aaload, 1) := by decide +kernel
theorem dX8_fill_101 : decode cX8_fill 101 = .ok (.iload_n 1, 1) := by decide +kernel
theorem dX8_fill_102 : decode cX8_fill 102 = .ok (.aload_n 0, 1) := by decide +kernel
theorem dX8_fill_103 : decode cX8_fill 103 = .ok (.getfield 11, 3) := by decide +kernel
theorem dX8_fill_106 : decode cX8_fill 106 = .ok (.iload 4, 2) := by decide +kernel
theorem dX8_fill_108 : decode cX8_fill 108 = .ok (.aaload, 1) := by decide +kernel
theorem dX8_fill_109 : decode cX8_fill 109 = .ok (.iload_n 1, 1) := by decide +kernel
theorem dX8_fill_110 : decode cX8_fill 110 = .ok (.iaload, 1) := by decide +kernel
theorem dX8_fill_111 : decode cX8_fill 111 = .ok (.iload 5, 2) := by decide +kernel
theorem dX8_fill_113 : decode cX8_fill 113 = .ok (.invokestatic 77, 3) := by decide +kernel
theorem dX8_fill_116 : decode cX8_fill 116 = .ok (.iastore, 1) := by decide +kernel
theorem dX8_fill_117 : decode cX8_fill 117 = .ok (.iinc 2 1, 3) := by decide +kernel
theorem dX8_fill_120 : decode cX8_fill 120 = .ok (.goto (-75), 3) := by decide +kernel
theorem dX8_fill_123 : decode cX8_fill 123 = .ok (.return_, 1) := by decide +kernel
theorem dX8_later_0 : decode cX8_later 0 = .ok (.iload_n 0, 1) := by decide +kernel
theorem dX8_later_1 : decode cX8_later 1 = .ok (.iconst (-1), 1) := by decide +kernel
theorem dX8_later_2 : decode cX8_later 2 = .ok (.if_icmp .eq 8, 3) := by decide +kernel
theorem dX8_later_5 : decode cX8_later 5 = .ok (.iload_n 1, 1) := by decide +kernel
theorem dX8_later_6 : decode cX8_later 6 = .ok (.iconst (-1), 1) := by decide +kernel
theorem dX8_later_7 : decode cX8_later 7 = .ok (.if_icmp .ne 7, 3) := by decide +kernel
theorem dX8_later_10 : decode cX8_later 10 = .ok (.iconst (-1), 1) := by decide +kernel
theorem dX8_later_11 : decode cX8_later 11 = .ok (.goto 8, 3) := by decide +kernel
theorem dX8_later_14 : decode cX8_later 14 = .ok (.iload_n 0, 1) := by decide +kernel
theorem dX8_later_15 : decode cX8_later 15 = .ok (.iload_n 1, 1) := by decide +kernel
theorem dX8_later_16 : decode cX8_later 16 = .ok (.invokestatic 80, 3) := by decide +kernel
theorem dX8_later_19 : decode cX8_later 19 = .ok (.ireturn, 1) := by decide +kernel
theorem dX9_init_0 : decode cX9_init 0 = .ok (.aload_n 0, 1) := by decide +kernel
theorem dX9_init_1 : decode cX9_init 1 = .ok (.invokespecial 3, 3) := by decide +kernel
theorem dX9_init_4 : decode cX9_init 4 = .ok (.aload_n 0, 1) := by decide +kernel
theorem dX9_init_5 : decode cX9_init 5 = .ok (.new 9, 3) := by decide +kernel
theorem dX9_init_8 : decode cX9_init 8 = .ok (.dup, 1) := by decide +kernel
theorem dX9_init_9 : decode cX9_init 9 = .ok (.invokespecial 11, 3) := by decide +kernel
theorem dX9_init_12 : decode cX9_init 12 = .ok (.putfield 12, 3) := by decide +kernel
theorem dX9_init_15 : decode cX9_init 15 = .ok (.aload_n 0, 1) := by decide +kernel
theorem dX9_init_16 : decode cX9_init 16 = .ok (.new 9, 3) := by decide +kernel
theorem dX9_init_19 : decode cX9_init 19 = .ok (.dup, 1) := by decide +kernel
theorem dX9_init_20 : decode cX9_init 20 = .ok (.invokespecial 11, 3) := by decide +kernel
theorem dX9_init_23 : decode cX9_init 23 = .ok (.putfield 18, 3) := by decide +kernel
theorem dX9_init_26 : decode cX9_init 26 = .ok (.aload_n 0, 1) := by decide +kernel
theorem dX9_init_27 : decode cX9_init 27 = .ok (.new 9, 3) := by decide +kernel
theorem dX9_init_30 : decode cX9_init 30 = .ok (.dup, 1) := by decide +kernel
theorem dX9_init_31 : decode cX9_init 31 = .ok (.invokespecial 11, 3) := by decide +kernel
theorem dX9_init_34 : decode cX9_init 34 = .ok (.putfield 21, 3) := by decide +kernel
theorem dX9_init_37 : decode cX9_init 37 = .ok (.aload_n 0, 1) := by decide +kernel
theorem dX9_init_38 : decode cX9_init 38 = .ok (.bipush 10, 2) := by decide +kernel
theorem dX9_init_40 : decode cX9_init 40 = .ok (.newarray .int, 2) := by decide +kernel
theorem dX9_init_42 : decode cX9_init 42 = .ok (.putfield 24, 3) := by decide +kernel
theorem dX9_init_45 : decode cX9_init 45 = .ok (.aload_n 0, 1) := by decide +kernel
theorem dX9_init_46 : decode cX9_init 46 = .ok (.bipush 10, 2) := by decide +kernel
theorem dX9_init_48 : decode cX9_init 48 = .ok (.newarray .int, 2) := by decide +kernel
theorem dX9_init_50 : decode cX9_init 50 = .ok (.putfield 28, 3) := by decide +kernel
theorem dX9_init_53 : decode cX9_init 53 = .ok (.aload_n 0, 1) := by decide +kernel
theorem dX9_init_54 : decode cX9_init 54 = .ok (.iconst (-1), 1) := by decide +kernel
theorem dX9_init_55 : decode cX9_init 55 = .ok (.putfield 31, 3) := by decide +kernel
theorem dX9_init_58 : decode cX9_init 58 = .ok (.aload_n 0, 1) := by decide +kernel
theorem dX9_init_59 : decode cX9_init 59 = .ok (.aload_n 1, 1) := by decide +kernel
theorem dX9_init_60 : decode cX9_init 60 = .ok (.putfield 35, 3) := by decide +kernel
theorem dX9_init_63 : decode cX9_init 63 = .ok (.return_, 1) := by decide +kernel
theorem dX9_forget_0 : decode cX9_forget 0 = .ok (.aload_n 0, 1) := by decide +kernel
theorem dX9_forget_1 : decode cX9_forget 1 = .ok (.iconst 0, 1) := by decide +kernel
theorem dX9_forget_2 : decode cX9_forget 2 = .ok (.putfield 39, 3) := by decide +kernel
theorem dX9_forget_5 : decode cX9_forget 5 = .ok (.aload_n 0, 1) := by decide +kernel
theorem dX9_forget_6 : decode cX9_forget 6 = .ok (.iconst 0, 1) := by decide +kernel
theorem dX9_forget_7 : decode cX9_forget 7 = .ok (.putfield 43, 3) := by decide +kernel
theorem dX9_forget_10 : decode cX9_forget 10 = .ok (.return_, 1) := by decide +kernel
theorem dX9_renew_0 : decode cX9_renew 0 = .ok (.aload_n 0, 1) := by decide +kernel
theorem dX9_renew_1 : decode cX9_renew 1 = .ok (.getfield 39, 3) := by decide +kernel
theorem dX9_renew_4 : decode cX9_renew 4 = .ok (.ifCond .eq 4, 3) := by decide +kernel
theorem dX9_renew_7 : decode cX9_renew 7 = .ok (.return_, 1) := by decide +kernel
theorem dX9_renew_8 : decode cX9_renew 8 = .ok (.aload_n 0, 1) := by decide +kernel
theorem dX9_renew_9 : decode cX9_renew 9 = .ok (.aload_n 0, 1) := by decide +kernel
theorem dX9_renew_10 : decode cX9_renew 10 = .ok (.getfield 35, 3) := by decide +kernel
theorem dX9_renew_13 : decode cX9_renew 13 = .ok (.invokevirtual 46, 3) := by decide +kernel
theorem dX9_renew_16 : decode cX9_renew 16 = .ok (.ifCond .eq 17, 3) := by decide +kernel
theorem dX9_renew_19 : decode cX9_renew 19 = .ok (.aload_n 0, 1) := by decide +kernel
theorem dX9_renew_20 : decode cX9_renew 20 = .ok (.getfield 35, 3) := by decide +kernel
theorem dX9_renew_23 : decode cX9_renew 23 = .ok (.invokevirtual 52, 3) := by decide +kernel
theorem dX9_renew_26 : decode cX9_renew 26 = .ok (.ifCond .ne 7, 3) := by decide +kernel
theorem dX9_renew_29 : decode cX9_renew 29 = .ok (.iconst 1, 1) := by decide +kernel
theorem dX9_renew_30 : decode cX9_renew 30 = .ok (.goto 4, 3) := by decide +kernel
theorem dX9_renew_33 : decode cX9_renew 33 = .ok (.iconst 0, 1) := by decide +kernel
theorem dX9_renew_34 : decode cX9_renew 34 = .ok (.putfield 55, 3) := by decide +kernel
theorem dX9_renew_37 : decode cX9_renew 37 = .ok (.aload_n 0, 1) := by decide +kernel
theorem dX9_renew_38 : decode cX9_renew 38 = .ok (.getfield 55, 3) := by decide +kernel
theorem dX9_renew_41 : decode cX9_renew 41 = .ok (.ifCond .eq 16, 3) := by decide +kernel
theorem dX9_renew_44 : decode cX9_renew 44 = .ok (.aload_n 0, 1) := by decide +kernel
theorem dX9_renew_45 : decode cX9_renew 45 = .ok (.iconst (-1), 1) := by decide +kernel
theorem dX9_renew_46 : decode cX9_renew 46 = .ok (.putfield 31, 3) := by decide +kernel
theorem dX9_renew_49 : decode cX9_renew 49 = .ok (.aload_n 0, 1) := by decide +kernel
theorem dX9_renew_50 : decode cX9_renew 50 = .ok (.aload_n 0, 1) := by decide +kernel
theorem dX9_renew_51 : decode cX9_renew 51 = .ok (.getfield 12, 3) := by decide +kernel
theorem dX9_renew_54 : decode cX9_renew 54 = .ok (.invokevirtual 58, 3) := by decide +kernel
theorem dX9_renew_57 : decode cX9_renew 57 = .ok (.aload_n 0, 1) := by decide +kernel
theorem dX9_renew_58 : decode cX9_renew 58 = .ok (.iconst 1, 1) := by decide +kernel
theorem dX9_renew_59 : decode cX9_renew 59 = .ok (.putfield 39, 3) := by decide +kernel
theorem dX9_renew_62 : decode cX9_renew 62 = .ok (.return_, 1) := by decide +kernel
theorem dX9_numerator_0 : decode cX9_numerator 0 = .ok (.aload_n 0, 1) := by decide +kernel
theorem dX9_numerator_1 : decode cX9_numerator 1 = .ok (.getfield 55, 3) := by decide +kernel
theorem dX9_numerator_4 : decode cX9_numerator 4 = .ok (.ifCond .eq 13, 3) := by decide +kernel
theorem dX9_numerator_7 : decode cX9_numerator 7 = .ok (.aload_n 0, 1) := by decide +kernel
theorem dX9_numerator_8 : decode cX9_numerator 8 = .ok (.getfield 12, 3) := by decide +kernel
theorem dX9_numerator_11 : decode cX9_numerator 11 = .ok (.invokevirtual 62, 3) := by decide +kernel
theorem dX9_numerator_14 : decode cX9_numerator 14 = .ok (.goto 4, 3) := by decide +kernel
theorem dX9_numerator_17 : decode cX9_numerator 17 = .ok (.iconst (-1), 1) := by decide +kernel
theorem dX9_numerator_18 : decode cX9_numerator 18 = .ok (.ireturn, 1) := by decide +kernel
theorem dX9_denominator_0 : decode cX9_denominator 0 = .ok (.aload_n 0, 1) := by decide +kernel
theorem dX9_denominator_1 : decode cX9_denominator 1 = .ok (.getfield 55, 3) := by decide +kernel
theorem dX9_denominator_4 : decode cX9_denominator 4 = .ok (.ifCond .eq 13, 3) := by decide +kernel
theorem dX9_denominator_7 : decode cX9_denominator 7 = .ok (.aload_n 0, 1) := by decide +kernel
theorem dX9_denominator_8 : decode cX9_denominator 8 = .ok (.getfield 12, 3) := by decide +kernel
theorem dX9_denominator_11 : decode cX9_denominator 11 = .ok (.invokevirtual 66, 3) := by decide +kernel
theorem dX9_denominator_14 : decode cX9_denominator 14 = .ok (.goto 4, 3) := by decide +kernel
theorem dX9_denominator_17 : decode cX9_denominator 17 = .ok (.iconst (-1), 1) := by decide +kernel
theorem dX9_denominator_18 : decode cX9_denominator 18 = .ok (.ireturn, 1) := by decide +kernel
theorem dX9_helper_0 : decode cX9_helper 0 = .ok (.aload_n 0, 1) := by decide +kernel
theorem dX9_helper_1 : decode cX9_helper 1 = .ok (.getfield 55, 3) := by decide +kernel
theorem dX9_helper_4 : decode cX9_helper 4 = .ok (.ifCond .ne 5, 3) := by decide +kernel
theorem dX9_helper_7 : decode cX9_helper 7 = .ok (.iconst (-1), 1) := by decide +kernel
theorem dX9_helper_8 : decode cX9_helper 8 = .ok (.ireturn, 1) := by decide +kernel
theorem dX9_helper_9 : decode cX9_helper 9 = .ok (.aload_n 0, 1) := by decide +kernel
theorem dX9_helper_10 : decode cX9_helper 10 = .ok (.getfield 43, 3) := by decide +kernel
theorem dX9_helper_13 : decode cX9_helper 13 = .ok (.ifCond .eq 8, 3) := by decide +kernel
theorem dX9_helper_16 : decode cX9_helper 16 = .ok (.aload_n 0, 1) := by decide +kernel
theorem dX9_helper_17 : decode cX9_helper 17 = .ok (.getfield 69, 3) := by decide +kernel
theorem dX9_helper_20 : decode cX9_helper 20 = .ok (.ireturn, 1) := by decide +kernel
theorem dX9_helper_21 : decode cX9_helper 21 = .ok (.aload_n 0, 1) := by decide +kernel
theorem dX9_helper_22 : decode cX9_helper 22 = .ok (.iconst (-1), 1) := by decide +kernel
theorem dX9_helper_23 : decode cX9_helper 23 = .ok (.putfield 69, 3) := by decide +kernel
theorem dX9_helper_26 : decode cX9_helper 26 = .ok (.aload_n 0, 1) := by decide +kernel
theorem dX9_helper_27 : decode cX9_helper 27 = .ok (.getfield 21, 3) := by decide +kernel
theorem dX9_helper_30 : decode cX9_helper 30 = .ok (.aload_n 0, 1) := by decide +kernel
theorem dX9_helper_31 : decode cX9_helper 31 = .ok (.getfield 12, 3) := by decide +kernel
theorem dX9_helper_34 : decode cX9_helper 34 = .ok (.invokevirtual 72, 3) := by decide +kernel
theorem dX9_helper_37 : decode cX9_helper 37 = .ok (.iconst 0, 1) := by decide +kernel
theorem dX9_helper_38 : decode cX9_helper 38 = .ok (.istore_n 1, 1) := by decide +kernel
theorem dX9_helper_39 : decode cX9_helper 39 = .ok (.iload_n 1, 1) := by decide +kernel
theorem dX9_helper_40 : decode cX9_helper 40 = .ok (.aload_n 0, 1) := by decide +kernel
theorem dX9_helper_41 : decode cX9_helper 41 = .ok (.getfield 35, 3) := by decide +kernel
theorem dX9_helper_44 : decode cX9_helper 44 = .ok (.invokevirtual 75, 3) := by decide +kernel
theorem dX9_helper_47 : decode cX9_helper 47 = .ok (.if_icmp .ge 52, 3) := by decide +kernel
theorem dX9_helper_50 : decode cX9_helper 50 = .ok (.aload_n 0, 1) := by decide +kernel
theorem dX9_helper_51 : decode cX9_helper 51 = .ok (.iload_n 1, 1) := by decide +kernel
theorem dX9_helper_52 : decode cX9_helper 52 = .ok (.putfield 31, 3) := by decide +kernel
theorem dX9_helper_55 : decode cX9_helper 55 = .ok (.aload_n 0, 1) := by decide +kernel
theorem dX9_helper_56 : decode cX9_helper 56 = .ok (.aload_n 0, 1) := by decide +kernel
theorem dX9_helper_57 : decode cX9_helper 57 = .ok (.getfield 18, 3) := by decide +kernel
theorem dX9_helper_60 : decode cX9_helper 60 = .ok (.invokevirtual 58, 3) := by decide +kernel
theorem dX9_helper_63 : decode cX9_helper 63 = .ok (.aload_n 0, 1) := by decide +kernel
theorem dX9_helper_64 : decode cX9_helper 64 = .ok (.getfield 18, 3) := by decide +kernel
theorem dX9_helper_67 : decode cX9_helper 67 = .ok (.aload_n 0, 1) := by decide +kernel
theorem dX9_helper_68 : decode cX9_helper 68 = .ok (.getfield 21, 3) := by decide +kernel
theorem dX9_helper_71 : decode cX9_helper 71 = .ok (.invokevirtual 78, 3) := by decide +kernel
theorem dX9_helper_74 : decode cX9_helper 74 = .ok (.ifCond .eq 19, 3) := by decide +kernel
theorem dX9_helper_77 : decode cX9_helper 77 = .ok (.aload_n 0, 1) := by decide +kernel
theorem dX9_helper_78 : decode cX9_helper 78 = .ok (.getfield 21, 3) := by decide +kernel
theorem dX9_helper_81 : decode cX9_helper 81 = .ok (.aload_n 0, 1) := by decide +kernel
theorem dX9_helper_82 : decode cX9_helper 82 = .ok (.getfield 18, 3) := by decide +kernel
theorem dX9_helper_85 : decode cX9_helper 85 = .ok (.invokevirtual 72, 3) := by decide +kernel
theorem dX9_helper_88 : decode cX9_helper 88 = .ok (.aload_n 0, 1) := by decide +kernel
theorem dX9_helper_89 : decode cX9_helper 89 = .ok (.iload_n 1, 1) := by decide +kernel
theorem dX9_helper_90 : decode cX9_helper 90 = .ok (.putfield 69, 3) := by decide +kernel
theorem dX9_helper_93 : decode cX9_helper 93 = .ok (.iinc 1 1, 3) := by decide +kernel
theorem dX9_helper_96 : decode cX9_helper 96 = .ok (.goto (-57), 3) := by decide +kernel
theorem dX9_helper_99 : decode cX9_helper 99 = .ok (.aload_n 0, 1) := by decide +kernel
theorem dX9_helper_100 : decode cX9_helper 100 = .ok (.iconst (-1), 1) := by decide +kernel
theorem dX9_helper_101 : decode cX9_helper 101 = .ok (.putfield 31, 3) := by decide +kernel
theorem dX9_helper_104 : decode cX9_helper 104 = .ok (.aload_n 0, 1) := by decide +kernel
theorem dX9_helper_105 : decode cX9_helper 105 = .ok (.iconst 1, 1) := by decide +kernel
theorem dX9_helper_106 : decode cX9_helper 106 = .ok (.putfield 43, 3) := by decide +kernel
theorem dX9_helper_109 : decode cX9_helper 109 = .ok (.aload_n 0, 1) := by decide +kernel
theorem dX9_helper_110 : decode cX9_helper 110 = .ok (.getfield 69, 3) := by decide +kernel
theorem dX9_helper_113 : decode cX9_helper 113 = .ok (.ireturn, 1) := by decide +kernel
theorem dX9_findGreatest_0 : decode cX9_findGreatest 0 = .ok (.aload_n 1, 1) := by decide +kernel
theorem dX9_findGreatest_1 : decode cX9_findGreatest 1 = .ok (.invokevirtual 82, 3) := by decide +kernel
theorem dX9_findGreatest_4 : decode cX9_findGreatest 4 = .ok (.iconst 0, 1) := by decide +kernel
theorem dX9_findGreatest_5 : decode cX9_findGreatest 5 = .ok (.istore_n 2, 1) := by decide +kernel
theorem dX9_findGreatest_6 : decode cX9_findGreatest 6 = .ok (.iload_n 2, 1) := by decide +kernel
theorem dX9_findGreatest_7 : decode cX9_findGreatest 7 = .ok (.ldc 85, 2) := by decide +kernel
theorem dX9_findGreatest_9 : decode cX9_findGreatest 9 = .ok (.if_icmp .ge 31, 3) := by decide +kernel
theorem dX9_findGreatest_12 : decode cX9_findGreatest 12 = .ok (.aload_n 0, 1) := by decide +kernel
theorem dX9_findGreatest_13 : decode cX9_findGreatest 13 = .ok (.aload_n 1, 1) := by decide +kernel
theorem dX9_findGreatest_14 : decode cX9_findGreatest 14 = .ok (.invokevirtual 86, 3) := by decide +kernel
theorem dX9_findGreatest_17 : decode cX9_findGreatest 17 = .ok (.istore_n 3, 1) := by decide +kernel
theorem dX9_findGreatest_18 : decode cX9_findGreatest 18 = .ok (.iload_n 3, 1) := by decide +kernel
theorem dX9_findGreatest_19 : decode cX9_findGreatest 19 = .ok (.iconst (-1), 1) := by decide +kernel
theorem dX9_findGreatest_20 : decode cX9_findGreatest 20 = .ok (.if_icmp .ne 4, 3) := by decide +kernel
theorem dX9_findGreatest_23 : decode cX9_findGreatest 23 = .ok (.return_, 1) := by decide +kernel
theorem dX9_findGreatest_24 : decode cX9_findGreatest 24 = .ok (.aload_n 0, 1) := by decide +kernel
theorem dX9_findGreatest_25 : decode cX9_findGreatest 25 = .ok (.aload_n 0, 1) := by decide +kernel
theorem dX9_findGreatest_26 : decode cX9_findGreatest 26 = .ok (.iload_n 3, 1) := by decide +kernel
theorem dX9_findGreatest_27 : decode cX9_findGreatest 27 = .ok (.invokevirtual 90, 3) := by decide +kernel
theorem dX9_findGreatest_30 : decode cX9_findGreatest 30 = .ok (.aload_n 1, 1) := by decide +kernel
theorem dX9_findGreatest_31 : decode cX9_findGreatest 31 = .ok (.invokevirtual 94, 3) := by decide +kernel
theorem dX9_findGreatest_34 : decode cX9_findGreatest 34 = .ok (.iinc 2 1, 3) := by decide +kernel
theorem dX9_findGreatest_37 : decode cX9_findGreatest 37 = .ok (.goto (-31), 3) := by decide +kernel
theorem dX9_findGreatest_40 : decode cX9_findGreatest 40 = .ok (.return_, 1) := by decide +kernel
theorem dX9_nodeBehindGreaterRing_0 : decode cX9_nodeBehindGreaterRing 0 = .ok (.aload_n 0, 1) := by decide +kernel
theorem dX9_nodeBehindGreaterRing_1 : decode cX9_nodeBehindGreaterRing 1 = .ok (.getfield 24, 3) := by decide +kernel
theorem dX9_nodeBehindGreaterRing_4 : decode cX9_nodeBehindGreaterRing 4 = .ok (.iconst 0, 1) := by decide +kernel
theorem dX9_nodeBehindGreaterRing_5 : decode cX9_nodeBehindGreaterRing 5 = .ok (.invokestatic 98, 3) := by decide +kernel
theorem dX9_nodeBehindGreaterRing_8 : decode cX9_nodeBehindGreaterRing 8 = .ok (.aload_n 0, 1) := by decide +kernel
theorem dX9_nodeBehindGreaterRing_9 : decode cX9_nodeBehindGreaterRing 9 = .ok (.getfield 28, 3) := by decide +kernel
theorem dX9_nodeBehindGreaterRing_12 : decode cX9_nodeBehindGreaterRing 12 = .ok (.iconst (-1), 1) := by decide +kernel
theorem dX9_nodeBehindGreaterRing_13 : decode cX9_nodeBehindGreaterRing 13 = .ok (.invokestatic 98, 3) := by decide +kernel
theorem dX9_nodeBehindGreaterRing_16 : decode cX9_nodeBehindGreaterRing 16 = .ok (.iconst (-1), 1) := by decide +kernel
theorem dX9_nodeBehindGreaterRing_17 : decode cX9_nodeBehindGreaterRing 17 = .ok (.istore_n 2, 1) := by decide +kernel
theorem dX9_nodeBehindGreaterRing_18 : decode cX9_nodeBehindGreaterRing 18 = .ok (.iconst 0, 1) := by decide +kernel
theorem dX9_nodeBehindGreaterRing_19 : decode cX9_nodeBehindGreaterRing 19 = .ok (.istore_n 3, 1) := by decide +kernel
theorem dX9_nodeBehindGreaterRing_20 : decode cX9_nodeBehindGreaterRing 20 = .ok (.iload_n 3, 1) := by decide +kernel
theorem dX9_nodeBehindGreaterRing_21 : decode cX9_nodeBehindGreaterRing 21 = .ok (.aload_n 0, 1) := by decide +kernel
theorem dX9_nodeBehindGreaterRing_22 : decode cX9_nodeBehindGreaterRing 22 = .ok (.getfield 35, 3) := by decide +kernel
theorem dX9_nodeBehindGreaterRing_25 : decode cX9_nodeBehindGreaterRing 25 = .ok (.invokevirtual 104, 3) := by decide +kernel
theorem dX9_nodeBehindGreaterRing_28 : decode cX9_nodeBehindGreaterRing 28 = .ok (.if_icmp .ge 22, 3) := by decide +kernel
theorem dX9_nodeBehindGreaterRing_31 : decode cX9_nodeBehindGreaterRing 31 = .ok (.aload_n 0, 1) := by decide +kernel
theorem dX9_nodeBehindGreaterRing_32 : decode cX9_nodeBehindGreaterRing 32 = .ok (.aload_n 1, 1) := by decide +kernel
theorem dX9_nodeBehindGreaterRing_33 : decode cX9_nodeBehindGreaterRing 33 = .ok (.invokevirtual 107, 3) := by decide +kernel
theorem dX9_nodeBehindGreaterRing_36 : decode cX9_nodeBehindGreaterRing 36 = .ok (.istore_n 2, 1) := by decide +kernel
theorem dX9_nodeBehindGreaterRing_37 : decode cX9_nodeBehindGreaterRing 37 = .ok (.iload_n 2, 1) := by decide +kernel
theorem dX9_nodeBehindGreaterRing_38 : decode cX9_nodeBehindGreaterRing 38 = .ok (.iconst (-1), 1) := by decide +kernel
theorem dX9_nodeBehindGreaterRing_39 : decode cX9_nodeBehindGreaterRing 39 = .ok (.if_icmp .ne 5, 3) := by decide +kernel
theorem dX9_nodeBehindGreaterRing_42 : decode cX9_nodeBehindGreaterRing 42 = .ok (.iconst (-1), 1) := by decide +kernel
theorem dX9_nodeBehindGreaterRing_43 : decode cX9_nodeBehindGreaterRing 43 = .ok (.ireturn, 1) := by decide +kernel
theorem dX9_nodeBehindGreaterRing_44 : decode cX9_nodeBehindGreaterRing 44 = .ok (.iinc 3 1, 3) := by decide +kernel
theorem dX9_nodeBehindGreaterRing_47 : decode cX9_nodeBehindGreaterRing 47 = .ok (.goto (-27), 3) := by decide +kernel
theorem dX9_nodeBehindGreaterRing_50 : decode cX9_nodeBehindGreaterRing 50 = .ok (.iload_n 2, 1) := by decide +kernel
theorem dX9_nodeBehindGreaterRing_51 : decode cX9_nodeBehindGreaterRing 51 = .ok (.ireturn, 1) := by decide +kernel
theorem dX9_growPaths_0 : decode cX9_growPaths 0 = .ok (.iconst (-1), 1) := by decide +kernel
theorem dX9_growPaths_1 : decode cX9_growPaths 1 = .ok (.istore_n 2, 1) := by decide +kernel
theorem dX9_growPaths_2 : decode cX9_growPaths 2 = .ok (.iconst 0, 1) := by decide +kernel
theorem dX9_growPaths_3 : decode cX9_growPaths 3 = .ok (.istore_n 3, 1) := by decide +kernel
theorem dX9_growPaths_4 : decode cX9_growPaths 4 = .ok (.iload_n 3, 1) := by decide +kernel
theorem dX9_growPaths_5 : decode cX9_growPaths 5 = .ok (.aload_n 0, 1) := by decide +kernel
theorem dX9_growPaths_6 : decode cX9_growPaths 6 = .ok (.getfield 35, 3) := by decide +kernel
theorem dX9_growPaths_9 : decode cX9_growPaths 9 = .ok (.invokevirtual 75, 3) := by decide +kernel
theorem dX9_growPaths_12 : decode cX9_growPaths 12 = .ok (.if_icmp .ge 96, 3) := by decide +kernel
theorem dX9_growPaths_15 : decode cX9_growPaths 15 = .ok (.aload_n 0, 1) := by decide +kernel
theorem dX9_growPaths_16 : decode cX9_growPaths 16 = .ok (.getfield 35, 3) := by decide +kernel
theorem dX9_growPaths_19 : decode cX9_growPaths 19 = .ok (.iload_n 3, 1) := by decide +kernel
theorem dX9_growPaths_20 : decode cX9_growPaths 20 = .ok (.invokevirtual 110, 3) := by decide +kernel
theorem dX9_growPaths_23 : decode cX9_growPaths 23 = .ok (.istore 4, 2) := by decide +kernel
theorem dX9_growPaths_25 : decode cX9_growPaths 25 = .ok (.aload_n 1, 1) := by decide +kernel
theorem dX9_growPaths_26 : decode cX9_growPaths 26 = .ok (.invokevirtual 66, 3) := by decide +kernel
theorem dX9_growPaths_29 : decode cX9_growPaths 29 = .ok (.aload_n 0, 1) := by decide +kernel
theorem dX9_growPaths_30 : decode cX9_growPaths 30 = .ok (.getfield 35, 3) := by decide +kernel
theorem dX9_growPaths_33 : decode cX9_growPaths 33 = .ok (.iload 4, 2) := by decide +kernel
theorem dX9_growPaths_35 : decode cX9_growPaths 35 = .ok (.invokevirtual 113, 3) := by decide +kernel
theorem dX9_growPaths_38 : decode cX9_growPaths 38 = .ok (.imul, 1) := by decide +kernel
theorem dX9_growPaths_39 : decode cX9_growPaths 39 = .ok (.aload_n 1, 1) := by decide +kernel
theorem dX9_growPaths_40 : decode cX9_growPaths 40 = .ok (.invokevirtual 62, 3) := by decide +kernel
theorem dX9_growPaths_43 : decode cX9_growPaths 43 = .ok (.aload_n 0, 1) := by decide +kernel
theorem dX9_growPaths_44 : decode cX9_growPaths 44 = .ok (.iload_n 3, 1) := by decide +kernel
theorem dX9_growPaths_45 : decode cX9_growPaths 45 = .ok (.invokevirtual 116, 3) := by decide +kernel
theorem dX9_growPaths_48 : decode cX9_growPaths 48 = .ok (.imul, 1) := by decide +kernel
theorem dX9_growPaths_49 : decode cX9_growPaths 49 = .ok (.isub, 1) := by decide +kernel
theorem dX9_growPaths_50 : decode cX9_growPaths 50 = .ok (.istore 5, 2) := by decide +kernel
theorem dX9_growPaths_52 : decode cX9_growPaths 52 = .ok (.aload_n 0, 1) := by decide +kernel
theorem dX9_growPaths_53 : decode cX9_growPaths 53 = .ok (.getfield 24, 3) := by decide +kernel
theorem dX9_growPaths_56 : decode cX9_growPaths 56 = .ok (.aload_n 0, 1) := by decide +kernel
theorem dX9_growPaths_57 : decode cX9_growPaths 57 = .ok (.getfield 35, 3) := by decide +kernel
theorem dX9_growPaths_60 : decode cX9_growPaths 60 = .ok (.iload_n 3, 1) := by decide +kernel
theorem dX9_growPaths_61 : decode cX9_growPaths 61 = .ok (.invokevirtual 119, 3) := by decide +kernel
theorem dX9_growPaths_64 : decode cX9_growPaths 64 = .ok (.iaload, 1) := by decide +kernel
theorem dX9_growPaths_65 : decode cX9_growPaths 65 = .ok (.iload 5, 2) := by decide +kernel
theorem dX9_growPaths_67 : decode cX9_growPaths 67 = .ok (.iadd, 1) := by decide +kernel
theorem dX9_growPaths_68 : decode cX9_growPaths 68 = .ok (.istore 6, 2) := by decide +kernel
theorem dX9_growPaths_70 : decode cX9_growPaths 70 = .ok (.iload 6, 2) := by decide +kernel
theorem dX9_growPaths_72 : decode cX9_growPaths 72 = .ok (.aload_n 0, 1) := by decide +kernel
theorem dX9_growPaths_73 : decode cX9_growPaths 73 = .ok (.getfield 24, 3) := by decide +kernel
theorem dX9_growPaths_76 : decode cX9_growPaths 76 = .ok (.iload 4, 2) := by decide +kernel
theorem dX9_growPaths_78 : decode cX9_growPaths 78 = .ok (.iaload, 1) := by decide +kernel
theorem dX9_growPaths_79 : decode cX9_growPaths 79 = .ok (.if_icmp .le 23, 3) := by decide +kernel
theorem dX9_growPaths_82 : decode cX9_growPaths 82 = .ok (.aload_n 0, 1) := by decide +kernel
theorem dX9_growPaths_83 : decode cX9_growPaths 83 = .ok (.getfield 24, 3) := by decide +kernel
theorem dX9_growPaths_86 : decode cX9_growPaths 86 = .ok (.iload 4, 2) := by decide +kernel
theorem dX9_growPaths_88 : decode cX9_growPaths 88 = .ok (.iload 6, 2) := by decide +kernel
theorem dX9_growPaths_90 : decode cX9_growPaths 90 = .ok (.iastore, 1) := by decide +kernel
theorem dX9_growPaths_91 : decode cX9_growPaths 91 = .ok (.aload_n 0, 1) := by decide +kernel
theorem dX9_growPaths_92 : decode cX9_growPaths 92 = .ok (.getfield 28, 3) := by decide +kernel
theorem dX9_growPaths_95 : decode cX9_growPaths 95 = .ok (.iload 4, 2) := by decide +kernel
theorem dX9_growPaths_97 : decode cX9_growPaths 97 = .ok (.iload_n 3, 1) := by decide +kernel
theorem dX9_growPaths_98 : decode cX9_growPaths 98 = .ok (.iastore, 1) := by decide +kernel
theorem dX9_growPaths_99 : decode cX9_growPaths 99 = .ok (.iload 4, 2) := by decide +kernel
theorem dX9_growPaths_101 : decode cX9_growPaths 101 = .ok (.istore_n 2, 1) := by decide +kernel
theorem dX9_growPaths_102 : decode cX9_growPaths 102 = .ok (.iinc 3 1, 3) := by decide +kernel
theorem dX9_growPaths_105 : decode cX9_growPaths 105 = .ok (.goto (-101), 3) := by decide +kernel
theorem dX9_growPaths_108 : decode cX9_growPaths 108 = .ok (.iload_n 2, 1) := by decide +kernel
theorem dX9_growPaths_109 : decode cX9_growPaths 109 = .ok (.ireturn, 1) := by decide +kernel
theorem dX9_tokensOn_0 : decode cX9_tokensOn 0 = .ok (.aload_n 0, 1) := by decide +kernel
theorem dX9_tokensOn_1 : decode cX9_tokensOn 1 = .ok (.getfield 35, 3) := by decide +kernel
theorem dX9_tokensOn_4 : decode cX9_tokensOn 4 = .ok (.iload_n 1, 1) := by decide +kernel
theorem dX9_tokensOn_5 : decode cX9_tokensOn 5 = .ok (.invokevirtual 122, 3) := by decide +kernel
theorem dX9_tokensOn_8 : decode cX9_tokensOn 8 = .ok (.iload_n 1, 1) := by decide +kernel
theorem dX9_tokensOn_9 : decode cX9_tokensOn 9 = .ok (.aload_n 0, 1) := by decide +kernel
theorem dX9_tokensOn_10 : decode cX9_tokensOn 10 = .ok (.getfield 31, 3) := by decide +kernel
theorem dX9_tokensOn_13 : decode cX9_tokensOn 13 = .ok (.if_icmp .ne 7, 3) := by decide +kernel
theorem dX9_tokensOn_16 : decode cX9_tokensOn 16 = .ok (.iconst 1, 1) := by decide +kernel
theorem dX9_tokensOn_17 : decode cX9_tokensOn 17 = .ok (.goto 4, 3) := by decide +kernel
theorem dX9_tokensOn_20 : decode cX9_tokensOn 20 = .ok (.iconst 0, 1) := by decide +kernel
theorem dX9_tokensOn_21 : decode cX9_tokensOn 21 = .ok (.iadd, 1) := by decide +kernel
theorem dX9_tokensOn_22 : decode cX9_tokensOn 22 = .ok (.ireturn, 1) := by decide +kernel
theorem dX9_nodeOnRing_0 : decode cX9_nodeOnRing 0 = .ok (.iload_n 1, 1) := by decide +kernel
theorem dX9_nodeOnRing_1 : decode cX9_nodeOnRing 1 = .ok (.istore_n 2, 1) := by decide +kernel
theorem dX9_nodeOnRing_2 : decode cX9_nodeOnRing 2 = .ok (.iconst 0, 1) := by decide +kernel
theorem dX9_nodeOnRing_3 : decode cX9_nodeOnRing 3 = .ok (.istore_n 3, 1) := by decide +kernel
theorem dX9_nodeOnRing_4 : decode cX9_nodeOnRing 4 = .ok (.iload_n 3, 1) := by decide +kernel
theorem dX9_nodeOnRing_5 : decode cX9_nodeOnRing 5 = .ok (.aload_n 0, 1) := by decide +kernel
theorem dX9_nodeOnRing_6 : decode cX9_nodeOnRing 6 = .ok (.getfield 35, 3) := by decide +kernel
theorem dX9_nodeOnRing_9 : decode cX9_nodeOnRing 9 = .ok (.invokevirtual 104, 3) := by decide +kernel
theorem dX9_nodeOnRing_12 : decode cX9_nodeOnRing 12 = .ok (.if_icmp .ge 33, 3) := by decide +kernel
theorem dX9_nodeOnRing_15 : decode cX9_nodeOnRing 15 = .ok (.aload_n 0, 1) := by decide +kernel
theorem dX9_nodeOnRing_16 : decode cX9_nodeOnRing 16 = .ok (.getfield 28, 3) := by decide +kernel
theorem dX9_nodeOnRing_19 : decode cX9_nodeOnRing 19 = .ok (.iload_n 2, 1) := by decide +kernel
theorem dX9_nodeOnRing_20 : decode cX9_nodeOnRing 20 = .ok (.iaload, 1) := by decide +kernel
theorem dX9_nodeOnRing_21 : decode cX9_nodeOnRing 21 = .ok (.iconst (-1), 1) := by decide +kernel
theorem dX9_nodeOnRing_22 : decode cX9_nodeOnRing 22 = .ok (.if_icmp .eq 23, 3) := by decide +kernel
theorem dX9_nodeOnRing_25 : decode cX9_nodeOnRing 25 = .ok (.aload_n 0, 1) := by decide +kernel
theorem dX9_nodeOnRing_26 : decode cX9_nodeOnRing 26 = .ok (.getfield 35, 3) := by decide +kernel
theorem dX9_nodeOnRing_29 : decode cX9_nodeOnRing 29 = .ok (.aload_n 0, 1) := by decide +kernel
theorem dX9_nodeOnRing_30 : decode cX9_nodeOnRing 30 = .ok (.getfield 28, 3) := by decide +kernel
theorem dX9_nodeOnRing_33 : decode cX9_nodeOnRing 33 = .ok (.iload_n 2, 1) := by decide +kernel
theorem dX9_nodeOnRing_34 : decode cX9_nodeOnRing 34 = .ok (.iaload, 1) := by decide +kernel
theorem dX9_nodeOnRing_35 : decode cX9_nodeOnRing 35 = .ok (.invokevirtual 119, 3) := by decide +kernel
theorem dX9_nodeOnRing_38 : decode cX9_nodeOnRing 38 = .ok (.istore_n 2, 1) := by decide +kernel
theorem dX9_nodeOnRing_39 : decode cX9_nodeOnRing 39 = .ok (.iinc 3 1, 3) := by decide +kernel
theorem dX9_nodeOnRing_42 : decode cX9_nodeOnRing 42 = .ok (.goto (-38), 3) := by decide +kernel
theorem dX9_nodeOnRing_45 : decode cX9_nodeOnRing 45 = .ok (.iload_n 2, 1) := by decide +kernel
theorem dX9_nodeOnRing_46 : decode cX9_nodeOnRing 46 = .ok (.ireturn, 1) := by decide +kernel
theorem dX9_putRing_0 : decode cX9_putRing 0 = .ok (.iconst 0, 1) := by decide +kernel
theorem dX9_putRing_1 : decode cX9_putRing 1 = .ok (.istore_n 3, 1) := by decide +kernel
theorem dX9_putRing_2 : decode cX9_putRing 2 = .ok (.iconst 0, 1) := by decide +kernel
theorem dX9_putRing_3 : decode cX9_putRing 3 = .ok (.istore 4, 2) := by decide +kernel
theorem dX9_putRing_5 : decode cX9_putRing 5 = .ok (.iload_n 1, 1) := by decide +kernel
theorem dX9_putRing_6 : decode cX9_putRing 6 = .ok (.istore 5, 2) := by decide +kernel
theorem dX9_putRing_8 : decode cX9_putRing 8 = .ok (.iconst 0, 1) := by decide +kernel
theorem dX9_putRing_9 : decode cX9_putRing 9 = .ok (.istore 6, 2) := by decide +kernel
theorem dX9_putRing_11 : decode cX9_putRing 11 = .ok (.iload 6, 2) := by decide +kernel
theorem dX9_putRing_13 : decode cX9_putRing 13 = .ok (.aload_n 0, 1) := by decide +kernel
theorem dX9_putRing_14 : decode cX9_putRing 14 = .ok (.getfield 35, 3) := by decide +kernel
theorem dX9_putRing_17 : decode cX9_putRing 17 = .ok (.invokevirtual 104, 3) := by decide +kernel
theorem dX9_putRing_20 : decode cX9_putRing 20 = .ok (.if_icmp .ge 73, 3) := by decide +kernel
theorem dX9_putRing_23 : decode cX9_putRing 23 = .ok (.aload_n 0, 1) := by decide +kernel
theorem dX9_putRing_24 : decode cX9_putRing 24 = .ok (.getfield 28, 3) := by decide +kernel
theorem dX9_putRing_27 : decode cX9_putRing 27 = .ok (.iload 5, 2) := by decide +kernel
theorem dX9_putRing_29 : decode cX9_putRing 29 = .ok (.iaload, 1) := by decide +kernel
theorem dX9_putRing_30 : decode cX9_putRing 30 = .ok (.iconst (-1), 1) := by decide +kernel
theorem dX9_putRing_31 : decode cX9_putRing 31 = .ok (.if_icmp .eq 62, 3) := by decide +kernel
theorem dX9_putRing_34 : decode cX9_putRing 34 = .ok (.iload_n 3, 1) := by decide +kernel
theorem dX9_putRing_35 : decode cX9_putRing 35 = .ok (.aload_n 0, 1) := by decide +kernel
theorem dX9_putRing_36 : decode cX9_putRing 36 = .ok (.getfield 35, 3) := by decide +kernel
theorem dX9_putRing_39 : decode cX9_putRing 39 = .ok (.iload 5, 2) := by decide +kernel
theorem dX9_putRing_41 : decode cX9_putRing 41 = .ok (.invokevirtual 113, 3) := by decide +kernel
theorem dX9_putRing_44 : decode cX9_putRing 44 = .ok (.iadd, 1) := by decide +kernel
theorem dX9_putRing_45 : decode cX9_putRing 45 = .ok (.istore_n 3, 1) := by decide +kernel
theorem dX9_putRing_46 : decode cX9_putRing 46 = .ok (.iload 4, 2) := by decide +kernel
theorem dX9_putRing_48 : decode cX9_putRing 48 = .ok (.aload_n 0, 1) := by decide +kernel
theorem dX9_putRing_49 : decode cX9_putRing 49 = .ok (.aload_n 0, 1) := by decide +kernel
theorem dX9_putRing_50 : decode cX9_putRing 50 = .ok (.getfield 28, 3) := by decide +kernel
theorem dX9_putRing_53 : decode cX9_putRing 53 = .ok (.iload 5, 2) := by decide +kernel
theorem dX9_putRing_55 : decode cX9_putRing 55 = .ok (.iaload, 1) := by decide +kernel
theorem dX9_putRing_56 : decode cX9_putRing 56 = .ok (.invokevirtual 116, 3) := by decide +kernel
theorem dX9_putRing_59 : decode cX9_putRing 59 = .ok (.iadd, 1) := by decide +kernel
theorem dX9_putRing_60 : decode cX9_putRing 60 = .ok (.istore 4, 2) := by decide +kernel
theorem dX9_putRing_62 : decode cX9_putRing 62 = .ok (.aload_n 0, 1) := by decide +kernel
theorem dX9_putRing_63 : decode cX9_putRing 63 = .ok (.getfield 35, 3) := by decide +kernel
theorem dX9_putRing_66 : decode cX9_putRing 66 = .ok (.aload_n 0, 1) := by decide +kernel
theorem dX9_putRing_67 : decode cX9_putRing 67 = .ok (.getfield 28, 3) := by decide +kernel
theorem dX9_putRing_70 : decode cX9_putRing 70 = .ok (.iload 5, 2) := by decide +kernel
theorem dX9_putRing_72 : decode cX9_putRing 72 = .ok (.iaload, 1) := by decide +kernel
theorem dX9_putRing_73 : decode cX9_putRing 73 = .ok (.invokevirtual 119, 3) := by decide +kernel
theorem dX9_putRing_76 : decode cX9_putRing 76 = .ok (.istore 5, 2) := by decide +kernel
theorem dX9_putRing_78 : decode cX9_putRing 78 = .ok (.iload 5, 2) := by decide +kernel
theorem dX9_putRing_80 : decode cX9_putRing 80 = .ok (.iload_n 1, 1) := by decide +kernel
theorem dX9_putRing_81 : decode cX9_putRing 81 = .ok (.if_icmp .ne 6, 3) := by decide +kernel
theorem dX9_putRing_84 : decode cX9_putRing 84 = .ok (.goto 9, 3) := by decide +kernel
theorem dX9_putRing_87 : decode cX9_putRing 87 = .ok (.iinc 6 1, 3) := by decide +kernel
theorem dX9_putRing_90 : decode cX9_putRing 90 = .ok (.goto (-79), 3) := by decide +kernel
theorem dX9_putRing_93 : decode cX9_putRing 93 = .ok (.aload_n 2, 1) := by decide +kernel
theorem dX9_putRing_94 : decode cX9_putRing 94 = .ok (.iload_n 3, 1) := by decide +kernel
theorem dX9_putRing_95 : decode cX9_putRing 95 = .ok (.iload 4, 2) := by decide +kernel
theorem dX9_putRing_97 : decode cX9_putRing 97 = .ok (.invokevirtual 125, 3) := by decide +kernel
theorem dX9_putRing_100 : decode cX9_putRing 100 = .ok (.return_, 1) := by decide +kernel
theorem dX10_init_0 : decode cX10_init 0 = .ok (.aload_n 0, 1) := by decide +kernel
theorem dX10_init_1 : decode cX10_init 1 = .ok (.invokespecial 3, 3) := by decide +kernel
theorem dX10_init_4 : decode cX10_init 4 = .ok (.aload_n 0, 1) := by decide +kernel
theorem dX10_init_5 : decode cX10_init 5 = .ok (.sipush 4096, 3) := by decide +kernel
theorem dX10_init_8 : decode cX10_init 8 = .ok (.newarray .int, 2) := by decide +kernel
theorem dX10_init_10 : decode cX10_init 10 = .ok (.putfield 9, 3) := by decide +kernel
theorem dX10_init_13 : decode cX10_init 13 = .ok (.aload_n 0, 1) := by decide +kernel
theorem dX10_init_14 : decode cX10_init 14 = .ok (.sipush 4096, 3) := by decide +kernel
theorem dX10_init_17 : decode cX10_init 17 = .ok (.newarray .int, 2) := by decide +kernel
theorem dX10_init_19 : decode cX10_init 19 = .ok (.putfield 15, 3) := by decide +kernel
theorem dX10_init_22 : decode cX10_init 22 = .ok (.aload_n 0, 1) := by decide +kernel
theorem dX10_init_23 : decode cX10_init 23 = .ok (.sipush 4096, 3) := by decide +kernel
theorem dX10_init_26 : decode cX10_init 26 = .ok (.newarray .int, 2) := by decide +kernel
theorem dX10_init_28 : decode cX10_init 28 = .ok (.putfield 18, 3) := by decide +kernel
theorem dX10_init_31 : decode cX10_init 31 = .ok (.aload_n 0, 1) := by decide +kernel
theorem dX10_init_32 : decode cX10_init 32 = .ok (.sipush 4096, 3) := by decide +kernel
theorem dX10_init_35 : decode cX10_init 35 = .ok (.newarray .int, 2) := by decide +kernel
theorem dX10_init_37 : decode cX10_init 37 = .ok (.putfield 21, 3) := by decide +kernel
theorem dX10_init_40 : decode cX10_init 40 = .ok (.aload_n 0, 1) := by decide +kernel
theorem dX10_init_41 : decode cX10_init 41 = .ok (.aload_n 1, 1) := by decide +kernel
theorem dX10_init_42 : decode cX10_init 42 = .ok (.putfield 24, 3) := by decide +kernel
theorem dX10_init_45 : decode cX10_init 45 = .ok (.return_, 1) := by decide +kernel
theorem dX10_forget_0 : decode cX10_forget 0 = .ok (.aload_n 0, 1) := by decide +kernel
theorem dX10_forget_1 : decode cX10_forget 1 = .ok (.iconst 0, 1) := by decide +kernel
theorem dX10_forget_2 : decode cX10_forget 2 = .ok (.putfield 28, 3) := by decide +kernel
theorem dX10_forget_5 : decode cX10_forget 5 = .ok (.return_, 1) := by decide +kernel
theorem dX10_renew_0 : decode cX10_renew 0 = .ok (.aload_n 0, 1) := by decide +kernel
theorem dX10_renew_1 : decode cX10_renew 1 = .ok (.getfield 28, 3) := by decide +kernel
theorem dX10_renew_4 : decode cX10_renew 4 = .ok (.ifCond .eq 4, 3) := by decide +kernel
theorem dX10_renew_7 : decode cX10_renew 7 = .ok (.return_, 1) := by decide +kernel
theorem dX10_renew_8 : decode cX10_renew 8 = .ok (.aload_n 0, 1) := by decide +kernel
theorem dX10_renew_9 : decode cX10_renew 9 = .ok (.getfield 15, 3) := by decide +kernel
theorem dX10_renew_12 : decode cX10_renew 12 = .ok (.iconst (-1), 1) := by decide +kernel
theorem dX10_renew_13 : decode cX10_renew 13 = .ok (.invokestatic 32, 3) := by decide +kernel
theorem dX10_renew_16 : decode cX10_renew 16 = .ok (.aload_n 0, 1) := by decide +kernel
theorem dX10_renew_17 : decode cX10_renew 17 = .ok (.iconst 0, 1) := by decide +kernel
theorem dX10_renew_18 : decode cX10_renew 18 = .ok (.putfield 38, 3) := by decide +kernel
theorem dX10_renew_21 : decode cX10_renew 21 = .ok (.aload_n 0, 1) := by decide +kernel
theorem dX10_renew_22 : decode cX10_renew 22 = .ok (.iconst 0, 1) := by decide +kernel
theorem dX10_renew_23 : decode cX10_renew 23 = .ok (.putfield 42, 3) := by decide +kernel
theorem dX10_renew_26 : decode cX10_renew 26 = .ok (.aload_n 0, 1) := by decide +kernel
theorem dX10_renew_27 : decode cX10_renew 27 = .ok (.aload_n 0, 1) := by decide +kernel
theorem dX10_renew_28 : decode cX10_renew 28 = .ok (.getfield 24, 3) := by decide +kernel
theorem dX10_renew_31 : decode cX10_renew 31 = .ok (.invokevirtual 45, 3) := by decide +kernel
theorem dX10_renew_34 : decode cX10_renew 34 = .ok (.iconst (-1), 1) := by decide +kernel
theorem dX10_renew_35 : decode cX10_renew 35 = .ok (.invokevirtual 51, 3) := by decide +kernel
theorem dX10_renew_38 : decode cX10_renew 38 = .ok (.iconst 0, 1) := by decide +kernel
theorem dX10_renew_39 : decode cX10_renew 39 = .ok (.istore_n 1, 1) := by decide +kernel
theorem dX10_renew_40 : decode cX10_renew 40 = .ok (.iload_n 1, 1) := by decide +kernel
theorem dX10_renew_41 : decode cX10_renew 41 = .ok (.aload_n 0, 1) := by decide +kernel
theorem dX10_renew_42 : decode cX10_renew 42 = .ok (.getfield 38, 3) := by decide +kernel
theorem dX10_renew_45 : decode cX10_renew 45 = .ok (.if_icmp .ge 26, 3) := by decide +kernel
theorem dX10_renew_48 : decode cX10_renew 48 = .ok (.iload_n 1, 1) := by decide +kernel
theorem dX10_renew_49 : decode cX10_renew 49 = .ok (.sipush 4096, 3) := by decide +kernel
theorem dX10_renew_52 : decode cX10_renew 52 = .ok (.if_icmp .ge 19, 3) := by decide +kernel
theorem dX10_renew_55 : decode cX10_renew 55 = .ok (.aload_n 0, 1) := by decide +kernel
theorem dX10_renew_56 : decode cX10_renew 56 = .ok (.aload_n 0, 1) := by decide +kernel
theorem dX10_renew_57 : decode cX10_renew 57 = .ok (.getfield 9, 3) := by decide +kernel
theorem dX10_renew_60 : decode cX10_renew 60 = .ok (.iload_n 1, 1) := by decide +kernel
theorem dX10_renew_61 : decode cX10_renew 61 = .ok (.iaload, 1) := by decide +kernel
theorem dX10_renew_62 : decode cX10_renew 62 = .ok (.invokevirtual 55, 3) := by decide +kernel
theorem dX10_renew_65 : decode cX10_renew 65 = .ok (.iinc 1 1, 3) := by decide +kernel
theorem dX10_renew_68 : decode cX10_renew 68 = .ok (.goto (-28), 3) := by decide +kernel
theorem dX10_renew_71 : decode cX10_renew 71 = .ok (.aload_n 0, 1) := by decide +kernel
theorem dX10_renew_72 : decode cX10_renew 72 = .ok (.iconst 1, 1) := by decide +kernel
theorem dX10_renew_73 : decode cX10_renew 73 = .ok (.putfield 28, 3) := by decide +kernel
theorem dX10_renew_76 : decode cX10_renew 76 = .ok (.return_, 1) := by decide +kernel
theorem dX10_goOnFrom_0 : decode cX10_goOnFrom 0 = .ok (.aload_n 0, 1) := by decide +kernel
theorem dX10_goOnFrom_1 : decode cX10_goOnFrom 1 = .ok (.getfield 24, 3) := by decide +kernel
theorem dX10_goOnFrom_4 : decode cX10_goOnFrom 4 = .ok (.iload_n 1, 1) := by decide +kernel
theorem dX10_goOnFrom_5 : decode cX10_goOnFrom 5 = .ok (.invokevirtual 59, 3) := by decide +kernel
theorem dX10_goOnFrom_8 : decode cX10_goOnFrom 8 = .ok (.istore_n 2, 1) := by decide +kernel
theorem dX10_goOnFrom_9 : decode cX10_goOnFrom 9 = .ok (.iload_n 2, 1) := by decide +kernel
theorem dX10_goOnFrom_10 : decode cX10_goOnFrom 10 = .ok (.ifCond .ne 33, 3) := by decide +kernel
theorem dX10_goOnFrom_13 : decode cX10_goOnFrom 13 = .ok (.aload_n 0, 1) := by decide +kernel
theorem dX10_goOnFrom_14 : decode cX10_goOnFrom 14 = .ok (.getfield 42, 3) := by decide +kernel
theorem dX10_goOnFrom_17 : decode cX10_goOnFrom 17 = .ok (.sipush 4096, 3) := by decide +kernel
theorem dX10_goOnFrom_20 : decode cX10_goOnFrom 20 = .ok (.if_icmp .ge 23, 3) := by decide +kernel
theorem dX10_goOnFrom_23 : decode cX10_goOnFrom 23 = .ok (.aload_n 0, 1) := by decide +kernel
theorem dX10_goOnFrom_24 : decode cX10_goOnFrom 24 = .ok (.getfield 21, 3) := by decide +kernel
theorem dX10_goOnFrom_27 : decode cX10_goOnFrom 27 = .ok (.aload_n 0, 1) := by decide +kernel
theorem dX10_goOnFrom_28 : decode cX10_goOnFrom 28 = .ok (.getfield 42, 3) := by decide +kernel
theorem dX10_goOnFrom_31 : decode cX10_goOnFrom 31 = .ok (.iload_n 1, 1) := by decide +kernel
theorem dX10_goOnFrom_32 : decode cX10_goOnFrom 32 = .ok (.iastore, 1) := by decide +kernel
theorem dX10_goOnFrom_33 : decode cX10_goOnFrom 33 = .ok (.aload_n 0, 1) := by decide +kernel
theorem dX10_goOnFrom_34 : decode cX10_goOnFrom 34 = .ok (.dup, 1) := by decide +kernel
theorem dX10_goOnFrom_35 : decode cX10_goOnFrom 35 = .ok (.getfield 42, 3) := by decide +kernel
theorem dX10_goOnFrom_38 : decode cX10_goOnFrom 38 = .ok (.iconst 1, 1) := by decide +kernel
theorem dX10_goOnFrom_39 : decode cX10_goOnFrom 39 = .ok (.iadd, 1) := by decide +kernel
theorem dX10_goOnFrom_40 : decode cX10_goOnFrom 40 = .ok (.putfield 42, 3) := by decide +kernel
theorem dX10_goOnFrom_43 : decode cX10_goOnFrom 43 = .ok (.iconst 0, 1) := by decide +kernel
theorem dX10_goOnFrom_44 : decode cX10_goOnFrom 44 = .ok (.istore_n 3, 1) := by decide +kernel
theorem dX10_goOnFrom_45 : decode cX10_goOnFrom 45 = .ok (.iload_n 3, 1) := by decide +kernel
theorem dX10_goOnFrom_46 : decode cX10_goOnFrom 46 = .ok (.bipush 12, 2) := by decide +kernel
theorem dX10_goOnFrom_48 : decode cX10_goOnFrom 48 = .ok (.if_icmp .ge 27, 3) := by decide +kernel
theorem dX10_goOnFrom_51 : decode cX10_goOnFrom 51 = .ok (.iload_n 2, 1) := by decide +kernel
theorem dX10_goOnFrom_52 : decode cX10_goOnFrom 52 = .ok (.iload_n 3, 1) := by decide +kernel
theorem dX10_goOnFrom_53 : decode cX10_goOnFrom 53 = .ok (.invokestatic 63, 3) := by decide +kernel
theorem dX10_goOnFrom_56 : decode cX10_goOnFrom 56 = .ok (.ifCond .eq 13, 3) := by decide +kernel
theorem dX10_goOnFrom_59 : decode cX10_goOnFrom 59 = .ok (.aload_n 0, 1) := by decide +kernel
theorem dX10_goOnFrom_60 : decode cX10_goOnFrom 60 = .ok (.iload_n 1, 1) := by decide +kernel
theorem dX10_goOnFrom_61 : decode cX10_goOnFrom 61 = .ok (.iconst 1, 1) := by decide +kernel
theorem dX10_goOnFrom_62 : decode cX10_goOnFrom 62 = .ok (.iload_n 3, 1) := by decide +kernel
theorem dX10_goOnFrom_63 : decode cX10_goOnFrom 63 = .ok (.ishl, 1) := by decide +kernel
theorem dX10_goOnFrom_64 : decode cX10_goOnFrom 64 = .ok (.ixor, 1) := by decide +kernel
theorem dX10_goOnFrom_65 : decode cX10_goOnFrom 65 = .ok (.iload_n 3, 1) := by decide +kernel
theorem dX10_goOnFrom_66 : decode cX10_goOnFrom 66 = .ok (.invokevirtual 51, 3) := by decide +kernel
theorem dX10_goOnFrom_69 : decode cX10_goOnFrom 69 = .ok (.iinc 3 1, 3) := by decide +kernel
theorem dX10_goOnFrom_72 : decode cX10_goOnFrom 72 = .ok (.goto (-27), 3) := by decide +kernel
theorem dX10_goOnFrom_75 : decode cX10_goOnFrom 75 = .ok (.return_, 1) := by decide +kernel
theorem dX10_enter_0 : decode cX10_enter 0 = .ok (.aload_n 0, 1) := by decide +kernel
theorem dX10_enter_1 : decode cX10_enter 1 = .ok (.getfield 15, 3) := by decide +kernel
theorem dX10_enter_4 : decode cX10_enter 4 = .ok (.iload_n 1, 1) := by decide +kernel
theorem dX10_enter_5 : decode cX10_enter 5 = .ok (.iaload, 1) := by decide +kernel
theorem dX10_enter_6 : decode cX10_enter 6 = .ok (.iconst (-1), 1) := by decide +kernel
theorem dX10_enter_7 : decode cX10_enter 7 = .ok (.if_icmp .ne 50, 3) := by decide +kernel
theorem dX10_enter_10 : decode cX10_enter 10 = .ok (.aload_n 0, 1) := by decide +kernel
theorem dX10_enter_11 : decode cX10_enter 11 = .ok (.getfield 38, 3) := by decide +kernel
theorem dX10_enter_14 : decode cX10_enter 14 = .ok (.sipush 4096, 3) := by decide +kernel
theorem dX10_enter_17 : decode cX10_enter 17 = .ok (.if_icmp .ge 40, 3) := by decide +kernel
theorem dX10_enter_20 : decode cX10_enter 20 = .ok (.aload_n 0, 1) := by decide +kernel
theorem dX10_enter_21 : decode cX10_enter 21 = .ok (.getfield 15, 3) := by decide +kernel
theorem dX10_enter_24 : decode cX10_enter 24 = .ok (.iload_n 1, 1) := by decide +kernel
theorem dX10_enter_25 : decode cX10_enter 25 = .ok (.aload_n 0, 1) := by decide +kernel
theorem dX10_enter_26 : decode cX10_enter 26 = .ok (.getfield 38, 3) := by decide +kernel
theorem dX10_enter_29 : decode cX10_enter 29 = .ok (.iastore, 1) := by decide +kernel
theorem dX10_enter_30 : decode cX10_enter 30 = .ok (.aload_n 0, 1) := by decide +kernel
theorem dX10_enter_31 : decode cX10_enter 31 = .ok (.getfield 18, 3) := by decide +kernel
theorem dX10_enter_34 : decode cX10_enter 34 = .ok (.iload_n 1, 1) := by decide +kernel
theorem dX10_enter_35 : decode cX10_enter 35 = .ok (.iload_n 2, 1) := by decide +kernel
theorem dX10_enter_36 : decode cX10_enter 36 = .ok (.iastore, 1) := by decide +kernel
theorem dX10_enter_37 : decode cX10_enter 37 = .ok (.aload_n 0, 1) := by decide +kernel
theorem dX10_enter_38 : decode cX10_enter 38 = .ok (.getfield 9, 3) := by decide +kernel
theorem dX10_enter_41 : decode cX10_enter 41 = .ok (.aload_n 0, 1) := by decide +kernel
theorem dX10_enter_42 : decode cX10_enter 42 = .ok (.getfield 38, 3) := by decide +kernel
theorem dX10_enter_45 : decode cX10_enter 45 = .ok (.iload_n 1, 1) := by decide +kernel
theorem dX10_enter_46 : decode cX10_enter 46 = .ok (.iastore, 1) := by decide +kernel
theorem dX10_enter_47 : decode cX10_enter 47 = .ok (.aload_n 0, 1) := by decide +kernel
theorem dX10_enter_48 : decode cX10_enter 48 = .ok (.dup, 1) := by decide +kernel
theorem dX10_enter_49 : decode cX10_enter 49 = .ok (.getfield 38, 3) := by decide +kernel
theorem dX10_enter_52 : decode cX10_enter 52 = .ok (.iconst 1, 1) := by decide +kernel
theorem dX10_enter_53 : decode cX10_enter 53 = .ok (.iadd, 1) := by decide +kernel
theorem dX10_enter_54 : decode cX10_enter 54 = .ok (.putfield 38, 3) := by decide +kernel
theorem dX10_enter_57 : decode cX10_enter 57 = .ok (.return_, 1) := by decide +kernel
theorem dX10_size_0 : decode cX10_size 0 = .ok (.aload_n 0, 1) := by decide +kernel
theorem dX10_size_1 : decode cX10_size 1 = .ok (.getfield 38, 3) := by decide +kernel
theorem dX10_size_4 : decode cX10_size 4 = .ok (.ireturn, 1) := by decide +kernel
theorem dX10_stops_0 : decode cX10_stops 0 = .ok (.aload_n 0, 1) := by decide +kernel
theorem dX10_stops_1 : decode cX10_stops 1 = .ok (.getfield 42, 3) := by decide +kernel
theorem dX10_stops_4 : decode cX10_stops 4 = .ok (.ireturn, 1) := by decide +kernel
theorem dX10_stateAt_0 : decode cX10_stateAt 0 = .ok (.iload_n 1, 1) := by decide +kernel
theorem dX10_stateAt_1 : decode cX10_stateAt 1 = .ok (.ifCond .lt 20, 3) := by decide +kernel
theorem dX10_stateAt_4 : decode cX10_stateAt 4 = .ok (.iload_n 1, 1) := by decide +kernel
theorem dX10_stateAt_5 : decode cX10_stateAt 5 = .ok (.aload_n 0, 1) := by decide +kernel
theorem dX10_stateAt_6 : decode cX10_stateAt 6 = .ok (.getfield 38, 3) := by decide +kernel
theorem dX10_stateAt_9 : decode cX10_stateAt 9 = .ok (.if_icmp .ge 12, 3) := by decide +kernel
theorem dX10_stateAt_12 : decode cX10_stateAt 12 = .ok (.aload_n 0, 1) := by decide +kernel
theorem dX10_stateAt_13 : decode cX10_stateAt 13 = .ok (.getfield 9, 3) := by decide +kernel
theorem dX10_stateAt_16 : decode cX10_stateAt 16 = .ok (.iload_n 1, 1) := by decide +kernel
theorem dX10_stateAt_17 : decode cX10_stateAt 17 = .ok (.iaload, 1) := by decide +kernel
theorem dX10_stateAt_18 : decode cX10_stateAt 18 = .ok (.goto 4, 3) := by decide +kernel
theorem dX10_stateAt_21 : decode cX10_stateAt 21 = .ok (.iconst (-1), 1) := by decide +kernel
theorem dX10_stateAt_22 : decode cX10_stateAt 22 = .ok (.ireturn, 1) := by decide +kernel
theorem dX10_stopAt_0 : decode cX10_stopAt 0 = .ok (.iload_n 1, 1) := by decide +kernel
theorem dX10_stopAt_1 : decode cX10_stopAt 1 = .ok (.ifCond .lt 20, 3) := by decide +kernel
theorem dX10_stopAt_4 : decode cX10_stopAt 4 = .ok (.iload_n 1, 1) := by decide +kernel
theorem dX10_stopAt_5 : decode cX10_stopAt 5 = .ok (.aload_n 0, 1) := by decide +kernel
theorem dX10_stopAt_6 : decode cX10_stopAt 6 = .ok (.getfield 42, 3) := by decide +kernel
theorem dX10_stopAt_9 : decode cX10_stopAt 9 = .ok (.if_icmp .ge 12, 3) := by decide +kernel
theorem dX10_stopAt_12 : decode cX10_stopAt 12 = .ok (.aload_n 0, 1) := by decide +kernel
theorem dX10_stopAt_13 : decode cX10_stopAt 13 = .ok (.getfield 21, 3) := by decide +kernel
theorem dX10_stopAt_16 : decode cX10_stopAt 16 = .ok (.iload_n 1, 1) := by decide +kernel
theorem dX10_stopAt_17 : decode cX10_stopAt 17 = .ok (.iaload, 1) := by decide +kernel
theorem dX10_stopAt_18 : decode cX10_stopAt 18 = .ok (.goto 4, 3) := by decide +kernel
theorem dX10_stopAt_21 : decode cX10_stopAt 21 = .ok (.iconst (-1), 1) := by decide +kernel
theorem dX10_stopAt_22 : decode cX10_stopAt 22 = .ok (.ireturn, 1) := by decide +kernel
theorem dX10_placeOf_0 : decode cX10_placeOf 0 = .ok (.iload_n 1, 1) := by decide +kernel
theorem dX10_placeOf_1 : decode cX10_placeOf 1 = .ok (.invokestatic 67, 3) := by decide +kernel
theorem dX10_placeOf_4 : decode cX10_placeOf 4 = .ok (.ifCond .eq 12, 3) := by decide +kernel
theorem dX10_placeOf_7 : decode cX10_placeOf 7 = .ok (.aload_n 0, 1) := by decide +kernel
theorem dX10_placeOf_8 : decode cX10_placeOf 8 = .ok (.getfield 15, 3) := by decide +kernel
theorem dX10_placeOf_11 : decode cX10_placeOf 11 = .ok (.iload_n 1, 1) := by decide +kernel
theorem dX10_placeOf_12 : decode cX10_placeOf 12 = .ok (.iaload, 1) := by decide +kernel
theorem dX10_placeOf_13 : decode cX10_placeOf 13 = .ok (.goto 4, 3) := by decide +kernel
theorem dX10_placeOf_16 : decode cX10_placeOf 16 = .ok (.iconst (-1), 1) := by decide +kernel
theorem dX10_placeOf_17 : decode cX10_placeOf 17 = .ok (.ireturn, 1) := by decide +kernel
theorem dX10_wayLength_0 : decode cX10_wayLength 0 = .ok (.aload_n 0, 1) := by decide +kernel
theorem dX10_wayLength_1 : decode cX10_wayLength 1 = .ok (.iload_n 1, 1) := by decide +kernel
theorem dX10_wayLength_2 : decode cX10_wayLength 2 = .ok (.invokevirtual 71, 3) := by decide +kernel
theorem dX10_wayLength_5 : decode cX10_wayLength 5 = .ok (.iconst (-1), 1) := by decide +kernel
theorem dX10_wayLength_6 : decode cX10_wayLength 6 = .ok (.if_icmp .ne 5, 3) := by decide +kernel
theorem dX10_wayLength_9 : decode cX10_wayLength 9 = .ok (.iconst (-1), 1) := by decide +kernel
theorem dX10_wayLength_10 : decode cX10_wayLength 10 = .ok (.ireturn, 1) := by decide +kernel
theorem dX10_wayLength_11 : decode cX10_wayLength 11 = .ok (.iconst 0, 1) := by decide +kernel
theorem dX10_wayLength_12 : decode cX10_wayLength 12 = .ok (.istore_n 2, 1) := by decide +kernel
theorem dX10_wayLength_13 : decode cX10_wayLength 13 = .ok (.iload_n 1, 1) := by decide +kernel
theorem dX10_wayLength_14 : decode cX10_wayLength 14 = .ok (.istore_n 3, 1) := by decide +kernel
theorem dX10_wayLength_15 : decode cX10_wayLength 15 = .ok (.iconst 0, 1) := by decide +kernel
theorem dX10_wayLength_16 : decode cX10_wayLength 16 = .ok (.istore 4, 2) := by decide +kernel
theorem dX10_wayLength_18 : decode cX10_wayLength 18 = .ok (.iload 4, 2) := by decide +kernel
theorem dX10_wayLength_20 : decode cX10_wayLength 20 = .ok (.sipush 4096, 3) := by decide +kernel
theorem dX10_wayLength_23 : decode cX10_wayLength 23 = .ok (.if_icmp .ge 33, 3) := by decide +kernel
theorem dX10_wayLength_26 : decode cX10_wayLength 26 = .ok (.aload_n 0, 1) := by decide +kernel
theorem dX10_wayLength_27 : decode cX10_wayLength 27 = .ok (.getfield 18, 3) := by decide +kernel
theorem dX10_wayLength_30 : decode cX10_wayLength 30 = .ok (.iload_n 3, 1) := by decide +kernel
theorem dX10_wayLength_31 : decode cX10_wayLength 31 = .ok (.iaload, 1) := by decide +kernel
theorem dX10_wayLength_32 : decode cX10_wayLength 32 = .ok (.iconst (-1), 1) := by decide +kernel
theorem dX10_wayLength_33 : decode cX10_wayLength 33 = .ok (.if_icmp .eq 23, 3) := by decide +kernel
theorem dX10_wayLength_36 : decode cX10_wayLength 36 = .ok (.iload_n 3, 1) := by decide +kernel
theorem dX10_wayLength_37 : decode cX10_wayLength 37 = .ok (.iconst 1, 1) := by decide +kernel
theorem dX10_wayLength_38 : decode cX10_wayLength 38 = .ok (.aload_n 0, 1) := by decide +kernel
theorem dX10_wayLength_39 : decode cX10_wayLength 39 = .ok (.getfield 18, 3) := by decide +kernel
theorem dX10_wayLength_42 : decode cX10_wayLength 42 = .ok (.iload_n 3, 1) := by decide +kernel
theorem dX10_wayLength_43 : decode cX10_wayLength 43 = .ok (.iaload, 1) := by decide +kernel
theorem dX10_wayLength_44 : decode cX10_wayLength 44 = .ok (.ishl, 1) := by decide +kernel
theorem dX10_wayLength_45 : decode cX10_wayLength 45 = .ok (.ixor, 1) := by decide +kernel
theorem dX10_wayLength_46 : decode cX10_wayLength 46 = .ok (.istore_n 3, 1) := by decide +kernel
theorem dX10_wayLength_47 : decode cX10_wayLength 47 = .ok (.iinc 2 1, 3) := by decide +kernel
theorem dX10_wayLength_50 : decode cX10_wayLength 50 = .ok (.iinc 4 1, 3) := by decide +kernel
theorem dX10_wayLength_53 : decode cX10_wayLength 53 = .ok (.goto (-35), 3) := by decide +kernel
theorem dX10_wayLength_56 : decode cX10_wayLength 56 = .ok (.iload_n 2, 1) := by decide +kernel
theorem dX10_wayLength_57 : decode cX10_wayLength 57 = .ok (.ireturn, 1) := by decide +kernel
theorem dX10_wayStep_0 : decode cX10_wayStep 0 = .ok (.aload_n 0, 1) := by decide +kernel
theorem dX10_wayStep_1 : decode cX10_wayStep 1 = .ok (.iload_n 1, 1) := by decide +kernel
theorem dX10_wayStep_2 : decode cX10_wayStep 2 = .ok (.invokevirtual 74, 3) := by decide +kernel
theorem dX10_wayStep_5 : decode cX10_wayStep 5 = .ok (.istore_n 3, 1) := by decide +kernel
theorem dX10_wayStep_6 : decode cX10_wayStep 6 = .ok (.iload_n 2, 1) := by decide +kernel
theorem dX10_wayStep_7 : decode cX10_wayStep 7 = .ok (.ifCond .lt 8, 3) := by decide +kernel
theorem dX10_wayStep_10 : decode cX10_wayStep 10 = .ok (.iload_n 2, 1) := by decide +kernel
theorem dX10_wayStep_11 : decode cX10_wayStep 11 = .ok (.iload_n 3, 1) := by decide +kernel
theorem dX10_wayStep_12 : decode cX10_wayStep 12 = .ok (.if_icmp .lt 5, 3) := by decide +kernel
theorem dX10_wayStep_15 : decode cX10_wayStep 15 = .ok (.iconst (-1), 1) := by decide +kernel
theorem dX10_wayStep_16 : decode cX10_wayStep 16 = .ok (.ireturn, 1) := by decide +kernel
theorem dX10_wayStep_17 : decode cX10_wayStep 17 = .ok (.iload_n 1, 1) := by decide +kernel
theorem dX10_wayStep_18 : decode cX10_wayStep 18 = .ok (.istore 4, 2) := by decide +kernel
theorem dX10_wayStep_20 : decode cX10_wayStep 20 = .ok (.iload_n 3, 1) := by decide +kernel
theorem dX10_wayStep_21 : decode cX10_wayStep 21 = .ok (.iconst 1, 1) := by decide +kernel
theorem dX10_wayStep_22 : decode cX10_wayStep 22 = .ok (.isub, 1) := by decide +kernel
theorem dX10_wayStep_23 : decode cX10_wayStep 23 = .ok (.istore 5, 2) := by decide +kernel
theorem dX10_wayStep_25 : decode cX10_wayStep 25 = .ok (.iload 5, 2) := by decide +kernel
theorem dX10_wayStep_27 : decode cX10_wayStep 27 = .ok (.iload_n 2, 1) := by decide +kernel
theorem dX10_wayStep_28 : decode cX10_wayStep 28 = .ok (.if_icmp .le 23, 3) := by decide +kernel
theorem dX10_wayStep_31 : decode cX10_wayStep 31 = .ok (.iload 4, 2) := by decide +kernel
theorem dX10_wayStep_33 : decode cX10_wayStep 33 = .ok (.iconst 1, 1) := by decide +kernel
theorem dX10_wayStep_34 : decode cX10_wayStep 34 = .ok (.aload_n 0, 1) := by decide +kernel
theorem dX10_wayStep_35 : decode cX10_wayStep 35 = .ok (.getfield 18, 3) := by decide +kernel
theorem dX10_wayStep_38 : decode cX10_wayStep 38 = .ok (.iload 4, 2) := by decide +kernel
theorem dX10_wayStep_40 : decode cX10_wayStep 40 = .ok (.iaload, 1) := by decide +kernel
theorem dX10_wayStep_41 : decode cX10_wayStep 41 = .ok (.ishl, 1) := by decide +kernel
theorem dX10_wayStep_42 : decode cX10_wayStep 42 = .ok (.ixor, 1) := by decide +kernel
theorem dX10_wayStep_43 : decode cX10_wayStep 43 = .ok (.istore 4, 2) := by decide +kernel
theorem dX10_wayStep_45 : decode cX10_wayStep 45 = .ok (.iinc 5 (-1), 3) := by decide +kernel
theorem dX10_wayStep_48 : decode cX10_wayStep 48 = .ok (.goto (-23), 3) := by decide +kernel
theorem dX10_wayStep_51 : decode cX10_wayStep 51 = .ok (.aload_n 0, 1) := by decide +kernel
theorem dX10_wayStep_52 : decode cX10_wayStep 52 = .ok (.getfield 18, 3) := by decide +kernel
theorem dX10_wayStep_55 : decode cX10_wayStep 55 = .ok (.iload 4, 2) := by decide +kernel
theorem dX10_wayStep_57 : decode cX10_wayStep 57 = .ok (.iaload, 1) := by decide +kernel
theorem dX10_wayStep_58 : decode cX10_wayStep 58 = .ok (.ireturn, 1) := by decide +kernel
theorem dX10_firstWithAll_0 : decode cX10_firstWithAll 0 = .ok (.iconst 0, 1) := by decide +kernel
theorem dX10_firstWithAll_1 : decode cX10_firstWithAll 1 = .ok (.istore_n 2, 1) := by decide +kernel
theorem dX10_firstWithAll_2 : decode cX10_firstWithAll 2 = .ok (.iload_n 2, 1) := by decide +kernel
theorem dX10_firstWithAll_3 : decode cX10_firstWithAll 3 = .ok (.aload_n 0, 1) := by decide +kernel
theorem dX10_firstWithAll_4 : decode cX10_firstWithAll 4 = .ok (.getfield 38, 3) := by decide +kernel
theorem dX10_firstWithAll_7 : decode cX10_firstWithAll 7 = .ok (.if_icmp .ge 28, 3) := by decide +kernel
theorem dX10_firstWithAll_10 : decode cX10_firstWithAll 10 = .ok (.aload_n 0, 1) := by decide +kernel
theorem dX10_firstWithAll_11 : decode cX10_firstWithAll 11 = .ok (.getfield 9, 3) := by decide +kernel
theorem dX10_firstWithAll_14 : decode cX10_firstWithAll 14 = .ok (.iload_n 2, 1) := by decide +kernel
theorem dX10_firstWithAll_15 : decode cX10_firstWithAll 15 = .ok (.iaload, 1) := by decide +kernel
theorem dX10_firstWithAll_16 : decode cX10_firstWithAll 16 = .ok (.iload_n 1, 1) := by decide +kernel
theorem dX10_firstWithAll_17 : decode cX10_firstWithAll 17 = .ok (.iand, 1) := by decide +kernel
theorem dX10_firstWithAll_18 : decode cX10_firstWithAll 18 = .ok (.iload_n 1, 1) := by decide +kernel
theorem dX10_firstWithAll_19 : decode cX10_firstWithAll 19 = .ok (.if_icmp .ne 10, 3) := by decide +kernel
theorem dX10_firstWithAll_22 : decode cX10_firstWithAll 22 = .ok (.aload_n 0, 1) := by decide +kernel
theorem dX10_firstWithAll_23 : decode cX10_firstWithAll 23 = .ok (.getfield 9, 3) := by decide +kernel
theorem dX10_firstWithAll_26 : decode cX10_firstWithAll 26 = .ok (.iload_n 2, 1) := by decide +kernel
theorem dX10_firstWithAll_27 : decode cX10_firstWithAll 27 = .ok (.iaload, 1) := by decide +kernel
theorem dX10_firstWithAll_28 : decode cX10_firstWithAll 28 = .ok (.ireturn, 1) := by decide +kernel
theorem dX10_firstWithAll_29 : decode cX10_firstWithAll 29 = .ok (.iinc 2 1, 3) := by decide +kernel
theorem dX10_firstWithAll_32 : decode cX10_firstWithAll 32 = .ok (.goto (-30), 3) := by decide +kernel
theorem dX10_firstWithAll_35 : decode cX10_firstWithAll 35 = .ok (.iconst (-1), 1) := by decide +kernel
theorem dX10_firstWithAll_36 : decode cX10_firstWithAll 36 = .ok (.ireturn, 1) := by decide +kernel
theorem dJ6_bitCount_0f7a4_0 : decode cJ6_bitCount_0f7a4 0 = .ok (.iload_n 0, 1) := by decide +kernel
theorem dJ6_bitCount_0f7a4_1 : decode cJ6_bitCount_0f7a4 1 = .ok (.iload_n 0, 1) := by decide +kernel
theorem dJ6_bitCount_0f7a4_2 : decode cJ6_bitCount_0f7a4 2 = .ok (.iconst 1, 1) := by decide +kernel
theorem dJ6_bitCount_0f7a4_3 : decode cJ6_bitCount_0f7a4 3 = .ok (.iushr, 1) := by decide +kernel
theorem dJ6_bitCount_0f7a4_4 : decode cJ6_bitCount_0f7a4 4 = .ok (.ldc_w 265, 3) := by decide +kernel
theorem dJ6_bitCount_0f7a4_7 : decode cJ6_bitCount_0f7a4 7 = .ok (.iand, 1) := by decide +kernel
theorem dJ6_bitCount_0f7a4_8 : decode cJ6_bitCount_0f7a4 8 = .ok (.isub, 1) := by decide +kernel
theorem dJ6_bitCount_0f7a4_9 : decode cJ6_bitCount_0f7a4 9 = .ok (.istore_n 0, 1) := by decide +kernel
theorem dJ6_bitCount_0f7a4_10 : decode cJ6_bitCount_0f7a4 10 = .ok (.iload_n 0, 1) := by decide +kernel
theorem dJ6_bitCount_0f7a4_11 : decode cJ6_bitCount_0f7a4 11 = .ok (.ldc_w 266, 3) := by decide +kernel
theorem dJ6_bitCount_0f7a4_14 : decode cJ6_bitCount_0f7a4 14 = .ok (.iand, 1) := by decide +kernel
theorem dJ6_bitCount_0f7a4_15 : decode cJ6_bitCount_0f7a4 15 = .ok (.iload_n 0, 1) := by decide +kernel
theorem dJ6_bitCount_0f7a4_16 : decode cJ6_bitCount_0f7a4 16 = .ok (.iconst 2, 1) := by decide +kernel
theorem dJ6_bitCount_0f7a4_17 : decode cJ6_bitCount_0f7a4 17 = .ok (.iushr, 1) := by decide +kernel
theorem dJ6_bitCount_0f7a4_18 : decode cJ6_bitCount_0f7a4 18 = .ok (.ldc_w 266, 3) := by decide +kernel
theorem dJ6_bitCount_0f7a4_21 : decode cJ6_bitCount_0f7a4 21 = .ok (.iand, 1) := by decide +kernel
theorem dJ6_bitCount_0f7a4_22 : decode cJ6_bitCount_0f7a4 22 = .ok (.iadd, 1) := by decide +kernel
theorem dJ6_bitCount_0f7a4_23 : decode cJ6_bitCount_0f7a4 23 = .ok (.istore_n 0, 1) := by decide +kernel
theorem dJ6_bitCount_0f7a4_24 : decode cJ6_bitCount_0f7a4 24 = .ok (.iload_n 0, 1) := by decide +kernel
theorem dJ6_bitCount_0f7a4_25 : decode cJ6_bitCount_0f7a4 25 = .ok (.iload_n 0, 1) := by decide +kernel
theorem dJ6_bitCount_0f7a4_26 : decode cJ6_bitCount_0f7a4 26 = .ok (.iconst 4, 1) := by decide +kernel
theorem dJ6_bitCount_0f7a4_27 : decode cJ6_bitCount_0f7a4 27 = .ok (.iushr, 1) := by decide +kernel
theorem dJ6_bitCount_0f7a4_28 : decode cJ6_bitCount_0f7a4 28 = .ok (.iadd, 1) := by decide +kernel
theorem dJ6_bitCount_0f7a4_29 : decode cJ6_bitCount_0f7a4 29 = .ok (.ldc_w 267, 3) := by decide +kernel
theorem dJ6_bitCount_0f7a4_32 : decode cJ6_bitCount_0f7a4 32 = .ok (.iand, 1) := by decide +kernel
theorem dJ6_bitCount_0f7a4_33 : decode cJ6_bitCount_0f7a4 33 = .ok (.istore_n 0, 1) := by decide +kernel
theorem dJ6_bitCount_0f7a4_34 : decode cJ6_bitCount_0f7a4 34 = .ok (.iload_n 0, 1) := by decide +kernel
theorem dJ6_bitCount_0f7a4_35 : decode cJ6_bitCount_0f7a4 35 = .ok (.iload_n 0, 1) := by decide +kernel
theorem dJ6_bitCount_0f7a4_36 : decode cJ6_bitCount_0f7a4 36 = .ok (.bipush 8, 2) := by decide +kernel
theorem dJ6_bitCount_0f7a4_38 : decode cJ6_bitCount_0f7a4 38 = .ok (.iushr, 1) := by decide +kernel
theorem dJ6_bitCount_0f7a4_39 : decode cJ6_bitCount_0f7a4 39 = .ok (.iadd, 1) := by decide +kernel
theorem dJ6_bitCount_0f7a4_40 : decode cJ6_bitCount_0f7a4 40 = .ok (.istore_n 0, 1) := by decide +kernel
theorem dJ6_bitCount_0f7a4_41 : decode cJ6_bitCount_0f7a4 41 = .ok (.iload_n 0, 1) := by decide +kernel
theorem dJ6_bitCount_0f7a4_42 : decode cJ6_bitCount_0f7a4 42 = .ok (.iload_n 0, 1) := by decide +kernel
theorem dJ6_bitCount_0f7a4_43 : decode cJ6_bitCount_0f7a4 43 = .ok (.bipush 16, 2) := by decide +kernel
theorem dJ6_bitCount_0f7a4_45 : decode cJ6_bitCount_0f7a4 45 = .ok (.iushr, 1) := by decide +kernel
theorem dJ6_bitCount_0f7a4_46 : decode cJ6_bitCount_0f7a4 46 = .ok (.iadd, 1) := by decide +kernel
theorem dJ6_bitCount_0f7a4_47 : decode cJ6_bitCount_0f7a4 47 = .ok (.istore_n 0, 1) := by decide +kernel
theorem dJ6_bitCount_0f7a4_48 : decode cJ6_bitCount_0f7a4 48 = .ok (.iload_n 0, 1) := by decide +kernel
theorem dJ6_bitCount_0f7a4_49 : decode cJ6_bitCount_0f7a4 49 = .ok (.bipush 63, 2) := by decide +kernel
theorem dJ6_bitCount_0f7a4_51 : decode cJ6_bitCount_0f7a4 51 = .ok (.iand, 1) := by decide +kernel
theorem dJ6_bitCount_0f7a4_52 : decode cJ6_bitCount_0f7a4 52 = .ok (.ireturn, 1) := by decide +kernel
theorem dJ9_max_7cf53_0 : decode cJ9_max_7cf53 0 = .ok (.iload_n 0, 1) := by decide +kernel
theorem dJ9_max_7cf53_1 : decode cJ9_max_7cf53 1 = .ok (.iload_n 1, 1) := by decide +kernel
theorem dJ9_max_7cf53_2 : decode cJ9_max_7cf53 2 = .ok (.if_icmp .lt 7, 3) := by decide +kernel
theorem dJ9_max_7cf53_5 : decode cJ9_max_7cf53 5 = .ok (.iload_n 0, 1) := by decide +kernel
theorem dJ9_max_7cf53_6 : decode cJ9_max_7cf53 6 = .ok (.goto 4, 3) := by decide +kernel
theorem dJ9_max_7cf53_9 : decode cJ9_max_7cf53 9 = .ok (.iload_n 1, 1) := by decide +kernel
theorem dJ9_max_7cf53_10 : decode cJ9_max_7cf53 10 = .ok (.ireturn, 1) := by decide +kernel
theorem dJ7_fill_53178_0 : decode cJ7_fill_53178 0 = .ok (.iconst 0, 1) := by decide +kernel
theorem dJ7_fill_53178_1 : decode cJ7_fill_53178 1 = .ok (.istore_n 2, 1) := by decide +kernel
theorem dJ7_fill_53178_2 : decode cJ7_fill_53178 2 = .ok (.aload_n 0, 1) := by decide +kernel
theorem dJ7_fill_53178_3 : decode cJ7_fill_53178 3 = .ok (.arraylength, 1) := by decide +kernel
theorem dJ7_fill_53178_4 : decode cJ7_fill_53178 4 = .ok (.istore_n 3, 1) := by decide +kernel
theorem dJ7_fill_53178_5 : decode cJ7_fill_53178 5 = .ok (.iload_n 2, 1) := by decide +kernel
theorem dJ7_fill_53178_6 : decode cJ7_fill_53178 6 = .ok (.iload_n 3, 1) := by decide +kernel
theorem dJ7_fill_53178_7 : decode cJ7_fill_53178 7 = .ok (.if_icmp .ge 13, 3) := by decide +kernel
theorem dJ7_fill_53178_10 : decode cJ7_fill_53178 10 = .ok (.aload_n 0, 1) := by decide +kernel
theorem dJ7_fill_53178_11 : decode cJ7_fill_53178 11 = .ok (.iload_n 2, 1) := by decide +kernel
theorem dJ7_fill_53178_12 : decode cJ7_fill_53178 12 = .ok (.iload_n 1, 1) := by decide +kernel
theorem dJ7_fill_53178_13 : decode cJ7_fill_53178 13 = .ok (.iastore, 1) := by decide +kernel
theorem dJ7_fill_53178_14 : decode cJ7_fill_53178 14 = .ok (.iinc 2 1, 3) := by decide +kernel
theorem dJ7_fill_53178_17 : decode cJ7_fill_53178 17 = .ok (.goto (-12), 3) := by decide +kernel
theorem dJ7_fill_53178_20 : decode cJ7_fill_53178 20 = .ok (.return_, 1) := by decide +kernel
