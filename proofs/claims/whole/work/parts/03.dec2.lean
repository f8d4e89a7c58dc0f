theorem dX11_init_0 : decode cX11_init 0 = .ok (.aload_n 0, 1) := by decide +kernel
theorem dX11_init_1 : decode cX11_init 1 = .ok (.invokespecial 3, 3) := by decide +kernel
theorem dX11_init_4 : decode cX11_init 4 = .ok (.aload_n 0, 1) := by decide +kernel
theorem dX11_init_5 : decode cX11_init 5 = .ok (.new 9, 3) := by decide +kernel
theorem dX11_init_8 : decode cX11_init 8 = .ok (.dup, 1) := by decide +kernel
theorem dX11_init_9 : decode cX11_init 9 = .ok (.invokespecial 11, 3) := by decide +kernel
theorem dX11_init_12 : decode cX11_init 12 = .ok (.putfield 12, 3) := by decide +kernel
theorem dX11_init_15 : decode cX11_init 15 = .ok (.aload_n 0, 1) := by decide +kernel
theorem dX11_init_16 : decode cX11_init 16 = .ok (.new 16, 3) := by decide +kernel
theorem dX11_init_19 : decode cX11_init 19 = .ok (.dup, 1) := by decide +kernel
theorem dX11_init_20 : decode cX11_init 20 = .ok (.aload_n 0, 1) := by decide +kernel
theorem dX11_init_21 : decode cX11_init 21 = .ok (.getfield 12, 3) := by decide +kernel
theorem dX11_init_24 : decode cX11_init 24 = .ok (.invokespecial 18, 3) := by decide +kernel
theorem dX11_init_27 : decode cX11_init 27 = .ok (.putfield 21, 3) := by decide +kernel
theorem dX11_init_30 : decode cX11_init 30 = .ok (.aload_n 0, 1) := by decide +kernel
theorem dX11_init_31 : decode cX11_init 31 = .ok (.new 25, 3) := by decide +kernel
theorem dX11_init_34 : decode cX11_init 34 = .ok (.dup, 1) := by decide +kernel
theorem dX11_init_35 : decode cX11_init 35 = .ok (.invokespecial 27, 3) := by decide +kernel
theorem dX11_init_38 : decode cX11_init 38 = .ok (.putfield 28, 3) := by decide +kernel
theorem dX11_init_41 : decode cX11_init 41 = .ok (.aload_n 0, 1) := by decide +kernel
theorem dX11_init_42 : decode cX11_init 42 = .ok (.new 32, 3) := by decide +kernel
theorem dX11_init_45 : decode cX11_init 45 = .ok (.dup, 1) := by decide +kernel
theorem dX11_init_46 : decode cX11_init 46 = .ok (.aload_n 0, 1) := by decide +kernel
theorem dX11_init_47 : decode cX11_init 47 = .ok (.getfield 28, 3) := by decide +kernel
theorem dX11_init_50 : decode cX11_init 50 = .ok (.invokespecial 34, 3) := by decide +kernel
theorem dX11_init_53 : decode cX11_init 53 = .ok (.putfield 37, 3) := by decide +kernel
theorem dX11_init_56 : decode cX11_init 56 = .ok (.aload_n 0, 1) := by decide +kernel
theorem dX11_init_57 : decode cX11_init 57 = .ok (.new 41, 3) := by decide +kernel
theorem dX11_init_60 : decode cX11_init 60 = .ok (.dup, 1) := by decide +kernel
theorem dX11_init_61 : decode cX11_init 61 = .ok (.aload_n 0, 1) := by decide +kernel
theorem dX11_init_62 : decode cX11_init 62 = .ok (.getfield 28, 3) := by decide +kernel
theorem dX11_init_65 : decode cX11_init 65 = .ok (.aload_n 0, 1) := by decide +kernel
theorem dX11_init_66 : decode cX11_init 66 = .ok (.getfield 37, 3) := by decide +kernel
theorem dX11_init_69 : decode cX11_init 69 = .ok (.invokespecial 43, 3) := by decide +kernel
theorem dX11_init_72 : decode cX11_init 72 = .ok (.putfield 46, 3) := by decide +kernel
theorem dX11_init_75 : decode cX11_init 75 = .ok (.aload_n 0, 1) := by decide +kernel
theorem dX11_init_76 : decode cX11_init 76 = .ok (.new 50, 3) := by decide +kernel
theorem dX11_init_79 : decode cX11_init 79 = .ok (.dup, 1) := by decide +kernel
theorem dX11_init_80 : decode cX11_init 80 = .ok (.aload_n 0, 1) := by decide +kernel
theorem dX11_init_81 : decode cX11_init 81 = .ok (.getfield 28, 3) := by decide +kernel
theorem dX11_init_84 : decode cX11_init 84 = .ok (.aload_n 0, 1) := by decide +kernel
theorem dX11_init_85 : decode cX11_init 85 = .ok (.getfield 37, 3) := by decide +kernel
theorem dX11_init_88 : decode cX11_init 88 = .ok (.invokespecial 52, 3) := by decide +kernel
theorem dX11_init_91 : decode cX11_init 91 = .ok (.putfield 53, 3) := by decide +kernel
theorem dX11_init_94 : decode cX11_init 94 = .ok (.aload_n 0, 1) := by decide +kernel
theorem dX11_init_95 : decode cX11_init 95 = .ok (.bipush 12, 2) := by decide +kernel
theorem dX11_init_97 : decode cX11_init 97 = .ok (.newarray .int, 2) := by decide +kernel
theorem dX11_init_99 : decode cX11_init 99 = .ok (.putfield 57, 3) := by decide +kernel
theorem dX11_init_102 : decode cX11_init 102 = .ok (.aload_n 0, 1) := by decide +kernel
theorem dX11_init_103 : decode cX11_init 103 = .ok (.new 61, 3) := by decide +kernel
theorem dX11_init_106 : decode cX11_init 106 = .ok (.dup, 1) := by decide +kernel
theorem dX11_init_107 : decode cX11_init 107 = .ok (.invokespecial 63, 3) := by decide +kernel
theorem dX11_init_110 : decode cX11_init 110 = .ok (.putfield 64, 3) := by decide +kernel
theorem dX11_init_113 : decode cX11_init 113 = .ok (.aload_n 0, 1) := by decide +kernel
theorem dX11_init_114 : decode cX11_init 114 = .ok (.new 68, 3) := by decide +kernel
theorem dX11_init_117 : decode cX11_init 117 = .ok (.dup, 1) := by decide +kernel
theorem dX11_init_118 : decode cX11_init 118 = .ok (.aload_n 0, 1) := by decide +kernel
theorem dX11_init_119 : decode cX11_init 119 = .ok (.getfield 64, 3) := by decide +kernel
theorem dX11_init_122 : decode cX11_init 122 = .ok (.invokespecial 70, 3) := by decide +kernel
theorem dX11_init_125 : decode cX11_init 125 = .ok (.putfield 73, 3) := by decide +kernel
theorem dX11_init_128 : decode cX11_init 128 = .ok (.aload_n 0, 1) := by decide +kernel
theorem dX11_init_129 : decode cX11_init 129 = .ok (.new 77, 3) := by decide +kernel
theorem dX11_init_132 : decode cX11_init 132 = .ok (.dup, 1) := by decide +kernel
theorem dX11_init_133 : decode cX11_init 133 = .ok (.aload_n 0, 1) := by decide +kernel
theorem dX11_init_134 : decode cX11_init 134 = .ok (.getfield 64, 3) := by decide +kernel
theorem dX11_init_137 : decode cX11_init 137 = .ok (.invokespecial 79, 3) := by decide +kernel
theorem dX11_init_140 : decode cX11_init 140 = .ok (.putfield 80, 3) := by decide +kernel
theorem dX11_init_143 : decode cX11_init 143 = .ok (.aload_n 0, 1) := by decide +kernel
theorem dX11_init_144 : decode cX11_init 144 = .ok (.new 84, 3) := by decide +kernel
theorem dX11_init_147 : decode cX11_init 147 = .ok (.dup, 1) := by decide +kernel
theorem dX11_init_148 : decode cX11_init 148 = .ok (.invokespecial 86, 3) := by decide +kernel
theorem dX11_init_151 : decode cX11_init 151 = .ok (.putfield 87, 3) := by decide +kernel
theorem dX11_init_154 : decode cX11_init 154 = .ok (.return_, 1) := by decide +kernel
theorem dX11_feed_0 : decode cX11_feed 0 = .ok (.iload_n 1, 1) := by decide +kernel
theorem dX11_feed_1 : decode cX11_feed 1 = .ok (.invokestatic 91, 3) := by decide +kernel
theorem dX11_feed_4 : decode cX11_feed 4 = .ok (.iload_n 2, 1) := by decide +kernel
theorem dX11_feed_5 : decode cX11_feed 5 = .ok (.invokestatic 91, 3) := by decide +kernel
theorem dX11_feed_8 : decode cX11_feed 8 = .ok (.iadd, 1) := by decide +kernel
theorem dX11_feed_9 : decode cX11_feed 9 = .ok (.iload_n 3, 1) := by decide +kernel
theorem dX11_feed_10 : decode cX11_feed 10 = .ok (.invokestatic 91, 3) := by decide +kernel
theorem dX11_feed_13 : decode cX11_feed 13 = .ok (.iadd, 1) := by decide +kernel
theorem dX11_feed_14 : decode cX11_feed 14 = .ok (.iload 4, 2) := by decide +kernel
theorem dX11_feed_16 : decode cX11_feed 16 = .ok (.invokestatic 91, 3) := by decide +kernel
theorem dX11_feed_19 : decode cX11_feed 19 = .ok (.iadd, 1) := by decide +kernel
theorem dX11_feed_20 : decode cX11_feed 20 = .ok (.iload 5, 2) := by decide +kernel
theorem dX11_feed_22 : decode cX11_feed 22 = .ok (.invokestatic 91, 3) := by decide +kernel
theorem dX11_feed_25 : decode cX11_feed 25 = .ok (.iadd, 1) := by decide +kernel
theorem dX11_feed_26 : decode cX11_feed 26 = .ok (.istore 6, 2) := by decide +kernel
theorem dX11_feed_28 : decode cX11_feed 28 = .ok (.aload_n 0, 1) := by decide +kernel
theorem dX11_feed_29 : decode cX11_feed 29 = .ok (.getfield 12, 3) := by decide +kernel
theorem dX11_feed_32 : decode cX11_feed 32 = .ok (.invokevirtual 95, 3) := by decide +kernel
theorem dX11_feed_35 : decode cX11_feed 35 = .ok (.iload 6, 2) := by decide +kernel
theorem dX11_feed_37 : decode cX11_feed 37 = .ok (.iadd, 1) := by decide +kernel
theorem dX11_feed_38 : decode cX11_feed 38 = .ok (.sipush 300, 3) := by decide +kernel
theorem dX11_feed_41 : decode cX11_feed 41 = .ok (.if_icmp .le 5, 3) := by decide +kernel
theorem dX11_feed_44 : decode cX11_feed 44 = .ok (.iconst (-1), 1) := by decide +kernel
theorem dX11_feed_45 : decode cX11_feed 45 = .ok (.ireturn, 1) := by decide +kernel
theorem dX11_feed_46 : decode cX11_feed 46 = .ok (.aload_n 0, 1) := by decide +kernel
theorem dX11_feed_47 : decode cX11_feed 47 = .ok (.getfield 12, 3) := by decide +kernel
theorem dX11_feed_50 : decode cX11_feed 50 = .ok (.iload_n 1, 1) := by decide +kernel
theorem dX11_feed_51 : decode cX11_feed 51 = .ok (.invokevirtual 99, 3) := by decide +kernel
theorem dX11_feed_54 : decode cX11_feed 54 = .ok (.aload_n 0, 1) := by decide +kernel
theorem dX11_feed_55 : decode cX11_feed 55 = .ok (.getfield 12, 3) := by decide +kernel
theorem dX11_feed_58 : decode cX11_feed 58 = .ok (.iload_n 2, 1) := by decide +kernel
theorem dX11_feed_59 : decode cX11_feed 59 = .ok (.invokevirtual 99, 3) := by decide +kernel
theorem dX11_feed_62 : decode cX11_feed 62 = .ok (.aload_n 0, 1) := by decide +kernel
theorem dX11_feed_63 : decode cX11_feed 63 = .ok (.getfield 12, 3) := by decide +kernel
theorem dX11_feed_66 : decode cX11_feed 66 = .ok (.iload_n 3, 1) := by decide +kernel
theorem dX11_feed_67 : decode cX11_feed 67 = .ok (.invokevirtual 99, 3) := by decide +kernel
theorem dX11_feed_70 : decode cX11_feed 70 = .ok (.aload_n 0, 1) := by decide +kernel
theorem dX11_feed_71 : decode cX11_feed 71 = .ok (.getfield 12, 3) := by decide +kernel
theorem dX11_feed_74 : decode cX11_feed 74 = .ok (.iload 4, 2) := by decide +kernel
theorem dX11_feed_76 : decode cX11_feed 76 = .ok (.invokevirtual 99, 3) := by decide +kernel
theorem dX11_feed_79 : decode cX11_feed 79 = .ok (.aload_n 0, 1) := by decide +kernel
theorem dX11_feed_80 : decode cX11_feed 80 = .ok (.getfield 12, 3) := by decide +kernel
theorem dX11_feed_83 : decode cX11_feed 83 = .ok (.iload 5, 2) := by decide +kernel
theorem dX11_feed_85 : decode cX11_feed 85 = .ok (.invokevirtual 99, 3) := by decide +kernel
theorem dX11_feed_88 : decode cX11_feed 88 = .ok (.aload_n 0, 1) := by decide +kernel
theorem dX11_feed_89 : decode cX11_feed 89 = .ok (.getfield 12, 3) := by decide +kernel
theorem dX11_feed_92 : decode cX11_feed 92 = .ok (.invokevirtual 95, 3) := by decide +kernel
theorem dX11_feed_95 : decode cX11_feed 95 = .ok (.ireturn, 1) := by decide +kernel
theorem dX11_end_0 : decode cX11_end 0 = .ok (.iload_n 1, 1) := by decide +kernel
theorem dX11_end_1 : decode cX11_end 1 = .ok (.ifCond .lt 14, 3) := by decide +kernel
theorem dX11_end_4 : decode cX11_end 4 = .ok (.iload_n 1, 1) := by decide +kernel
theorem dX11_end_5 : decode cX11_end 5 = .ok (.aload_n 0, 1) := by decide +kernel
theorem dX11_end_6 : decode cX11_end 6 = .ok (.getfield 12, 3) := by decide +kernel
theorem dX11_end_9 : decode cX11_end 9 = .ok (.invokevirtual 95, 3) := by decide +kernel
theorem dX11_end_12 : decode cX11_end 12 = .ok (.if_icmp .le 5, 3) := by decide +kernel
theorem dX11_end_15 : decode cX11_end 15 = .ok (.iconst 0, 1) := by decide +kernel
theorem dX11_end_16 : decode cX11_end 16 = .ok (.ireturn, 1) := by decide +kernel
theorem dX11_end_17 : decode cX11_end 17 = .ok (.aload_n 0, 1) := by decide +kernel
theorem dX11_end_18 : decode cX11_end 18 = .ok (.getfield 12, 3) := by decide +kernel
theorem dX11_end_21 : decode cX11_end 21 = .ok (.iload_n 1, 1) := by decide +kernel
theorem dX11_end_22 : decode cX11_end 22 = .ok (.invokevirtual 103, 3) := by decide +kernel
theorem dX11_end_25 : decode cX11_end 25 = .ok (.iconst 1, 1) := by decide +kernel
theorem dX11_end_26 : decode cX11_end 26 = .ok (.ireturn, 1) := by decide +kernel
theorem dX11_fault_0 : decode cX11_fault 0 = .ok (.aload_n 0, 1) := by decide +kernel
theorem dX11_fault_1 : decode cX11_fault 1 = .ok (.getfield 21, 3) := by decide +kernel
theorem dX11_fault_4 : decode cX11_fault 4 = .ok (.aload_n 0, 1) := by decide +kernel
theorem dX11_fault_5 : decode cX11_fault 5 = .ok (.getfield 87, 3) := by decide +kernel
theorem dX11_fault_8 : decode cX11_fault 8 = .ok (.invokevirtual 106, 3) := by decide +kernel
theorem dX11_fault_11 : decode cX11_fault 11 = .ok (.ireturn, 1) := by decide +kernel
theorem dX11_circuit_0 : decode cX11_circuit 0 = .ok (.iload_n 1, 1) := by decide +kernel
theorem dX11_circuit_1 : decode cX11_circuit 1 = .ok (.invokestatic 110, 3) := by decide +kernel
theorem dX11_circuit_4 : decode cX11_circuit 4 = .ok (.ifCond .eq 18, 3) := by decide +kernel
theorem dX11_circuit_7 : decode cX11_circuit 7 = .ok (.aload_n 0, 1) := by decide +kernel
theorem dX11_circuit_8 : decode cX11_circuit 8 = .ok (.getfield 21, 3) := by decide +kernel
theorem dX11_circuit_11 : decode cX11_circuit 11 = .ok (.aload_n 0, 1) := by decide +kernel
theorem dX11_circuit_12 : decode cX11_circuit 12 = .ok (.getfield 87, 3) := by decide +kernel
theorem dX11_circuit_15 : decode cX11_circuit 15 = .ok (.invokevirtual 106, 3) := by decide +kernel
theorem dX11_circuit_18 : decode cX11_circuit 18 = .ok (.iconst (-1), 1) := by decide +kernel
theorem dX11_circuit_19 : decode cX11_circuit 19 = .ok (.if_icmp .eq 5, 3) := by decide +kernel
theorem dX11_circuit_22 : decode cX11_circuit 22 = .ok (.iconst 0, 1) := by decide +kernel
theorem dX11_circuit_23 : decode cX11_circuit 23 = .ok (.ireturn, 1) := by decide +kernel
theorem dX11_circuit_24 : decode cX11_circuit 24 = .ok (.aload_n 0, 1) := by decide +kernel
theorem dX11_circuit_25 : decode cX11_circuit 25 = .ok (.aload_n 0, 1) := by decide +kernel
theorem dX11_circuit_26 : decode cX11_circuit 26 = .ok (.getfield 28, 3) := by decide +kernel
theorem dX11_circuit_29 : decode cX11_circuit 29 = .ok (.aload_n 0, 1) := by decide +kernel
theorem dX11_circuit_30 : decode cX11_circuit 30 = .ok (.getfield 87, 3) := by decide +kernel
theorem dX11_circuit_33 : decode cX11_circuit 33 = .ok (.iload_n 1, 1) := by decide +kernel
theorem dX11_circuit_34 : decode cX11_circuit 34 = .ok (.invokevirtual 114, 3) := by decide +kernel
theorem dX11_circuit_37 : decode cX11_circuit 37 = .ok (.putfield 87, 3) := by decide +kernel
theorem dX11_circuit_40 : decode cX11_circuit 40 = .ok (.aload_n 0, 1) := by decide +kernel
theorem dX11_circuit_41 : decode cX11_circuit 41 = .ok (.getfield 12, 3) := by decide +kernel
theorem dX11_circuit_44 : decode cX11_circuit 44 = .ok (.iconst 0, 1) := by decide +kernel
theorem dX11_circuit_45 : decode cX11_circuit 45 = .ok (.invokevirtual 103, 3) := by decide +kernel
theorem dX11_circuit_48 : decode cX11_circuit 48 = .ok (.aload_n 0, 1) := by decide +kernel
theorem dX11_circuit_49 : decode cX11_circuit 49 = .ok (.invokevirtual 118, 3) := by decide +kernel
theorem dX11_circuit_52 : decode cX11_circuit 52 = .ok (.iconst 1, 1) := by decide +kernel
theorem dX11_circuit_53 : decode cX11_circuit 53 = .ok (.ireturn, 1) := by decide +kernel
theorem dX11_arbiter_0 : decode cX11_arbiter 0 = .ok (.iload_n 1, 1) := by decide +kernel
theorem dX11_arbiter_1 : decode cX11_arbiter 1 = .ok (.invokestatic 121, 3) := by decide +kernel
theorem dX11_arbiter_4 : decode cX11_arbiter 4 = .ok (.ifCond .eq 28, 3) := by decide +kernel
theorem dX11_arbiter_7 : decode cX11_arbiter 7 = .ok (.iload_n 2, 1) := by decide +kernel
theorem dX11_arbiter_8 : decode cX11_arbiter 8 = .ok (.invokestatic 121, 3) := by decide +kernel
theorem dX11_arbiter_11 : decode cX11_arbiter 11 = .ok (.ifCond .eq 21, 3) := by decide +kernel
theorem dX11_arbiter_14 : decode cX11_arbiter 14 = .ok (.iload_n 1, 1) := by decide +kernel
theorem dX11_arbiter_15 : decode cX11_arbiter 15 = .ok (.iload_n 2, 1) := by decide +kernel
theorem dX11_arbiter_16 : decode cX11_arbiter 16 = .ok (.if_icmp .eq 16, 3) := by decide +kernel
theorem dX11_arbiter_19 : decode cX11_arbiter 19 = .ok (.aload_n 0, 1) := by decide +kernel
theorem dX11_arbiter_20 : decode cX11_arbiter 20 = .ok (.getfield 28, 3) := by decide +kernel
theorem dX11_arbiter_23 : decode cX11_arbiter 23 = .ok (.iload_n 1, 1) := by decide +kernel
theorem dX11_arbiter_24 : decode cX11_arbiter 24 = .ok (.iload_n 2, 1) := by decide +kernel
theorem dX11_arbiter_25 : decode cX11_arbiter 25 = .ok (.invokevirtual 124, 3) := by decide +kernel
theorem dX11_arbiter_28 : decode cX11_arbiter 28 = .ok (.iload_n 3, 1) := by decide +kernel
theorem dX11_arbiter_29 : decode cX11_arbiter 29 = .ok (.if_icmp .ne 5, 3) := by decide +kernel
theorem dX11_arbiter_32 : decode cX11_arbiter 32 = .ok (.iconst 0, 1) := by decide +kernel
theorem dX11_arbiter_33 : decode cX11_arbiter 33 = .ok (.ireturn, 1) := by decide +kernel
theorem dX11_arbiter_34 : decode cX11_arbiter 34 = .ok (.aload_n 0, 1) := by decide +kernel
theorem dX11_arbiter_35 : decode cX11_arbiter 35 = .ok (.getfield 28, 3) := by decide +kernel
theorem dX11_arbiter_38 : decode cX11_arbiter 38 = .ok (.iload_n 1, 1) := by decide +kernel
theorem dX11_arbiter_39 : decode cX11_arbiter 39 = .ok (.iload_n 2, 1) := by decide +kernel
theorem dX11_arbiter_40 : decode cX11_arbiter 40 = .ok (.invokevirtual 128, 3) := by decide +kernel
theorem dX11_arbiter_43 : decode cX11_arbiter 43 = .ok (.aload_n 0, 1) := by decide +kernel
theorem dX11_arbiter_44 : decode cX11_arbiter 44 = .ok (.getfield 46, 3) := by decide +kernel
theorem dX11_arbiter_47 : decode cX11_arbiter 47 = .ok (.invokevirtual 132, 3) := by decide +kernel
theorem dX11_arbiter_50 : decode cX11_arbiter 50 = .ok (.iconst 1, 1) := by decide +kernel
theorem dX11_arbiter_51 : decode cX11_arbiter 51 = .ok (.ireturn, 1) := by decide +kernel
theorem dX11_stuck_0 : decode cX11_stuck 0 = .ok (.iload_n 1, 1) := by decide +kernel
theorem dX11_stuck_1 : decode cX11_stuck 1 = .ok (.invokestatic 121, 3) := by decide +kernel
theorem dX11_stuck_4 : decode cX11_stuck 4 = .ok (.ifCond .eq 15, 3) := by decide +kernel
theorem dX11_stuck_7 : decode cX11_stuck 7 = .ok (.aload_n 0, 1) := by decide +kernel
theorem dX11_stuck_8 : decode cX11_stuck 8 = .ok (.getfield 28, 3) := by decide +kernel
theorem dX11_stuck_11 : decode cX11_stuck 11 = .ok (.iload_n 1, 1) := by decide +kernel
theorem dX11_stuck_12 : decode cX11_stuck 12 = .ok (.invokevirtual 135, 3) := by decide +kernel
theorem dX11_stuck_15 : decode cX11_stuck 15 = .ok (.iload_n 2, 1) := by decide +kernel
theorem dX11_stuck_16 : decode cX11_stuck 16 = .ok (.if_icmp .ne 5, 3) := by decide +kernel
theorem dX11_stuck_19 : decode cX11_stuck 19 = .ok (.iconst 0, 1) := by decide +kernel
theorem dX11_stuck_20 : decode cX11_stuck 20 = .ok (.ireturn, 1) := by decide +kernel
theorem dX11_stuck_21 : decode cX11_stuck 21 = .ok (.aload_n 0, 1) := by decide +kernel
theorem dX11_stuck_22 : decode cX11_stuck 22 = .ok (.getfield 28, 3) := by decide +kernel
theorem dX11_stuck_25 : decode cX11_stuck 25 = .ok (.iload_n 1, 1) := by decide +kernel
theorem dX11_stuck_26 : decode cX11_stuck 26 = .ok (.invokevirtual 138, 3) := by decide +kernel
theorem dX11_stuck_29 : decode cX11_stuck 29 = .ok (.aload_n 0, 1) := by decide +kernel
theorem dX11_stuck_30 : decode cX11_stuck 30 = .ok (.invokevirtual 118, 3) := by decide +kernel
theorem dX11_stuck_33 : decode cX11_stuck 33 = .ok (.iconst 1, 1) := by decide +kernel
theorem dX11_stuck_34 : decode cX11_stuck 34 = .ok (.ireturn, 1) := by decide +kernel
theorem dX11_asked_0 : decode cX11_asked 0 = .ok (.iload_n 1, 1) := by decide +kernel
theorem dX11_asked_1 : decode cX11_asked 1 = .ok (.invokestatic 110, 3) := by decide +kernel
theorem dX11_asked_4 : decode cX11_asked 4 = .ok (.ifCond .eq 14, 3) := by decide +kernel
theorem dX11_asked_7 : decode cX11_asked 7 = .ok (.aload_n 0, 1) := by decide +kernel
theorem dX11_asked_8 : decode cX11_asked 8 = .ok (.getfield 28, 3) := by decide +kernel
theorem dX11_asked_11 : decode cX11_asked 11 = .ok (.iload_n 1, 1) := by decide +kernel
theorem dX11_asked_12 : decode cX11_asked 12 = .ok (.invokevirtual 141, 3) := by decide +kernel
theorem dX11_asked_15 : decode cX11_asked 15 = .ok (.goto 4, 3) := by decide +kernel
theorem dX11_asked_18 : decode cX11_asked 18 = .ok (.iconst (-1), 1) := by decide +kernel
theorem dX11_asked_19 : decode cX11_asked 19 = .ok (.ireturn, 1) := by decide +kernel
theorem dX11_states_0 : decode cX11_states 0 = .ok (.aload_n 0, 1) := by decide +kernel
theorem dX11_states_1 : decode cX11_states 1 = .ok (.getfield 37, 3) := by decide +kernel
theorem dX11_states_4 : decode cX11_states 4 = .ok (.invokevirtual 144, 3) := by decide +kernel
theorem dX11_states_7 : decode cX11_states 7 = .ok (.aload_n 0, 1) := by decide +kernel
theorem dX11_states_8 : decode cX11_states 8 = .ok (.getfield 37, 3) := by decide +kernel
theorem dX11_states_11 : decode cX11_states 11 = .ok (.invokevirtual 147, 3) := by decide +kernel
theorem dX11_states_14 : decode cX11_states 14 = .ok (.ireturn, 1) := by decide +kernel
theorem dX11_state_0 : decode cX11_state 0 = .ok (.aload_n 0, 1) := by decide +kernel
theorem dX11_state_1 : decode cX11_state 1 = .ok (.getfield 37, 3) := by decide +kernel
theorem dX11_state_4 : decode cX11_state 4 = .ok (.invokevirtual 144, 3) := by decide +kernel
theorem dX11_state_7 : decode cX11_state 7 = .ok (.aload_n 0, 1) := by decide +kernel
theorem dX11_state_8 : decode cX11_state 8 = .ok (.getfield 37, 3) := by decide +kernel
theorem dX11_state_11 : decode cX11_state 11 = .ok (.iload_n 1, 1) := by decide +kernel
theorem dX11_state_12 : decode cX11_state 12 = .ok (.invokevirtual 148, 3) := by decide +kernel
theorem dX11_state_15 : decode cX11_state 15 = .ok (.ireturn, 1) := by decide +kernel
theorem dX11_place_0 : decode cX11_place 0 = .ok (.aload_n 0, 1) := by decide +kernel
theorem dX11_place_1 : decode cX11_place 1 = .ok (.getfield 37, 3) := by decide +kernel
theorem dX11_place_4 : decode cX11_place 4 = .ok (.invokevirtual 144, 3) := by decide +kernel
theorem dX11_place_7 : decode cX11_place 7 = .ok (.aload_n 0, 1) := by decide +kernel
theorem dX11_place_8 : decode cX11_place 8 = .ok (.getfield 37, 3) := by decide +kernel
theorem dX11_place_11 : decode cX11_place 11 = .ok (.iload_n 1, 1) := by decide +kernel
theorem dX11_place_12 : decode cX11_place 12 = .ok (.invokevirtual 151, 3) := by decide +kernel
theorem dX11_place_15 : decode cX11_place 15 = .ok (.ireturn, 1) := by decide +kernel
theorem dX11_hazard_0 : decode cX11_hazard 0 = .ok (.iload_n 2, 1) := by decide +kernel
theorem dX11_hazard_1 : decode cX11_hazard 1 = .ok (.ifCond .lt 8, 3) := by decide +kernel
theorem dX11_hazard_4 : decode cX11_hazard 4 = .ok (.iload_n 2, 1) := by decide +kernel
theorem dX11_hazard_5 : decode cX11_hazard 5 = .ok (.iconst 2, 1) := by decide +kernel
theorem dX11_hazard_6 : decode cX11_hazard 6 = .ok (.if_icmp .le 5, 3) := by decide +kernel
theorem dX11_hazard_9 : decode cX11_hazard 9 = .ok (.iconst (-1), 1) := by decide +kernel
theorem dX11_hazard_10 : decode cX11_hazard 10 = .ok (.ireturn, 1) := by decide +kernel
theorem dX11_hazard_11 : decode cX11_hazard 11 = .ok (.aload_n 0, 1) := by decide +kernel
theorem dX11_hazard_12 : decode cX11_hazard 12 = .ok (.getfield 37, 3) := by decide +kernel
theorem dX11_hazard_15 : decode cX11_hazard 15 = .ok (.invokevirtual 144, 3) := by decide +kernel
theorem dX11_hazard_18 : decode cX11_hazard 18 = .ok (.aload_n 0, 1) := by decide +kernel
theorem dX11_hazard_19 : decode cX11_hazard 19 = .ok (.getfield 46, 3) := by decide +kernel
theorem dX11_hazard_22 : decode cX11_hazard 22 = .ok (.invokevirtual 154, 3) := by decide +kernel
theorem dX11_hazard_25 : decode cX11_hazard 25 = .ok (.aload_n 0, 1) := by decide +kernel
theorem dX11_hazard_26 : decode cX11_hazard 26 = .ok (.getfield 46, 3) := by decide +kernel
theorem dX11_hazard_29 : decode cX11_hazard 29 = .ok (.iload_n 1, 1) := by decide +kernel
theorem dX11_hazard_30 : decode cX11_hazard 30 = .ok (.iload_n 2, 1) := by decide +kernel
theorem dX11_hazard_31 : decode cX11_hazard 31 = .ok (.invokevirtual 155, 3) := by decide +kernel
theorem dX11_hazard_34 : decode cX11_hazard 34 = .ok (.ireturn, 1) := by decide +kernel
theorem dX11_stop_0 : decode cX11_stop 0 = .ok (.aload_n 0, 1) := by decide +kernel
theorem dX11_stop_1 : decode cX11_stop 1 = .ok (.getfield 37, 3) := by decide +kernel
theorem dX11_stop_4 : decode cX11_stop 4 = .ok (.invokevirtual 144, 3) := by decide +kernel
theorem dX11_stop_7 : decode cX11_stop 7 = .ok (.aload_n 0, 1) := by decide +kernel
theorem dX11_stop_8 : decode cX11_stop 8 = .ok (.getfield 37, 3) := by decide +kernel
theorem dX11_stop_11 : decode cX11_stop 11 = .ok (.iload_n 1, 1) := by decide +kernel
theorem dX11_stop_12 : decode cX11_stop 12 = .ok (.invokevirtual 159, 3) := by decide +kernel
theorem dX11_stop_15 : decode cX11_stop 15 = .ok (.ireturn, 1) := by decide +kernel
theorem dX11_way_0 : decode cX11_way 0 = .ok (.aload_n 0, 1) := by decide +kernel
theorem dX11_way_1 : decode cX11_way 1 = .ok (.getfield 37, 3) := by decide +kernel
theorem dX11_way_4 : decode cX11_way 4 = .ok (.invokevirtual 144, 3) := by decide +kernel
theorem dX11_way_7 : decode cX11_way 7 = .ok (.aload_n 0, 1) := by decide +kernel
theorem dX11_way_8 : decode cX11_way 8 = .ok (.getfield 37, 3) := by decide +kernel
theorem dX11_way_11 : decode cX11_way 11 = .ok (.iload_n 1, 1) := by decide +kernel
theorem dX11_way_12 : decode cX11_way 12 = .ok (.invokevirtual 162, 3) := by decide +kernel
theorem dX11_way_15 : decode cX11_way 15 = .ok (.ireturn, 1) := by decide +kernel
theorem dX11_change_0 : decode cX11_change 0 = .ok (.aload_n 0, 1) := by decide +kernel
theorem dX11_change_1 : decode cX11_change 1 = .ok (.getfield 37, 3) := by decide +kernel
theorem dX11_change_4 : decode cX11_change 4 = .ok (.invokevirtual 144, 3) := by decide +kernel
theorem dX11_change_7 : decode cX11_change 7 = .ok (.aload_n 0, 1) := by decide +kernel
theorem dX11_change_8 : decode cX11_change 8 = .ok (.getfield 37, 3) := by decide +kernel
theorem dX11_change_11 : decode cX11_change 11 = .ok (.iload_n 1, 1) := by decide +kernel
theorem dX11_change_12 : decode cX11_change 12 = .ok (.iload_n 2, 1) := by decide +kernel
theorem dX11_change_13 : decode cX11_change 13 = .ok (.invokevirtual 165, 3) := by decide +kernel
theorem dX11_change_16 : decode cX11_change 16 = .ok (.ireturn, 1) := by decide +kernel
theorem dX11_live_0 : decode cX11_live 0 = .ok (.iload_n 1, 1) := by decide +kernel
theorem dX11_live_1 : decode cX11_live 1 = .ok (.invokestatic 121, 3) := by decide +kernel
theorem dX11_live_4 : decode cX11_live 4 = .ok (.ifCond .ne 5, 3) := by decide +kernel
theorem dX11_live_7 : decode cX11_live 7 = .ok (.iconst (-1), 1) := by decide +kernel
theorem dX11_live_8 : decode cX11_live 8 = .ok (.ireturn, 1) := by decide +kernel
theorem dX11_live_9 : decode cX11_live 9 = .ok (.aload_n 0, 1) := by decide +kernel
theorem dX11_live_10 : decode cX11_live 10 = .ok (.getfield 37, 3) := by decide +kernel
theorem dX11_live_13 : decode cX11_live 13 = .ok (.invokevirtual 144, 3) := by decide +kernel
theorem dX11_live_16 : decode cX11_live 16 = .ok (.aload_n 0, 1) := by decide +kernel
theorem dX11_live_17 : decode cX11_live 17 = .ok (.getfield 53, 3) := by decide +kernel
theorem dX11_live_20 : decode cX11_live 20 = .ok (.iload_n 1, 1) := by decide +kernel
theorem dX11_live_21 : decode cX11_live 21 = .ok (.invokevirtual 168, 3) := by decide +kernel
theorem dX11_live_24 : decode cX11_live 24 = .ok (.ifCond .eq 7, 3) := by decide +kernel
theorem dX11_live_27 : decode cX11_live 27 = .ok (.iconst 1, 1) := by decide +kernel
theorem dX11_live_28 : decode cX11_live 28 = .ok (.goto 4, 3) := by decide +kernel
theorem dX11_live_31 : decode cX11_live 31 = .ok (.iconst 0, 1) := by decide +kernel
theorem dX11_live_32 : decode cX11_live 32 = .ok (.ireturn, 1) := by decide +kernel
theorem dX11_both_0 : decode cX11_both 0 = .ok (.iload_n 1, 1) := by decide +kernel
theorem dX11_both_1 : decode cX11_both 1 = .ok (.invokestatic 110, 3) := by decide +kernel
theorem dX11_both_4 : decode cX11_both 4 = .ok (.ifCond .ne 5, 3) := by decide +kernel
theorem dX11_both_7 : decode cX11_both 7 = .ok (.iconst (-1), 1) := by decide +kernel
theorem dX11_both_8 : decode cX11_both 8 = .ok (.ireturn, 1) := by decide +kernel
theorem dX11_both_9 : decode cX11_both 9 = .ok (.aload_n 0, 1) := by decide +kernel
theorem dX11_both_10 : decode cX11_both 10 = .ok (.getfield 37, 3) := by decide +kernel
theorem dX11_both_13 : decode cX11_both 13 = .ok (.invokevirtual 144, 3) := by decide +kernel
theorem dX11_both_16 : decode cX11_both 16 = .ok (.aload_n 0, 1) := by decide +kernel
theorem dX11_both_17 : decode cX11_both 17 = .ok (.getfield 37, 3) := by decide +kernel
theorem dX11_both_20 : decode cX11_both 20 = .ok (.iload_n 1, 1) := by decide +kernel
theorem dX11_both_21 : decode cX11_both 21 = .ok (.invokevirtual 171, 3) := by decide +kernel
theorem dX11_both_24 : decode cX11_both 24 = .ok (.ireturn, 1) := by decide +kernel
theorem dX11_run_0 : decode cX11_run 0 = .ok (.iload_n 1, 1) := by decide +kernel
theorem dX11_run_1 : decode cX11_run 1 = .ok (.invokestatic 174, 3) := by decide +kernel
theorem dX11_run_4 : decode cX11_run 4 = .ok (.ifCond .eq 19, 3) := by decide +kernel
theorem dX11_run_7 : decode cX11_run 7 = .ok (.aload_n 0, 1) := by decide +kernel
theorem dX11_run_8 : decode cX11_run 8 = .ok (.getfield 28, 3) := by decide +kernel
theorem dX11_run_11 : decode cX11_run 11 = .ok (.iload_n 1, 1) := by decide +kernel
theorem dX11_run_12 : decode cX11_run 12 = .ok (.lload_n 2, 1) := by decide +kernel
theorem dX11_run_13 : decode cX11_run 13 = .ok (.aload_n 0, 1) := by decide +kernel
theorem dX11_run_14 : decode cX11_run 14 = .ok (.getfield 57, 3) := by decide +kernel
theorem dX11_run_17 : decode cX11_run 17 = .ok (.invokevirtual 177, 3) := by decide +kernel
theorem dX11_run_20 : decode cX11_run 20 = .ok (.goto 4, 3) := by decide +kernel
theorem dX11_run_23 : decode cX11_run 23 = .ok (.iconst (-1), 1) := by decide +kernel
theorem dX11_run_24 : decode cX11_run 24 = .ok (.ireturn, 1) := by decide +kernel
theorem dX11_changed_0 : decode cX11_changed 0 = .ok (.iload_n 1, 1) := by decide +kernel
theorem dX11_changed_1 : decode cX11_changed 1 = .ok (.invokestatic 174, 3) := by decide +kernel
theorem dX11_changed_4 : decode cX11_changed 4 = .ok (.ifCond .eq 11, 3) := by decide +kernel
theorem dX11_changed_7 : decode cX11_changed 7 = .ok (.iload 4, 2) := by decide +kernel
theorem dX11_changed_9 : decode cX11_changed 9 = .ok (.invokestatic 121, 3) := by decide +kernel
theorem dX11_changed_12 : decode cX11_changed 12 = .ok (.ifCond .ne 5, 3) := by decide +kernel
theorem dX11_changed_15 : decode cX11_changed 15 = .ok (.iconst (-1), 1) := by decide +kernel
theorem dX11_changed_16 : decode cX11_changed 16 = .ok (.ireturn, 1) := by decide +kernel
theorem dX11_changed_17 : decode cX11_changed 17 = .ok (.aload_n 0, 1) := by decide +kernel
theorem dX11_changed_18 : decode cX11_changed 18 = .ok (.getfield 28, 3) := by decide +kernel
theorem dX11_changed_21 : decode cX11_changed 21 = .ok (.iload_n 1, 1) := by decide +kernel
theorem dX11_changed_22 : decode cX11_changed 22 = .ok (.lload_n 2, 1) := by decide +kernel
theorem dX11_changed_23 : decode cX11_changed 23 = .ok (.aload_n 0, 1) := by decide +kernel
theorem dX11_changed_24 : decode cX11_changed 24 = .ok (.getfield 57, 3) := by decide +kernel
theorem dX11_changed_27 : decode cX11_changed 27 = .ok (.invokevirtual 177, 3) := by decide +kernel
theorem dX11_changed_30 : decode cX11_changed 30 = .ok (.pop, 1) := by decide +kernel
theorem dX11_changed_31 : decode cX11_changed 31 = .ok (.aload_n 0, 1) := by decide +kernel
theorem dX11_changed_32 : decode cX11_changed 32 = .ok (.getfield 57, 3) := by decide +kernel
theorem dX11_changed_35 : decode cX11_changed 35 = .ok (.iload 4, 2) := by decide +kernel
theorem dX11_changed_37 : decode cX11_changed 37 = .ok (.iaload, 1) := by decide +kernel
theorem dX11_changed_38 : decode cX11_changed 38 = .ok (.ireturn, 1) := by decide +kernel
theorem dX11_node_0 : decode cX11_node 0 = .ok (.aload_n 0, 1) := by decide +kernel
theorem dX11_node_1 : decode cX11_node 1 = .ok (.getfield 64, 3) := by decide +kernel
theorem dX11_node_4 : decode cX11_node 4 = .ok (.iload_n 1, 1) := by decide +kernel
theorem dX11_node_5 : decode cX11_node 5 = .ok (.invokevirtual 181, 3) := by decide +kernel
theorem dX11_node_8 : decode cX11_node 8 = .ok (.istore_n 2, 1) := by decide +kernel
theorem dX11_node_9 : decode cX11_node 9 = .ok (.aload_n 0, 1) := by decide +kernel
theorem dX11_node_10 : decode cX11_node 10 = .ok (.invokevirtual 184, 3) := by decide +kernel
theorem dX11_node_13 : decode cX11_node 13 = .ok (.iload_n 2, 1) := by decide +kernel
theorem dX11_node_14 : decode cX11_node 14 = .ok (.ireturn, 1) := by decide +kernel
theorem dX11_arc_0 : decode cX11_arc 0 = .ok (.aload_n 0, 1) := by decide +kernel
theorem dX11_arc_1 : decode cX11_arc 1 = .ok (.getfield 64, 3) := by decide +kernel
theorem dX11_arc_4 : decode cX11_arc 4 = .ok (.iload_n 1, 1) := by decide +kernel
theorem dX11_arc_5 : decode cX11_arc 5 = .ok (.iload_n 2, 1) := by decide +kernel
theorem dX11_arc_6 : decode cX11_arc 6 = .ok (.iload_n 3, 1) := by decide +kernel
theorem dX11_arc_7 : decode cX11_arc 7 = .ok (.invokevirtual 187, 3) := by decide +kernel
theorem dX11_arc_10 : decode cX11_arc 10 = .ok (.istore 4, 2) := by decide +kernel
theorem dX11_arc_12 : decode cX11_arc 12 = .ok (.aload_n 0, 1) := by decide +kernel
theorem dX11_arc_13 : decode cX11_arc 13 = .ok (.invokevirtual 184, 3) := by decide +kernel
theorem dX11_arc_16 : decode cX11_arc 16 = .ok (.iload 4, 2) := by decide +kernel
theorem dX11_arc_18 : decode cX11_arc 18 = .ok (.ireturn, 1) := by decide +kernel
theorem dX11_tokens_0 : decode cX11_tokens 0 = .ok (.aload_n 0, 1) := by decide +kernel
theorem dX11_tokens_1 : decode cX11_tokens 1 = .ok (.getfield 64, 3) := by decide +kernel
theorem dX11_tokens_4 : decode cX11_tokens 4 = .ok (.iload_n 1, 1) := by decide +kernel
theorem dX11_tokens_5 : decode cX11_tokens 5 = .ok (.iload_n 2, 1) := by decide +kernel
theorem dX11_tokens_6 : decode cX11_tokens 6 = .ok (.invokevirtual 191, 3) := by decide +kernel
theorem dX11_tokens_9 : decode cX11_tokens 9 = .ok (.istore_n 3, 1) := by decide +kernel
theorem dX11_tokens_10 : decode cX11_tokens 10 = .ok (.aload_n 0, 1) := by decide +kernel
theorem dX11_tokens_11 : decode cX11_tokens 11 = .ok (.invokevirtual 184, 3) := by decide +kernel
theorem dX11_tokens_14 : decode cX11_tokens 14 = .ok (.iload_n 3, 1) := by decide +kernel
theorem dX11_tokens_15 : decode cX11_tokens 15 = .ok (.ireturn, 1) := by decide +kernel
theorem dX11_clear_0 : decode cX11_clear 0 = .ok (.aload_n 0, 1) := by decide +kernel
theorem dX11_clear_1 : decode cX11_clear 1 = .ok (.getfield 64, 3) := by decide +kernel
theorem dX11_clear_4 : decode cX11_clear 4 = .ok (.invokevirtual 194, 3) := by decide +kernel
theorem dX11_clear_7 : decode cX11_clear 7 = .ok (.aload_n 0, 1) := by decide +kernel
theorem dX11_clear_8 : decode cX11_clear 8 = .ok (.invokevirtual 184, 3) := by decide +kernel
theorem dX11_clear_11 : decode cX11_clear 11 = .ok (.return_, 1) := by decide +kernel
theorem dX11_dead_0 : decode cX11_dead 0 = .ok (.aload_n 0, 1) := by decide +kernel
theorem dX11_dead_1 : decode cX11_dead 1 = .ok (.getfield 64, 3) := by decide +kernel
theorem dX11_dead_4 : decode cX11_dead 4 = .ok (.invokevirtual 197, 3) := by decide +kernel
theorem dX11_dead_7 : decode cX11_dead 7 = .ok (.ifCond .eq 7, 3) := by decide +kernel
theorem dX11_dead_10 : decode cX11_dead 10 = .ok (.iconst 1, 1) := by decide +kernel
theorem dX11_dead_11 : decode cX11_dead 11 = .ok (.goto 4, 3) := by decide +kernel
theorem dX11_dead_14 : decode cX11_dead 14 = .ok (.iconst 0, 1) := by decide +kernel
theorem dX11_dead_15 : decode cX11_dead 15 = .ok (.ireturn, 1) := by decide +kernel
theorem dX11_turn_0 : decode cX11_turn 0 = .ok (.iload_n 1, 1) := by decide +kernel
theorem dX11_turn_1 : decode cX11_turn 1 = .ok (.ifCond .lt 8, 3) := by decide +kernel
theorem dX11_turn_4 : decode cX11_turn 4 = .ok (.iload_n 1, 1) := by decide +kernel
theorem dX11_turn_5 : decode cX11_turn 5 = .ok (.iconst 1, 1) := by decide +kernel
theorem dX11_turn_6 : decode cX11_turn 6 = .ok (.if_icmp .le 7, 3) := by decide +kernel
theorem dX11_turn_9 : decode cX11_turn 9 = .ok (.ldc2_w 201, 3) := by decide +kernel
theorem dX11_turn_12 : decode cX11_turn 12 = .ok (.lreturn, 1) := by decide +kernel
theorem dX11_turn_13 : decode cX11_turn 13 = .ok (.aload_n 0, 1) := by decide +kernel
theorem dX11_turn_14 : decode cX11_turn 14 = .ok (.getfield 73, 3) := by decide +kernel
theorem dX11_turn_17 : decode cX11_turn 17 = .ok (.invokevirtual 203, 3) := by decide +kernel
theorem dX11_turn_20 : decode cX11_turn 20 = .ok (.iload_n 1, 1) := by decide +kernel
theorem dX11_turn_21 : decode cX11_turn 21 = .ok (.ifCond .ne 14, 3) := by decide +kernel
theorem dX11_turn_24 : decode cX11_turn 24 = .ok (.aload_n 0, 1) := by decide +kernel
theorem dX11_turn_25 : decode cX11_turn 25 = .ok (.getfield 73, 3) := by decide +kernel
theorem dX11_turn_28 : decode cX11_turn 28 = .ok (.invokevirtual 204, 3) := by decide +kernel
theorem dX11_turn_31 : decode cX11_turn 31 = .ok (.i2l, 1) := by decide +kernel
theorem dX11_turn_32 : decode cX11_turn 32 = .ok (.goto 11, 3) := by decide +kernel
theorem dX11_turn_35 : decode cX11_turn 35 = .ok (.aload_n 0, 1) := by decide +kernel
theorem dX11_turn_36 : decode cX11_turn 36 = .ok (.getfield 73, 3) := by decide +kernel
theorem dX11_turn_39 : decode cX11_turn 39 = .ok (.invokevirtual 207, 3) := by decide +kernel
theorem dX11_turn_42 : decode cX11_turn 42 = .ok (.i2l, 1) := by decide +kernel
theorem dX11_turn_43 : decode cX11_turn 43 = .ok (.lreturn, 1) := by decide +kernel
theorem dX11_time_0 : decode cX11_time 0 = .ok (.aload_n 0, 1) := by decide +kernel
theorem dX11_time_1 : decode cX11_time 1 = .ok (.getfield 64, 3) := by decide +kernel
theorem dX11_time_4 : decode cX11_time 4 = .ok (.iload_n 1, 1) := by decide +kernel
theorem dX11_time_5 : decode cX11_time 5 = .ok (.invokevirtual 210, 3) := by decide +kernel
theorem dX11_time_8 : decode cX11_time 8 = .ok (.ifCond .eq 15, 3) := by decide +kernel
theorem dX11_time_11 : decode cX11_time 11 = .ok (.iload_n 2, 1) := by decide +kernel
theorem dX11_time_12 : decode cX11_time 12 = .ok (.iconst 1, 1) := by decide +kernel
theorem dX11_time_13 : decode cX11_time 13 = .ok (.if_icmp .lt 10, 3) := by decide +kernel
theorem dX11_time_16 : decode cX11_time 16 = .ok (.iload_n 2, 1) := by decide +kernel
theorem dX11_time_17 : decode cX11_time 17 = .ok (.sipush 200, 3) := by decide +kernel
theorem dX11_time_20 : decode cX11_time 20 = .ok (.if_icmp .le 13, 3) := by decide +kernel
theorem dX11_time_23 : decode cX11_time 23 = .ok (.new 213, 3) := by decide +kernel
theorem dX11_time_26 : decode cX11_time 26 = .ok (.dup, 1) := by decide +kernel
theorem dX11_time_27 : decode cX11_time 27 = .ok (.ldc 215, 2) := by decide +kernel
theorem dX11_time_29 : decode cX11_time 29 = .ok (.invokespecial 217, 3) := by decide +kernel
theorem dX11_time_32 : decode cX11_time 32 = .ok (.athrow, 1) := by decide +kernel
theorem dX11_time_33 : decode cX11_time 33 = .ok (.aload_n 0, 1) := by decide +kernel
theorem dX11_time_34 : decode cX11_time 34 = .ok (.getfield 80, 3) := by decide +kernel
theorem dX11_time_37 : decode cX11_time 37 = .ok (.iload_n 2, 1) := by decide +kernel
theorem dX11_time_38 : decode cX11_time 38 = .ok (.invokevirtual 220, 3) := by decide +kernel
theorem dX11_time_41 : decode cX11_time 41 = .ok (.aload_n 0, 1) := by decide +kernel
theorem dX11_time_42 : decode cX11_time 42 = .ok (.getfield 80, 3) := by decide +kernel
theorem dX11_time_45 : decode cX11_time 45 = .ok (.iload_n 1, 1) := by decide +kernel
theorem dX11_time_46 : decode cX11_time 46 = .ok (.iload_n 2, 1) := by decide +kernel
theorem dX11_time_47 : decode cX11_time 47 = .ok (.invokevirtual 223, 3) := by decide +kernel
theorem dX11_time_50 : decode cX11_time 50 = .ok (.istore_n 3, 1) := by decide +kernel
theorem dX11_time_51 : decode cX11_time 51 = .ok (.iload_n 3, 1) := by decide +kernel
theorem dX11_time_52 : decode cX11_time 52 = .ok (.iconst (-1), 1) := by decide +kernel
theorem dX11_time_53 : decode cX11_time 53 = .ok (.if_icmp .ne 13, 3) := by decide +kernel
theorem dX11_time_56 : decode cX11_time 56 = .ok (.new 213, 3) := by decide +kernel
theorem dX11_time_59 : decode cX11_time 59 = .ok (.dup, 1) := by decide +kernel
theorem dX11_time_60 : decode cX11_time 60 = .ok (.ldc 226, 2) := by decide +kernel
theorem dX11_time_62 : decode cX11_time 62 = .ok (.invokespecial 217, 3) := by decide +kernel
theorem dX11_time_65 : decode cX11_time 65 = .ok (.athrow, 1) := by decide +kernel
theorem dX11_time_66 : decode cX11_time 66 = .ok (.iload_n 3, 1) := by decide +kernel
theorem dX11_time_67 : decode cX11_time 67 = .ok (.ireturn, 1) := by decide +kernel
theorem dX11_helps_0 : decode cX11_helps 0 = .ok (.aload_n 0, 1) := by decide +kernel
theorem dX11_helps_1 : decode cX11_helps 1 = .ok (.getfield 73, 3) := by decide +kernel
theorem dX11_helps_4 : decode cX11_helps 4 = .ok (.invokevirtual 203, 3) := by decide +kernel
theorem dX11_helps_7 : decode cX11_helps 7 = .ok (.aload_n 0, 1) := by decide +kernel
theorem dX11_helps_8 : decode cX11_helps 8 = .ok (.getfield 73, 3) := by decide +kernel
theorem dX11_helps_11 : decode cX11_helps 11 = .ok (.invokevirtual 228, 3) := by decide +kernel
theorem dX11_helps_14 : decode cX11_helps 14 = .ok (.ireturn, 1) := by decide +kernel
theorem dX11_count_0 : decode cX11_count 0 = .ok (.iload_n 1, 1) := by decide +kernel
theorem dX11_count_1 : decode cX11_count 1 = .ok (.tableswitch 132 0 7 #[47, 55, 63, 85, 100, 108, 116, 124], 47) := by decide +kernel
theorem dX11_count_48 : decode cX11_count 48 = .ok (.aload_n 0, 1) := by decide +kernel
theorem dX11_count_49 : decode cX11_count 49 = .ok (.getfield 28, 3) := by decide +kernel
theorem dX11_count_52 : decode cX11_count 52 = .ok (.invokevirtual 231, 3) := by decide +kernel
theorem dX11_count_55 : decode cX11_count 55 = .ok (.ireturn, 1) := by decide +kernel
theorem dX11_count_56 : decode cX11_count 56 = .ok (.aload_n 0, 1) := by decide +kernel
theorem dX11_count_57 : decode cX11_count 57 = .ok (.getfield 28, 3) := by decide +kernel
theorem dX11_count_60 : decode cX11_count 60 = .ok (.invokevirtual 234, 3) := by decide +kernel
theorem dX11_count_63 : decode cX11_count 63 = .ok (.ireturn, 1) := by decide +kernel
theorem dX11_count_64 : decode cX11_count 64 = .ok (.aload_n 0, 1) := by decide +kernel
theorem dX11_count_65 : decode cX11_count 65 = .ok (.getfield 37, 3) := by decide +kernel
theorem dX11_count_68 : decode cX11_count 68 = .ok (.invokevirtual 144, 3) := by decide +kernel
theorem dX11_count_71 : decode cX11_count 71 = .ok (.aload_n 0, 1) := by decide +kernel
theorem dX11_count_72 : decode cX11_count 72 = .ok (.getfield 46, 3) := by decide +kernel
theorem dX11_count_75 : decode cX11_count 75 = .ok (.invokevirtual 154, 3) := by decide +kernel
theorem dX11_count_78 : decode cX11_count 78 = .ok (.aload_n 0, 1) := by decide +kernel
theorem dX11_count_79 : decode cX11_count 79 = .ok (.getfield 46, 3) := by decide +kernel
theorem dX11_count_82 : decode cX11_count 82 = .ok (.invokevirtual 237, 3) := by decide +kernel
theorem dX11_count_85 : decode cX11_count 85 = .ok (.ireturn, 1) := by decide +kernel
theorem dX11_count_86 : decode cX11_count 86 = .ok (.aload_n 0, 1) := by decide +kernel
theorem dX11_count_87 : decode cX11_count 87 = .ok (.getfield 37, 3) := by decide +kernel
theorem dX11_count_90 : decode cX11_count 90 = .ok (.invokevirtual 144, 3) := by decide +kernel
theorem dX11_count_93 : decode cX11_count 93 = .ok (.aload_n 0, 1) := by decide +kernel
theorem dX11_count_94 : decode cX11_count 94 = .ok (.getfield 37, 3) := by decide +kernel
theorem dX11_count_97 : decode cX11_count 97 = .ok (.invokevirtual 238, 3) := by decide +kernel
theorem dX11_count_100 : decode cX11_count 100 = .ok (.ireturn, 1) := by decide +kernel
theorem dX11_count_101 : decode cX11_count 101 = .ok (.aload_n 0, 1) := by decide +kernel
theorem dX11_count_102 : decode cX11_count 102 = .ok (.getfield 64, 3) := by decide +kernel
theorem dX11_count_105 : decode cX11_count 105 = .ok (.invokevirtual 241, 3) := by decide +kernel
theorem dX11_count_108 : decode cX11_count 108 = .ok (.ireturn, 1) := by decide +kernel
theorem dX11_count_109 : decode cX11_count 109 = .ok (.aload_n 0, 1) := by decide +kernel
theorem dX11_count_110 : decode cX11_count 110 = .ok (.getfield 64, 3) := by decide +kernel
theorem dX11_count_113 : decode cX11_count 113 = .ok (.invokevirtual 244, 3) := by decide +kernel
theorem dX11_count_116 : decode cX11_count 116 = .ok (.ireturn, 1) := by decide +kernel
theorem dX11_count_117 : decode cX11_count 117 = .ok (.aload_n 0, 1) := by decide +kernel
theorem dX11_count_118 : decode cX11_count 118 = .ok (.getfield 12, 3) := by decide +kernel
theorem dX11_count_121 : decode cX11_count 121 = .ok (.invokevirtual 95, 3) := by decide +kernel
theorem dX11_count_124 : decode cX11_count 124 = .ok (.ireturn, 1) := by decide +kernel
theorem dX11_count_125 : decode cX11_count 125 = .ok (.aload_n 0, 1) := by decide +kernel
theorem dX11_count_126 : decode cX11_count 126 = .ok (.getfield 28, 3) := by decide +kernel
theorem dX11_count_129 : decode cX11_count 129 = .ok (.invokevirtual 247, 3) := by decide +kernel
theorem dX11_count_132 : decode cX11_count 132 = .ok (.ireturn, 1) := by decide +kernel
theorem dX11_count_133 : decode cX11_count 133 = .ok (.iconst (-1), 1) := by decide +kernel
theorem dX11_count_134 : decode cX11_count 134 = .ok (.ireturn, 1) := by decide +kernel
theorem dX11_forgetWalk_0 : decode cX11_forgetWalk 0 = .ok (.aload_n 0, 1) := by decide +kernel
theorem dX11_forgetWalk_1 : decode cX11_forgetWalk 1 = .ok (.getfield 37, 3) := by decide +kernel
theorem dX11_forgetWalk_4 : decode cX11_forgetWalk 4 = .ok (.invokevirtual 250, 3) := by decide +kernel
theorem dX11_forgetWalk_7 : decode cX11_forgetWalk 7 = .ok (.aload_n 0, 1) := by decide +kernel
theorem dX11_forgetWalk_8 : decode cX11_forgetWalk 8 = .ok (.getfield 46, 3) := by decide +kernel
theorem dX11_forgetWalk_11 : decode cX11_forgetWalk 11 = .ok (.invokevirtual 132, 3) := by decide +kernel
theorem dX11_forgetWalk_14 : decode cX11_forgetWalk 14 = .ok (.aload_n 0, 1) := by decide +kernel
theorem dX11_forgetWalk_15 : decode cX11_forgetWalk 15 = .ok (.getfield 53, 3) := by decide +kernel
theorem dX11_forgetWalk_18 : decode cX11_forgetWalk 18 = .ok (.invokevirtual 251, 3) := by decide +kernel
theorem dX11_forgetWalk_21 : decode cX11_forgetWalk 21 = .ok (.return_, 1) := by decide +kernel
theorem dX11_forgetRings_0 : decode cX11_forgetRings 0 = .ok (.aload_n 0, 1) := by decide +kernel
theorem dX11_forgetRings_1 : decode cX11_forgetRings 1 = .ok (.getfield 73, 3) := by decide +kernel
theorem dX11_forgetRings_4 : decode cX11_forgetRings 4 = .ok (.invokevirtual 252, 3) := by decide +kernel
theorem dX11_forgetRings_7 : decode cX11_forgetRings 7 = .ok (.aload_n 0, 1) := by decide +kernel
theorem dX11_forgetRings_8 : decode cX11_forgetRings 8 = .ok (.getfield 80, 3) := by decide +kernel
theorem dX11_forgetRings_11 : decode cX11_forgetRings 11 = .ok (.invokevirtual 253, 3) := by decide +kernel
theorem dX11_forgetRings_14 : decode cX11_forgetRings 14 = .ok (.return_, 1) := by decide +kernel
theorem dX11_isSignal_0 : decode cX11_isSignal 0 = .ok (.iload_n 0, 1) := by decide +kernel
theorem dX11_isSignal_1 : decode cX11_isSignal 1 = .ok (.ifCond .lt 13, 3) := by decide +kernel
theorem dX11_isSignal_4 : decode cX11_isSignal 4 = .ok (.iload_n 0, 1) := by decide +kernel
theorem dX11_isSignal_5 : decode cX11_isSignal 5 = .ok (.bipush 12, 2) := by decide +kernel
theorem dX11_isSignal_7 : decode cX11_isSignal 7 = .ok (.if_icmp .ge 7, 3) := by decide +kernel
theorem dX11_isSignal_10 : decode cX11_isSignal 10 = .ok (.iconst 1, 1) := by decide +kernel
theorem dX11_isSignal_11 : decode cX11_isSignal 11 = .ok (.goto 4, 3) := by decide +kernel
theorem dX11_isSignal_14 : decode cX11_isSignal 14 = .ok (.iconst 0, 1) := by decide +kernel
theorem dX11_isSignal_15 : decode cX11_isSignal 15 = .ok (.ireturn, 1) := by decide +kernel
theorem dX11_isState_0 : decode cX11_isState 0 = .ok (.iload_n 0, 1) := by decide +kernel
theorem dX11_isState_1 : decode cX11_isState 1 = .ok (.ifCond .lt 14, 3) := by decide +kernel
theorem dX11_isState_4 : decode cX11_isState 4 = .ok (.iload_n 0, 1) := by decide +kernel
theorem dX11_isState_5 : decode cX11_isState 5 = .ok (.sipush 4096, 3) := by decide +kernel
theorem dX11_isState_8 : decode cX11_isState 8 = .ok (.if_icmp .ge 7, 3) := by decide +kernel
theorem dX11_isState_11 : decode cX11_isState 11 = .ok (.iconst 1, 1) := by decide +kernel
theorem dX11_isState_12 : decode cX11_isState 12 = .ok (.goto 4, 3) := by decide +kernel
theorem dX11_isState_15 : decode cX11_isState 15 = .ok (.iconst 0, 1) := by decide +kernel
theorem dX11_isState_16 : decode cX11_isState 16 = .ok (.ireturn, 1) := by decide +kernel
theorem dX11_isRunLength_0 : decode cX11_isRunLength 0 = .ok (.iload_n 0, 1) := by decide +kernel
theorem dX11_isRunLength_1 : decode cX11_isRunLength 1 = .ok (.ifCond .lt 14, 3) := by decide +kernel
theorem dX11_isRunLength_4 : decode cX11_isRunLength 4 = .ok (.iload_n 0, 1) := by decide +kernel
theorem dX11_isRunLength_5 : decode cX11_isRunLength 5 = .ok (.sipush 2000, 3) := by decide +kernel
theorem dX11_isRunLength_8 : decode cX11_isRunLength 8 = .ok (.if_icmp .gt 7, 3) := by decide +kernel
theorem dX11_isRunLength_11 : decode cX11_isRunLength 11 = .ok (.iconst 1, 1) := by decide +kernel
theorem dX11_isRunLength_12 : decode cX11_isRunLength 12 = .ok (.goto 4, 3) := by decide +kernel
theorem dX11_isRunLength_15 : decode cX11_isRunLength 15 = .ok (.iconst 0, 1) := by decide +kernel
theorem dX11_isRunLength_16 : decode cX11_isRunLength 16 = .ok (.ireturn, 1) := by decide +kernel
theorem dX11_isIn_0 : decode cX11_isIn 0 = .ok (.iload_n 0, 1) := by decide +kernel
theorem dX11_isIn_1 : decode cX11_isIn 1 = .ok (.iload_n 1, 1) := by decide +kernel
theorem dX11_isIn_2 : decode cX11_isIn 2 = .ok (.ishr, 1) := by decide +kernel
theorem dX11_isIn_3 : decode cX11_isIn 3 = .ok (.iconst 1, 1) := by decide +kernel
theorem dX11_isIn_4 : decode cX11_isIn 4 = .ok (.iand, 1) := by decide +kernel
theorem dX11_isIn_5 : decode cX11_isIn 5 = .ok (.ifCond .eq 7, 3) := by decide +kernel
theorem dX11_isIn_8 : decode cX11_isIn 8 = .ok (.iconst 1, 1) := by decide +kernel
theorem dX11_isIn_9 : decode cX11_isIn 9 = .ok (.goto 4, 3) := by decide +kernel
theorem dX11_isIn_12 : decode cX11_isIn 12 = .ok (.iconst 0, 1) := by decide +kernel
theorem dX11_isIn_13 : decode cX11_isIn 13 = .ok (.ireturn, 1) := by decide +kernel
theorem dX12_init_0 : decode cX12_init 0 = .ok (.aload_n 0, 1) := by decide +kernel
theorem dX12_init_1 : decode cX12_init 1 = .ok (.invokespecial 3, 3) := by decide +kernel
theorem dX12_init_4 : decode cX12_init 4 = .ok (.aload_n 0, 1) := by decide +kernel
theorem dX12_init_5 : decode cX12_init 5 = .ok (.sipush 300, 3) := by decide +kernel
theorem dX12_init_8 : decode cX12_init 8 = .ok (.newarray .byte, 2) := by decide +kernel
theorem dX12_init_10 : decode cX12_init 10 = .ok (.putfield 9, 3) := by decide +kernel
theorem dX12_init_13 : decode cX12_init 13 = .ok (.aload_n 0, 1) := by decide +kernel
theorem dX12_init_14 : decode cX12_init 14 = .ok (.bipush 12, 2) := by decide +kernel
theorem dX12_init_16 : decode cX12_init 16 = .ok (.newarray .int, 2) := by decide +kernel
theorem dX12_init_18 : decode cX12_init 18 = .ok (.putfield 13, 3) := by decide +kernel
theorem dX12_init_21 : decode cX12_init 21 = .ok (.aload_n 0, 1) := by decide +kernel
theorem dX12_init_22 : decode cX12_init 22 = .ok (.sipush 144, 3) := by decide +kernel
theorem dX12_init_25 : decode cX12_init 25 = .ok (.newarray .int, 2) := by decide +kernel
theorem dX12_init_27 : decode cX12_init 27 = .ok (.putfield 17, 3) := by decide +kernel
theorem dX12_init_30 : decode cX12_init 30 = .ok (.aload_n 0, 1) := by decide +kernel
theorem dX12_init_31 : decode cX12_init 31 = .ok (.sipush 144, 3) := by decide +kernel
theorem dX12_init_34 : decode cX12_init 34 = .ok (.newarray .int, 2) := by decide +kernel
theorem dX12_init_36 : decode cX12_init 36 = .ok (.putfield 20, 3) := by decide +kernel
theorem dX12_init_39 : decode cX12_init 39 = .ok (.aload_n 0, 1) := by decide +kernel
theorem dX12_init_40 : decode cX12_init 40 = .ok (.bipush 12, 2) := by decide +kernel
theorem dX12_init_42 : decode cX12_init 42 = .ok (.newarray .int, 2) := by decide +kernel
theorem dX12_init_44 : decode cX12_init 44 = .ok (.putfield 23, 3) := by decide +kernel
theorem dX12_init_47 : decode cX12_init 47 = .ok (.aload_n 0, 1) := by decide +kernel
theorem dX12_init_48 : decode cX12_init 48 = .ok (.sipush 144, 3) := by decide +kernel
theorem dX12_init_51 : decode cX12_init 51 = .ok (.newarray .int, 2) := by decide +kernel
theorem dX12_init_53 : decode cX12_init 53 = .ok (.putfield 26, 3) := by decide +kernel
theorem dX12_init_56 : decode cX12_init 56 = .ok (.aload_n 0, 1) := by decide +kernel
theorem dX12_init_57 : decode cX12_init 57 = .ok (.sipush 144, 3) := by decide +kernel
theorem dX12_init_60 : decode cX12_init 60 = .ok (.newarray .int, 2) := by decide +kernel
theorem dX12_init_62 : decode cX12_init 62 = .ok (.putfield 29, 3) := by decide +kernel
theorem dX12_init_65 : decode cX12_init 65 = .ok (.aload_n 0, 1) := by decide +kernel
theorem dX12_init_66 : decode cX12_init 66 = .ok (.bipush 12, 2) := by decide +kernel
theorem dX12_init_68 : decode cX12_init 68 = .ok (.newarray .boolean, 2) := by decide +kernel
theorem dX12_init_70 : decode cX12_init 70 = .ok (.putfield 32, 3) := by decide +kernel
theorem dX12_init_73 : decode cX12_init 73 = .ok (.aload_n 0, 1) := by decide +kernel
theorem dX12_init_74 : decode cX12_init 74 = .ok (.sipush 144, 3) := by decide +kernel
theorem dX12_init_77 : decode cX12_init 77 = .ok (.newarray .boolean, 2) := by decide +kernel
theorem dX12_init_79 : decode cX12_init 79 = .ok (.putfield 36, 3) := by decide +kernel
theorem dX12_init_82 : decode cX12_init 82 = .ok (.aload_n 0, 1) := by decide +kernel
theorem dX12_init_83 : decode cX12_init 83 = .ok (.sipush 4096, 3) := by decide +kernel
theorem dX12_init_86 : decode cX12_init 86 = .ok (.newarray .int, 2) := by decide +kernel
theorem dX12_init_88 : decode cX12_init 88 = .ok (.putfield 39, 3) := by decide +kernel
theorem dX12_init_91 : decode cX12_init 91 = .ok (.aload_n 0, 1) := by decide +kernel
theorem dX12_init_92 : decode cX12_init 92 = .ok (.sipush 4096, 3) := by decide +kernel
theorem dX12_init_95 : decode cX12_init 95 = .ok (.newarray .int, 2) := by decide +kernel
theorem dX12_init_97 : decode cX12_init 97 = .ok (.putfield 42, 3) := by decide +kernel
theorem dX12_init_100 : decode cX12_init 100 = .ok (.aload_n 0, 1) := by decide +kernel
theorem dX12_init_101 : decode cX12_init 101 = .ok (.sipush 4096, 3) := by decide +kernel
theorem dX12_init_104 : decode cX12_init 104 = .ok (.newarray .int, 2) := by decide +kernel
theorem dX12_init_106 : decode cX12_init 106 = .ok (.putfield 45, 3) := by decide +kernel
theorem dX12_init_109 : decode cX12_init 109 = .ok (.aload_n 0, 1) := by decide +kernel
theorem dX12_init_110 : decode cX12_init 110 = .ok (.sipush 4096, 3) := by decide +kernel
theorem dX12_init_113 : decode cX12_init 113 = .ok (.newarray .int, 2) := by decide +kernel
theorem dX12_init_115 : decode cX12_init 115 = .ok (.putfield 48, 3) := by decide +kernel
theorem dX12_init_118 : decode cX12_init 118 = .ok (.aload_n 0, 1) := by decide +kernel
theorem dX12_init_119 : decode cX12_init 119 = .ok (.sipush 4096, 3) := by decide +kernel
theorem dX12_init_122 : decode cX12_init 122 = .ok (.newarray .boolean, 2) := by decide +kernel
theorem dX12_init_124 : decode cX12_init 124 = .ok (.putfield 51, 3) := by decide +kernel
theorem dX12_init_127 : decode cX12_init 127 = .ok (.aload_n 0, 1) := by decide +kernel
theorem dX12_init_128 : decode cX12_init 128 = .ok (.bipush 12, 2) := by decide +kernel
theorem dX12_init_130 : decode cX12_init 130 = .ok (.newarray .int, 2) := by decide +kernel
theorem dX12_init_132 : decode cX12_init 132 = .ok (.putfield 54, 3) := by decide +kernel
theorem dX12_init_135 : decode cX12_init 135 = .ok (.aload_n 0, 1) := by decide +kernel
theorem dX12_init_136 : decode cX12_init 136 = .ok (.bipush 10, 2) := by decide +kernel
theorem dX12_init_138 : decode cX12_init 138 = .ok (.newarray .int, 2) := by decide +kernel
theorem dX12_init_140 : decode cX12_init 140 = .ok (.putfield 57, 3) := by decide +kernel
theorem dX12_init_143 : decode cX12_init 143 = .ok (.aload_n 0, 1) := by decide +kernel
theorem dX12_init_144 : decode cX12_init 144 = .ok (.bipush 20, 2) := by decide +kernel
theorem dX12_init_146 : decode cX12_init 146 = .ok (.newarray .int, 2) := by decide +kernel
theorem dX12_init_148 : decode cX12_init 148 = .ok (.putfield 60, 3) := by decide +kernel
theorem dX12_init_151 : decode cX12_init 151 = .ok (.aload_n 0, 1) := by decide +kernel
theorem dX12_init_152 : decode cX12_init 152 = .ok (.bipush 20, 2) := by decide +kernel
theorem dX12_init_154 : decode cX12_init 154 = .ok (.newarray .int, 2) := by decide +kernel
theorem dX12_init_156 : decode cX12_init 156 = .ok (.putfield 63, 3) := by decide +kernel
theorem dX12_init_159 : decode cX12_init 159 = .ok (.aload_n 0, 1) := by decide +kernel
theorem dX12_init_160 : decode cX12_init 160 = .ok (.bipush 20, 2) := by decide +kernel
theorem dX12_init_162 : decode cX12_init 162 = .ok (.newarray .int, 2) := by decide +kernel
theorem dX12_init_164 : decode cX12_init 164 = .ok (.putfield 66, 3) := by decide +kernel
theorem dX12_init_167 : decode cX12_init 167 = .ok (.aload_n 0, 1) := by decide +kernel
theorem dX12_init_168 : decode cX12_init 168 = .ok (.sipush 2010, 3) := by decide +kernel
theorem dX12_init_171 : decode cX12_init 171 = .ok (.newarray .int, 2) := by decide +kernel
theorem dX12_init_173 : decode cX12_init 173 = .ok (.putfield 69, 3) := by decide +kernel
theorem dX12_init_176 : decode cX12_init 176 = .ok (.aload_n 0, 1) := by decide +kernel
theorem dX12_init_177 : decode cX12_init 177 = .ok (.bipush 10, 2) := by decide +kernel
theorem dX12_init_179 : decode cX12_init 179 = .ok (.newarray .int, 2) := by decide +kernel
theorem dX12_init_181 : decode cX12_init 181 = .ok (.putfield 72, 3) := by decide +kernel
theorem dX12_init_184 : decode cX12_init 184 = .ok (.iconst 0, 1) := by decide +kernel
theorem dX12_init_185 : decode cX12_init 185 = .ok (.istore_n 1, 1) := by decide +kernel
theorem dX12_init_186 : decode cX12_init 186 = .ok (.iload_n 1, 1) := by decide +kernel
theorem dX12_init_187 : decode cX12_init 187 = .ok (.bipush 12, 2) := by decide +kernel
theorem dX12_init_189 : decode cX12_init 189 = .ok (.if_icmp .ge 16, 3) := by decide +kernel
theorem dX12_init_192 : decode cX12_init 192 = .ok (.aload_n 0, 1) := by decide +kernel
theorem dX12_init_193 : decode cX12_init 193 = .ok (.getfield 13, 3) := by decide +kernel
theorem dX12_init_196 : decode cX12_init 196 = .ok (.iload_n 1, 1) := by decide +kernel
theorem dX12_init_197 : decode cX12_init 197 = .ok (.iconst (-1), 1) := by decide +kernel
theorem dX12_init_198 : decode cX12_init 198 = .ok (.iastore, 1) := by decide +kernel
theorem dX12_init_199 : decode cX12_init 199 = .ok (.iinc 1 1, 3) := by decide +kernel
theorem dX12_init_202 : decode cX12_init 202 = .ok (.goto (-16), 3) := by decide +kernel
theorem dX12_init_205 : decode cX12_init 205 = .ok (.return_, 1) := by decide +kernel
theorem dX12_thrown_0 : decode cX12_thrown 0 = .ok (.aload_n 0, 1) := by decide +kernel
theorem dX12_thrown_1 : decode cX12_thrown 1 = .ok (.getfield 75, 3) := by decide +kernel
theorem dX12_thrown_4 : decode cX12_thrown 4 = .ok (.ireturn, 1) := by decide +kernel
theorem dX12_isIn_0 : decode cX12_isIn 0 = .ok (.iload_n 0, 1) := by decide +kernel
theorem dX12_isIn_1 : decode cX12_isIn 1 = .ok (.iload_n 1, 1) := by decide +kernel
theorem dX12_isIn_2 : decode cX12_isIn 2 = .ok (.if_icmp .lt 12, 3) := by decide +kernel
theorem dX12_isIn_5 : decode cX12_isIn 5 = .ok (.iload_n 0, 1) := by decide +kernel
theorem dX12_isIn_6 : decode cX12_isIn 6 = .ok (.iload_n 2, 1) := by decide +kernel
theorem dX12_isIn_7 : decode cX12_isIn 7 = .ok (.if_icmp .gt 7, 3) := by decide +kernel
theorem dX12_isIn_10 : decode cX12_isIn 10 = .ok (.iconst 1, 1) := by decide +kernel
theorem dX12_isIn_11 : decode cX12_isIn 11 = .ok (.goto 4, 3) := by decide +kernel
theorem dX12_isIn_14 : decode cX12_isIn 14 = .ok (.iconst 0, 1) := by decide +kernel
theorem dX12_isIn_15 : decode cX12_isIn 15 = .ok (.ireturn, 1) := by decide +kernel
theorem dX12_isSignal_0 : decode cX12_isSignal 0 = .ok (.iload_n 0, 1) := by decide +kernel
theorem dX12_isSignal_1 : decode cX12_isSignal 1 = .ok (.ifCond .lt 13, 3) := by decide +kernel
theorem dX12_isSignal_4 : decode cX12_isSignal 4 = .ok (.iload_n 0, 1) := by decide +kernel
theorem dX12_isSignal_5 : decode cX12_isSignal 5 = .ok (.bipush 12, 2) := by decide +kernel
theorem dX12_isSignal_7 : decode cX12_isSignal 7 = .ok (.if_icmp .ge 7, 3) := by decide +kernel
theorem dX12_isSignal_10 : decode cX12_isSignal 10 = .ok (.iconst 1, 1) := by decide +kernel
theorem dX12_isSignal_11 : decode cX12_isSignal 11 = .ok (.goto 4, 3) := by decide +kernel
theorem dX12_isSignal_14 : decode cX12_isSignal 14 = .ok (.iconst 0, 1) := by decide +kernel
theorem dX12_isSignal_15 : decode cX12_isSignal 15 = .ok (.ireturn, 1) := by decide +kernel
theorem dX12_isState_0 : decode cX12_isState 0 = .ok (.iload_n 0, 1) := by decide +kernel
theorem dX12_isState_1 : decode cX12_isState 1 = .ok (.ifCond .lt 14, 3) := by decide +kernel
theorem dX12_isState_4 : decode cX12_isState 4 = .ok (.iload_n 0, 1) := by decide +kernel
theorem dX12_isState_5 : decode cX12_isState 5 = .ok (.sipush 4096, 3) := by decide +kernel
theorem dX12_isState_8 : decode cX12_isState 8 = .ok (.if_icmp .ge 7, 3) := by decide +kernel
theorem dX12_isState_11 : decode cX12_isState 11 = .ok (.iconst 1, 1) := by decide +kernel
theorem dX12_isState_12 : decode cX12_isState 12 = .ok (.goto 4, 3) := by decide +kernel
theorem dX12_isState_15 : decode cX12_isState 15 = .ok (.iconst 0, 1) := by decide +kernel
theorem dX12_isState_16 : decode cX12_isState 16 = .ok (.ireturn, 1) := by decide +kernel
theorem dX12_bytesIn_0 : decode cX12_bytesIn 0 = .ok (.iconst 0, 1) := by decide +kernel
theorem dX12_bytesIn_1 : decode cX12_bytesIn 1 = .ok (.istore_n 1, 1) := by decide +kernel
theorem dX12_bytesIn_2 : decode cX12_bytesIn 2 = .ok (.bipush 24, 2) := by decide +kernel
theorem dX12_bytesIn_4 : decode cX12_bytesIn 4 = .ok (.istore_n 2, 1) := by decide +kernel
theorem dX12_bytesIn_5 : decode cX12_bytesIn 5 = .ok (.iload_n 2, 1) := by decide +kernel
theorem dX12_bytesIn_6 : decode cX12_bytesIn 6 = .ok (.ifCond .lt 27, 3) := by decide +kernel
theorem dX12_bytesIn_9 : decode cX12_bytesIn 9 = .ok (.iload_n 1, 1) := by decide +kernel
theorem dX12_bytesIn_10 : decode cX12_bytesIn 10 = .ok (.iload_n 0, 1) := by decide +kernel
theorem dX12_bytesIn_11 : decode cX12_bytesIn 11 = .ok (.iload_n 2, 1) := by decide +kernel
theorem dX12_bytesIn_12 : decode cX12_bytesIn 12 = .ok (.ishr, 1) := by decide +kernel
theorem dX12_bytesIn_13 : decode cX12_bytesIn 13 = .ok (.sipush 255, 3) := by decide +kernel
theorem dX12_bytesIn_16 : decode cX12_bytesIn 16 = .ok (.iand, 1) := by decide +kernel
theorem dX12_bytesIn_17 : decode cX12_bytesIn 17 = .ok (.ifCond .eq 7, 3) := by decide +kernel
theorem dX12_bytesIn_20 : decode cX12_bytesIn 20 = .ok (.iconst 1, 1) := by decide +kernel
theorem dX12_bytesIn_21 : decode cX12_bytesIn 21 = .ok (.goto 4, 3) := by decide +kernel
theorem dX12_bytesIn_24 : decode cX12_bytesIn 24 = .ok (.iconst 0, 1) := by decide +kernel
theorem dX12_bytesIn_25 : decode cX12_bytesIn 25 = .ok (.iadd, 1) := by decide +kernel
theorem dX12_bytesIn_26 : decode cX12_bytesIn 26 = .ok (.istore_n 1, 1) := by decide +kernel
theorem dX12_bytesIn_27 : decode cX12_bytesIn 27 = .ok (.iinc 2 (-8), 3) := by decide +kernel
theorem dX12_bytesIn_30 : decode cX12_bytesIn 30 = .ok (.goto (-25), 3) := by decide +kernel
theorem dX12_bytesIn_33 : decode cX12_bytesIn 33 = .ok (.iload_n 1, 1) := by decide +kernel
theorem dX12_bytesIn_34 : decode cX12_bytesIn 34 = .ok (.ireturn, 1) := by decide +kernel
theorem dX12_put_0 : decode cX12_put 0 = .ok (.bipush 24, 2) := by decide +kernel
theorem dX12_put_2 : decode cX12_put 2 = .ok (.istore_n 2, 1) := by decide +kernel
theorem dX12_put_3 : decode cX12_put 3 = .ok (.iload_n 2, 1) := by decide +kernel
theorem dX12_put_4 : decode cX12_put 4 = .ok (.ifCond .lt 45, 3) := by decide +kernel
theorem dX12_put_7 : decode cX12_put 7 = .ok (.iload_n 1, 1) := by decide +kernel
theorem dX12_put_8 : decode cX12_put 8 = .ok (.iload_n 2, 1) := by decide +kernel
theorem dX12_put_9 : decode cX12_put 9 = .ok (.ishr, 1) := by decide +kernel
theorem dX12_put_10 : decode cX12_put 10 = .ok (.sipush 255, 3) := by decide +kernel
theorem dX12_put_13 : decode cX12_put 13 = .ok (.iand, 1) := by decide +kernel
theorem dX12_put_14 : decode cX12_put 14 = .ok (.ifCond .ne 6, 3) := by decide +kernel
theorem dX12_put_17 : decode cX12_put 17 = .ok (.goto 26, 3) := by decide +kernel
theorem dX12_put_20 : decode cX12_put 20 = .ok (.aload_n 0, 1) := by decide +kernel
theorem dX12_put_21 : decode cX12_put 21 = .ok (.getfield 9, 3) := by decide +kernel
theorem dX12_put_24 : decode cX12_put 24 = .ok (.aload_n 0, 1) := by decide +kernel
theorem dX12_put_25 : decode cX12_put 25 = .ok (.getfield 79, 3) := by decide +kernel
theorem dX12_put_28 : decode cX12_put 28 = .ok (.iload_n 1, 1) := by decide +kernel
theorem dX12_put_29 : decode cX12_put 29 = .ok (.iload_n 2, 1) := by decide +kernel
theorem dX12_put_30 : decode cX12_put 30 = .ok (.ishr, 1) := by decide +kernel
theorem dX12_put_31 : decode cX12_put 31 = .ok (.i2b, 1) := by decide +kernel
theorem dX12_put_32 : decode cX12_put 32 = .ok (.bastore, 1) := by decide +kernel
theorem dX12_put_33 : decode cX12_put 33 = .ok (.aload_n 0, 1) := by decide +kernel
theorem dX12_put_34 : decode cX12_put 34 = .ok (.dup, 1) := by decide +kernel
theorem dX12_put_35 : decode cX12_put 35 = .ok (.getfield 79, 3) := by decide +kernel
theorem dX12_put_38 : decode cX12_put 38 = .ok (.iconst 1, 1) := by decide +kernel
theorem dX12_put_39 : decode cX12_put 39 = .ok (.iadd, 1) := by decide +kernel
theorem dX12_put_40 : decode cX12_put 40 = .ok (.putfield 79, 3) := by decide +kernel
theorem dX12_put_43 : decode cX12_put 43 = .ok (.iinc 2 (-8), 3) := by decide +kernel
theorem dX12_put_46 : decode cX12_put 46 = .ok (.goto (-43), 3) := by decide +kernel
theorem dX12_put_49 : decode cX12_put 49 = .ok (.return_, 1) := by decide +kernel
theorem dX12_feed_0 : decode cX12_feed 0 = .ok (.aload_n 0, 1) := by decide +kernel
theorem dX12_feed_1 : decode cX12_feed 1 = .ok (.iconst 0, 1) := by decide +kernel
theorem dX12_feed_2 : decode cX12_feed 2 = .ok (.putfield 75, 3) := by decide +kernel
theorem dX12_feed_5 : decode cX12_feed 5 = .ok (.aload_n 0, 1) := by decide +kernel
theorem dX12_feed_6 : decode cX12_feed 6 = .ok (.getfield 79, 3) := by decide +kernel
theorem dX12_feed_9 : decode cX12_feed 9 = .ok (.iload_n 1, 1) := by decide +kernel
theorem dX12_feed_10 : decode cX12_feed 10 = .ok (.invokestatic 82, 3) := by decide +kernel
theorem dX12_feed_13 : decode cX12_feed 13 = .ok (.iadd, 1) := by decide +kernel
theorem dX12_feed_14 : decode cX12_feed 14 = .ok (.iload_n 2, 1) := by decide +kernel
theorem dX12_feed_15 : decode cX12_feed 15 = .ok (.invokestatic 82, 3) := by decide +kernel
theorem dX12_feed_18 : decode cX12_feed 18 = .ok (.iadd, 1) := by decide +kernel
theorem dX12_feed_19 : decode cX12_feed 19 = .ok (.iload_n 3, 1) := by decide +kernel
theorem dX12_feed_20 : decode cX12_feed 20 = .ok (.invokestatic 82, 3) := by decide +kernel
theorem dX12_feed_23 : decode cX12_feed 23 = .ok (.iadd, 1) := by decide +kernel
theorem dX12_feed_24 : decode cX12_feed 24 = .ok (.iload 4, 2) := by decide +kernel
theorem dX12_feed_26 : decode cX12_feed 26 = .ok (.invokestatic 82, 3) := by decide +kernel
theorem dX12_feed_29 : decode cX12_feed 29 = .ok (.iadd, 1) := by decide +kernel
theorem dX12_feed_30 : decode cX12_feed 30 = .ok (.iload 5, 2) := by decide +kernel
theorem dX12_feed_32 : decode cX12_feed 32 = .ok (.invokestatic 82, 3) := by decide +kernel
theorem dX12_feed_35 : decode cX12_feed 35 = .ok (.iadd, 1) := by decide +kernel
theorem dX12_feed_36 : decode cX12_feed 36 = .ok (.sipush 300, 3) := by decide +kernel
theorem dX12_feed_39 : decode cX12_feed 39 = .ok (.if_icmp .le 5, 3) := by decide +kernel
theorem dX12_feed_42 : decode cX12_feed 42 = .ok (.iconst (-1), 1) := by decide +kernel
theorem dX12_feed_43 : decode cX12_feed 43 = .ok (.ireturn, 1) := by decide +kernel
theorem dX12_feed_44 : decode cX12_feed 44 = .ok (.aload_n 0, 1) := by decide +kernel
theorem dX12_feed_45 : decode cX12_feed 45 = .ok (.iload_n 1, 1) := by decide +kernel
theorem dX12_feed_46 : decode cX12_feed 46 = .ok (.invokevirtual 86, 3) := by decide +kernel
theorem dX12_feed_49 : decode cX12_feed 49 = .ok (.aload_n 0, 1) := by decide +kernel
theorem dX12_feed_50 : decode cX12_feed 50 = .ok (.iload_n 2, 1) := by decide +kernel
theorem dX12_feed_51 : decode cX12_feed 51 = .ok (.invokevirtual 86, 3) := by decide +kernel
theorem dX12_feed_54 : decode cX12_feed 54 = .ok (.aload_n 0, 1) := by decide +kernel
theorem dX12_feed_55 : decode cX12_feed 55 = .ok (.iload_n 3, 1) := by decide +kernel
theorem dX12_feed_56 : decode cX12_feed 56 = .ok (.invokevirtual 86, 3) := by decide +kernel
theorem dX12_feed_59 : decode cX12_feed 59 = .ok (.aload_n 0, 1) := by decide +kernel
theorem dX12_feed_60 : decode cX12_feed 60 = .ok (.iload 4, 2) := by decide +kernel
theorem dX12_feed_62 : decode cX12_feed 62 = .ok (.invokevirtual 86, 3) := by decide +kernel
theorem dX12_feed_65 : decode cX12_feed 65 = .ok (.aload_n 0, 1) := by decide +kernel
theorem dX12_feed_66 : decode cX12_feed 66 = .ok (.iload 5, 2) := by decide +kernel
theorem dX12_feed_68 : decode cX12_feed 68 = .ok (.invokevirtual 86, 3) := by decide +kernel
theorem dX12_feed_71 : decode cX12_feed 71 = .ok (.aload_n 0, 1) := by decide +kernel
theorem dX12_feed_72 : decode cX12_feed 72 = .ok (.getfield 79, 3) := by decide +kernel
theorem dX12_feed_75 : decode cX12_feed 75 = .ok (.ireturn, 1) := by decide +kernel
theorem dX12_end_0 : decode cX12_end 0 = .ok (.aload_n 0, 1) := by decide +kernel
theorem dX12_end_1 : decode cX12_end 1 = .ok (.iconst 0, 1) := by decide +kernel
theorem dX12_end_2 : decode cX12_end 2 = .ok (.putfield 75, 3) := by decide +kernel
theorem dX12_end_5 : decode cX12_end 5 = .ok (.iload_n 1, 1) := by decide +kernel
theorem dX12_end_6 : decode cX12_end 6 = .ok (.ifCond .lt 11, 3) := by decide +kernel
theorem dX12_end_9 : decode cX12_end 9 = .ok (.iload_n 1, 1) := by decide +kernel
theorem dX12_end_10 : decode cX12_end 10 = .ok (.aload_n 0, 1) := by decide +kernel
theorem dX12_end_11 : decode cX12_end 11 = .ok (.getfield 79, 3) := by decide +kernel
theorem dX12_end_14 : decode cX12_end 14 = .ok (.if_icmp .le 5, 3) := by decide +kernel
theorem dX12_end_17 : decode cX12_end 17 = .ok (.iconst 0, 1) := by decide +kernel
theorem dX12_end_18 : decode cX12_end 18 = .ok (.ireturn, 1) := by decide +kernel
theorem dX12_end_19 : decode cX12_end 19 = .ok (.aload_n 0, 1) := by decide +kernel
theorem dX12_end_20 : decode cX12_end 20 = .ok (.iload_n 1, 1) := by decide +kernel
theorem dX12_end_21 : decode cX12_end 21 = .ok (.putfield 79, 3) := by decide +kernel
theorem dX12_end_24 : decode cX12_end 24 = .ok (.iconst 1, 1) := by decide +kernel
theorem dX12_end_25 : decode cX12_end 25 = .ok (.ireturn, 1) := by decide +kernel
theorem dX12_look_0 : decode cX12_look 0 = .ok (.aload_n 0, 1) := by decide +kernel
theorem dX12_look_1 : decode cX12_look 1 = .ok (.getfield 90, 3) := by decide +kernel
theorem dX12_look_4 : decode cX12_look 4 = .ok (.aload_n 0, 1) := by decide +kernel
theorem dX12_look_5 : decode cX12_look 5 = .ok (.getfield 79, 3) := by decide +kernel
theorem dX12_look_8 : decode cX12_look 8 = .ok (.if_icmp .ge 30, 3) := by decide +kernel
theorem dX12_look_11 : decode cX12_look 11 = .ok (.aload_n 0, 1) := by decide +kernel
theorem dX12_look_12 : decode cX12_look 12 = .ok (.getfield 9, 3) := by decide +kernel
theorem dX12_look_15 : decode cX12_look 15 = .ok (.aload_n 0, 1) := by decide +kernel
theorem dX12_look_16 : decode cX12_look 16 = .ok (.getfield 90, 3) := by decide +kernel
theorem dX12_look_19 : decode cX12_look 19 = .ok (.baload, 1) := by decide +kernel
theorem dX12_look_20 : decode cX12_look 20 = .ok (.bipush 32, 2) := by decide +kernel
theorem dX12_look_22 : decode cX12_look 22 = .ok (.if_icmp .ne 16, 3) := by decide +kernel
theorem dX12_look_25 : decode cX12_look 25 = .ok (.aload_n 0, 1) := by decide +kernel
theorem dX12_look_26 : decode cX12_look 26 = .ok (.dup, 1) := by decide +kernel
theorem dX12_look_27 : decode cX12_look 27 = .ok (.getfield 90, 3) := by decide +kernel
theorem dX12_look_30 : decode cX12_look 30 = .ok (.iconst 1, 1) := by decide +kernel
theorem dX12_look_31 : decode cX12_look 31 = .ok (.iadd, 1) := by decide +kernel
theorem dX12_look_32 : decode cX12_look 32 = .ok (.putfield 90, 3) := by decide +kernel
theorem dX12_look_35 : decode cX12_look 35 = .ok (.goto (-35), 3) := by decide +kernel
theorem dX12_look_38 : decode cX12_look 38 = .ok (.aload_n 0, 1) := by decide +kernel
theorem dX12_look_39 : decode cX12_look 39 = .ok (.getfield 90, 3) := by decide +kernel
theorem dX12_look_42 : decode cX12_look 42 = .ok (.aload_n 0, 1) := by decide +kernel
theorem dX12_look_43 : decode cX12_look 43 = .ok (.getfield 79, 3) := by decide +kernel
theorem dX12_look_46 : decode cX12_look 46 = .ok (.if_icmp .ge 19, 3) := by decide +kernel
theorem dX12_look_49 : decode cX12_look 49 = .ok (.aload_n 0, 1) := by decide +kernel
theorem dX12_look_50 : decode cX12_look 50 = .ok (.getfield 9, 3) := by decide +kernel
theorem dX12_look_53 : decode cX12_look 53 = .ok (.aload_n 0, 1) := by decide +kernel
theorem dX12_look_54 : decode cX12_look 54 = .ok (.getfield 90, 3) := by decide +kernel
theorem dX12_look_57 : decode cX12_look 57 = .ok (.baload, 1) := by decide +kernel
theorem dX12_look_58 : decode cX12_look 58 = .ok (.sipush 255, 3) := by decide +kernel
theorem dX12_look_61 : decode cX12_look 61 = .ok (.iand, 1) := by decide +kernel
theorem dX12_look_62 : decode cX12_look 62 = .ok (.goto 4, 3) := by decide +kernel
theorem dX12_look_65 : decode cX12_look 65 = .ok (.iconst (-1), 1) := by decide +kernel
theorem dX12_look_66 : decode cX12_look 66 = .ok (.ireturn, 1) := by decide +kernel
theorem dX12_isLetter_0 : decode cX12_isLetter 0 = .ok (.iload_n 0, 1) := by decide +kernel
theorem dX12_isLetter_1 : decode cX12_isLetter 1 = .ok (.bipush 97, 2) := by decide +kernel
theorem dX12_isLetter_3 : decode cX12_isLetter 3 = .ok (.if_icmp .lt 13, 3) := by decide +kernel
theorem dX12_isLetter_6 : decode cX12_isLetter 6 = .ok (.iload_n 0, 1) := by decide +kernel
theorem dX12_isLetter_7 : decode cX12_isLetter 7 = .ok (.bipush 109, 2) := by decide +kernel
theorem dX12_isLetter_9 : decode cX12_isLetter 9 = .ok (.if_icmp .ge 7, 3) := by decide +kernel
theorem dX12_isLetter_12 : decode cX12_isLetter 12 = .ok (.iconst 1, 1) := by decide +kernel
theorem dX12_isLetter_13 : decode cX12_isLetter 13 = .ok (.goto 4, 3) := by decide +kernel
theorem dX12_isLetter_16 : decode cX12_isLetter 16 = .ok (.iconst 0, 1) := by decide +kernel
theorem dX12_isLetter_17 : decode cX12_isLetter 17 = .ok (.ireturn, 1) := by decide +kernel
theorem dX12_read_0 : decode cX12_read 0 = .ok (.aload_n 0, 1) := by decide +kernel
theorem dX12_read_1 : decode cX12_read 1 = .ok (.iconst 0, 1) := by decide +kernel
theorem dX12_read_2 : decode cX12_read 2 = .ok (.putfield 90, 3) := by decide +kernel
theorem dX12_read_5 : decode cX12_read 5 = .ok (.iconst 0, 1) := by decide +kernel
theorem dX12_read_6 : decode cX12_read 6 = .ok (.istore_n 1, 1) := by decide +kernel
theorem dX12_read_7 : decode cX12_read 7 = .ok (.iload_n 1, 1) := by decide +kernel
theorem dX12_read_8 : decode cX12_read 8 = .ok (.bipush 12, 2) := by decide +kernel
theorem dX12_read_10 : decode cX12_read 10 = .ok (.if_icmp .ge 16, 3) := by decide +kernel
theorem dX12_read_13 : decode cX12_read 13 = .ok (.aload_n 0, 1) := by decide +kernel
theorem dX12_read_14 : decode cX12_read 14 = .ok (.getfield 23, 3) := by decide +kernel
theorem dX12_read_17 : decode cX12_read 17 = .ok (.iload_n 1, 1) := by decide +kernel
theorem dX12_read_18 : decode cX12_read 18 = .ok (.iconst (-1), 1) := by decide +kernel
theorem dX12_read_19 : decode cX12_read 19 = .ok (.iastore, 1) := by decide +kernel
theorem dX12_read_20 : decode cX12_read 20 = .ok (.iinc 1 1, 3) := by decide +kernel
theorem dX12_read_23 : decode cX12_read 23 = .ok (.goto (-16), 3) := by decide +kernel
theorem dX12_read_26 : decode cX12_read 26 = .ok (.aload_n 0, 1) := by decide +kernel
theorem dX12_read_27 : decode cX12_read 27 = .ok (.invokevirtual 93, 3) := by decide +kernel
theorem dX12_read_30 : decode cX12_read 30 = .ok (.iconst (-1), 1) := by decide +kernel
theorem dX12_read_31 : decode cX12_read 31 = .ok (.if_icmp .ne 5, 3) := by decide +kernel
theorem dX12_read_34 : decode cX12_read 34 = .ok (.iconst (-1), 1) := by decide +kernel
theorem dX12_read_35 : decode cX12_read 35 = .ok (.ireturn, 1) := by decide +kernel
theorem dX12_read_36 : decode cX12_read 36 = .ok (.aload_n 0, 1) := by decide +kernel
theorem dX12_read_37 : decode cX12_read 37 = .ok (.invokevirtual 97, 3) := by decide +kernel
theorem dX12_read_40 : decode cX12_read 40 = .ok (.ifCond .ne 8, 3) := by decide +kernel
theorem dX12_read_43 : decode cX12_read 43 = .ok (.aload_n 0, 1) := by decide +kernel
theorem dX12_read_44 : decode cX12_read 44 = .ok (.getfield 90, 3) := by decide +kernel
theorem dX12_read_47 : decode cX12_read 47 = .ok (.ireturn, 1) := by decide +kernel
theorem dX12_read_48 : decode cX12_read 48 = .ok (.aload_n 0, 1) := by decide +kernel
theorem dX12_read_49 : decode cX12_read 49 = .ok (.invokevirtual 93, 3) := by decide +kernel
theorem dX12_read_52 : decode cX12_read 52 = .ok (.bipush 59, 2) := by decide +kernel
theorem dX12_read_54 : decode cX12_read 54 = .ok (.if_icmp .ne 25, 3) := by decide +kernel
theorem dX12_read_57 : decode cX12_read 57 = .ok (.aload_n 0, 1) := by decide +kernel
theorem dX12_read_58 : decode cX12_read 58 = .ok (.dup, 1) := by decide +kernel
theorem dX12_read_59 : decode cX12_read 59 = .ok (.getfield 90, 3) := by decide +kernel
theorem dX12_read_62 : decode cX12_read 62 = .ok (.iconst 1, 1) := by decide +kernel
theorem dX12_read_63 : decode cX12_read 63 = .ok (.iadd, 1) := by decide +kernel
theorem dX12_read_64 : decode cX12_read 64 = .ok (.putfield 90, 3) := by decide +kernel
theorem dX12_read_67 : decode cX12_read 67 = .ok (.aload_n 0, 1) := by decide +kernel
theorem dX12_read_68 : decode cX12_read 68 = .ok (.invokevirtual 97, 3) := by decide +kernel
theorem dX12_read_71 : decode cX12_read 71 = .ok (.ifCond .ne (-23), 3) := by decide +kernel
theorem dX12_read_74 : decode cX12_read 74 = .ok (.aload_n 0, 1) := by decide +kernel
theorem dX12_read_75 : decode cX12_read 75 = .ok (.getfield 90, 3) := by decide +kernel
theorem dX12_read_78 : decode cX12_read 78 = .ok (.ireturn, 1) := by decide +kernel
theorem dX12_read_79 : decode cX12_read 79 = .ok (.aload_n 0, 1) := by decide +kernel
theorem dX12_read_80 : decode cX12_read 80 = .ok (.invokevirtual 93, 3) := by decide +kernel
theorem dX12_read_83 : decode cX12_read 83 = .ok (.iconst (-1), 1) := by decide +kernel
theorem dX12_read_84 : decode cX12_read 84 = .ok (.if_icmp .ne 7, 3) := by decide +kernel
theorem dX12_read_87 : decode cX12_read 87 = .ok (.iconst (-1), 1) := by decide +kernel
theorem dX12_read_88 : decode cX12_read 88 = .ok (.goto 7, 3) := by decide +kernel
theorem dX12_read_91 : decode cX12_read 91 = .ok (.aload_n 0, 1) := by decide +kernel
theorem dX12_read_92 : decode cX12_read 92 = .ok (.getfield 90, 3) := by decide +kernel
theorem dX12_read_95 : decode cX12_read 95 = .ok (.ireturn, 1) := by decide +kernel
theorem dX12_equation_0 : decode cX12_equation 0 = .ok (.aload_n 0, 1) := by decide +kernel
theorem dX12_equation_1 : decode cX12_equation 1 = .ok (.invokevirtual 93, 3) := by decide +kernel
theorem dX12_equation_4 : decode cX12_equation 4 = .ok (.istore_n 1, 1) := by decide +kernel
theorem dX12_equation_5 : decode cX12_equation 5 = .ok (.iload_n 1, 1) := by decide +kernel
theorem dX12_equation_6 : decode cX12_equation 6 = .ok (.invokestatic 101, 3) := by decide +kernel
theorem dX12_equation_9 : decode cX12_equation 9 = .ok (.ifCond .eq 16, 3) := by decide +kernel
theorem dX12_equation_12 : decode cX12_equation 12 = .ok (.aload_n 0, 1) := by decide +kernel
theorem dX12_equation_13 : decode cX12_equation 13 = .ok (.getfield 23, 3) := by decide +kernel
theorem dX12_equation_16 : decode cX12_equation 16 = .ok (.iload_n 1, 1) := by decide +kernel
theorem dX12_equation_17 : decode cX12_equation 17 = .ok (.bipush 97, 2) := by decide +kernel
theorem dX12_equation_19 : decode cX12_equation 19 = .ok (.isub, 1) := by decide +kernel
theorem dX12_equation_20 : decode cX12_equation 20 = .ok (.iaload, 1) := by decide +kernel
theorem dX12_equation_21 : decode cX12_equation 21 = .ok (.iconst (-1), 1) := by decide +kernel
theorem dX12_equation_22 : decode cX12_equation 22 = .ok (.if_icmp .eq 5, 3) := by decide +kernel
theorem dX12_equation_25 : decode cX12_equation 25 = .ok (.iconst 0, 1) := by decide +kernel
theorem dX12_equation_26 : decode cX12_equation 26 = .ok (.ireturn, 1) := by decide +kernel
theorem dX12_equation_27 : decode cX12_equation 27 = .ok (.iload_n 1, 1) := by decide +kernel
theorem dX12_equation_28 : decode cX12_equation 28 = .ok (.bipush 97, 2) := by decide +kernel
theorem dX12_equation_30 : decode cX12_equation 30 = .ok (.isub, 1) := by decide +kernel
theorem dX12_equation_31 : decode cX12_equation 31 = .ok (.istore_n 2, 1) := by decide +kernel
theorem dX12_equation_32 : decode cX12_equation 32 = .ok (.aload_n 0, 1) := by decide +kernel
theorem dX12_equation_33 : decode cX12_equation 33 = .ok (.dup, 1) := by decide +kernel
theorem dX12_equation_34 : decode cX12_equation 34 = .ok (.getfield 90, 3) := by decide +kernel
theorem dX12_equation_37 : decode cX12_equation 37 = .ok (.iconst 1, 1) := by decide +kernel
theorem dX12_equation_38 : decode cX12_equation 38 = .ok (.iadd, 1) := by decide +kernel
theorem dX12_equation_39 : decode cX12_equation 39 = .ok (.putfield 90, 3) := by decide +kernel
theorem dX12_equation_42 : decode cX12_equation 42 = .ok (.aload_n 0, 1) := by decide +kernel
theorem dX12_equation_43 : decode cX12_equation 43 = .ok (.invokevirtual 93, 3) := by decide +kernel
theorem dX12_equation_46 : decode cX12_equation 46 = .ok (.bipush 61, 2) := by decide +kernel
theorem dX12_equation_48 : decode cX12_equation 48 = .ok (.if_icmp .eq 5, 3) := by decide +kernel
theorem dX12_equation_51 : decode cX12_equation 51 = .ok (.iconst 0, 1) := by decide +kernel
theorem dX12_equation_52 : decode cX12_equation 52 = .ok (.ireturn, 1) := by decide +kernel
theorem dX12_equation_53 : decode cX12_equation 53 = .ok (.aload_n 0, 1) := by decide +kernel
theorem dX12_equation_54 : decode cX12_equation 54 = .ok (.dup, 1) := by decide +kernel
theorem dX12_equation_55 : decode cX12_equation 55 = .ok (.getfield 90, 3) := by decide +kernel
theorem dX12_equation_58 : decode cX12_equation 58 = .ok (.iconst 1, 1) := by decide +kernel
theorem dX12_equation_59 : decode cX12_equation 59 = .ok (.iadd, 1) := by decide +kernel
theorem dX12_equation_60 : decode cX12_equation 60 = .ok (.putfield 90, 3) := by decide +kernel
theorem dX12_equation_63 : decode cX12_equation 63 = .ok (.aload_n 0, 1) := by decide +kernel
theorem dX12_equation_64 : decode cX12_equation 64 = .ok (.getfield 23, 3) := by decide +kernel
theorem dX12_equation_67 : decode cX12_equation 67 = .ok (.iload_n 2, 1) := by decide +kernel
theorem dX12_equation_68 : decode cX12_equation 68 = .ok (.iconst 0, 1) := by decide +kernel
theorem dX12_equation_69 : decode cX12_equation 69 = .ok (.iastore, 1) := by decide +kernel
theorem dX12_equation_70 : decode cX12_equation 70 = .ok (.aload_n 0, 1) := by decide +kernel
theorem dX12_equation_71 : decode cX12_equation 71 = .ok (.invokevirtual 93, 3) := by decide +kernel
theorem dX12_equation_74 : decode cX12_equation 74 = .ok (.istore_n 1, 1) := by decide +kernel
theorem dX12_equation_75 : decode cX12_equation 75 = .ok (.iload_n 1, 1) := by decide +kernel
theorem dX12_equation_76 : decode cX12_equation 76 = .ok (.bipush 48, 2) := by decide +kernel
theorem dX12_equation_78 : decode cX12_equation 78 = .ok (.if_icmp .eq 9, 3) := by decide +kernel
theorem dX12_equation_81 : decode cX12_equation 81 = .ok (.iload_n 1, 1) := by decide +kernel
theorem dX12_equation_82 : decode cX12_equation 82 = .ok (.bipush 49, 2) := by decide +kernel
theorem dX12_equation_84 : decode cX12_equation 84 = .ok (.if_icmp .ne 62, 3) := by decide +kernel
theorem dX12_equation_87 : decode cX12_equation 87 = .ok (.aload_n 0, 1) := by decide +kernel
theorem dX12_equation_88 : decode cX12_equation 88 = .ok (.dup, 1) := by decide +kernel
theorem dX12_equation_89 : decode cX12_equation 89 = .ok (.getfield 90, 3) := by decide +kernel
theorem dX12_equation_92 : decode cX12_equation 92 = .ok (.iconst 1, 1) := by decide +kernel
theorem dX12_equation_93 : decode cX12_equation 93 = .ok (.iadd, 1) := by decide +kernel
theorem dX12_equation_94 : decode cX12_equation 94 = .ok (.putfield 90, 3) := by decide +kernel
theorem dX12_equation_97 : decode cX12_equation 97 = .ok (.aload_n 0, 1) := by decide +kernel
theorem dX12_equation_98 : decode cX12_equation 98 = .ok (.getfield 26, 3) := by decide +kernel
theorem dX12_equation_101 : decode cX12_equation 101 = .ok (.bipush 12, 2) := by decide +kernel
theorem dX12_equation_103 : decode cX12_equation 103 = .ok (.iload_n 2, 1) := by decide +kernel
theorem dX12_equation_104 : decode cX12_equation 104 = .ok (.imul, 1) := by decide +kernel
theorem dX12_equation_105 : decode cX12_equation 105 = .ok (.iload_n 1, 1) := by decide +kernel
theorem dX12_equation_106 : decode cX12_equation 106 = .ok (.bipush 48, 2) := by decide +kernel
theorem dX12_equation_108 : decode cX12_equation 108 = .ok (.if_icmp .ne 7, 3) := by decide +kernel
theorem dX12_equation_111 : decode cX12_equation 111 = .ok (.iconst 1, 1) := by decide +kernel
theorem dX12_equation_112 : decode cX12_equation 112 = .ok (.goto 4, 3) := by decide +kernel
theorem dX12_equation_115 : decode cX12_equation 115 = .ok (.iconst 0, 1) := by decide +kernel
theorem dX12_equation_116 : decode cX12_equation 116 = .ok (.iastore, 1) := by decide +kernel
theorem dX12_equation_117 : decode cX12_equation 117 = .ok (.aload_n 0, 1) := by decide +kernel
theorem dX12_equation_118 : decode cX12_equation 118 = .ok (.getfield 29, 3) := by decide +kernel
theorem dX12_equation_121 : decode cX12_equation 121 = .ok (.bipush 12, 2) := by decide +kernel
theorem dX12_equation_123 : decode cX12_equation 123 = .ok (.iload_n 2, 1) := by decide +kernel
theorem dX12_equation_124 : decode cX12_equation 124 = .ok (.imul, 1) := by decide +kernel
theorem dX12_equation_125 : decode cX12_equation 125 = .ok (.iload_n 1, 1) := by decide +kernel
theorem dX12_equation_126 : decode cX12_equation 126 = .ok (.bipush 48, 2) := by decide +kernel
theorem dX12_equation_128 : decode cX12_equation 128 = .ok (.if_icmp .ne 7, 3) := by decide +kernel
theorem dX12_equation_131 : decode cX12_equation 131 = .ok (.iconst 1, 1) := by decide +kernel
theorem dX12_equation_132 : decode cX12_equation 132 = .ok (.goto 4, 3) := by decide +kernel
theorem dX12_equation_135 : decode cX12_equation 135 = .ok (.iconst 0, 1) := by decide +kernel
theorem dX12_equation_136 : decode cX12_equation 136 = .ok (.iastore, 1) := by decide +kernel
theorem dX12_equation_137 : decode cX12_equation 137 = .ok (.aload_n 0, 1) := by decide +kernel
theorem dX12_equation_138 : decode cX12_equation 138 = .ok (.getfield 23, 3) := by decide +kernel
theorem dX12_equation_141 : decode cX12_equation 141 = .ok (.iload_n 2, 1) := by decide +kernel
theorem dX12_equation_142 : decode cX12_equation 142 = .ok (.iconst 1, 1) := by decide +kernel
theorem dX12_equation_143 : decode cX12_equation 143 = .ok (.iastore, 1) := by decide +kernel
theorem dX12_equation_144 : decode cX12_equation 144 = .ok (.iconst 1, 1) := by decide +kernel
theorem dX12_equation_145 : decode cX12_equation 145 = .ok (.ireturn, 1) := by decide +kernel
theorem dX12_equation_146 : decode cX12_equation 146 = .ok (.aload_n 0, 1) := by decide +kernel
theorem dX12_equation_147 : decode cX12_equation 147 = .ok (.iload_n 2, 1) := by decide +kernel
theorem dX12_equation_148 : decode cX12_equation 148 = .ok (.invokevirtual 105, 3) := by decide +kernel
theorem dX12_equation_151 : decode cX12_equation 151 = .ok (.ifCond .ne 5, 3) := by decide +kernel
theorem dX12_equation_154 : decode cX12_equation 154 = .ok (.iconst 0, 1) := by decide +kernel
theorem dX12_equation_155 : decode cX12_equation 155 = .ok (.ireturn, 1) := by decide +kernel
theorem dX12_equation_156 : decode cX12_equation 156 = .ok (.aload_n 0, 1) := by decide +kernel
theorem dX12_equation_157 : decode cX12_equation 157 = .ok (.invokevirtual 93, 3) := by decide +kernel
theorem dX12_equation_160 : decode cX12_equation 160 = .ok (.bipush 43, 2) := by decide +kernel
theorem dX12_equation_162 : decode cX12_equation 162 = .ok (.if_icmp .ne 23, 3) := by decide +kernel
theorem dX12_equation_165 : decode cX12_equation 165 = .ok (.aload_n 0, 1) := by decide +kernel
theorem dX12_equation_166 : decode cX12_equation 166 = .ok (.dup, 1) := by decide +kernel
theorem dX12_equation_167 : decode cX12_equation 167 = .ok (.getfield 90, 3) := by decide +kernel
theorem dX12_equation_170 : decode cX12_equation 170 = .ok (.iconst 1, 1) := by decide +kernel
theorem dX12_equation_171 : decode cX12_equation 171 = .ok (.iadd, 1) := by decide +kernel
theorem dX12_equation_172 : decode cX12_equation 172 = .ok (.putfield 90, 3) := by decide +kernel
theorem dX12_equation_175 : decode cX12_equation 175 = .ok (.aload_n 0, 1) := by decide +kernel
theorem dX12_equation_176 : decode cX12_equation 176 = .ok (.iload_n 2, 1) := by decide +kernel
theorem dX12_equation_177 : decode cX12_equation 177 = .ok (.invokevirtual 105, 3) := by decide +kernel
theorem dX12_equation_180 : decode cX12_equation 180 = .ok (.ifCond .ne (-24), 3) := by decide +kernel
theorem dX12_equation_183 : decode cX12_equation 183 = .ok (.iconst 0, 1) := by decide +kernel
theorem dX12_equation_184 : decode cX12_equation 184 = .ok (.ireturn, 1) := by decide +kernel
theorem dX12_equation_185 : decode cX12_equation 185 = .ok (.iconst 1, 1) := by decide +kernel
theorem dX12_equation_186 : decode cX12_equation 186 = .ok (.ireturn, 1) := by decide +kernel
theorem dX12_term_0 : decode cX12_term 0 = .ok (.aload_n 0, 1) := by decide +kernel
theorem dX12_term_1 : decode cX12_term 1 = .ok (.invokevirtual 93, 3) := by decide +kernel
theorem dX12_term_4 : decode cX12_term 4 = .ok (.invokestatic 101, 3) := by decide +kernel
theorem dX12_term_7 : decode cX12_term 7 = .ok (.ifCond .eq 14, 3) := by decide +kernel
theorem dX12_term_10 : decode cX12_term 10 = .ok (.aload_n 0, 1) := by decide +kernel
theorem dX12_term_11 : decode cX12_term 11 = .ok (.getfield 23, 3) := by decide +kernel
theorem dX12_term_14 : decode cX12_term 14 = .ok (.iload_n 1, 1) := by decide +kernel
theorem dX12_term_15 : decode cX12_term 15 = .ok (.iaload, 1) := by decide +kernel
theorem dX12_term_16 : decode cX12_term 16 = .ok (.bipush 12, 2) := by decide +kernel
theorem dX12_term_18 : decode cX12_term 18 = .ok (.if_icmp .ne 5, 3) := by decide +kernel
theorem dX12_term_21 : decode cX12_term 21 = .ok (.iconst 0, 1) := by decide +kernel
theorem dX12_term_22 : decode cX12_term 22 = .ok (.ireturn, 1) := by decide +kernel
theorem dX12_term_23 : decode cX12_term 23 = .ok (.bipush 12, 2) := by decide +kernel
theorem dX12_term_25 : decode cX12_term 25 = .ok (.iload_n 1, 1) := by decide +kernel
theorem dX12_term_26 : decode cX12_term 26 = .ok (.imul, 1) := by decide +kernel
theorem dX12_term_27 : decode cX12_term 27 = .ok (.aload_n 0, 1) := by decide +kernel
theorem dX12_term_28 : decode cX12_term 28 = .ok (.getfield 23, 3) := by decide +kernel
theorem dX12_term_31 : decode cX12_term 31 = .ok (.iload_n 1, 1) := by decide +kernel
theorem dX12_term_32 : decode cX12_term 32 = .ok (.iaload, 1) := by decide +kernel
theorem dX12_term_33 : decode cX12_term 33 = .ok (.iadd, 1) := by decide +kernel
theorem dX12_term_34 : decode cX12_term 34 = .ok (.istore_n 2, 1) := by decide +kernel
theorem dX12_term_35 : decode cX12_term 35 = .ok (.aload_n 0, 1) := by decide +kernel
theorem dX12_term_36 : decode cX12_term 36 = .ok (.getfield 26, 3) := by decide +kernel
theorem dX12_term_39 : decode cX12_term 39 = .ok (.iload_n 2, 1) := by decide +kernel
theorem dX12_term_40 : decode cX12_term 40 = .ok (.iconst 0, 1) := by decide +kernel
theorem dX12_term_41 : decode cX12_term 41 = .ok (.iastore, 1) := by decide +kernel
theorem dX12_term_42 : decode cX12_term 42 = .ok (.aload_n 0, 1) := by decide +kernel
theorem dX12_term_43 : decode cX12_term 43 = .ok (.getfield 29, 3) := by decide +kernel
theorem dX12_term_46 : decode cX12_term 46 = .ok (.iload_n 2, 1) := by decide +kernel
theorem dX12_term_47 : decode cX12_term 47 = .ok (.iconst 0, 1) := by decide +kernel
theorem dX12_term_48 : decode cX12_term 48 = .ok (.iastore, 1) := by decide +kernel
theorem dX12_term_49 : decode cX12_term 49 = .ok (.aload_n 0, 1) := by decide +kernel
theorem dX12_term_50 : decode cX12_term 50 = .ok (.getfield 23, 3) := by decide +kernel
theorem dX12_term_53 : decode cX12_term 53 = .ok (.iload_n 1, 1) := by decide +kernel
theorem dX12_term_54 : decode cX12_term 54 = .ok (.dup2, 1) := by decide +kernel
theorem dX12_term_55 : decode cX12_term 55 = .ok (.iaload, 1) := by decide +kernel
theorem dX12_term_56 : decode cX12_term 56 = .ok (.iconst 1, 1) := by decide +kernel
theorem dX12_term_57 : decode cX12_term 57 = .ok (.iadd, 1) := by decide +kernel
theorem dX12_term_58 : decode cX12_term 58 = .ok (.iastore, 1) := by decide +kernel
theorem dX12_term_59 : decode cX12_term 59 = .ok (.iconst 0, 1) := by decide +kernel
theorem dX12_term_60 : decode cX12_term 60 = .ok (.istore_n 3, 1) := by decide +kernel
theorem dX12_term_61 : decode cX12_term 61 = .ok (.aload_n 0, 1) := by decide +kernel
theorem dX12_term_62 : decode cX12_term 62 = .ok (.invokevirtual 93, 3) := by decide +kernel
theorem dX12_term_65 : decode cX12_term 65 = .ok (.invokestatic 101, 3) := by decide +kernel
theorem dX12_term_68 : decode cX12_term 68 = .ok (.ifCond .eq 87, 3) := by decide +kernel
theorem dX12_term_71 : decode cX12_term 71 = .ok (.iload_n 3, 1) := by decide +kernel
theorem dX12_term_72 : decode cX12_term 72 = .ok (.bipush 8, 2) := by decide +kernel
theorem dX12_term_74 : decode cX12_term 74 = .ok (.if_icmp .ne 5, 3) := by decide +kernel
theorem dX12_term_77 : decode cX12_term 77 = .ok (.iconst 0, 1) := by decide +kernel
theorem dX12_term_78 : decode cX12_term 78 = .ok (.ireturn, 1) := by decide +kernel
theorem dX12_term_79 : decode cX12_term 79 = .ok (.iinc 3 1, 3) := by decide +kernel
theorem dX12_term_82 : decode cX12_term 82 = .ok (.iconst 1, 1) := by decide +kernel
theorem dX12_term_83 : decode cX12_term 83 = .ok (.aload_n 0, 1) := by decide +kernel
theorem dX12_term_84 : decode cX12_term 84 = .ok (.getfield 9, 3) := by decide +kernel
theorem dX12_term_87 : decode cX12_term 87 = .ok (.aload_n 0, 1) := by decide +kernel
theorem dX12_term_88 : decode cX12_term 88 = .ok (.getfield 90, 3) := by decide +kernel
theorem dX12_term_91 : decode cX12_term 91 = .ok (.baload, 1) := by decide +kernel
theorem dX12_term_92 : decode cX12_term 92 = .ok (.bipush 97, 2) := by decide +kernel
theorem dX12_term_94 : decode cX12_term 94 = .ok (.isub, 1) := by decide +kernel
theorem dX12_term_95 : decode cX12_term 95 = .ok (.ishl, 1) := by decide +kernel
theorem dX12_term_96 : decode cX12_term 96 = .ok (.istore 4, 2) := by decide +kernel
theorem dX12_term_98 : decode cX12_term 98 = .ok (.aload_n 0, 1) := by decide +kernel
theorem dX12_term_99 : decode cX12_term 99 = .ok (.dup, 1) := by decide +kernel
theorem dX12_term_100 : decode cX12_term 100 = .ok (.getfield 90, 3) := by decide +kernel
theorem dX12_term_103 : decode cX12_term 103 = .ok (.iconst 1, 1) := by decide +kernel
theorem dX12_term_104 : decode cX12_term 104 = .ok (.iadd, 1) := by decide +kernel
theorem dX12_term_105 : decode cX12_term 105 = .ok (.putfield 90, 3) := by decide +kernel
theorem dX12_term_108 : decode cX12_term 108 = .ok (.aload_n 0, 1) := by decide +kernel
theorem dX12_term_109 : decode cX12_term 109 = .ok (.invokevirtual 93, 3) := by decide +kernel
theorem dX12_term_112 : decode cX12_term 112 = .ok (.bipush 39, 2) := by decide +kernel
theorem dX12_term_114 : decode cX12_term 114 = .ok (.if_icmp .ne 27, 3) := by decide +kernel
theorem dX12_term_117 : decode cX12_term 117 = .ok (.aload_n 0, 1) := by decide +kernel
theorem dX12_term_118 : decode cX12_term 118 = .ok (.dup, 1) := by decide +kernel
theorem dX12_term_119 : decode cX12_term 119 = .ok (.getfield 90, 3) := by decide +kernel
theorem dX12_term_122 : decode cX12_term 122 = .ok (.iconst 1, 1) := by decide +kernel
theorem dX12_term_123 : decode cX12_term 123 = .ok (.iadd, 1) := by decide +kernel
theorem dX12_term_124 : decode cX12_term 124 = .ok (.putfield 90, 3) := by decide +kernel
theorem dX12_term_127 : decode cX12_term 127 = .ok (.aload_n 0, 1) := by decide +kernel
theorem dX12_term_128 : decode cX12_term 128 = .ok (.getfield 29, 3) := by decide +kernel
theorem dX12_term_131 : decode cX12_term 131 = .ok (.iload_n 2, 1) := by decide +kernel
theorem dX12_term_132 : decode cX12_term 132 = .ok (.dup2, 1) := by decide +kernel
theorem dX12_term_133 : decode cX12_term 133 = .ok (.iaload, 1) := by decide +kernel
theorem dX12_term_134 : decode cX12_term 134 = .ok (.iload 4, 2) := by decide +kernel
theorem dX12_term_136 : decode cX12_term 136 = .ok (.ior, 1) := by decide +kernel
theorem dX12_term_137 : decode cX12_term 137 = .ok (.iastore, 1) := by decide +kernel
theorem dX12_term_138 : decode cX12_term 138 = .ok (.goto 14, 3) := by decide +kernel
theorem dX12_term_141 : decode cX12_term 141 = .ok (.aload_n 0, 1) := by decide +kernel
theorem dX12_term_142 : decode cX12_term 142 = .ok (.getfield 26, 3) := by decide +kernel
theorem dX12_term_145 : decode cX12_term 145 = .ok (.iload_n 2, 1) := by decide +kernel
theorem dX12_term_146 : decode cX12_term 146 = .ok (.dup2, 1) := by decide +kernel
theorem dX12_term_147 : decode cX12_term 147 = .ok (.iaload, 1) := by decide +kernel
theorem dX12_term_148 : decode cX12_term 148 = .ok (.iload 4, 2) := by decide +kernel
theorem dX12_term_150 : decode cX12_term 150 = .ok (.ior, 1) := by decide +kernel
theorem dX12_term_151 : decode cX12_term 151 = .ok (.iastore, 1) := by decide +kernel
theorem dX12_term_152 : decode cX12_term 152 = .ok (.goto (-91), 3) := by decide +kernel
theorem dX12_term_155 : decode cX12_term 155 = .ok (.iconst 1, 1) := by decide +kernel
theorem dX12_term_156 : decode cX12_term 156 = .ok (.ireturn, 1) := by decide +kernel
theorem dX12_fault_0 : decode cX12_fault 0 = .ok (.aload_n 0, 1) := by decide +kernel
theorem dX12_fault_1 : decode cX12_fault 1 = .ok (.iconst 0, 1) := by decide +kernel
theorem dX12_fault_2 : decode cX12_fault 2 = .ok (.putfield 75, 3) := by decide +kernel
theorem dX12_fault_5 : decode cX12_fault 5 = .ok (.aload_n 0, 1) := by decide +kernel
theorem dX12_fault_6 : decode cX12_fault 6 = .ok (.invokevirtual 108, 3) := by decide +kernel
theorem dX12_fault_9 : decode cX12_fault 9 = .ok (.ireturn, 1) := by decide +kernel
theorem dX12_circuit_0 : decode cX12_circuit 0 = .ok (.aload_n 0, 1) := by decide +kernel
theorem dX12_circuit_1 : decode cX12_circuit 1 = .ok (.iconst 0, 1) := by decide +kernel
theorem dX12_circuit_2 : decode cX12_circuit 2 = .ok (.putfield 75, 3) := by decide +kernel
theorem dX12_circuit_5 : decode cX12_circuit 5 = .ok (.iload_n 1, 1) := by decide +kernel
theorem dX12_circuit_6 : decode cX12_circuit 6 = .ok (.invokestatic 111, 3) := by decide +kernel
theorem dX12_circuit_9 : decode cX12_circuit 9 = .ok (.ifCond .eq 11, 3) := by decide +kernel
theorem dX12_circuit_12 : decode cX12_circuit 12 = .ok (.aload_n 0, 1) := by decide +kernel
theorem dX12_circuit_13 : decode cX12_circuit 13 = .ok (.invokevirtual 108, 3) := by decide +kernel
theorem dX12_circuit_16 : decode cX12_circuit 16 = .ok (.iconst (-1), 1) := by decide +kernel
theorem dX12_circuit_17 : decode cX12_circuit 17 = .ok (.if_icmp .eq 5, 3) := by decide +kernel
theorem dX12_circuit_20 : decode cX12_circuit 20 = .ok (.iconst 0, 1) := by decide +kernel
theorem dX12_circuit_21 : decode cX12_circuit 21 = .ok (.ireturn, 1) := by decide +kernel
theorem dX12_circuit_22 : decode cX12_circuit 22 = .ok (.iconst 0, 1) := by decide +kernel
theorem dX12_circuit_23 : decode cX12_circuit 23 = .ok (.istore_n 2, 1) := by decide +kernel
theorem dX12_circuit_24 : decode cX12_circuit 24 = .ok (.iload_n 2, 1) := by decide +kernel
theorem dX12_circuit_25 : decode cX12_circuit 25 = .ok (.bipush 12, 2) := by decide +kernel
theorem dX12_circuit_27 : decode cX12_circuit 27 = .ok (.if_icmp .ge 28, 3) := by decide +kernel
theorem dX12_circuit_30 : decode cX12_circuit 30 = .ok (.aload_n 0, 1) := by decide +kernel
theorem dX12_circuit_31 : decode cX12_circuit 31 = .ok (.getfield 13, 3) := by decide +kernel
theorem dX12_circuit_34 : decode cX12_circuit 34 = .ok (.iload_n 2, 1) := by decide +kernel
theorem dX12_circuit_35 : decode cX12_circuit 35 = .ok (.aload_n 0, 1) := by decide +kernel
theorem dX12_circuit_36 : decode cX12_circuit 36 = .ok (.getfield 23, 3) := by decide +kernel
theorem dX12_circuit_39 : decode cX12_circuit 39 = .ok (.iload_n 2, 1) := by decide +kernel
theorem dX12_circuit_40 : decode cX12_circuit 40 = .ok (.iaload, 1) := by decide +kernel
theorem dX12_circuit_41 : decode cX12_circuit 41 = .ok (.iastore, 1) := by decide +kernel
theorem dX12_circuit_42 : decode cX12_circuit 42 = .ok (.aload_n 0, 1) := by decide +kernel
theorem dX12_circuit_43 : decode cX12_circuit 43 = .ok (.getfield 32, 3) := by decide +kernel
theorem dX12_circuit_46 : decode cX12_circuit 46 = .ok (.iload_n 2, 1) := by decide +kernel
theorem dX12_circuit_47 : decode cX12_circuit 47 = .ok (.iconst 0, 1) := by decide +kernel
theorem dX12_circuit_48 : decode cX12_circuit 48 = .ok (.bastore, 1) := by decide +kernel
theorem dX12_circuit_49 : decode cX12_circuit 49 = .ok (.iinc 2 1, 3) := by decide +kernel
theorem dX12_circuit_52 : decode cX12_circuit 52 = .ok (.goto (-28), 3) := by decide +kernel
theorem dX12_circuit_55 : decode cX12_circuit 55 = .ok (.iconst 0, 1) := by decide +kernel
theorem dX12_circuit_56 : decode cX12_circuit 56 = .ok (.istore_n 2, 1) := by decide +kernel
theorem dX12_circuit_57 : decode cX12_circuit 57 = .ok (.iload_n 2, 1) := by decide +kernel
theorem dX12_circuit_58 : decode cX12_circuit 58 = .ok (.sipush 144, 3) := by decide +kernel
theorem dX12_circuit_61 : decode cX12_circuit 61 = .ok (.if_icmp .ge 33, 3) := by decide +kernel
theorem dX12_circuit_64 : decode cX12_circuit 64 = .ok (.aload_n 0, 1) := by decide +kernel
theorem dX12_circuit_65 : decode cX12_circuit 65 = .ok (.getfield 17, 3) := by decide +kernel
theorem dX12_circuit_68 : decode cX12_circuit 68 = .ok (.iload_n 2, 1) := by decide +kernel
theorem dX12_circuit_69 : decode cX12_circuit 69 = .ok (.aload_n 0, 1) := by decide +kernel
theorem dX12_circuit_70 : decode cX12_circuit 70 = .ok (.getfield 26, 3) := by decide +kernel
theorem dX12_circuit_73 : decode cX12_circuit 73 = .ok (.iload_n 2, 1) := by decide +kernel
theorem dX12_circuit_74 : decode cX12_circuit 74 = .ok (.iaload, 1) := by decide +kernel
theorem dX12_circuit_75 : decode cX12_circuit 75 = .ok (.iastore, 1) := by decide +kernel
theorem dX12_circuit_76 : decode cX12_circuit 76 = .ok (.aload_n 0, 1) := by decide +kernel
theorem dX12_circuit_77 : decode cX12_circuit 77 = .ok (.getfield 20, 3) := by decide +kernel
theorem dX12_circuit_80 : decode cX12_circuit 80 = .ok (.iload_n 2, 1) := by decide +kernel
theorem dX12_circuit_81 : decode cX12_circuit 81 = .ok (.aload_n 0, 1) := by decide +kernel
theorem dX12_circuit_82 : decode cX12_circuit 82 = .ok (.getfield 29, 3) := by decide +kernel
theorem dX12_circuit_85 : decode cX12_circuit 85 = .ok (.iload_n 2, 1) := by decide +kernel
theorem dX12_circuit_86 : decode cX12_circuit 86 = .ok (.iaload, 1) := by decide +kernel
theorem dX12_circuit_87 : decode cX12_circuit 87 = .ok (.iastore, 1) := by decide +kernel
theorem dX12_circuit_88 : decode cX12_circuit 88 = .ok (.iinc 2 1, 3) := by decide +kernel
theorem dX12_circuit_91 : decode cX12_circuit 91 = .ok (.goto (-34), 3) := by decide +kernel
theorem dX12_circuit_94 : decode cX12_circuit 94 = .ok (.iconst 0, 1) := by decide +kernel
theorem dX12_circuit_95 : decode cX12_circuit 95 = .ok (.istore_n 2, 1) := by decide +kernel
theorem dX12_circuit_96 : decode cX12_circuit 96 = .ok (.iload_n 2, 1) := by decide +kernel
theorem dX12_circuit_97 : decode cX12_circuit 97 = .ok (.sipush 144, 3) := by decide +kernel
theorem dX12_circuit_100 : decode cX12_circuit 100 = .ok (.if_icmp .ge 16, 3) := by decide +kernel
theorem dX12_circuit_103 : decode cX12_circuit 103 = .ok (.aload_n 0, 1) := by decide +kernel
theorem dX12_circuit_104 : decode cX12_circuit 104 = .ok (.getfield 36, 3) := by decide +kernel
theorem dX12_circuit_107 : decode cX12_circuit 107 = .ok (.iload_n 2, 1) := by decide +kernel
theorem dX12_circuit_108 : decode cX12_circuit 108 = .ok (.iconst 0, 1) := by decide +kernel
theorem dX12_circuit_109 : decode cX12_circuit 109 = .ok (.bastore, 1) := by decide +kernel
theorem dX12_circuit_110 : decode cX12_circuit 110 = .ok (.iinc 2 1, 3) := by decide +kernel
theorem dX12_circuit_113 : decode cX12_circuit 113 = .ok (.goto (-17), 3) := by decide +kernel
theorem dX12_circuit_116 : decode cX12_circuit 116 = .ok (.aload_n 0, 1) := by decide +kernel
theorem dX12_circuit_117 : decode cX12_circuit 117 = .ok (.iload_n 1, 1) := by decide +kernel
theorem dX12_circuit_118 : decode cX12_circuit 118 = .ok (.putfield 114, 3) := by decide +kernel
theorem dX12_circuit_121 : decode cX12_circuit 121 = .ok (.aload_n 0, 1) := by decide +kernel
theorem dX12_circuit_122 : decode cX12_circuit 122 = .ok (.iconst 0, 1) := by decide +kernel
theorem dX12_circuit_123 : decode cX12_circuit 123 = .ok (.putfield 79, 3) := by decide +kernel
theorem dX12_circuit_126 : decode cX12_circuit 126 = .ok (.iconst 1, 1) := by decide +kernel
theorem dX12_circuit_127 : decode cX12_circuit 127 = .ok (.ireturn, 1) := by decide +kernel
theorem dX12_arbiter_0 : decode cX12_arbiter 0 = .ok (.aload_n 0, 1) := by decide +kernel
theorem dX12_arbiter_1 : decode cX12_arbiter 1 = .ok (.iconst 0, 1) := by decide +kernel
theorem dX12_arbiter_2 : decode cX12_arbiter 2 = .ok (.putfield 75, 3) := by decide +kernel
theorem dX12_arbiter_5 : decode cX12_arbiter 5 = .ok (.iload_n 1, 1) := by decide +kernel
theorem dX12_arbiter_6 : decode cX12_arbiter 6 = .ok (.invokestatic 117, 3) := by decide +kernel
theorem dX12_arbiter_9 : decode cX12_arbiter 9 = .ok (.ifCond .eq 30, 3) := by decide +kernel
theorem dX12_arbiter_12 : decode cX12_arbiter 12 = .ok (.iload_n 2, 1) := by decide +kernel
theorem dX12_arbiter_13 : decode cX12_arbiter 13 = .ok (.invokestatic 117, 3) := by decide +kernel
theorem dX12_arbiter_16 : decode cX12_arbiter 16 = .ok (.ifCond .eq 23, 3) := by decide +kernel
theorem dX12_arbiter_19 : decode cX12_arbiter 19 = .ok (.iload_n 1, 1) := by decide +kernel
theorem dX12_arbiter_20 : decode cX12_arbiter 20 = .ok (.iload_n 2, 1) := by decide +kernel
theorem dX12_arbiter_21 : decode cX12_arbiter 21 = .ok (.if_icmp .eq 18, 3) := by decide +kernel
theorem dX12_arbiter_24 : decode cX12_arbiter 24 = .ok (.aload_n 0, 1) := by decide +kernel
theorem dX12_arbiter_25 : decode cX12_arbiter 25 = .ok (.getfield 36, 3) := by decide +kernel
theorem dX12_arbiter_28 : decode cX12_arbiter 28 = .ok (.bipush 12, 2) := by decide +kernel
theorem dX12_arbiter_30 : decode cX12_arbiter 30 = .ok (.iload_n 1, 1) := by decide +kernel
theorem dX12_arbiter_31 : decode cX12_arbiter 31 = .ok (.imul, 1) := by decide +kernel
theorem dX12_arbiter_32 : decode cX12_arbiter 32 = .ok (.iload_n 2, 1) := by decide +kernel
theorem dX12_arbiter_33 : decode cX12_arbiter 33 = .ok (.iadd, 1) := by decide +kernel
theorem dX12_arbiter_34 : decode cX12_arbiter 34 = .ok (.baload, 1) := by decide +kernel
theorem dX12_arbiter_35 : decode cX12_arbiter 35 = .ok (.iload_n 3, 1) := by decide +kernel
theorem dX12_arbiter_36 : decode cX12_arbiter 36 = .ok (.if_icmp .ne 5, 3) := by decide +kernel
theorem dX12_arbiter_39 : decode cX12_arbiter 39 = .ok (.iconst 0, 1) := by decide +kernel
theorem dX12_arbiter_40 : decode cX12_arbiter 40 = .ok (.ireturn, 1) := by decide +kernel
theorem dX12_arbiter_41 : decode cX12_arbiter 41 = .ok (.aload_n 0, 1) := by decide +kernel
theorem dX12_arbiter_42 : decode cX12_arbiter 42 = .ok (.getfield 36, 3) := by decide +kernel
theorem dX12_arbiter_45 : decode cX12_arbiter 45 = .ok (.bipush 12, 2) := by decide +kernel
theorem dX12_arbiter_47 : decode cX12_arbiter 47 = .ok (.iload_n 1, 1) := by decide +kernel
theorem dX12_arbiter_48 : decode cX12_arbiter 48 = .ok (.imul, 1) := by decide +kernel
theorem dX12_arbiter_49 : decode cX12_arbiter 49 = .ok (.iload_n 2, 1) := by decide +kernel
theorem dX12_arbiter_50 : decode cX12_arbiter 50 = .ok (.iadd, 1) := by decide +kernel
theorem dX12_arbiter_51 : decode cX12_arbiter 51 = .ok (.iload_n 3, 1) := by decide +kernel
theorem dX12_arbiter_52 : decode cX12_arbiter 52 = .ok (.bastore, 1) := by decide +kernel
theorem dX12_arbiter_53 : decode cX12_arbiter 53 = .ok (.aload_n 0, 1) := by decide +kernel
theorem dX12_arbiter_54 : decode cX12_arbiter 54 = .ok (.getfield 36, 3) := by decide +kernel
theorem dX12_arbiter_57 : decode cX12_arbiter 57 = .ok (.bipush 12, 2) := by decide +kernel
theorem dX12_arbiter_59 : decode cX12_arbiter 59 = .ok (.iload_n 2, 1) := by decide +kernel
theorem dX12_arbiter_60 : decode cX12_arbiter 60 = .ok (.imul, 1) := by decide +kernel
theorem dX12_arbiter_61 : decode cX12_arbiter 61 = .ok (.iload_n 1, 1) := by decide +kernel
theorem dX12_arbiter_62 : decode cX12_arbiter 62 = .ok (.iadd, 1) := by decide +kernel
theorem dX12_arbiter_63 : decode cX12_arbiter 63 = .ok (.iload_n 3, 1) := by decide +kernel
theorem dX12_arbiter_64 : decode cX12_arbiter 64 = .ok (.bastore, 1) := by decide +kernel
theorem dX12_arbiter_65 : decode cX12_arbiter 65 = .ok (.iconst 1, 1) := by decide +kernel
theorem dX12_arbiter_66 : decode cX12_arbiter 66 = .ok (.ireturn, 1) := by decide +kernel
theorem dX12_stuck_0 : decode cX12_stuck 0 = .ok (.aload_n 0, 1) := by decide +kernel
theorem dX12_stuck_1 : decode cX12_stuck 1 = .ok (.iconst 0, 1) := by decide +kernel
theorem dX12_stuck_2 : decode cX12_stuck 2 = .ok (.putfield 75, 3) := by decide +kernel
theorem dX12_stuck_5 : decode cX12_stuck 5 = .ok (.iload_n 1, 1) := by decide +kernel
theorem dX12_stuck_6 : decode cX12_stuck 6 = .ok (.invokestatic 117, 3) := by decide +kernel
theorem dX12_stuck_9 : decode cX12_stuck 9 = .ok (.ifCond .eq 13, 3) := by decide +kernel
theorem dX12_stuck_12 : decode cX12_stuck 12 = .ok (.aload_n 0, 1) := by decide +kernel
theorem dX12_stuck_13 : decode cX12_stuck 13 = .ok (.getfield 32, 3) := by decide +kernel
theorem dX12_stuck_16 : decode cX12_stuck 16 = .ok (.iload_n 1, 1) := by decide +kernel
theorem dX12_stuck_17 : decode cX12_stuck 17 = .ok (.baload, 1) := by decide +kernel
theorem dX12_stuck_18 : decode cX12_stuck 18 = .ok (.iload_n 2, 1) := by decide +kernel
theorem dX12_stuck_19 : decode cX12_stuck 19 = .ok (.if_icmp .ne 5, 3) := by decide +kernel
theorem dX12_stuck_22 : decode cX12_stuck 22 = .ok (.iconst 0, 1) := by decide +kernel
theorem dX12_stuck_23 : decode cX12_stuck 23 = .ok (.ireturn, 1) := by decide +kernel
theorem dX12_stuck_24 : decode cX12_stuck 24 = .ok (.aload_n 0, 1) := by decide +kernel
theorem dX12_stuck_25 : decode cX12_stuck 25 = .ok (.getfield 32, 3) := by decide +kernel
theorem dX12_stuck_28 : decode cX12_stuck 28 = .ok (.iload_n 1, 1) := by decide +kernel
theorem dX12_stuck_29 : decode cX12_stuck 29 = .ok (.iload_n 2, 1) := by decide +kernel
theorem dX12_stuck_30 : decode cX12_stuck 30 = .ok (.bastore, 1) := by decide +kernel
theorem dX12_stuck_31 : decode cX12_stuck 31 = .ok (.iconst 1, 1) := by decide +kernel
theorem dX12_stuck_32 : decode cX12_stuck 32 = .ok (.ireturn, 1) := by decide +kernel
theorem dX12_askedIn_0 : decode cX12_askedIn 0 = .ok (.iconst 0, 1) := by decide +kernel
theorem dX12_askedIn_1 : decode cX12_askedIn 1 = .ok (.istore_n 2, 1) := by decide +kernel
theorem dX12_askedIn_2 : decode cX12_askedIn 2 = .ok (.iconst 0, 1) := by decide +kernel
theorem dX12_askedIn_3 : decode cX12_askedIn 3 = .ok (.istore_n 3, 1) := by decide +kernel
theorem dX12_askedIn_4 : decode cX12_askedIn 4 = .ok (.iload_n 3, 1) := by decide +kernel
theorem dX12_askedIn_5 : decode cX12_askedIn 5 = .ok (.bipush 12, 2) := by decide +kernel
theorem dX12_askedIn_7 : decode cX12_askedIn 7 = .ok (.if_icmp .ge 137, 3) := by decide +kernel
theorem dX12_askedIn_10 : decode cX12_askedIn 10 = .ok (.aload_n 0, 1) := by decide +kernel
theorem dX12_askedIn_11 : decode cX12_askedIn 11 = .ok (.getfield 13, 3) := by decide +kernel
theorem dX12_askedIn_14 : decode cX12_askedIn 14 = .ok (.iload_n 3, 1) := by decide +kernel
theorem dX12_askedIn_15 : decode cX12_askedIn 15 = .ok (.iaload, 1) := by decide +kernel
theorem dX12_askedIn_16 : decode cX12_askedIn 16 = .ok (.iconst (-1), 1) := by decide +kernel
theorem dX12_askedIn_17 : decode cX12_askedIn 17 = .ok (.if_icmp .eq 121, 3) := by decide +kernel
theorem dX12_askedIn_20 : decode cX12_askedIn 20 = .ok (.aload_n 0, 1) := by decide +kernel
theorem dX12_askedIn_21 : decode cX12_askedIn 21 = .ok (.getfield 32, 3) := by decide +kernel
theorem dX12_askedIn_24 : decode cX12_askedIn 24 = .ok (.iload_n 3, 1) := by decide +kernel
theorem dX12_askedIn_25 : decode cX12_askedIn 25 = .ok (.baload, 1) := by decide +kernel
theorem dX12_askedIn_26 : decode cX12_askedIn 26 = .ok (.ifCond .eq 6, 3) := by decide +kernel
theorem dX12_askedIn_29 : decode cX12_askedIn 29 = .ok (.goto 109, 3) := by decide +kernel
theorem dX12_askedIn_32 : decode cX12_askedIn 32 = .ok (.iconst 0, 1) := by decide +kernel
theorem dX12_askedIn_33 : decode cX12_askedIn 33 = .ok (.istore 4, 2) := by decide +kernel
theorem dX12_askedIn_35 : decode cX12_askedIn 35 = .ok (.iconst 0, 1) := by decide +kernel
theorem dX12_askedIn_36 : decode cX12_askedIn 36 = .ok (.istore 5, 2) := by decide +kernel
theorem dX12_askedIn_38 : decode cX12_askedIn 38 = .ok (.iload 5, 2) := by decide +kernel
theorem dX12_askedIn_40 : decode cX12_askedIn 40 = .ok (.aload_n 0, 1) := by decide +kernel
theorem dX12_askedIn_41 : decode cX12_askedIn 41 = .ok (.getfield 13, 3) := by decide +kernel
theorem dX12_askedIn_44 : decode cX12_askedIn 44 = .ok (.iload_n 3, 1) := by decide +kernel
theorem dX12_askedIn_45 : decode cX12_askedIn 45 = .ok (.iaload, 1) := by decide +kernel
theorem dX12_askedIn_46 : decode cX12_askedIn 46 = .ok (.if_icmp .ge 67, 3) := by decide +kernel
theorem dX12_askedIn_49 : decode cX12_askedIn 49 = .ok (.iload 4, 2) := by decide +kernel
theorem dX12_askedIn_51 : decode cX12_askedIn 51 = .ok (.ifCond .ne 49, 3) := by decide +kernel
theorem dX12_askedIn_54 : decode cX12_askedIn 54 = .ok (.iload_n 1, 1) := by decide +kernel
theorem dX12_askedIn_55 : decode cX12_askedIn 55 = .ok (.aload_n 0, 1) := by decide +kernel
theorem dX12_askedIn_56 : decode cX12_askedIn 56 = .ok (.getfield 17, 3) := by decide +kernel
theorem dX12_askedIn_59 : decode cX12_askedIn 59 = .ok (.bipush 12, 2) := by decide +kernel
theorem dX12_askedIn_61 : decode cX12_askedIn 61 = .ok (.iload_n 3, 1) := by decide +kernel
theorem dX12_askedIn_62 : decode cX12_askedIn 62 = .ok (.imul, 1) := by decide +kernel
theorem dX12_askedIn_63 : decode cX12_askedIn 63 = .ok (.iload 5, 2) := by decide +kernel
theorem dX12_askedIn_65 : decode cX12_askedIn 65 = .ok (.iadd, 1) := by decide +kernel
theorem dX12_askedIn_66 : decode cX12_askedIn 66 = .ok (.iaload, 1) := by decide +kernel
theorem dX12_askedIn_67 : decode cX12_askedIn 67 = .ok (.iand, 1) := by decide +kernel
theorem dX12_askedIn_68 : decode cX12_askedIn 68 = .ok (.aload_n 0, 1) := by decide +kernel
theorem dX12_askedIn_69 : decode cX12_askedIn 69 = .ok (.getfield 17, 3) := by decide +kernel
theorem dX12_askedIn_72 : decode cX12_askedIn 72 = .ok (.bipush 12, 2) := by decide +kernel
theorem dX12_askedIn_74 : decode cX12_askedIn 74 = .ok (.iload_n 3, 1) := by decide +kernel
theorem dX12_askedIn_75 : decode cX12_askedIn 75 = .ok (.imul, 1) := by decide +kernel
theorem dX12_askedIn_76 : decode cX12_askedIn 76 = .ok (.iload 5, 2) := by decide +kernel
theorem dX12_askedIn_78 : decode cX12_askedIn 78 = .ok (.iadd, 1) := by decide +kernel
theorem dX12_askedIn_79 : decode cX12_askedIn 79 = .ok (.iaload, 1) := by decide +kernel
theorem dX12_askedIn_80 : decode cX12_askedIn 80 = .ok (.if_icmp .ne 24, 3) := by decide +kernel
theorem dX12_askedIn_83 : decode cX12_askedIn 83 = .ok (.iload_n 1, 1) := by decide +kernel
theorem dX12_askedIn_84 : decode cX12_askedIn 84 = .ok (.aload_n 0, 1) := by decide +kernel
theorem dX12_askedIn_85 : decode cX12_askedIn 85 = .ok (.getfield 20, 3) := by decide +kernel
theorem dX12_askedIn_88 : decode cX12_askedIn 88 = .ok (.bipush 12, 2) := by decide +kernel
theorem dX12_askedIn_90 : decode cX12_askedIn 90 = .ok (.iload_n 3, 1) := by decide +kernel
theorem dX12_askedIn_91 : decode cX12_askedIn 91 = .ok (.imul, 1) := by decide +kernel
theorem dX12_askedIn_92 : decode cX12_askedIn 92 = .ok (.iload 5, 2) := by decide +kernel
theorem dX12_askedIn_94 : decode cX12_askedIn 94 = .ok (.iadd, 1) := by decide +kernel
theorem dX12_askedIn_95 : decode cX12_askedIn 95 = .ok (.iaload, 1) := by decide +kernel
theorem dX12_askedIn_96 : decode cX12_askedIn 96 = .ok (.iand, 1) := by decide +kernel
theorem dX12_askedIn_97 : decode cX12_askedIn 97 = .ok (.ifCond .ne 7, 3) := by decide +kernel
theorem dX12_askedIn_100 : decode cX12_askedIn 100 = .ok (.iconst 1, 1) := by decide +kernel
theorem dX12_askedIn_101 : decode cX12_askedIn 101 = .ok (.goto 4, 3) := by decide +kernel
theorem dX12_askedIn_104 : decode cX12_askedIn 104 = .ok (.iconst 0, 1) := by decide +kernel
theorem dX12_askedIn_105 : decode cX12_askedIn 105 = .ok (.istore 4, 2) := by decide +kernel
theorem dX12_askedIn_107 : decode cX12_askedIn 107 = .ok (.iinc 5 1, 3) := by decide +kernel
theorem dX12_askedIn_110 : decode cX12_askedIn 110 = .ok (.goto (-72), 3) := by decide +kernel
theorem dX12_askedIn_113 : decode cX12_askedIn 113 = .ok (.iload 4, 2) := by decide +kernel
theorem dX12_askedIn_115 : decode cX12_askedIn 115 = .ok (.iload_n 1, 1) := by decide +kernel
theorem dX12_askedIn_116 : decode cX12_askedIn 116 = .ok (.iload_n 3, 1) := by decide +kernel
theorem dX12_askedIn_117 : decode cX12_askedIn 117 = .ok (.ishr, 1) := by decide +kernel
theorem dX12_askedIn_118 : decode cX12_askedIn 118 = .ok (.iconst 1, 1) := by decide +kernel
theorem dX12_askedIn_119 : decode cX12_askedIn 119 = .ok (.iand, 1) := by decide +kernel
theorem dX12_askedIn_120 : decode cX12_askedIn 120 = .ok (.iconst 1, 1) := by decide +kernel
theorem dX12_askedIn_121 : decode cX12_askedIn 121 = .ok (.if_icmp .ne 7, 3) := by decide +kernel
theorem dX12_askedIn_124 : decode cX12_askedIn 124 = .ok (.iconst 1, 1) := by decide +kernel
theorem dX12_askedIn_125 : decode cX12_askedIn 125 = .ok (.goto 4, 3) := by decide +kernel
theorem dX12_askedIn_128 : decode cX12_askedIn 128 = .ok (.iconst 0, 1) := by decide +kernel
theorem dX12_askedIn_129 : decode cX12_askedIn 129 = .ok (.if_icmp .eq 9, 3) := by decide +kernel
theorem dX12_askedIn_132 : decode cX12_askedIn 132 = .ok (.iload_n 2, 1) := by decide +kernel
theorem dX12_askedIn_133 : decode cX12_askedIn 133 = .ok (.iconst 1, 1) := by decide +kernel
theorem dX12_askedIn_134 : decode cX12_askedIn 134 = .ok (.iload_n 3, 1) := by decide +kernel
theorem dX12_askedIn_135 : decode cX12_askedIn 135 = .ok (.ishl, 1) := by decide +kernel
theorem dX12_askedIn_136 : decode cX12_askedIn 136 = .ok (.ior, 1) := by decide +kernel
theorem dX12_askedIn_137 : decode cX12_askedIn 137 = .ok (.istore_n 2, 1) := by decide +kernel
theorem dX12_askedIn_138 : decode cX12_askedIn 138 = .ok (.iinc 3 1, 3) := by decide +kernel
theorem dX12_askedIn_141 : decode cX12_askedIn 141 = .ok (.goto (-137), 3) := by decide +kernel
theorem dX12_askedIn_144 : decode cX12_askedIn 144 = .ok (.iload_n 2, 1) := by decide +kernel
theorem dX12_askedIn_145 : decode cX12_askedIn 145 = .ok (.ireturn, 1) := by decide +kernel
theorem dX12_asked_0 : decode cX12_asked 0 = .ok (.aload_n 0, 1) := by decide +kernel
theorem dX12_asked_1 : decode cX12_asked 1 = .ok (.iconst 0, 1) := by decide +kernel
theorem dX12_asked_2 : decode cX12_asked 2 = .ok (.putfield 75, 3) := by decide +kernel
theorem dX12_asked_5 : decode cX12_asked 5 = .ok (.iload_n 1, 1) := by decide +kernel
theorem dX12_asked_6 : decode cX12_asked 6 = .ok (.invokestatic 111, 3) := by decide +kernel
theorem dX12_asked_9 : decode cX12_asked 9 = .ok (.ifCond .eq 11, 3) := by decide +kernel
theorem dX12_asked_12 : decode cX12_asked 12 = .ok (.aload_n 0, 1) := by decide +kernel
theorem dX12_asked_13 : decode cX12_asked 13 = .ok (.iload_n 1, 1) := by decide +kernel
theorem dX12_asked_14 : decode cX12_asked 14 = .ok (.invokevirtual 120, 3) := by decide +kernel
theorem dX12_asked_17 : decode cX12_asked 17 = .ok (.goto 4, 3) := by decide +kernel
theorem dX12_asked_20 : decode cX12_asked 20 = .ok (.iconst (-1), 1) := by decide +kernel
theorem dX12_asked_21 : decode cX12_asked 21 = .ok (.ireturn, 1) := by decide +kernel
theorem dX12_walks_0 : decode cX12_walks 0 = .ok (.aload_n 0, 1) := by decide +kernel
theorem dX12_walks_1 : decode cX12_walks 1 = .ok (.iconst 0, 1) := by decide +kernel
theorem dX12_walks_2 : decode cX12_walks 2 = .ok (.putfield 75, 3) := by decide +kernel
theorem dX12_walks_5 : decode cX12_walks 5 = .ok (.iconst 0, 1) := by decide +kernel
theorem dX12_walks_6 : decode cX12_walks 6 = .ok (.istore_n 1, 1) := by decide +kernel
theorem dX12_walks_7 : decode cX12_walks 7 = .ok (.iload_n 1, 1) := by decide +kernel
theorem dX12_walks_8 : decode cX12_walks 8 = .ok (.sipush 4096, 3) := by decide +kernel
theorem dX12_walks_11 : decode cX12_walks 11 = .ok (.if_icmp .ge 16, 3) := by decide +kernel
theorem dX12_walks_14 : decode cX12_walks 14 = .ok (.aload_n 0, 1) := by decide +kernel
theorem dX12_walks_15 : decode cX12_walks 15 = .ok (.getfield 42, 3) := by decide +kernel
theorem dX12_walks_18 : decode cX12_walks 18 = .ok (.iload_n 1, 1) := by decide +kernel
theorem dX12_walks_19 : decode cX12_walks 19 = .ok (.iconst (-1), 1) := by decide +kernel
theorem dX12_walks_20 : decode cX12_walks 20 = .ok (.iastore, 1) := by decide +kernel
theorem dX12_walks_21 : decode cX12_walks 21 = .ok (.iinc 1 1, 3) := by decide +kernel
theorem dX12_walks_24 : decode cX12_walks 24 = .ok (.goto (-17), 3) := by decide +kernel
theorem dX12_walks_27 : decode cX12_walks 27 = .ok (.aload_n 0, 1) := by decide +kernel
theorem dX12_walks_28 : decode cX12_walks 28 = .ok (.iconst 1, 1) := by decide +kernel
theorem dX12_walks_29 : decode cX12_walks 29 = .ok (.putfield 123, 3) := by decide +kernel
theorem dX12_walks_32 : decode cX12_walks 32 = .ok (.aload_n 0, 1) := by decide +kernel
theorem dX12_walks_33 : decode cX12_walks 33 = .ok (.getfield 39, 3) := by decide +kernel
theorem dX12_walks_36 : decode cX12_walks 36 = .ok (.iconst 0, 1) := by decide +kernel
theorem dX12_walks_37 : decode cX12_walks 37 = .ok (.aload_n 0, 1) := by decide +kernel
theorem dX12_walks_38 : decode cX12_walks 38 = .ok (.getfield 114, 3) := by decide +kernel
theorem dX12_walks_41 : decode cX12_walks 41 = .ok (.iastore, 1) := by decide +kernel
theorem dX12_walks_42 : decode cX12_walks 42 = .ok (.aload_n 0, 1) := by decide +kernel
theorem dX12_walks_43 : decode cX12_walks 43 = .ok (.getfield 42, 3) := by decide +kernel
theorem dX12_walks_46 : decode cX12_walks 46 = .ok (.aload_n 0, 1) := by decide +kernel
theorem dX12_walks_47 : decode cX12_walks 47 = .ok (.getfield 114, 3) := by decide +kernel
theorem dX12_walks_50 : decode cX12_walks 50 = .ok (.iconst 0, 1) := by decide +kernel
theorem dX12_walks_51 : decode cX12_walks 51 = .ok (.iastore, 1) := by decide +kernel
theorem dX12_walks_52 : decode cX12_walks 52 = .ok (.aload_n 0, 1) := by decide +kernel
theorem dX12_walks_53 : decode cX12_walks 53 = .ok (.getfield 45, 3) := by decide +kernel
theorem dX12_walks_56 : decode cX12_walks 56 = .ok (.aload_n 0, 1) := by decide +kernel
theorem dX12_walks_57 : decode cX12_walks 57 = .ok (.getfield 114, 3) := by decide +kernel
theorem dX12_walks_60 : decode cX12_walks 60 = .ok (.iconst (-1), 1) := by decide +kernel
theorem dX12_walks_61 : decode cX12_walks 61 = .ok (.iastore, 1) := by decide +kernel
theorem dX12_walks_62 : decode cX12_walks 62 = .ok (.iconst 0, 1) := by decide +kernel
theorem dX12_walks_63 : decode cX12_walks 63 = .ok (.istore_n 1, 1) := by decide +kernel
theorem dX12_walks_64 : decode cX12_walks 64 = .ok (.iload_n 1, 1) := by decide +kernel
theorem dX12_walks_65 : decode cX12_walks 65 = .ok (.aload_n 0, 1) := by decide +kernel
theorem dX12_walks_66 : decode cX12_walks 66 = .ok (.getfield 123, 3) := by decide +kernel
theorem dX12_walks_69 : decode cX12_walks 69 = .ok (.if_icmp .ge 118, 3) := by decide +kernel
theorem dX12_walks_72 : decode cX12_walks 72 = .ok (.aload_n 0, 1) := by decide +kernel
theorem dX12_walks_73 : decode cX12_walks 73 = .ok (.getfield 39, 3) := by decide +kernel
theorem dX12_walks_76 : decode cX12_walks 76 = .ok (.iload_n 1, 1) := by decide +kernel
theorem dX12_walks_77 : decode cX12_walks 77 = .ok (.iaload, 1) := by decide +kernel
theorem dX12_walks_78 : decode cX12_walks 78 = .ok (.istore_n 2, 1) := by decide +kernel
theorem dX12_walks_79 : decode cX12_walks 79 = .ok (.aload_n 0, 1) := by decide +kernel
theorem dX12_walks_80 : decode cX12_walks 80 = .ok (.iload_n 2, 1) := by decide +kernel
theorem dX12_walks_81 : decode cX12_walks 81 = .ok (.invokevirtual 120, 3) := by decide +kernel
theorem dX12_walks_84 : decode cX12_walks 84 = .ok (.istore_n 3, 1) := by decide +kernel
theorem dX12_walks_85 : decode cX12_walks 85 = .ok (.iconst 0, 1) := by decide +kernel
theorem dX12_walks_86 : decode cX12_walks 86 = .ok (.istore 4, 2) := by decide +kernel
theorem dX12_walks_88 : decode cX12_walks 88 = .ok (.iload 4, 2) := by decide +kernel
theorem dX12_walks_90 : decode cX12_walks 90 = .ok (.bipush 12, 2) := by decide +kernel
theorem dX12_walks_92 : decode cX12_walks 92 = .ok (.if_icmp .ge 89, 3) := by decide +kernel
theorem dX12_walks_95 : decode cX12_walks 95 = .ok (.iload_n 2, 1) := by decide +kernel
theorem dX12_walks_96 : decode cX12_walks 96 = .ok (.iconst 1, 1) := by decide +kernel
theorem dX12_walks_97 : decode cX12_walks 97 = .ok (.iload 4, 2) := by decide +kernel
theorem dX12_walks_99 : decode cX12_walks 99 = .ok (.ishl, 1) := by decide +kernel
theorem dX12_walks_100 : decode cX12_walks 100 = .ok (.ixor, 1) := by decide +kernel
theorem dX12_walks_101 : decode cX12_walks 101 = .ok (.istore 5, 2) := by decide +kernel
theorem dX12_walks_103 : decode cX12_walks 103 = .ok (.iload_n 3, 1) := by decide +kernel
theorem dX12_walks_104 : decode cX12_walks 104 = .ok (.iload 4, 2) := by decide +kernel
theorem dX12_walks_106 : decode cX12_walks 106 = .ok (.ishr, 1) := by decide +kernel
theorem dX12_walks_107 : decode cX12_walks 107 = .ok (.iconst 1, 1) := by decide +kernel
theorem dX12_walks_108 : decode cX12_walks 108 = .ok (.iand, 1) := by decide +kernel
theorem dX12_walks_109 : decode cX12_walks 109 = .ok (.ifCond .eq 66, 3) := by decide +kernel
theorem dX12_walks_112 : decode cX12_walks 112 = .ok (.aload_n 0, 1) := by decide +kernel
theorem dX12_walks_113 : decode cX12_walks 113 = .ok (.getfield 42, 3) := by decide +kernel
theorem dX12_walks_116 : decode cX12_walks 116 = .ok (.iload 5, 2) := by decide +kernel
theorem dX12_walks_118 : decode cX12_walks 118 = .ok (.iaload, 1) := by decide +kernel
theorem dX12_walks_119 : decode cX12_walks 119 = .ok (.iconst (-1), 1) := by decide +kernel
theorem dX12_walks_120 : decode cX12_walks 120 = .ok (.if_icmp .eq 6, 3) := by decide +kernel
theorem dX12_walks_123 : decode cX12_walks 123 = .ok (.goto 52, 3) := by decide +kernel
theorem dX12_walks_126 : decode cX12_walks 126 = .ok (.aload_n 0, 1) := by decide +kernel
theorem dX12_walks_127 : decode cX12_walks 127 = .ok (.getfield 39, 3) := by decide +kernel
theorem dX12_walks_130 : decode cX12_walks 130 = .ok (.aload_n 0, 1) := by decide +kernel
theorem dX12_walks_131 : decode cX12_walks 131 = .ok (.getfield 123, 3) := by decide +kernel
theorem dX12_walks_134 : decode cX12_walks 134 = .ok (.iload 5, 2) := by decide +kernel
theorem dX12_walks_136 : decode cX12_walks 136 = .ok (.iastore, 1) := by decide +kernel
theorem dX12_walks_137 : decode cX12_walks 137 = .ok (.aload_n 0, 1) := by decide +kernel
theorem dX12_walks_138 : decode cX12_walks 138 = .ok (.getfield 42, 3) := by decide +kernel
theorem dX12_walks_141 : decode cX12_walks 141 = .ok (.iload 5, 2) := by decide +kernel
theorem dX12_walks_143 : decode cX12_walks 143 = .ok (.aload_n 0, 1) := by decide +kernel
theorem dX12_walks_144 : decode cX12_walks 144 = .ok (.getfield 123, 3) := by decide +kernel
theorem dX12_walks_147 : decode cX12_walks 147 = .ok (.iastore, 1) := by decide +kernel
theorem dX12_walks_148 : decode cX12_walks 148 = .ok (.aload_n 0, 1) := by decide +kernel
theorem dX12_walks_149 : decode cX12_walks 149 = .ok (.getfield 45, 3) := by decide +kernel
theorem dX12_walks_152 : decode cX12_walks 152 = .ok (.iload 5, 2) := by decide +kernel
theorem dX12_walks_154 : decode cX12_walks 154 = .ok (.iload_n 2, 1) := by decide +kernel
theorem dX12_walks_155 : decode cX12_walks 155 = .ok (.iastore, 1) := by decide +kernel
theorem dX12_walks_156 : decode cX12_walks 156 = .ok (.aload_n 0, 1) := by decide +kernel
theorem dX12_walks_157 : decode cX12_walks 157 = .ok (.getfield 48, 3) := by decide +kernel
theorem dX12_walks_160 : decode cX12_walks 160 = .ok (.iload 5, 2) := by decide +kernel
theorem dX12_walks_162 : decode cX12_walks 162 = .ok (.iload 4, 2) := by decide +kernel
theorem dX12_walks_164 : decode cX12_walks 164 = .ok (.iastore, 1) := by decide +kernel
theorem dX12_walks_165 : decode cX12_walks 165 = .ok (.aload_n 0, 1) := by decide +kernel
theorem dX12_walks_166 : decode cX12_walks 166 = .ok (.dup, 1) := by decide +kernel
theorem dX12_walks_167 : decode cX12_walks 167 = .ok (.getfield 123, 3) := by decide +kernel
theorem dX12_walks_170 : decode cX12_walks 170 = .ok (.iconst 1, 1) := by decide +kernel
theorem dX12_walks_171 : decode cX12_walks 171 = .ok (.iadd, 1) := by decide +kernel
theorem dX12_walks_172 : decode cX12_walks 172 = .ok (.putfield 123, 3) := by decide +kernel
theorem dX12_walks_175 : decode cX12_walks 175 = .ok (.iinc 4 1, 3) := by decide +kernel
theorem dX12_walks_178 : decode cX12_walks 178 = .ok (.goto (-90), 3) := by decide +kernel
theorem dX12_walks_181 : decode cX12_walks 181 = .ok (.iinc 1 1, 3) := by decide +kernel
theorem dX12_walks_184 : decode cX12_walks 184 = .ok (.goto (-120), 3) := by decide +kernel
theorem dX12_walks_187 : decode cX12_walks 187 = .ok (.return_, 1) := by decide +kernel
theorem dX12_states_0 : decode cX12_states 0 = .ok (.aload_n 0, 1) := by decide +kernel
theorem dX12_states_1 : decode cX12_states 1 = .ok (.invokevirtual 126, 3) := by decide +kernel
theorem dX12_states_4 : decode cX12_states 4 = .ok (.aload_n 0, 1) := by decide +kernel
theorem dX12_states_5 : decode cX12_states 5 = .ok (.getfield 123, 3) := by decide +kernel
theorem dX12_states_8 : decode cX12_states 8 = .ok (.ireturn, 1) := by decide +kernel
theorem dX12_state_0 : decode cX12_state 0 = .ok (.aload_n 0, 1) := by decide +kernel
theorem dX12_state_1 : decode cX12_state 1 = .ok (.invokevirtual 126, 3) := by decide +kernel
theorem dX12_state_4 : decode cX12_state 4 = .ok (.iload_n 1, 1) := by decide +kernel
theorem dX12_state_5 : decode cX12_state 5 = .ok (.ifCond .lt 20, 3) := by decide +kernel
theorem dX12_state_8 : decode cX12_state 8 = .ok (.iload_n 1, 1) := by decide +kernel
theorem dX12_state_9 : decode cX12_state 9 = .ok (.aload_n 0, 1) := by decide +kernel
theorem dX12_state_10 : decode cX12_state 10 = .ok (.getfield 123, 3) := by decide +kernel
theorem dX12_state_13 : decode cX12_state 13 = .ok (.if_icmp .ge 12, 3) := by decide +kernel
theorem dX12_state_16 : decode cX12_state 16 = .ok (.aload_n 0, 1) := by decide +kernel
theorem dX12_state_17 : decode cX12_state 17 = .ok (.getfield 39, 3) := by decide +kernel
theorem dX12_state_20 : decode cX12_state 20 = .ok (.iload_n 1, 1) := by decide +kernel
theorem dX12_state_21 : decode cX12_state 21 = .ok (.iaload, 1) := by decide +kernel
theorem dX12_state_22 : decode cX12_state 22 = .ok (.goto 4, 3) := by decide +kernel
theorem dX12_state_25 : decode cX12_state 25 = .ok (.iconst (-1), 1) := by decide +kernel
theorem dX12_state_26 : decode cX12_state 26 = .ok (.ireturn, 1) := by decide +kernel
theorem dX12_place_0 : decode cX12_place 0 = .ok (.aload_n 0, 1) := by decide +kernel
theorem dX12_place_1 : decode cX12_place 1 = .ok (.invokevirtual 126, 3) := by decide +kernel
theorem dX12_place_4 : decode cX12_place 4 = .ok (.iload_n 1, 1) := by decide +kernel
theorem dX12_place_5 : decode cX12_place 5 = .ok (.invokestatic 111, 3) := by decide +kernel
theorem dX12_place_8 : decode cX12_place 8 = .ok (.ifCond .eq 12, 3) := by decide +kernel
theorem dX12_place_11 : decode cX12_place 11 = .ok (.aload_n 0, 1) := by decide +kernel
theorem dX12_place_12 : decode cX12_place 12 = .ok (.getfield 42, 3) := by decide +kernel
theorem dX12_place_15 : decode cX12_place 15 = .ok (.iload_n 1, 1) := by decide +kernel
theorem dX12_place_16 : decode cX12_place 16 = .ok (.iaload, 1) := by decide +kernel
theorem dX12_place_17 : decode cX12_place 17 = .ok (.goto 4, 3) := by decide +kernel
theorem dX12_place_20 : decode cX12_place 20 = .ok (.iconst (-1), 1) := by decide +kernel
theorem dX12_place_21 : decode cX12_place 21 = .ok (.ireturn, 1) := by decide +kernel
theorem dX12_hazardOf_0 : decode cX12_hazardOf 0 = .ok (.aload_n 0, 1) := by decide +kernel
theorem dX12_hazardOf_1 : decode cX12_hazardOf 1 = .ok (.invokevirtual 126, 3) := by decide +kernel
theorem dX12_hazardOf_4 : decode cX12_hazardOf 4 = .ok (.iconst 0, 1) := by decide +kernel
theorem dX12_hazardOf_5 : decode cX12_hazardOf 5 = .ok (.istore_n 3, 1) := by decide +kernel
theorem dX12_hazardOf_6 : decode cX12_hazardOf 6 = .ok (.iconst 0, 1) := by decide +kernel
theorem dX12_hazardOf_7 : decode cX12_hazardOf 7 = .ok (.istore 4, 2) := by decide +kernel
theorem dX12_hazardOf_9 : decode cX12_hazardOf 9 = .ok (.iload 4, 2) := by decide +kernel
theorem dX12_hazardOf_11 : decode cX12_hazardOf 11 = .ok (.aload_n 0, 1) := by decide +kernel
theorem dX12_hazardOf_12 : decode cX12_hazardOf 12 = .ok (.getfield 123, 3) := by decide +kernel
theorem dX12_hazardOf_15 : decode cX12_hazardOf 15 = .ok (.if_icmp .ge 163, 3) := by decide +kernel
theorem dX12_hazardOf_18 : decode cX12_hazardOf 18 = .ok (.aload_n 0, 1) := by decide +kernel
theorem dX12_hazardOf_19 : decode cX12_hazardOf 19 = .ok (.getfield 39, 3) := by decide +kernel
theorem dX12_hazardOf_22 : decode cX12_hazardOf 22 = .ok (.iload 4, 2) := by decide +kernel
theorem dX12_hazardOf_24 : decode cX12_hazardOf 24 = .ok (.iaload, 1) := by decide +kernel
theorem dX12_hazardOf_25 : decode cX12_hazardOf 25 = .ok (.istore 5, 2) := by decide +kernel
theorem dX12_hazardOf_27 : decode cX12_hazardOf 27 = .ok (.aload_n 0, 1) := by decide +kernel
theorem dX12_hazardOf_28 : decode cX12_hazardOf 28 = .ok (.iload 5, 2) := by decide +kernel
theorem dX12_hazardOf_30 : decode cX12_hazardOf 30 = .ok (.invokevirtual 120, 3) := by decide +kernel
theorem dX12_hazardOf_33 : decode cX12_hazardOf 33 = .ok (.istore 6, 2) := by decide +kernel
theorem dX12_hazardOf_35 : decode cX12_hazardOf 35 = .ok (.iconst 0, 1) := by decide +kernel
theorem dX12_hazardOf_36 : decode cX12_hazardOf 36 = .ok (.istore 7, 2) := by decide +kernel
theorem dX12_hazardOf_38 : decode cX12_hazardOf 38 = .ok (.iload 7, 2) := by decide +kernel
theorem dX12_hazardOf_40 : decode cX12_hazardOf 40 = .ok (.bipush 12, 2) := by decide +kernel
theorem dX12_hazardOf_42 : decode cX12_hazardOf 42 = .ok (.if_icmp .ge 130, 3) := by decide +kernel
theorem dX12_hazardOf_45 : decode cX12_hazardOf 45 = .ok (.iconst 0, 1) := by decide +kernel
theorem dX12_hazardOf_46 : decode cX12_hazardOf 46 = .ok (.istore 8, 2) := by decide +kernel
theorem dX12_hazardOf_48 : decode cX12_hazardOf 48 = .ok (.iload 8, 2) := by decide +kernel
theorem dX12_hazardOf_50 : decode cX12_hazardOf 50 = .ok (.bipush 12, 2) := by decide +kernel
theorem dX12_hazardOf_52 : decode cX12_hazardOf 52 = .ok (.if_icmp .ge 114, 3) := by decide +kernel
theorem dX12_hazardOf_55 : decode cX12_hazardOf 55 = .ok (.iload 7, 2) := by decide +kernel
theorem dX12_hazardOf_57 : decode cX12_hazardOf 57 = .ok (.iload 8, 2) := by decide +kernel
theorem dX12_hazardOf_59 : decode cX12_hazardOf 59 = .ok (.if_icmp .eq 101, 3) := by decide +kernel
theorem dX12_hazardOf_62 : decode cX12_hazardOf 62 = .ok (.iload 6, 2) := by decide +kernel
theorem dX12_hazardOf_64 : decode cX12_hazardOf 64 = .ok (.iload 7, 2) := by decide +kernel
theorem dX12_hazardOf_66 : decode cX12_hazardOf 66 = .ok (.ishr, 1) := by decide +kernel
theorem dX12_hazardOf_67 : decode cX12_hazardOf 67 = .ok (.iconst 1, 1) := by decide +kernel
theorem dX12_hazardOf_68 : decode cX12_hazardOf 68 = .ok (.iand, 1) := by decide +kernel
theorem dX12_hazardOf_69 : decode cX12_hazardOf 69 = .ok (.ifCond .eq 91, 3) := by decide +kernel
theorem dX12_hazardOf_72 : decode cX12_hazardOf 72 = .ok (.iload 6, 2) := by decide +kernel
theorem dX12_hazardOf_74 : decode cX12_hazardOf 74 = .ok (.iload 8, 2) := by decide +kernel
theorem dX12_hazardOf_76 : decode cX12_hazardOf 76 = .ok (.ishr, 1) := by decide +kernel
theorem dX12_hazardOf_77 : decode cX12_hazardOf 77 = .ok (.iconst 1, 1) := by decide +kernel
theorem dX12_hazardOf_78 : decode cX12_hazardOf 78 = .ok (.iand, 1) := by decide +kernel
theorem dX12_hazardOf_79 : decode cX12_hazardOf 79 = .ok (.ifCond .eq 81, 3) := by decide +kernel
theorem dX12_hazardOf_82 : decode cX12_hazardOf 82 = .ok (.aload_n 0, 1) := by decide +kernel
theorem dX12_hazardOf_83 : decode cX12_hazardOf 83 = .ok (.getfield 36, 3) := by decide +kernel
theorem dX12_hazardOf_86 : decode cX12_hazardOf 86 = .ok (.bipush 12, 2) := by decide +kernel
theorem dX12_hazardOf_88 : decode cX12_hazardOf 88 = .ok (.iload 7, 2) := by decide +kernel
theorem dX12_hazardOf_90 : decode cX12_hazardOf 90 = .ok (.imul, 1) := by decide +kernel
theorem dX12_hazardOf_91 : decode cX12_hazardOf 91 = .ok (.iload 8, 2) := by decide +kernel
theorem dX12_hazardOf_93 : decode cX12_hazardOf 93 = .ok (.iadd, 1) := by decide +kernel
theorem dX12_hazardOf_94 : decode cX12_hazardOf 94 = .ok (.baload, 1) := by decide +kernel
theorem dX12_hazardOf_95 : decode cX12_hazardOf 95 = .ok (.ifCond .ne 65, 3) := by decide +kernel
theorem dX12_hazardOf_98 : decode cX12_hazardOf 98 = .ok (.aload_n 0, 1) := by decide +kernel
theorem dX12_hazardOf_99 : decode cX12_hazardOf 99 = .ok (.iload 5, 2) := by decide +kernel
theorem dX12_hazardOf_101 : decode cX12_hazardOf 101 = .ok (.iconst 1, 1) := by decide +kernel
theorem dX12_hazardOf_102 : decode cX12_hazardOf 102 = .ok (.iload 8, 2) := by decide +kernel
theorem dX12_hazardOf_104 : decode cX12_hazardOf 104 = .ok (.ishl, 1) := by decide +kernel
theorem dX12_hazardOf_105 : decode cX12_hazardOf 105 = .ok (.ixor, 1) := by decide +kernel
theorem dX12_hazardOf_106 : decode cX12_hazardOf 106 = .ok (.invokevirtual 120, 3) := by decide +kernel
theorem dX12_hazardOf_109 : decode cX12_hazardOf 109 = .ok (.iload 7, 2) := by decide +kernel
theorem dX12_hazardOf_111 : decode cX12_hazardOf 111 = .ok (.ishr, 1) := by decide +kernel
theorem dX12_hazardOf_112 : decode cX12_hazardOf 112 = .ok (.iconst 1, 1) := by decide +kernel
theorem dX12_hazardOf_113 : decode cX12_hazardOf 113 = .ok (.iand, 1) := by decide +kernel
theorem dX12_hazardOf_114 : decode cX12_hazardOf 114 = .ok (.iconst 1, 1) := by decide +kernel
theorem dX12_hazardOf_115 : decode cX12_hazardOf 115 = .ok (.if_icmp .ne 6, 3) := by decide +kernel
theorem dX12_hazardOf_118 : decode cX12_hazardOf 118 = .ok (.goto 42, 3) := by decide +kernel
theorem dX12_hazardOf_121 : decode cX12_hazardOf 121 = .ok (.iload_n 3, 1) := by decide +kernel
theorem dX12_hazardOf_122 : decode cX12_hazardOf 122 = .ok (.iload_n 1, 1) := by decide +kernel
theorem dX12_hazardOf_123 : decode cX12_hazardOf 123 = .ok (.if_icmp .ne 34, 3) := by decide +kernel
theorem dX12_hazardOf_126 : decode cX12_hazardOf 126 = .ok (.iload_n 2, 1) := by decide +kernel
theorem dX12_hazardOf_127 : decode cX12_hazardOf 127 = .ok (.ifCond .ne 8, 3) := by decide +kernel
theorem dX12_hazardOf_130 : decode cX12_hazardOf 130 = .ok (.iload 5, 2) := by decide +kernel
theorem dX12_hazardOf_132 : decode cX12_hazardOf 132 = .ok (.goto 24, 3) := by decide +kernel
theorem dX12_hazardOf_135 : decode cX12_hazardOf 135 = .ok (.iload_n 2, 1) := by decide +kernel
theorem dX12_hazardOf_136 : decode cX12_hazardOf 136 = .ok (.iconst 1, 1) := by decide +kernel
theorem dX12_hazardOf_137 : decode cX12_hazardOf 137 = .ok (.if_icmp .ne 8, 3) := by decide +kernel
theorem dX12_hazardOf_140 : decode cX12_hazardOf 140 = .ok (.iload 7, 2) := by decide +kernel
theorem dX12_hazardOf_142 : decode cX12_hazardOf 142 = .ok (.goto 14, 3) := by decide +kernel
theorem dX12_hazardOf_145 : decode cX12_hazardOf 145 = .ok (.iload_n 2, 1) := by decide +kernel
theorem dX12_hazardOf_146 : decode cX12_hazardOf 146 = .ok (.iconst 2, 1) := by decide +kernel
theorem dX12_hazardOf_147 : decode cX12_hazardOf 147 = .ok (.if_icmp .ne 8, 3) := by decide +kernel
theorem dX12_hazardOf_150 : decode cX12_hazardOf 150 = .ok (.iload 8, 2) := by decide +kernel
theorem dX12_hazardOf_152 : decode cX12_hazardOf 152 = .ok (.goto 4, 3) := by decide +kernel
theorem dX12_hazardOf_155 : decode cX12_hazardOf 155 = .ok (.iconst (-1), 1) := by decide +kernel
theorem dX12_hazardOf_156 : decode cX12_hazardOf 156 = .ok (.ireturn, 1) := by decide +kernel
theorem dX12_hazardOf_157 : decode cX12_hazardOf 157 = .ok (.iinc 3 1, 3) := by decide +kernel
theorem dX12_hazardOf_160 : decode cX12_hazardOf 160 = .ok (.iinc 8 1, 3) := by decide +kernel
theorem dX12_hazardOf_163 : decode cX12_hazardOf 163 = .ok (.goto (-115), 3) := by decide +kernel
theorem dX12_hazardOf_166 : decode cX12_hazardOf 166 = .ok (.iinc 7 1, 3) := by decide +kernel
theorem dX12_hazardOf_169 : decode cX12_hazardOf 169 = .ok (.goto (-131), 3) := by decide +kernel
theorem dX12_hazardOf_172 : decode cX12_hazardOf 172 = .ok (.iinc 4 1, 3) := by decide +kernel
theorem dX12_hazardOf_175 : decode cX12_hazardOf 175 = .ok (.goto (-166), 3) := by decide +kernel
theorem dX12_hazardOf_178 : decode cX12_hazardOf 178 = .ok (.iload_n 1, 1) := by decide +kernel
theorem dX12_hazardOf_179 : decode cX12_hazardOf 179 = .ok (.ifCond .ge 7, 3) := by decide +kernel
theorem dX12_hazardOf_182 : decode cX12_hazardOf 182 = .ok (.iload_n 3, 1) := by decide +kernel
theorem dX12_hazardOf_183 : decode cX12_hazardOf 183 = .ok (.goto 4, 3) := by decide +kernel
theorem dX12_hazardOf_186 : decode cX12_hazardOf 186 = .ok (.iconst (-1), 1) := by decide +kernel
theorem dX12_hazardOf_187 : decode cX12_hazardOf 187 = .ok (.ireturn, 1) := by decide +kernel
theorem dX12_hazard_0 : decode cX12_hazard 0 = .ok (.aload_n 0, 1) := by decide +kernel
theorem dX12_hazard_1 : decode cX12_hazard 1 = .ok (.iconst 0, 1) := by decide +kernel
theorem dX12_hazard_2 : decode cX12_hazard 2 = .ok (.putfield 75, 3) := by decide +kernel
theorem dX12_hazard_5 : decode cX12_hazard 5 = .ok (.iload_n 1, 1) := by decide +kernel
theorem dX12_hazard_6 : decode cX12_hazard 6 = .ok (.ifCond .ge 7, 3) := by decide +kernel
theorem dX12_hazard_9 : decode cX12_hazard 9 = .ok (.iconst (-1), 1) := by decide +kernel
theorem dX12_hazard_10 : decode cX12_hazard 10 = .ok (.goto 9, 3) := by decide +kernel
theorem dX12_hazard_13 : decode cX12_hazard 13 = .ok (.aload_n 0, 1) := by decide +kernel
theorem dX12_hazard_14 : decode cX12_hazard 14 = .ok (.iload_n 1, 1) := by decide +kernel
theorem dX12_hazard_15 : decode cX12_hazard 15 = .ok (.iload_n 2, 1) := by decide +kernel
theorem dX12_hazard_16 : decode cX12_hazard 16 = .ok (.invokevirtual 129, 3) := by decide +kernel
theorem dX12_hazard_19 : decode cX12_hazard 19 = .ok (.ireturn, 1) := by decide +kernel
theorem dX12_stopOf_0 : decode cX12_stopOf 0 = .ok (.aload_n 0, 1) := by decide +kernel
theorem dX12_stopOf_1 : decode cX12_stopOf 1 = .ok (.invokevirtual 126, 3) := by decide +kernel
theorem dX12_stopOf_4 : decode cX12_stopOf 4 = .ok (.iconst 0, 1) := by decide +kernel
theorem dX12_stopOf_5 : decode cX12_stopOf 5 = .ok (.istore_n 2, 1) := by decide +kernel
theorem dX12_stopOf_6 : decode cX12_stopOf 6 = .ok (.iconst 0, 1) := by decide +kernel
theorem dX12_stopOf_7 : decode cX12_stopOf 7 = .ok (.istore_n 3, 1) := by decide +kernel
theorem dX12_stopOf_8 : decode cX12_stopOf 8 = .ok (.iload_n 3, 1) := by decide +kernel
theorem dX12_stopOf_9 : decode cX12_stopOf 9 = .ok (.aload_n 0, 1) := by decide +kernel
theorem dX12_stopOf_10 : decode cX12_stopOf 10 = .ok (.getfield 123, 3) := by decide +kernel
theorem dX12_stopOf_13 : decode cX12_stopOf 13 = .ok (.if_icmp .ge 40, 3) := by decide +kernel
theorem dX12_stopOf_16 : decode cX12_stopOf 16 = .ok (.aload_n 0, 1) := by decide +kernel
theorem dX12_stopOf_17 : decode cX12_stopOf 17 = .ok (.aload_n 0, 1) := by decide +kernel
theorem dX12_stopOf_18 : decode cX12_stopOf 18 = .ok (.getfield 39, 3) := by decide +kernel
theorem dX12_stopOf_21 : decode cX12_stopOf 21 = .ok (.iload_n 3, 1) := by decide +kernel
theorem dX12_stopOf_22 : decode cX12_stopOf 22 = .ok (.iaload, 1) := by decide +kernel
theorem dX12_stopOf_23 : decode cX12_stopOf 23 = .ok (.invokevirtual 120, 3) := by decide +kernel
theorem dX12_stopOf_26 : decode cX12_stopOf 26 = .ok (.ifCond .eq 6, 3) := by decide +kernel
theorem dX12_stopOf_29 : decode cX12_stopOf 29 = .ok (.goto 18, 3) := by decide +kernel
theorem dX12_stopOf_32 : decode cX12_stopOf 32 = .ok (.iload_n 2, 1) := by decide +kernel
theorem dX12_stopOf_33 : decode cX12_stopOf 33 = .ok (.iload_n 1, 1) := by decide +kernel
theorem dX12_stopOf_34 : decode cX12_stopOf 34 = .ok (.if_icmp .ne 10, 3) := by decide +kernel
theorem dX12_stopOf_37 : decode cX12_stopOf 37 = .ok (.aload_n 0, 1) := by decide +kernel
theorem dX12_stopOf_38 : decode cX12_stopOf 38 = .ok (.getfield 39, 3) := by decide +kernel
theorem dX12_stopOf_41 : decode cX12_stopOf 41 = .ok (.iload_n 3, 1) := by decide +kernel
theorem dX12_stopOf_42 : decode cX12_stopOf 42 = .ok (.iaload, 1) := by decide +kernel
theorem dX12_stopOf_43 : decode cX12_stopOf 43 = .ok (.ireturn, 1) := by decide +kernel
theorem dX12_stopOf_44 : decode cX12_stopOf 44 = .ok (.iinc 2 1, 3) := by decide +kernel
theorem dX12_stopOf_47 : decode cX12_stopOf 47 = .ok (.iinc 3 1, 3) := by decide +kernel
theorem dX12_stopOf_50 : decode cX12_stopOf 50 = .ok (.goto (-42), 3) := by decide +kernel
theorem dX12_stopOf_53 : decode cX12_stopOf 53 = .ok (.iload_n 1, 1) := by decide +kernel
theorem dX12_stopOf_54 : decode cX12_stopOf 54 = .ok (.ifCond .ge 7, 3) := by decide +kernel
theorem dX12_stopOf_57 : decode cX12_stopOf 57 = .ok (.iload_n 2, 1) := by decide +kernel
theorem dX12_stopOf_58 : decode cX12_stopOf 58 = .ok (.goto 4, 3) := by decide +kernel
theorem dX12_stopOf_61 : decode cX12_stopOf 61 = .ok (.iconst (-1), 1) := by decide +kernel
theorem dX12_stopOf_62 : decode cX12_stopOf 62 = .ok (.ireturn, 1) := by decide +kernel
theorem dX12_stop_0 : decode cX12_stop 0 = .ok (.aload_n 0, 1) := by decide +kernel
theorem dX12_stop_1 : decode cX12_stop 1 = .ok (.iconst 0, 1) := by decide +kernel
theorem dX12_stop_2 : decode cX12_stop 2 = .ok (.putfield 75, 3) := by decide +kernel
theorem dX12_stop_5 : decode cX12_stop 5 = .ok (.iload_n 1, 1) := by decide +kernel
theorem dX12_stop_6 : decode cX12_stop 6 = .ok (.ifCond .ge 7, 3) := by decide +kernel
theorem dX12_stop_9 : decode cX12_stop 9 = .ok (.iconst (-1), 1) := by decide +kernel
theorem dX12_stop_10 : decode cX12_stop 10 = .ok (.goto 8, 3) := by decide +kernel
theorem dX12_stop_13 : decode cX12_stop 13 = .ok (.aload_n 0, 1) := by decide +kernel
theorem dX12_stop_14 : decode cX12_stop 14 = .ok (.iload_n 1, 1) := by decide +kernel
theorem dX12_stop_15 : decode cX12_stop 15 = .ok (.invokevirtual 133, 3) := by decide +kernel
theorem dX12_stop_18 : decode cX12_stop 18 = .ok (.ireturn, 1) := by decide +kernel
theorem dX12_wayLong_0 : decode cX12_wayLong 0 = .ok (.iconst 0, 1) := by decide +kernel
theorem dX12_wayLong_1 : decode cX12_wayLong 1 = .ok (.istore_n 2, 1) := by decide +kernel
theorem dX12_wayLong_2 : decode cX12_wayLong 2 = .ok (.iload_n 1, 1) := by decide +kernel
theorem dX12_wayLong_3 : decode cX12_wayLong 3 = .ok (.istore_n 3, 1) := by decide +kernel
theorem dX12_wayLong_4 : decode cX12_wayLong 4 = .ok (.aload_n 0, 1) := by decide +kernel
theorem dX12_wayLong_5 : decode cX12_wayLong 5 = .ok (.getfield 45, 3) := by decide +kernel
theorem dX12_wayLong_8 : decode cX12_wayLong 8 = .ok (.iload_n 3, 1) := by decide +kernel
theorem dX12_wayLong_9 : decode cX12_wayLong 9 = .ok (.iaload, 1) := by decide +kernel
theorem dX12_wayLong_10 : decode cX12_wayLong 10 = .ok (.iconst (-1), 1) := by decide +kernel
theorem dX12_wayLong_11 : decode cX12_wayLong 11 = .ok (.if_icmp .eq 16, 3) := by decide +kernel
theorem dX12_wayLong_14 : decode cX12_wayLong 14 = .ok (.iinc 2 1, 3) := by decide +kernel
theorem dX12_wayLong_17 : decode cX12_wayLong 17 = .ok (.aload_n 0, 1) := by decide +kernel
theorem dX12_wayLong_18 : decode cX12_wayLong 18 = .ok (.getfield 45, 3) := by decide +kernel
theorem dX12_wayLong_21 : decode cX12_wayLong 21 = .ok (.iload_n 3, 1) := by decide +kernel
theorem dX12_wayLong_22 : decode cX12_wayLong 22 = .ok (.iaload, 1) := by decide +kernel
theorem dX12_wayLong_23 : decode cX12_wayLong 23 = .ok (.istore_n 3, 1) := by decide +kernel
theorem dX12_wayLong_24 : decode cX12_wayLong 24 = .ok (.goto (-20), 3) := by decide +kernel
theorem dX12_wayLong_27 : decode cX12_wayLong 27 = .ok (.iload_n 2, 1) := by decide +kernel
theorem dX12_wayLong_28 : decode cX12_wayLong 28 = .ok (.ireturn, 1) := by decide +kernel
theorem dX12_way_0 : decode cX12_way 0 = .ok (.aload_n 0, 1) := by decide +kernel
theorem dX12_way_1 : decode cX12_way 1 = .ok (.invokevirtual 126, 3) := by decide +kernel
theorem dX12_way_4 : decode cX12_way 4 = .ok (.iload_n 1, 1) := by decide +kernel
theorem dX12_way_5 : decode cX12_way 5 = .ok (.invokestatic 111, 3) := by decide +kernel
theorem dX12_way_8 : decode cX12_way 8 = .ok (.ifCond .eq 21, 3) := by decide +kernel
theorem dX12_way_11 : decode cX12_way 11 = .ok (.aload_n 0, 1) := by decide +kernel
theorem dX12_way_12 : decode cX12_way 12 = .ok (.getfield 42, 3) := by decide +kernel
theorem dX12_way_15 : decode cX12_way 15 = .ok (.iload_n 1, 1) := by decide +kernel
theorem dX12_way_16 : decode cX12_way 16 = .ok (.iaload, 1) := by decide +kernel
theorem dX12_way_17 : decode cX12_way 17 = .ok (.iconst (-1), 1) := by decide +kernel
theorem dX12_way_18 : decode cX12_way 18 = .ok (.if_icmp .eq 11, 3) := by decide +kernel
theorem dX12_way_21 : decode cX12_way 21 = .ok (.aload_n 0, 1) := by decide +kernel
theorem dX12_way_22 : decode cX12_way 22 = .ok (.iload_n 1, 1) := by decide +kernel
theorem dX12_way_23 : decode cX12_way 23 = .ok (.invokevirtual 136, 3) := by decide +kernel
theorem dX12_way_26 : decode cX12_way 26 = .ok (.goto 4, 3) := by decide +kernel
theorem dX12_way_29 : decode cX12_way 29 = .ok (.iconst (-1), 1) := by decide +kernel
theorem dX12_way_30 : decode cX12_way 30 = .ok (.ireturn, 1) := by decide +kernel
theorem dX12_change_0 : decode cX12_change 0 = .ok (.aload_n 0, 1) := by decide +kernel
theorem dX12_change_1 : decode cX12_change 1 = .ok (.invokevirtual 126, 3) := by decide +kernel
theorem dX12_change_4 : decode cX12_change 4 = .ok (.iload_n 1, 1) := by decide +kernel
theorem dX12_change_5 : decode cX12_change 5 = .ok (.invokestatic 111, 3) := by decide +kernel
theorem dX12_change_8 : decode cX12_change 8 = .ok (.ifCond .eq 26, 3) := by decide +kernel
theorem dX12_change_11 : decode cX12_change 11 = .ok (.aload_n 0, 1) := by decide +kernel
theorem dX12_change_12 : decode cX12_change 12 = .ok (.getfield 42, 3) := by decide +kernel
theorem dX12_change_15 : decode cX12_change 15 = .ok (.iload_n 1, 1) := by decide +kernel
theorem dX12_change_16 : decode cX12_change 16 = .ok (.iaload, 1) := by decide +kernel
theorem dX12_change_17 : decode cX12_change 17 = .ok (.iconst (-1), 1) := by decide +kernel
theorem dX12_change_18 : decode cX12_change 18 = .ok (.if_icmp .eq 16, 3) := by decide +kernel
theorem dX12_change_21 : decode cX12_change 21 = .ok (.iload_n 2, 1) := by decide +kernel
theorem dX12_change_22 : decode cX12_change 22 = .ok (.ifCond .lt 12, 3) := by decide +kernel
theorem dX12_change_25 : decode cX12_change 25 = .ok (.iload_n 2, 1) := by decide +kernel
theorem dX12_change_26 : decode cX12_change 26 = .ok (.aload_n 0, 1) := by decide +kernel
theorem dX12_change_27 : decode cX12_change 27 = .ok (.iload_n 1, 1) := by decide +kernel
theorem dX12_change_28 : decode cX12_change 28 = .ok (.invokevirtual 136, 3) := by decide +kernel
theorem dX12_change_31 : decode cX12_change 31 = .ok (.if_icmp .lt 5, 3) := by decide +kernel
theorem dX12_change_34 : decode cX12_change 34 = .ok (.iconst (-1), 1) := by decide +kernel
theorem dX12_change_35 : decode cX12_change 35 = .ok (.ireturn, 1) := by decide +kernel
theorem dX12_change_36 : decode cX12_change 36 = .ok (.iload_n 1, 1) := by decide +kernel
theorem dX12_change_37 : decode cX12_change 37 = .ok (.istore_n 3, 1) := by decide +kernel
theorem dX12_change_38 : decode cX12_change 38 = .ok (.aload_n 0, 1) := by decide +kernel
theorem dX12_change_39 : decode cX12_change 39 = .ok (.iload_n 1, 1) := by decide +kernel
theorem dX12_change_40 : decode cX12_change 40 = .ok (.invokevirtual 136, 3) := by decide +kernel
theorem dX12_change_43 : decode cX12_change 43 = .ok (.iconst 1, 1) := by decide +kernel
theorem dX12_change_44 : decode cX12_change 44 = .ok (.isub, 1) := by decide +kernel
theorem dX12_change_45 : decode cX12_change 45 = .ok (.istore 4, 2) := by decide +kernel
theorem dX12_change_47 : decode cX12_change 47 = .ok (.iload 4, 2) := by decide +kernel
theorem dX12_change_49 : decode cX12_change 49 = .ok (.iload_n 2, 1) := by decide +kernel
theorem dX12_change_50 : decode cX12_change 50 = .ok (.if_icmp .le 16, 3) := by decide +kernel
theorem dX12_change_53 : decode cX12_change 53 = .ok (.aload_n 0, 1) := by decide +kernel
theorem dX12_change_54 : decode cX12_change 54 = .ok (.getfield 45, 3) := by decide +kernel
theorem dX12_change_57 : decode cX12_change 57 = .ok (.iload_n 3, 1) := by decide +kernel
theorem dX12_change_58 : decode cX12_change 58 = .ok (.iaload, 1) := by decide +kernel
theorem dX12_change_59 : decode cX12_change 59 = .ok (.istore_n 3, 1) := by decide +kernel
theorem dX12_change_60 : decode cX12_change 60 = .ok (.iinc 4 (-1), 3) := by decide +kernel
theorem dX12_change_63 : decode cX12_change 63 = .ok (.goto (-16), 3) := by decide +kernel
theorem dX12_change_66 : decode cX12_change 66 = .ok (.aload_n 0, 1) := by decide +kernel
theorem dX12_change_67 : decode cX12_change 67 = .ok (.getfield 48, 3) := by decide +kernel
theorem dX12_change_70 : decode cX12_change 70 = .ok (.iload_n 3, 1) := by decide +kernel
theorem dX12_change_71 : decode cX12_change 71 = .ok (.iaload, 1) := by decide +kernel
theorem dX12_change_72 : decode cX12_change 72 = .ok (.ireturn, 1) := by decide +kernel
theorem dX12_live_0 : decode cX12_live 0 = .ok (.aload_n 0, 1) := by decide +kernel
theorem dX12_live_1 : decode cX12_live 1 = .ok (.iconst 0, 1) := by decide +kernel
theorem dX12_live_2 : decode cX12_live 2 = .ok (.putfield 75, 3) := by decide +kernel
theorem dX12_live_5 : decode cX12_live 5 = .ok (.iload_n 1, 1) := by decide +kernel
theorem dX12_live_6 : decode cX12_live 6 = .ok (.invokestatic 117, 3) := by decide +kernel
theorem dX12_live_9 : decode cX12_live 9 = .ok (.ifCond .ne 5, 3) := by decide +kernel
theorem dX12_live_12 : decode cX12_live 12 = .ok (.iconst (-1), 1) := by decide +kernel
theorem dX12_live_13 : decode cX12_live 13 = .ok (.ireturn, 1) := by decide +kernel
theorem dX12_live_14 : decode cX12_live 14 = .ok (.aload_n 0, 1) := by decide +kernel
theorem dX12_live_15 : decode cX12_live 15 = .ok (.invokevirtual 126, 3) := by decide +kernel
theorem dX12_live_18 : decode cX12_live 18 = .ok (.iconst 0, 1) := by decide +kernel
theorem dX12_live_19 : decode cX12_live 19 = .ok (.istore_n 2, 1) := by decide +kernel
theorem dX12_live_20 : decode cX12_live 20 = .ok (.iload_n 2, 1) := by decide +kernel
theorem dX12_live_21 : decode cX12_live 21 = .ok (.aload_n 0, 1) := by decide +kernel
theorem dX12_live_22 : decode cX12_live 22 = .ok (.getfield 123, 3) := by decide +kernel
theorem dX12_live_25 : decode cX12_live 25 = .ok (.if_icmp .ge 21, 3) := by decide +kernel
theorem dX12_live_28 : decode cX12_live 28 = .ok (.aload_n 0, 1) := by decide +kernel
theorem dX12_live_29 : decode cX12_live 29 = .ok (.getfield 51, 3) := by decide +kernel
theorem dX12_live_32 : decode cX12_live 32 = .ok (.aload_n 0, 1) := by decide +kernel
theorem dX12_live_33 : decode cX12_live 33 = .ok (.getfield 39, 3) := by decide +kernel
theorem dX12_live_36 : decode cX12_live 36 = .ok (.iload_n 2, 1) := by decide +kernel
theorem dX12_live_37 : decode cX12_live 37 = .ok (.iaload, 1) := by decide +kernel
theorem dX12_live_38 : decode cX12_live 38 = .ok (.iconst 0, 1) := by decide +kernel
theorem dX12_live_39 : decode cX12_live 39 = .ok (.bastore, 1) := by decide +kernel
theorem dX12_live_40 : decode cX12_live 40 = .ok (.iinc 2 1, 3) := by decide +kernel
theorem dX12_live_43 : decode cX12_live 43 = .ok (.goto (-23), 3) := by decide +kernel
theorem dX12_live_46 : decode cX12_live 46 = .ok (.iconst 1, 1) := by decide +kernel
theorem dX12_live_47 : decode cX12_live 47 = .ok (.istore_n 2, 1) := by decide +kernel
theorem dX12_live_48 : decode cX12_live 48 = .ok (.iload_n 2, 1) := by decide +kernel
theorem dX12_live_49 : decode cX12_live 49 = .ok (.ifCond .eq 149, 3) := by decide +kernel
theorem dX12_live_52 : decode cX12_live 52 = .ok (.iconst 0, 1) := by decide +kernel
theorem dX12_live_53 : decode cX12_live 53 = .ok (.istore_n 2, 1) := by decide +kernel
theorem dX12_live_54 : decode cX12_live 54 = .ok (.aload_n 0, 1) := by decide +kernel
theorem dX12_live_55 : decode cX12_live 55 = .ok (.getfield 123, 3) := by decide +kernel
theorem dX12_live_58 : decode cX12_live 58 = .ok (.iconst 1, 1) := by decide +kernel
theorem dX12_live_59 : decode cX12_live 59 = .ok (.isub, 1) := by decide +kernel
theorem dX12_live_60 : decode cX12_live 60 = .ok (.istore_n 3, 1) := by decide +kernel
theorem dX12_live_61 : decode cX12_live 61 = .ok (.iload_n 3, 1) := by decide +kernel
theorem dX12_live_62 : decode cX12_live 62 = .ok (.ifCond .lt 133, 3) := by decide +kernel
theorem dX12_live_65 : decode cX12_live 65 = .ok (.aload_n 0, 1) := by decide +kernel
theorem dX12_live_66 : decode cX12_live 66 = .ok (.getfield 39, 3) := by decide +kernel
theorem dX12_live_69 : decode cX12_live 69 = .ok (.iload_n 3, 1) := by decide +kernel
theorem dX12_live_70 : decode cX12_live 70 = .ok (.iaload, 1) := by decide +kernel
theorem dX12_live_71 : decode cX12_live 71 = .ok (.istore 4, 2) := by decide +kernel
theorem dX12_live_73 : decode cX12_live 73 = .ok (.aload_n 0, 1) := by decide +kernel
theorem dX12_live_74 : decode cX12_live 74 = .ok (.getfield 51, 3) := by decide +kernel
theorem dX12_live_77 : decode cX12_live 77 = .ok (.iload 4, 2) := by decide +kernel
theorem dX12_live_79 : decode cX12_live 79 = .ok (.baload, 1) := by decide +kernel
theorem dX12_live_80 : decode cX12_live 80 = .ok (.ifCond .eq 6, 3) := by decide +kernel
theorem dX12_live_83 : decode cX12_live 83 = .ok (.goto 106, 3) := by decide +kernel
theorem dX12_live_86 : decode cX12_live 86 = .ok (.aload_n 0, 1) := by decide +kernel
theorem dX12_live_87 : decode cX12_live 87 = .ok (.iload 4, 2) := by decide +kernel
theorem dX12_live_89 : decode cX12_live 89 = .ok (.invokevirtual 120, 3) := by decide +kernel
theorem dX12_live_92 : decode cX12_live 92 = .ok (.istore 5, 2) := by decide +kernel
theorem dX12_live_94 : decode cX12_live 94 = .ok (.iload 5, 2) := by decide +kernel
theorem dX12_live_96 : decode cX12_live 96 = .ok (.iload_n 1, 1) := by decide +kernel
theorem dX12_live_97 : decode cX12_live 97 = .ok (.ishr, 1) := by decide +kernel
theorem dX12_live_98 : decode cX12_live 98 = .ok (.iconst 1, 1) := by decide +kernel
theorem dX12_live_99 : decode cX12_live 99 = .ok (.iand, 1) := by decide +kernel
theorem dX12_live_100 : decode cX12_live 100 = .ok (.iconst 1, 1) := by decide +kernel
theorem dX12_live_101 : decode cX12_live 101 = .ok (.if_icmp .ne 7, 3) := by decide +kernel
theorem dX12_live_104 : decode cX12_live 104 = .ok (.iconst 1, 1) := by decide +kernel
theorem dX12_live_105 : decode cX12_live 105 = .ok (.goto 4, 3) := by decide +kernel
theorem dX12_live_108 : decode cX12_live 108 = .ok (.iconst 0, 1) := by decide +kernel
theorem dX12_live_109 : decode cX12_live 109 = .ok (.istore 6, 2) := by decide +kernel
theorem dX12_live_111 : decode cX12_live 111 = .ok (.iconst 0, 1) := by decide +kernel
theorem dX12_live_112 : decode cX12_live 112 = .ok (.istore 7, 2) := by decide +kernel
theorem dX12_live_114 : decode cX12_live 114 = .ok (.iload 7, 2) := by decide +kernel
theorem dX12_live_116 : decode cX12_live 116 = .ok (.bipush 12, 2) := by decide +kernel
theorem dX12_live_118 : decode cX12_live 118 = .ok (.if_icmp .ge 47, 3) := by decide +kernel
theorem dX12_live_121 : decode cX12_live 121 = .ok (.iload 6, 2) := by decide +kernel
theorem dX12_live_123 : decode cX12_live 123 = .ok (.ifCond .ne 29, 3) := by decide +kernel
theorem dX12_live_126 : decode cX12_live 126 = .ok (.iload 5, 2) := by decide +kernel
theorem dX12_live_128 : decode cX12_live 128 = .ok (.iload 7, 2) := by decide +kernel
theorem dX12_live_130 : decode cX12_live 130 = .ok (.ishr, 1) := by decide +kernel
theorem dX12_live_131 : decode cX12_live 131 = .ok (.iconst 1, 1) := by decide +kernel
theorem dX12_live_132 : decode cX12_live 132 = .ok (.iand, 1) := by decide +kernel
theorem dX12_live_133 : decode cX12_live 133 = .ok (.iconst 1, 1) := by decide +kernel
theorem dX12_live_134 : decode cX12_live 134 = .ok (.if_icmp .ne 22, 3) := by decide +kernel
theorem dX12_live_137 : decode cX12_live 137 = .ok (.aload_n 0, 1) := by decide +kernel
theorem dX12_live_138 : decode cX12_live 138 = .ok (.getfield 51, 3) := by decide +kernel
theorem dX12_live_141 : decode cX12_live 141 = .ok (.iload 4, 2) := by decide +kernel
theorem dX12_live_143 : decode cX12_live 143 = .ok (.iconst 1, 1) := by decide +kernel
theorem dX12_live_144 : decode cX12_live 144 = .ok (.iload 7, 2) := by decide +kernel
theorem dX12_live_146 : decode cX12_live 146 = .ok (.ishl, 1) := by decide +kernel
theorem dX12_live_147 : decode cX12_live 147 = .ok (.ixor, 1) := by decide +kernel
theorem dX12_live_148 : decode cX12_live 148 = .ok (.baload, 1) := by decide +kernel
theorem dX12_live_149 : decode cX12_live 149 = .ok (.ifCond .eq 7, 3) := by decide +kernel
theorem dX12_live_152 : decode cX12_live 152 = .ok (.iconst 1, 1) := by decide +kernel
theorem dX12_live_153 : decode cX12_live 153 = .ok (.goto 4, 3) := by decide +kernel
theorem dX12_live_156 : decode cX12_live 156 = .ok (.iconst 0, 1) := by decide +kernel
theorem dX12_live_157 : decode cX12_live 157 = .ok (.istore 6, 2) := by decide +kernel
theorem dX12_live_159 : decode cX12_live 159 = .ok (.iinc 7 1, 3) := by decide +kernel
theorem dX12_live_162 : decode cX12_live 162 = .ok (.goto (-48), 3) := by decide +kernel
theorem dX12_live_165 : decode cX12_live 165 = .ok (.aload_n 0, 1) := by decide +kernel
theorem dX12_live_166 : decode cX12_live 166 = .ok (.getfield 51, 3) := by decide +kernel
theorem dX12_live_169 : decode cX12_live 169 = .ok (.iload 4, 2) := by decide +kernel
theorem dX12_live_171 : decode cX12_live 171 = .ok (.iload 6, 2) := by decide +kernel
theorem dX12_live_173 : decode cX12_live 173 = .ok (.bastore, 1) := by decide +kernel
theorem dX12_live_174 : decode cX12_live 174 = .ok (.iload_n 2, 1) := by decide +kernel
theorem dX12_live_175 : decode cX12_live 175 = .ok (.ifCond .ne 8, 3) := by decide +kernel
theorem dX12_live_178 : decode cX12_live 178 = .ok (.iload 6, 2) := by decide +kernel
theorem dX12_live_180 : decode cX12_live 180 = .ok (.ifCond .eq 7, 3) := by decide +kernel
theorem dX12_live_183 : decode cX12_live 183 = .ok (.iconst 1, 1) := by decide +kernel
theorem dX12_live_184 : decode cX12_live 184 = .ok (.goto 4, 3) := by decide +kernel
theorem dX12_live_187 : decode cX12_live 187 = .ok (.iconst 0, 1) := by decide +kernel
theorem dX12_live_188 : decode cX12_live 188 = .ok (.istore_n 2, 1) := by decide +kernel
theorem dX12_live_189 : decode cX12_live 189 = .ok (.iinc 3 (-1), 3) := by decide +kernel
theorem dX12_live_192 : decode cX12_live 192 = .ok (.goto (-131), 3) := by decide +kernel
theorem dX12_live_195 : decode cX12_live 195 = .ok (.goto (-147), 3) := by decide +kernel
theorem dX12_live_198 : decode cX12_live 198 = .ok (.iconst 0, 1) := by decide +kernel
theorem dX12_live_199 : decode cX12_live 199 = .ok (.istore_n 3, 1) := by decide +kernel
theorem dX12_live_200 : decode cX12_live 200 = .ok (.iload_n 3, 1) := by decide +kernel
theorem dX12_live_201 : decode cX12_live 201 = .ok (.aload_n 0, 1) := by decide +kernel
theorem dX12_live_202 : decode cX12_live 202 = .ok (.getfield 123, 3) := by decide +kernel
theorem dX12_live_205 : decode cX12_live 205 = .ok (.if_icmp .ge 25, 3) := by decide +kernel
theorem dX12_live_208 : decode cX12_live 208 = .ok (.aload_n 0, 1) := by decide +kernel
theorem dX12_live_209 : decode cX12_live 209 = .ok (.getfield 51, 3) := by decide +kernel
theorem dX12_live_212 : decode cX12_live 212 = .ok (.aload_n 0, 1) := by decide +kernel
theorem dX12_live_213 : decode cX12_live 213 = .ok (.getfield 39, 3) := by decide +kernel
theorem dX12_live_216 : decode cX12_live 216 = .ok (.iload_n 3, 1) := by decide +kernel
theorem dX12_live_217 : decode cX12_live 217 = .ok (.iaload, 1) := by decide +kernel
theorem dX12_live_218 : decode cX12_live 218 = .ok (.baload, 1) := by decide +kernel
theorem dX12_live_219 : decode cX12_live 219 = .ok (.ifCond .ne 5, 3) := by decide +kernel
theorem dX12_live_222 : decode cX12_live 222 = .ok (.iconst 0, 1) := by decide +kernel
theorem dX12_live_223 : decode cX12_live 223 = .ok (.ireturn, 1) := by decide +kernel
theorem dX12_live_224 : decode cX12_live 224 = .ok (.iinc 3 1, 3) := by decide +kernel
theorem dX12_live_227 : decode cX12_live 227 = .ok (.goto (-27), 3) := by decide +kernel
theorem dX12_live_230 : decode cX12_live 230 = .ok (.iconst 1, 1) := by decide +kernel
theorem dX12_live_231 : decode cX12_live 231 = .ok (.ireturn, 1) := by decide +kernel
theorem dX12_both_0 : decode cX12_both 0 = .ok (.aload_n 0, 1) := by decide +kernel
theorem dX12_both_1 : decode cX12_both 1 = .ok (.invokevirtual 126, 3) := by decide +kernel
theorem dX12_both_4 : decode cX12_both 4 = .ok (.iload_n 1, 1) := by decide +kernel
theorem dX12_both_5 : decode cX12_both 5 = .ok (.invokestatic 111, 3) := by decide +kernel
theorem dX12_both_8 : decode cX12_both 8 = .ok (.ifCond .ne 5, 3) := by decide +kernel
theorem dX12_both_11 : decode cX12_both 11 = .ok (.iconst (-1), 1) := by decide +kernel
theorem dX12_both_12 : decode cX12_both 12 = .ok (.ireturn, 1) := by decide +kernel
theorem dX12_both_13 : decode cX12_both 13 = .ok (.iconst 0, 1) := by decide +kernel
theorem dX12_both_14 : decode cX12_both 14 = .ok (.istore_n 2, 1) := by decide +kernel
theorem dX12_both_15 : decode cX12_both 15 = .ok (.iload_n 2, 1) := by decide +kernel
theorem dX12_both_16 : decode cX12_both 16 = .ok (.aload_n 0, 1) := by decide +kernel
theorem dX12_both_17 : decode cX12_both 17 = .ok (.getfield 123, 3) := by decide +kernel
theorem dX12_both_20 : decode cX12_both 20 = .ok (.if_icmp .ge 28, 3) := by decide +kernel
theorem dX12_both_23 : decode cX12_both 23 = .ok (.aload_n 0, 1) := by decide +kernel
theorem dX12_both_24 : decode cX12_both 24 = .ok (.getfield 39, 3) := by decide +kernel
theorem dX12_both_27 : decode cX12_both 27 = .ok (.iload_n 2, 1) := by decide +kernel
theorem dX12_both_28 : decode cX12_both 28 = .ok (.iaload, 1) := by decide +kernel
theorem dX12_both_29 : decode cX12_both 29 = .ok (.iload_n 1, 1) := by decide +kernel
theorem dX12_both_30 : decode cX12_both 30 = .ok (.iand, 1) := by decide +kernel
theorem dX12_both_31 : decode cX12_both 31 = .ok (.iload_n 1, 1) := by decide +kernel
theorem dX12_both_32 : decode cX12_both 32 = .ok (.if_icmp .ne 10, 3) := by decide +kernel
theorem dX12_both_35 : decode cX12_both 35 = .ok (.aload_n 0, 1) := by decide +kernel
theorem dX12_both_36 : decode cX12_both 36 = .ok (.getfield 39, 3) := by decide +kernel
theorem dX12_both_39 : decode cX12_both 39 = .ok (.iload_n 2, 1) := by decide +kernel
theorem dX12_both_40 : decode cX12_both 40 = .ok (.iaload, 1) := by decide +kernel
theorem dX12_both_41 : decode cX12_both 41 = .ok (.ireturn, 1) := by decide +kernel
theorem dX12_both_42 : decode cX12_both 42 = .ok (.iinc 2 1, 3) := by decide +kernel
theorem dX12_both_45 : decode cX12_both 45 = .ok (.goto (-30), 3) := by decide +kernel
theorem dX12_both_48 : decode cX12_both 48 = .ok (.iconst (-1), 1) := by decide +kernel
theorem dX12_both_49 : decode cX12_both 49 = .ok (.ireturn, 1) := by decide +kernel
theorem dX12_runs_0 : decode cX12_runs 0 = .ok (.iconst 0, 1) := by decide +kernel
theorem dX12_runs_1 : decode cX12_runs 1 = .ok (.istore 4, 2) := by decide +kernel
theorem dX12_runs_3 : decode cX12_runs 3 = .ok (.iload 4, 2) := by decide +kernel
theorem dX12_runs_5 : decode cX12_runs 5 = .ok (.bipush 12, 2) := by decide +kernel
theorem dX12_runs_7 : decode cX12_runs 7 = .ok (.if_icmp .ge 17, 3) := by decide +kernel
theorem dX12_runs_10 : decode cX12_runs 10 = .ok (.aload_n 0, 1) := by decide +kernel
theorem dX12_runs_11 : decode cX12_runs 11 = .ok (.getfield 54, 3) := by decide +kernel
theorem dX12_runs_14 : decode cX12_runs 14 = .ok (.iload 4, 2) := by decide +kernel
theorem dX12_runs_16 : decode cX12_runs 16 = .ok (.iconst 0, 1) := by decide +kernel
theorem dX12_runs_17 : decode cX12_runs 17 = .ok (.iastore, 1) := by decide +kernel
theorem dX12_runs_18 : decode cX12_runs 18 = .ok (.iinc 4 1, 3) := by decide +kernel
theorem dX12_runs_21 : decode cX12_runs 21 = .ok (.goto (-18), 3) := by decide +kernel
theorem dX12_runs_24 : decode cX12_runs 24 = .ok (.aload_n 0, 1) := by decide +kernel
theorem dX12_runs_25 : decode cX12_runs 25 = .ok (.getfield 114, 3) := by decide +kernel
theorem dX12_runs_28 : decode cX12_runs 28 = .ok (.istore 4, 2) := by decide +kernel
theorem dX12_runs_30 : decode cX12_runs 30 = .ok (.lload_n 2, 1) := by decide +kernel
theorem dX12_runs_31 : decode cX12_runs 31 = .ok (.lstore 5, 2) := by decide +kernel
theorem dX12_runs_33 : decode cX12_runs 33 = .ok (.iconst 0, 1) := by decide +kernel
theorem dX12_runs_34 : decode cX12_runs 34 = .ok (.istore 7, 2) := by decide +kernel
theorem dX12_runs_36 : decode cX12_runs 36 = .ok (.iload 7, 2) := by decide +kernel
theorem dX12_runs_38 : decode cX12_runs 38 = .ok (.iload_n 1, 1) := by decide +kernel
theorem dX12_runs_39 : decode cX12_runs 39 = .ok (.if_icmp .ge 108, 3) := by decide +kernel
theorem dX12_runs_42 : decode cX12_runs 42 = .ok (.aload_n 0, 1) := by decide +kernel
theorem dX12_runs_43 : decode cX12_runs 43 = .ok (.iload 4, 2) := by decide +kernel
theorem dX12_runs_45 : decode cX12_runs 45 = .ok (.invokevirtual 120, 3) := by decide +kernel
theorem dX12_runs_48 : decode cX12_runs 48 = .ok (.istore 8, 2) := by decide +kernel
theorem dX12_runs_50 : decode cX12_runs 50 = .ok (.iload 8, 2) := by decide +kernel
theorem dX12_runs_52 : decode cX12_runs 52 = .ok (.ifCond .ne 6, 3) := by decide +kernel
theorem dX12_runs_55 : decode cX12_runs 55 = .ok (.iload 4, 2) := by decide +kernel
theorem dX12_runs_57 : decode cX12_runs 57 = .ok (.ireturn, 1) := by decide +kernel
theorem dX12_runs_58 : decode cX12_runs 58 = .ok (.lload 5, 2) := by decide +kernel
theorem dX12_runs_60 : decode cX12_runs 60 = .ok (.ldc2_w 139, 3) := by decide +kernel
theorem dX12_runs_63 : decode cX12_runs 63 = .ok (.lmul, 1) := by decide +kernel
theorem dX12_runs_64 : decode cX12_runs 64 = .ok (.ldc2_w 141, 3) := by decide +kernel
theorem dX12_runs_67 : decode cX12_runs 67 = .ok (.ladd, 1) := by decide +kernel
theorem dX12_runs_68 : decode cX12_runs 68 = .ok (.lstore 5, 2) := by decide +kernel
theorem dX12_runs_70 : decode cX12_runs 70 = .ok (.lload 5, 2) := by decide +kernel
theorem dX12_runs_72 : decode cX12_runs 72 = .ok (.bipush 33, 2) := by decide +kernel
theorem dX12_runs_74 : decode cX12_runs 74 = .ok (.lushr, 1) := by decide +kernel
theorem dX12_runs_75 : decode cX12_runs 75 = .ok (.iload 8, 2) := by decide +kernel
theorem dX12_runs_77 : decode cX12_runs 77 = .ok (.invokestatic 143, 3) := by decide +kernel
theorem dX12_runs_80 : decode cX12_runs 80 = .ok (.i2l, 1) := by decide +kernel
theorem dX12_runs_81 : decode cX12_runs 81 = .ok (.lrem, 1) := by decide +kernel
theorem dX12_runs_82 : decode cX12_runs 82 = .ok (.l2i, 1) := by decide +kernel
theorem dX12_runs_83 : decode cX12_runs 83 = .ok (.istore 9, 2) := by decide +kernel
theorem dX12_runs_85 : decode cX12_runs 85 = .ok (.iconst 0, 1) := by decide +kernel
theorem dX12_runs_86 : decode cX12_runs 86 = .ok (.istore 10, 2) := by decide +kernel
theorem dX12_runs_88 : decode cX12_runs 88 = .ok (.iload 8, 2) := by decide +kernel
theorem dX12_runs_90 : decode cX12_runs 90 = .ok (.iload 10, 2) := by decide +kernel
theorem dX12_runs_92 : decode cX12_runs 92 = .ok (.ishr, 1) := by decide +kernel
theorem dX12_runs_93 : decode cX12_runs 93 = .ok (.iconst 1, 1) := by decide +kernel
theorem dX12_runs_94 : decode cX12_runs 94 = .ok (.iand, 1) := by decide +kernel
theorem dX12_runs_95 : decode cX12_runs 95 = .ok (.ifCond .eq 8, 3) := by decide +kernel
theorem dX12_runs_98 : decode cX12_runs 98 = .ok (.iload 9, 2) := by decide +kernel
theorem dX12_runs_100 : decode cX12_runs 100 = .ok (.ifCond .le 21, 3) := by decide +kernel
theorem dX12_runs_103 : decode cX12_runs 103 = .ok (.iload 9, 2) := by decide +kernel
theorem dX12_runs_105 : decode cX12_runs 105 = .ok (.iload 8, 2) := by decide +kernel
theorem dX12_runs_107 : decode cX12_runs 107 = .ok (.iload 10, 2) := by decide +kernel
theorem dX12_runs_109 : decode cX12_runs 109 = .ok (.ishr, 1) := by decide +kernel
theorem dX12_runs_110 : decode cX12_runs 110 = .ok (.iconst 1, 1) := by decide +kernel
theorem dX12_runs_111 : decode cX12_runs 111 = .ok (.iand, 1) := by decide +kernel
theorem dX12_runs_112 : decode cX12_runs 112 = .ok (.isub, 1) := by decide +kernel
theorem dX12_runs_113 : decode cX12_runs 113 = .ok (.istore 9, 2) := by decide +kernel
theorem dX12_runs_115 : decode cX12_runs 115 = .ok (.iinc 10 1, 3) := by decide +kernel
theorem dX12_runs_118 : decode cX12_runs 118 = .ok (.goto (-30), 3) := by decide +kernel
theorem dX12_runs_121 : decode cX12_runs 121 = .ok (.iload 4, 2) := by decide +kernel
theorem dX12_runs_123 : decode cX12_runs 123 = .ok (.iconst 1, 1) := by decide +kernel
theorem dX12_runs_124 : decode cX12_runs 124 = .ok (.iload 10, 2) := by decide +kernel
theorem dX12_runs_126 : decode cX12_runs 126 = .ok (.ishl, 1) := by decide +kernel
theorem dX12_runs_127 : decode cX12_runs 127 = .ok (.ixor, 1) := by decide +kernel
theorem dX12_runs_128 : decode cX12_runs 128 = .ok (.istore 4, 2) := by decide +kernel
theorem dX12_runs_130 : decode cX12_runs 130 = .ok (.aload_n 0, 1) := by decide +kernel
theorem dX12_runs_131 : decode cX12_runs 131 = .ok (.getfield 54, 3) := by decide +kernel
theorem dX12_runs_134 : decode cX12_runs 134 = .ok (.iload 10, 2) := by decide +kernel
theorem dX12_runs_136 : decode cX12_runs 136 = .ok (.dup2, 1) := by decide +kernel
theorem dX12_runs_137 : decode cX12_runs 137 = .ok (.iaload, 1) := by decide +kernel
theorem dX12_runs_138 : decode cX12_runs 138 = .ok (.iconst 1, 1) := by decide +kernel
theorem dX12_runs_139 : decode cX12_runs 139 = .ok (.iadd, 1) := by decide +kernel
theorem dX12_runs_140 : decode cX12_runs 140 = .ok (.iastore, 1) := by decide +kernel
theorem dX12_runs_141 : decode cX12_runs 141 = .ok (.iinc 7 1, 3) := by decide +kernel
theorem dX12_runs_144 : decode cX12_runs 144 = .ok (.goto (-108), 3) := by decide +kernel
theorem dX12_runs_147 : decode cX12_runs 147 = .ok (.iload 4, 2) := by decide +kernel
theorem dX12_runs_149 : decode cX12_runs 149 = .ok (.ireturn, 1) := by decide +kernel
theorem dX12_run_0 : decode cX12_run 0 = .ok (.aload_n 0, 1) := by decide +kernel
theorem dX12_run_1 : decode cX12_run 1 = .ok (.iconst 0, 1) := by decide +kernel
theorem dX12_run_2 : decode cX12_run 2 = .ok (.putfield 75, 3) := by decide +kernel
theorem dX12_run_5 : decode cX12_run 5 = .ok (.iload_n 1, 1) := by decide +kernel
theorem dX12_run_6 : decode cX12_run 6 = .ok (.iconst 0, 1) := by decide +kernel
theorem dX12_run_7 : decode cX12_run 7 = .ok (.sipush 2000, 3) := by decide +kernel
theorem dX12_run_10 : decode cX12_run 10 = .ok (.invokestatic 148, 3) := by decide +kernel
theorem dX12_run_13 : decode cX12_run 13 = .ok (.ifCond .eq 12, 3) := by decide +kernel
theorem dX12_run_16 : decode cX12_run 16 = .ok (.aload_n 0, 1) := by decide +kernel
theorem dX12_run_17 : decode cX12_run 17 = .ok (.iload_n 1, 1) := by decide +kernel
theorem dX12_run_18 : decode cX12_run 18 = .ok (.lload_n 2, 1) := by decide +kernel
theorem dX12_run_19 : decode cX12_run 19 = .ok (.invokevirtual 152, 3) := by decide +kernel
theorem dX12_run_22 : decode cX12_run 22 = .ok (.goto 4, 3) := by decide +kernel
theorem dX12_run_25 : decode cX12_run 25 = .ok (.iconst (-1), 1) := by decide +kernel
theorem dX12_run_26 : decode cX12_run 26 = .ok (.ireturn, 1) := by decide +kernel
theorem dX12_changed_0 : decode cX12_changed 0 = .ok (.aload_n 0, 1) := by decide +kernel
theorem dX12_changed_1 : decode cX12_changed 1 = .ok (.iconst 0, 1) := by decide +kernel
theorem dX12_changed_2 : decode cX12_changed 2 = .ok (.putfield 75, 3) := by decide +kernel
theorem dX12_changed_5 : decode cX12_changed 5 = .ok (.iload_n 1, 1) := by decide +kernel
theorem dX12_changed_6 : decode cX12_changed 6 = .ok (.iconst 0, 1) := by decide +kernel
theorem dX12_changed_7 : decode cX12_changed 7 = .ok (.sipush 2000, 3) := by decide +kernel
theorem dX12_changed_10 : decode cX12_changed 10 = .ok (.invokestatic 148, 3) := by decide +kernel
theorem dX12_changed_13 : decode cX12_changed 13 = .ok (.ifCond .eq 11, 3) := by decide +kernel
theorem dX12_changed_16 : decode cX12_changed 16 = .ok (.iload 4, 2) := by decide +kernel
theorem dX12_changed_18 : decode cX12_changed 18 = .ok (.invokestatic 117, 3) := by decide +kernel
theorem dX12_changed_21 : decode cX12_changed 21 = .ok (.ifCond .ne 5, 3) := by decide +kernel
theorem dX12_changed_24 : decode cX12_changed 24 = .ok (.iconst (-1), 1) := by decide +kernel
theorem dX12_changed_25 : decode cX12_changed 25 = .ok (.ireturn, 1) := by decide +kernel
theorem dX12_changed_26 : decode cX12_changed 26 = .ok (.aload_n 0, 1) := by decide +kernel
theorem dX12_changed_27 : decode cX12_changed 27 = .ok (.iload_n 1, 1) := by decide +kernel
theorem dX12_changed_28 : decode cX12_changed 28 = .ok (.lload_n 2, 1) := by decide +kernel
theorem dX12_changed_29 : decode cX12_changed 29 = .ok (.invokevirtual 152, 3) := by decide +kernel
theorem dX12_changed_32 : decode cX12_changed 32 = .ok (.istore 5, 2) := by decide +kernel
theorem dX12_changed_34 : decode cX12_changed 34 = .ok (.aload_n 0, 1) := by decide +kernel
theorem dX12_changed_35 : decode cX12_changed 35 = .ok (.getfield 54, 3) := by decide +kernel
theorem dX12_changed_38 : decode cX12_changed 38 = .ok (.iload 4, 2) := by decide +kernel
theorem dX12_changed_40 : decode cX12_changed 40 = .ok (.iaload, 1) := by decide +kernel
theorem dX12_changed_41 : decode cX12_changed 41 = .ok (.ireturn, 1) := by decide +kernel
theorem dX12_node_0 : decode cX12_node 0 = .ok (.aload_n 0, 1) := by decide +kernel
theorem dX12_node_1 : decode cX12_node 1 = .ok (.iconst 0, 1) := by decide +kernel
theorem dX12_node_2 : decode cX12_node 2 = .ok (.putfield 75, 3) := by decide +kernel
theorem dX12_node_5 : decode cX12_node 5 = .ok (.aload_n 0, 1) := by decide +kernel
theorem dX12_node_6 : decode cX12_node 6 = .ok (.getfield 156, 3) := by decide +kernel
theorem dX12_node_9 : decode cX12_node 9 = .ok (.bipush 10, 2) := by decide +kernel
theorem dX12_node_11 : decode cX12_node 11 = .ok (.if_icmp .eq 13, 3) := by decide +kernel
theorem dX12_node_14 : decode cX12_node 14 = .ok (.iload_n 1, 1) := by decide +kernel
theorem dX12_node_15 : decode cX12_node 15 = .ok (.iconst 0, 1) := by decide +kernel
theorem dX12_node_16 : decode cX12_node 16 = .ok (.bipush 100, 2) := by decide +kernel
theorem dX12_node_18 : decode cX12_node 18 = .ok (.invokestatic 148, 3) := by decide +kernel
theorem dX12_node_21 : decode cX12_node 21 = .ok (.ifCond .ne 5, 3) := by decide +kernel
theorem dX12_node_24 : decode cX12_node 24 = .ok (.iconst (-1), 1) := by decide +kernel
theorem dX12_node_25 : decode cX12_node 25 = .ok (.ireturn, 1) := by decide +kernel
theorem dX12_node_26 : decode cX12_node 26 = .ok (.aload_n 0, 1) := by decide +kernel
theorem dX12_node_27 : decode cX12_node 27 = .ok (.getfield 57, 3) := by decide +kernel
theorem dX12_node_30 : decode cX12_node 30 = .ok (.aload_n 0, 1) := by decide +kernel
theorem dX12_node_31 : decode cX12_node 31 = .ok (.getfield 156, 3) := by decide +kernel
theorem dX12_node_34 : decode cX12_node 34 = .ok (.iload_n 1, 1) := by decide +kernel
theorem dX12_node_35 : decode cX12_node 35 = .ok (.iastore, 1) := by decide +kernel
theorem dX12_node_36 : decode cX12_node 36 = .ok (.aload_n 0, 1) := by decide +kernel
theorem dX12_node_37 : decode cX12_node 37 = .ok (.dup, 1) := by decide +kernel
theorem dX12_node_38 : decode cX12_node 38 = .ok (.getfield 156, 3) := by decide +kernel
theorem dX12_node_41 : decode cX12_node 41 = .ok (.iconst 1, 1) := by decide +kernel
theorem dX12_node_42 : decode cX12_node 42 = .ok (.iadd, 1) := by decide +kernel
theorem dX12_node_43 : decode cX12_node 43 = .ok (.putfield 156, 3) := by decide +kernel
theorem dX12_node_46 : decode cX12_node 46 = .ok (.aload_n 0, 1) := by decide +kernel
theorem dX12_node_47 : decode cX12_node 47 = .ok (.getfield 156, 3) := by decide +kernel
theorem dX12_node_50 : decode cX12_node 50 = .ok (.iconst 1, 1) := by decide +kernel
theorem dX12_node_51 : decode cX12_node 51 = .ok (.isub, 1) := by decide +kernel
theorem dX12_node_52 : decode cX12_node 52 = .ok (.ireturn, 1) := by decide +kernel
theorem dX12_arc_0 : decode cX12_arc 0 = .ok (.aload_n 0, 1) := by decide +kernel
theorem dX12_arc_1 : decode cX12_arc 1 = .ok (.iconst 0, 1) := by decide +kernel
theorem dX12_arc_2 : decode cX12_arc 2 = .ok (.putfield 75, 3) := by decide +kernel
theorem dX12_arc_5 : decode cX12_arc 5 = .ok (.aload_n 0, 1) := by decide +kernel
theorem dX12_arc_6 : decode cX12_arc 6 = .ok (.getfield 159, 3) := by decide +kernel
theorem dX12_arc_9 : decode cX12_arc 9 = .ok (.bipush 20, 2) := by decide +kernel
theorem dX12_arc_11 : decode cX12_arc 11 = .ok (.if_icmp .eq 41, 3) := by decide +kernel
theorem dX12_arc_14 : decode cX12_arc 14 = .ok (.iload_n 1, 1) := by decide +kernel
theorem dX12_arc_15 : decode cX12_arc 15 = .ok (.iconst 0, 1) := by decide +kernel
theorem dX12_arc_16 : decode cX12_arc 16 = .ok (.aload_n 0, 1) := by decide +kernel
theorem dX12_arc_17 : decode cX12_arc 17 = .ok (.getfield 156, 3) := by decide +kernel
theorem dX12_arc_20 : decode cX12_arc 20 = .ok (.iconst 1, 1) := by decide +kernel
theorem dX12_arc_21 : decode cX12_arc 21 = .ok (.isub, 1) := by decide +kernel
theorem dX12_arc_22 : decode cX12_arc 22 = .ok (.invokestatic 148, 3) := by decide +kernel
theorem dX12_arc_25 : decode cX12_arc 25 = .ok (.ifCond .eq 27, 3) := by decide +kernel
theorem dX12_arc_28 : decode cX12_arc 28 = .ok (.iload_n 2, 1) := by decide +kernel
theorem dX12_arc_29 : decode cX12_arc 29 = .ok (.iconst 0, 1) := by decide +kernel
theorem dX12_arc_30 : decode cX12_arc 30 = .ok (.aload_n 0, 1) := by decide +kernel
theorem dX12_arc_31 : decode cX12_arc 31 = .ok (.getfield 156, 3) := by decide +kernel
theorem dX12_arc_34 : decode cX12_arc 34 = .ok (.iconst 1, 1) := by decide +kernel
theorem dX12_arc_35 : decode cX12_arc 35 = .ok (.isub, 1) := by decide +kernel
theorem dX12_arc_36 : decode cX12_arc 36 = .ok (.invokestatic 148, 3) := by decide +kernel
theorem dX12_arc_39 : decode cX12_arc 39 = .ok (.ifCond .eq 13, 3) := by decide +kernel
theorem dX12_arc_42 : decode cX12_arc 42 = .ok (.iload_n 3, 1) := by decide +kernel
theorem dX12_arc_43 : decode cX12_arc 43 = .ok (.iconst 0, 1) := by decide +kernel
theorem dX12_arc_44 : decode cX12_arc 44 = .ok (.bipush 9, 2) := by decide +kernel
theorem dX12_arc_46 : decode cX12_arc 46 = .ok (.invokestatic 148, 3) := by decide +kernel
theorem dX12_arc_49 : decode cX12_arc 49 = .ok (.ifCond .ne 5, 3) := by decide +kernel
theorem dX12_arc_52 : decode cX12_arc 52 = .ok (.iconst (-1), 1) := by decide +kernel
theorem dX12_arc_53 : decode cX12_arc 53 = .ok (.ireturn, 1) := by decide +kernel
theorem dX12_arc_54 : decode cX12_arc 54 = .ok (.aload_n 0, 1) := by decide +kernel
theorem dX12_arc_55 : decode cX12_arc 55 = .ok (.getfield 60, 3) := by decide +kernel
theorem dX12_arc_58 : decode cX12_arc 58 = .ok (.aload_n 0, 1) := by decide +kernel
theorem dX12_arc_59 : decode cX12_arc 59 = .ok (.getfield 159, 3) := by decide +kernel
theorem dX12_arc_62 : decode cX12_arc 62 = .ok (.iload_n 1, 1) := by decide +kernel
theorem dX12_arc_63 : decode cX12_arc 63 = .ok (.iastore, 1) := by decide +kernel
theorem dX12_arc_64 : decode cX12_arc 64 = .ok (.aload_n 0, 1) := by decide +kernel
theorem dX12_arc_65 : decode cX12_arc 65 = .ok (.getfield 63, 3) := by decide +kernel
theorem dX12_arc_68 : decode cX12_arc 68 = .ok (.aload_n 0, 1) := by decide +kernel
theorem dX12_arc_69 : decode cX12_arc 69 = .ok (.getfield 159, 3) := by decide +kernel
theorem dX12_arc_72 : decode cX12_arc 72 = .ok (.iload_n 2, 1) := by decide +kernel
theorem dX12_arc_73 : decode cX12_arc 73 = .ok (.iastore, 1) := by decide +kernel
theorem dX12_arc_74 : decode cX12_arc 74 = .ok (.aload_n 0, 1) := by decide +kernel
theorem dX12_arc_75 : decode cX12_arc 75 = .ok (.getfield 66, 3) := by decide +kernel
theorem dX12_arc_78 : decode cX12_arc 78 = .ok (.aload_n 0, 1) := by decide +kernel
theorem dX12_arc_79 : decode cX12_arc 79 = .ok (.getfield 159, 3) := by decide +kernel
theorem dX12_arc_82 : decode cX12_arc 82 = .ok (.iload_n 3, 1) := by decide +kernel
theorem dX12_arc_83 : decode cX12_arc 83 = .ok (.iastore, 1) := by decide +kernel
theorem dX12_arc_84 : decode cX12_arc 84 = .ok (.aload_n 0, 1) := by decide +kernel
theorem dX12_arc_85 : decode cX12_arc 85 = .ok (.dup, 1) := by decide +kernel
theorem dX12_arc_86 : decode cX12_arc 86 = .ok (.getfield 159, 3) := by decide +kernel
theorem dX12_arc_89 : decode cX12_arc 89 = .ok (.iconst 1, 1) := by decide +kernel
theorem dX12_arc_90 : decode cX12_arc 90 = .ok (.iadd, 1) := by decide +kernel
theorem dX12_arc_91 : decode cX12_arc 91 = .ok (.putfield 159, 3) := by decide +kernel
theorem dX12_arc_94 : decode cX12_arc 94 = .ok (.aload_n 0, 1) := by decide +kernel
theorem dX12_arc_95 : decode cX12_arc 95 = .ok (.getfield 159, 3) := by decide +kernel
theorem dX12_arc_98 : decode cX12_arc 98 = .ok (.iconst 1, 1) := by decide +kernel
theorem dX12_arc_99 : decode cX12_arc 99 = .ok (.isub, 1) := by decide +kernel
theorem dX12_arc_100 : decode cX12_arc 100 = .ok (.ireturn, 1) := by decide +kernel
theorem dX12_tokens_0 : decode cX12_tokens 0 = .ok (.aload_n 0, 1) := by decide +kernel
theorem dX12_tokens_1 : decode cX12_tokens 1 = .ok (.iconst 0, 1) := by decide +kernel
theorem dX12_tokens_2 : decode cX12_tokens 2 = .ok (.putfield 75, 3) := by decide +kernel
theorem dX12_tokens_5 : decode cX12_tokens 5 = .ok (.iload_n 1, 1) := by decide +kernel
theorem dX12_tokens_6 : decode cX12_tokens 6 = .ok (.iconst 0, 1) := by decide +kernel
theorem dX12_tokens_7 : decode cX12_tokens 7 = .ok (.aload_n 0, 1) := by decide +kernel
theorem dX12_tokens_8 : decode cX12_tokens 8 = .ok (.getfield 159, 3) := by decide +kernel
theorem dX12_tokens_11 : decode cX12_tokens 11 = .ok (.iconst 1, 1) := by decide +kernel
theorem dX12_tokens_12 : decode cX12_tokens 12 = .ok (.isub, 1) := by decide +kernel
theorem dX12_tokens_13 : decode cX12_tokens 13 = .ok (.invokestatic 148, 3) := by decide +kernel
theorem dX12_tokens_16 : decode cX12_tokens 16 = .ok (.ifCond .eq 13, 3) := by decide +kernel
theorem dX12_tokens_19 : decode cX12_tokens 19 = .ok (.iload_n 2, 1) := by decide +kernel
theorem dX12_tokens_20 : decode cX12_tokens 20 = .ok (.iconst 0, 1) := by decide +kernel
theorem dX12_tokens_21 : decode cX12_tokens 21 = .ok (.bipush 9, 2) := by decide +kernel
theorem dX12_tokens_23 : decode cX12_tokens 23 = .ok (.invokestatic 148, 3) := by decide +kernel
theorem dX12_tokens_26 : decode cX12_tokens 26 = .ok (.ifCond .ne 5, 3) := by decide +kernel
theorem dX12_tokens_29 : decode cX12_tokens 29 = .ok (.iconst 0, 1) := by decide +kernel
theorem dX12_tokens_30 : decode cX12_tokens 30 = .ok (.ireturn, 1) := by decide +kernel
theorem dX12_tokens_31 : decode cX12_tokens 31 = .ok (.aload_n 0, 1) := by decide +kernel
theorem dX12_tokens_32 : decode cX12_tokens 32 = .ok (.getfield 66, 3) := by decide +kernel
theorem dX12_tokens_35 : decode cX12_tokens 35 = .ok (.iload_n 1, 1) := by decide +kernel
theorem dX12_tokens_36 : decode cX12_tokens 36 = .ok (.iload_n 2, 1) := by decide +kernel
theorem dX12_tokens_37 : decode cX12_tokens 37 = .ok (.iastore, 1) := by decide +kernel
theorem dX12_tokens_38 : decode cX12_tokens 38 = .ok (.iconst 1, 1) := by decide +kernel
theorem dX12_tokens_39 : decode cX12_tokens 39 = .ok (.ireturn, 1) := by decide +kernel
theorem dX12_clear_0 : decode cX12_clear 0 = .ok (.aload_n 0, 1) := by decide +kernel
theorem dX12_clear_1 : decode cX12_clear 1 = .ok (.iconst 0, 1) := by decide +kernel
theorem dX12_clear_2 : decode cX12_clear 2 = .ok (.putfield 75, 3) := by decide +kernel
theorem dX12_clear_5 : decode cX12_clear 5 = .ok (.aload_n 0, 1) := by decide +kernel
theorem dX12_clear_6 : decode cX12_clear 6 = .ok (.iconst 0, 1) := by decide +kernel
theorem dX12_clear_7 : decode cX12_clear 7 = .ok (.putfield 156, 3) := by decide +kernel
theorem dX12_clear_10 : decode cX12_clear 10 = .ok (.aload_n 0, 1) := by decide +kernel
theorem dX12_clear_11 : decode cX12_clear 11 = .ok (.iconst 0, 1) := by decide +kernel
theorem dX12_clear_12 : decode cX12_clear 12 = .ok (.putfield 159, 3) := by decide +kernel
theorem dX12_clear_15 : decode cX12_clear 15 = .ok (.return_, 1) := by decide +kernel
theorem dX12_round_0 : decode cX12_round 0 = .ok (.iconst 0, 1) := by decide +kernel
theorem dX12_round_1 : decode cX12_round 1 = .ok (.istore 6, 2) := by decide +kernel
theorem dX12_round_3 : decode cX12_round 3 = .ok (.iload 6, 2) := by decide +kernel
theorem dX12_round_5 : decode cX12_round 5 = .ok (.aload_n 0, 1) := by decide +kernel
theorem dX12_round_6 : decode cX12_round 6 = .ok (.getfield 159, 3) := by decide +kernel
theorem dX12_round_9 : decode cX12_round 9 = .ok (.if_icmp .ge 110, 3) := by decide +kernel
theorem dX12_round_12 : decode cX12_round 12 = .ok (.aload_n 0, 1) := by decide +kernel
theorem dX12_round_13 : decode cX12_round 13 = .ok (.getfield 60, 3) := by decide +kernel
theorem dX12_round_16 : decode cX12_round 16 = .ok (.iload 6, 2) := by decide +kernel
theorem dX12_round_18 : decode cX12_round 18 = .ok (.iaload, 1) := by decide +kernel
theorem dX12_round_19 : decode cX12_round 19 = .ok (.iload_n 2, 1) := by decide +kernel
theorem dX12_round_20 : decode cX12_round 20 = .ok (.if_icmp .ne 93, 3) := by decide +kernel
theorem dX12_round_23 : decode cX12_round 23 = .ok (.aload_n 0, 1) := by decide +kernel
theorem dX12_round_24 : decode cX12_round 24 = .ok (.getfield 63, 3) := by decide +kernel
theorem dX12_round_27 : decode cX12_round 27 = .ok (.iload 6, 2) := by decide +kernel
theorem dX12_round_29 : decode cX12_round 29 = .ok (.iaload, 1) := by decide +kernel
theorem dX12_round_30 : decode cX12_round 30 = .ok (.iload_n 1, 1) := by decide +kernel
theorem dX12_round_31 : decode cX12_round 31 = .ok (.if_icmp .ge 6, 3) := by decide +kernel
theorem dX12_round_34 : decode cX12_round 34 = .ok (.goto 79, 3) := by decide +kernel
theorem dX12_round_37 : decode cX12_round 37 = .ok (.aload_n 0, 1) := by decide +kernel
theorem dX12_round_38 : decode cX12_round 38 = .ok (.getfield 63, 3) := by decide +kernel
theorem dX12_round_41 : decode cX12_round 41 = .ok (.iload 6, 2) := by decide +kernel
theorem dX12_round_43 : decode cX12_round 43 = .ok (.iaload, 1) := by decide +kernel
theorem dX12_round_44 : decode cX12_round 44 = .ok (.istore 7, 2) := by decide +kernel
theorem dX12_round_46 : decode cX12_round 46 = .ok (.iload 7, 2) := by decide +kernel
theorem dX12_round_48 : decode cX12_round 48 = .ok (.iload_n 1, 1) := by decide +kernel
theorem dX12_round_49 : decode cX12_round 49 = .ok (.if_icmp .ne 22, 3) := by decide +kernel
theorem dX12_round_52 : decode cX12_round 52 = .ok (.aload_n 0, 1) := by decide +kernel
theorem dX12_round_53 : decode cX12_round 53 = .ok (.iload 4, 2) := by decide +kernel
theorem dX12_round_55 : decode cX12_round 55 = .ok (.iload 5, 2) := by decide +kernel
theorem dX12_round_57 : decode cX12_round 57 = .ok (.aload_n 0, 1) := by decide +kernel
theorem dX12_round_58 : decode cX12_round 58 = .ok (.getfield 66, 3) := by decide +kernel
theorem dX12_round_61 : decode cX12_round 61 = .ok (.iload 6, 2) := by decide +kernel
theorem dX12_round_63 : decode cX12_round 63 = .ok (.iaload, 1) := by decide +kernel
theorem dX12_round_64 : decode cX12_round 64 = .ok (.iadd, 1) := by decide +kernel
theorem dX12_round_65 : decode cX12_round 65 = .ok (.invokevirtual 162, 3) := by decide +kernel
theorem dX12_round_68 : decode cX12_round 68 = .ok (.goto 45, 3) := by decide +kernel
theorem dX12_round_71 : decode cX12_round 71 = .ok (.iload_n 3, 1) := by decide +kernel
theorem dX12_round_72 : decode cX12_round 72 = .ok (.iload 7, 2) := by decide +kernel
theorem dX12_round_74 : decode cX12_round 74 = .ok (.ishr, 1) := by decide +kernel
theorem dX12_round_75 : decode cX12_round 75 = .ok (.iconst 1, 1) := by decide +kernel
theorem dX12_round_76 : decode cX12_round 76 = .ok (.iand, 1) := by decide +kernel
theorem dX12_round_77 : decode cX12_round 77 = .ok (.ifCond .ne 36, 3) := by decide +kernel
theorem dX12_round_80 : decode cX12_round 80 = .ok (.aload_n 0, 1) := by decide +kernel
theorem dX12_round_81 : decode cX12_round 81 = .ok (.iload_n 1, 1) := by decide +kernel
theorem dX12_round_82 : decode cX12_round 82 = .ok (.iload 7, 2) := by decide +kernel
theorem dX12_round_84 : decode cX12_round 84 = .ok (.iload_n 3, 1) := by decide +kernel
theorem dX12_round_85 : decode cX12_round 85 = .ok (.iconst 1, 1) := by decide +kernel
theorem dX12_round_86 : decode cX12_round 86 = .ok (.iload 7, 2) := by decide +kernel
theorem dX12_round_88 : decode cX12_round 88 = .ok (.ishl, 1) := by decide +kernel
theorem dX12_round_89 : decode cX12_round 89 = .ok (.ior, 1) := by decide +kernel
theorem dX12_round_90 : decode cX12_round 90 = .ok (.iload 4, 2) := by decide +kernel
theorem dX12_round_92 : decode cX12_round 92 = .ok (.aload_n 0, 1) := by decide +kernel
theorem dX12_round_93 : decode cX12_round 93 = .ok (.getfield 57, 3) := by decide +kernel
theorem dX12_round_96 : decode cX12_round 96 = .ok (.iload 7, 2) := by decide +kernel
theorem dX12_round_98 : decode cX12_round 98 = .ok (.iaload, 1) := by decide +kernel
theorem dX12_round_99 : decode cX12_round 99 = .ok (.iadd, 1) := by decide +kernel
theorem dX12_round_100 : decode cX12_round 100 = .ok (.iload 5, 2) := by decide +kernel
theorem dX12_round_102 : decode cX12_round 102 = .ok (.aload_n 0, 1) := by decide +kernel
theorem dX12_round_103 : decode cX12_round 103 = .ok (.getfield 66, 3) := by decide +kernel
theorem dX12_round_106 : decode cX12_round 106 = .ok (.iload 6, 2) := by decide +kernel
theorem dX12_round_108 : decode cX12_round 108 = .ok (.iaload, 1) := by decide +kernel
theorem dX12_round_109 : decode cX12_round 109 = .ok (.iadd, 1) := by decide +kernel
theorem dX12_round_110 : decode cX12_round 110 = .ok (.invokevirtual 166, 3) := by decide +kernel
theorem dX12_round_113 : decode cX12_round 113 = .ok (.iinc 6 1, 3) := by decide +kernel
theorem dX12_round_116 : decode cX12_round 116 = .ok (.goto (-113), 3) := by decide +kernel
theorem dX12_round_119 : decode cX12_round 119 = .ok (.return_, 1) := by decide +kernel
theorem dX12_ring_0 : decode cX12_ring 0 = .ok (.aload_n 0, 1) := by decide +kernel
theorem dX12_ring_1 : decode cX12_ring 1 = .ok (.dup, 1) := by decide +kernel
theorem dX12_ring_2 : decode cX12_ring 2 = .ok (.getfield 170, 3) := by decide +kernel
theorem dX12_ring_5 : decode cX12_ring 5 = .ok (.iconst 1, 1) := by decide +kernel
theorem dX12_ring_6 : decode cX12_ring 6 = .ok (.iadd, 1) := by decide +kernel
theorem dX12_ring_7 : decode cX12_ring 7 = .ok (.putfield 170, 3) := by decide +kernel
theorem dX12_ring_10 : decode cX12_ring 10 = .ok (.iload_n 2, 1) := by decide +kernel
theorem dX12_ring_11 : decode cX12_ring 11 = .ok (.ifCond .ne 11, 3) := by decide +kernel
theorem dX12_ring_14 : decode cX12_ring 14 = .ok (.aload_n 0, 1) := by decide +kernel
theorem dX12_ring_15 : decode cX12_ring 15 = .ok (.iconst 1, 1) := by decide +kernel
theorem dX12_ring_16 : decode cX12_ring 16 = .ok (.putfield 173, 3) := by decide +kernel
theorem dX12_ring_19 : decode cX12_ring 19 = .ok (.goto 42, 3) := by decide +kernel
theorem dX12_ring_22 : decode cX12_ring 22 = .ok (.iload_n 1, 1) := by decide +kernel
theorem dX12_ring_23 : decode cX12_ring 23 = .ok (.i2l, 1) := by decide +kernel
theorem dX12_ring_24 : decode cX12_ring 24 = .ok (.aload_n 0, 1) := by decide +kernel
theorem dX12_ring_25 : decode cX12_ring 25 = .ok (.getfield 177, 3) := by decide +kernel
theorem dX12_ring_28 : decode cX12_ring 28 = .ok (.lmul, 1) := by decide +kernel
theorem dX12_ring_29 : decode cX12_ring 29 = .ok (.aload_n 0, 1) := by decide +kernel
theorem dX12_ring_30 : decode cX12_ring 30 = .ok (.getfield 181, 3) := by decide +kernel
theorem dX12_ring_33 : decode cX12_ring 33 = .ok (.iload_n 2, 1) := by decide +kernel
theorem dX12_ring_34 : decode cX12_ring 34 = .ok (.i2l, 1) := by decide +kernel
theorem dX12_ring_35 : decode cX12_ring 35 = .ok (.lmul, 1) := by decide +kernel
theorem dX12_ring_36 : decode cX12_ring 36 = .ok (.lcmp, 1) := by decide +kernel
theorem dX12_ring_37 : decode cX12_ring 37 = .ok (.ifCond .gt 12, 3) := by decide +kernel
theorem dX12_ring_40 : decode cX12_ring 40 = .ok (.aload_n 0, 1) := by decide +kernel
theorem dX12_ring_41 : decode cX12_ring 41 = .ok (.getfield 181, 3) := by decide +kernel
theorem dX12_ring_44 : decode cX12_ring 44 = .ok (.lconst 0, 1) := by decide +kernel
theorem dX12_ring_45 : decode cX12_ring 45 = .ok (.lcmp, 1) := by decide +kernel
theorem dX12_ring_46 : decode cX12_ring 46 = .ok (.ifCond .ge 15, 3) := by decide +kernel
theorem dX12_ring_49 : decode cX12_ring 49 = .ok (.aload_n 0, 1) := by decide +kernel
theorem dX12_ring_50 : decode cX12_ring 50 = .ok (.iload_n 1, 1) := by decide +kernel
theorem dX12_ring_51 : decode cX12_ring 51 = .ok (.i2l, 1) := by decide +kernel
theorem dX12_ring_52 : decode cX12_ring 52 = .ok (.putfield 181, 3) := by decide +kernel
theorem dX12_ring_55 : decode cX12_ring 55 = .ok (.aload_n 0, 1) := by decide +kernel
theorem dX12_ring_56 : decode cX12_ring 56 = .ok (.iload_n 2, 1) := by decide +kernel
theorem dX12_ring_57 : decode cX12_ring 57 = .ok (.i2l, 1) := by decide +kernel
theorem dX12_ring_58 : decode cX12_ring 58 = .ok (.putfield 177, 3) := by decide +kernel
theorem dX12_ring_61 : decode cX12_ring 61 = .ok (.return_, 1) := by decide +kernel
theorem dX12_goRound_0 : decode cX12_goRound 0 = .ok (.aload_n 0, 1) := by decide +kernel
theorem dX12_goRound_1 : decode cX12_goRound 1 = .ok (.iconst 0, 1) := by decide +kernel
theorem dX12_goRound_2 : decode cX12_goRound 2 = .ok (.putfield 173, 3) := by decide +kernel
theorem dX12_goRound_5 : decode cX12_goRound 5 = .ok (.aload_n 0, 1) := by decide +kernel
theorem dX12_goRound_6 : decode cX12_goRound 6 = .ok (.iconst 0, 1) := by decide +kernel
theorem dX12_goRound_7 : decode cX12_goRound 7 = .ok (.putfield 170, 3) := by decide +kernel
theorem dX12_goRound_10 : decode cX12_goRound 10 = .ok (.aload_n 0, 1) := by decide +kernel
theorem dX12_goRound_11 : decode cX12_goRound 11 = .ok (.ldc2_w 184, 3) := by decide +kernel
theorem dX12_goRound_14 : decode cX12_goRound 14 = .ok (.putfield 181, 3) := by decide +kernel
theorem dX12_goRound_17 : decode cX12_goRound 17 = .ok (.aload_n 0, 1) := by decide +kernel
theorem dX12_goRound_18 : decode cX12_goRound 18 = .ok (.lconst 1, 1) := by decide +kernel
theorem dX12_goRound_19 : decode cX12_goRound 19 = .ok (.putfield 177, 3) := by decide +kernel
theorem dX12_goRound_22 : decode cX12_goRound 22 = .ok (.iconst 0, 1) := by decide +kernel
theorem dX12_goRound_23 : decode cX12_goRound 23 = .ok (.istore_n 1, 1) := by decide +kernel
theorem dX12_goRound_24 : decode cX12_goRound 24 = .ok (.iload_n 1, 1) := by decide +kernel
theorem dX12_goRound_25 : decode cX12_goRound 25 = .ok (.aload_n 0, 1) := by decide +kernel
theorem dX12_goRound_26 : decode cX12_goRound 26 = .ok (.getfield 156, 3) := by decide +kernel
theorem dX12_goRound_29 : decode cX12_goRound 29 = .ok (.if_icmp .ge 25, 3) := by decide +kernel
theorem dX12_goRound_32 : decode cX12_goRound 32 = .ok (.aload_n 0, 1) := by decide +kernel
theorem dX12_goRound_33 : decode cX12_goRound 33 = .ok (.iload_n 1, 1) := by decide +kernel
theorem dX12_goRound_34 : decode cX12_goRound 34 = .ok (.iload_n 1, 1) := by decide +kernel
theorem dX12_goRound_35 : decode cX12_goRound 35 = .ok (.iconst 1, 1) := by decide +kernel
theorem dX12_goRound_36 : decode cX12_goRound 36 = .ok (.iload_n 1, 1) := by decide +kernel
theorem dX12_goRound_37 : decode cX12_goRound 37 = .ok (.ishl, 1) := by decide +kernel
theorem dX12_goRound_38 : decode cX12_goRound 38 = .ok (.aload_n 0, 1) := by decide +kernel
theorem dX12_goRound_39 : decode cX12_goRound 39 = .ok (.getfield 57, 3) := by decide +kernel
theorem dX12_goRound_42 : decode cX12_goRound 42 = .ok (.iload_n 1, 1) := by decide +kernel
theorem dX12_goRound_43 : decode cX12_goRound 43 = .ok (.iaload, 1) := by decide +kernel
theorem dX12_goRound_44 : decode cX12_goRound 44 = .ok (.iconst 0, 1) := by decide +kernel
theorem dX12_goRound_45 : decode cX12_goRound 45 = .ok (.invokevirtual 166, 3) := by decide +kernel
theorem dX12_goRound_48 : decode cX12_goRound 48 = .ok (.iinc 1 1, 3) := by decide +kernel
theorem dX12_goRound_51 : decode cX12_goRound 51 = .ok (.goto (-27), 3) := by decide +kernel
theorem dX12_goRound_54 : decode cX12_goRound 54 = .ok (.return_, 1) := by decide +kernel
theorem dX12_dead_0 : decode cX12_dead 0 = .ok (.aload_n 0, 1) := by decide +kernel
theorem dX12_dead_1 : decode cX12_dead 1 = .ok (.iconst 0, 1) := by decide +kernel
theorem dX12_dead_2 : decode cX12_dead 2 = .ok (.putfield 75, 3) := by decide +kernel
theorem dX12_dead_5 : decode cX12_dead 5 = .ok (.aload_n 0, 1) := by decide +kernel
theorem dX12_dead_6 : decode cX12_dead 6 = .ok (.invokevirtual 186, 3) := by decide +kernel
theorem dX12_dead_9 : decode cX12_dead 9 = .ok (.aload_n 0, 1) := by decide +kernel
theorem dX12_dead_10 : decode cX12_dead 10 = .ok (.getfield 173, 3) := by decide +kernel
theorem dX12_dead_13 : decode cX12_dead 13 = .ok (.ifCond .eq 7, 3) := by decide +kernel
theorem dX12_dead_16 : decode cX12_dead 16 = .ok (.iconst 1, 1) := by decide +kernel
theorem dX12_dead_17 : decode cX12_dead 17 = .ok (.goto 4, 3) := by decide +kernel
theorem dX12_dead_20 : decode cX12_dead 20 = .ok (.iconst 0, 1) := by decide +kernel
theorem dX12_dead_21 : decode cX12_dead 21 = .ok (.ireturn, 1) := by decide +kernel
theorem dX12_turn_0 : decode cX12_turn 0 = .ok (.aload_n 0, 1) := by decide +kernel
theorem dX12_turn_1 : decode cX12_turn 1 = .ok (.iconst 0, 1) := by decide +kernel
theorem dX12_turn_2 : decode cX12_turn 2 = .ok (.putfield 75, 3) := by decide +kernel
theorem dX12_turn_5 : decode cX12_turn 5 = .ok (.aload_n 0, 1) := by decide +kernel
theorem dX12_turn_6 : decode cX12_turn 6 = .ok (.invokevirtual 186, 3) := by decide +kernel
theorem dX12_turn_9 : decode cX12_turn 9 = .ok (.iload_n 1, 1) := by decide +kernel
theorem dX12_turn_10 : decode cX12_turn 10 = .ok (.iconst 0, 1) := by decide +kernel
theorem dX12_turn_11 : decode cX12_turn 11 = .ok (.iconst 1, 1) := by decide +kernel
theorem dX12_turn_12 : decode cX12_turn 12 = .ok (.invokestatic 148, 3) := by decide +kernel
theorem dX12_turn_15 : decode cX12_turn 15 = .ok (.ifCond .eq 17, 3) := by decide +kernel
theorem dX12_turn_18 : decode cX12_turn 18 = .ok (.aload_n 0, 1) := by decide +kernel
theorem dX12_turn_19 : decode cX12_turn 19 = .ok (.getfield 173, 3) := by decide +kernel
theorem dX12_turn_22 : decode cX12_turn 22 = .ok (.ifCond .ne 10, 3) := by decide +kernel
theorem dX12_turn_25 : decode cX12_turn 25 = .ok (.aload_n 0, 1) := by decide +kernel
theorem dX12_turn_26 : decode cX12_turn 26 = .ok (.getfield 170, 3) := by decide +kernel
theorem dX12_turn_29 : decode cX12_turn 29 = .ok (.ifCond .ne 7, 3) := by decide +kernel
theorem dX12_turn_32 : decode cX12_turn 32 = .ok (.ldc2_w 184, 3) := by decide +kernel
theorem dX12_turn_35 : decode cX12_turn 35 = .ok (.lreturn, 1) := by decide +kernel
theorem dX12_turn_36 : decode cX12_turn 36 = .ok (.aload_n 0, 1) := by decide +kernel
theorem dX12_turn_37 : decode cX12_turn 37 = .ok (.getfield 181, 3) := by decide +kernel
theorem dX12_turn_40 : decode cX12_turn 40 = .ok (.lstore_n 2, 1) := by decide +kernel
theorem dX12_turn_41 : decode cX12_turn 41 = .ok (.aload_n 0, 1) := by decide +kernel
theorem dX12_turn_42 : decode cX12_turn 42 = .ok (.getfield 177, 3) := by decide +kernel
theorem dX12_turn_45 : decode cX12_turn 45 = .ok (.lstore 4, 2) := by decide +kernel
theorem dX12_turn_47 : decode cX12_turn 47 = .ok (.lload 4, 2) := by decide +kernel
theorem dX12_turn_49 : decode cX12_turn 49 = .ok (.lconst 0, 1) := by decide +kernel
theorem dX12_turn_50 : decode cX12_turn 50 = .ok (.lcmp, 1) := by decide +kernel
theorem dX12_turn_51 : decode cX12_turn 51 = .ok (.ifCond .eq 19, 3) := by decide +kernel
theorem dX12_turn_54 : decode cX12_turn 54 = .ok (.lload_n 2, 1) := by decide +kernel
theorem dX12_turn_55 : decode cX12_turn 55 = .ok (.lload 4, 2) := by decide +kernel
theorem dX12_turn_57 : decode cX12_turn 57 = .ok (.lrem, 1) := by decide +kernel
theorem dX12_turn_58 : decode cX12_turn 58 = .ok (.lstore 6, 2) := by decide +kernel
theorem dX12_turn_60 : decode cX12_turn 60 = .ok (.lload 4, 2) := by decide +kernel
theorem dX12_turn_62 : decode cX12_turn 62 = .ok (.lstore_n 2, 1) := by decide +kernel
theorem dX12_turn_63 : decode cX12_turn 63 = .ok (.lload 6, 2) := by decide +kernel
theorem dX12_turn_65 : decode cX12_turn 65 = .ok (.lstore 4, 2) := by decide +kernel
theorem dX12_turn_67 : decode cX12_turn 67 = .ok (.goto (-20), 3) := by decide +kernel
theorem dX12_turn_70 : decode cX12_turn 70 = .ok (.iload_n 1, 1) := by decide +kernel
theorem dX12_turn_71 : decode cX12_turn 71 = .ok (.ifCond .ne 12, 3) := by decide +kernel
theorem dX12_turn_74 : decode cX12_turn 74 = .ok (.aload_n 0, 1) := by decide +kernel
theorem dX12_turn_75 : decode cX12_turn 75 = .ok (.getfield 181, 3) := by decide +kernel
theorem dX12_turn_78 : decode cX12_turn 78 = .ok (.lload_n 2, 1) := by decide +kernel
theorem dX12_turn_79 : decode cX12_turn 79 = .ok (.ldiv, 1) := by decide +kernel
theorem dX12_turn_80 : decode cX12_turn 80 = .ok (.goto 9, 3) := by decide +kernel
theorem dX12_turn_83 : decode cX12_turn 83 = .ok (.aload_n 0, 1) := by decide +kernel
theorem dX12_turn_84 : decode cX12_turn 84 = .ok (.getfield 177, 3) := by decide +kernel
theorem dX12_turn_87 : decode cX12_turn 87 = .ok (.lload_n 2, 1) := by decide +kernel
theorem dX12_turn_88 : decode cX12_turn 88 = .ok (.ldiv, 1) := by decide +kernel
theorem dX12_turn_89 : decode cX12_turn 89 = .ok (.lreturn, 1) := by decide +kernel
theorem dX12_times_0 : decode cX12_times 0 = .ok (.iconst 0, 1) := by decide +kernel
theorem dX12_times_1 : decode cX12_times 1 = .ok (.istore_n 2, 1) := by decide +kernel
theorem dX12_times_2 : decode cX12_times 2 = .ok (.iload_n 2, 1) := by decide +kernel
theorem dX12_times_3 : decode cX12_times 3 = .ok (.bipush 10, 2) := by decide +kernel
theorem dX12_times_5 : decode cX12_times 5 = .ok (.if_icmp .ge 16, 3) := by decide +kernel
theorem dX12_times_8 : decode cX12_times 8 = .ok (.aload_n 0, 1) := by decide +kernel
theorem dX12_times_9 : decode cX12_times 9 = .ok (.getfield 72, 3) := by decide +kernel
theorem dX12_times_12 : decode cX12_times 12 = .ok (.iload_n 2, 1) := by decide +kernel
theorem dX12_times_13 : decode cX12_times 13 = .ok (.iconst 0, 1) := by decide +kernel
theorem dX12_times_14 : decode cX12_times 14 = .ok (.iastore, 1) := by decide +kernel
theorem dX12_times_15 : decode cX12_times 15 = .ok (.iinc 2 1, 3) := by decide +kernel
theorem dX12_times_18 : decode cX12_times 18 = .ok (.goto (-16), 3) := by decide +kernel
theorem dX12_times_21 : decode cX12_times 21 = .ok (.iconst 1, 1) := by decide +kernel
theorem dX12_times_22 : decode cX12_times 22 = .ok (.istore_n 2, 1) := by decide +kernel
theorem dX12_times_23 : decode cX12_times 23 = .ok (.iload_n 2, 1) := by decide +kernel
theorem dX12_times_24 : decode cX12_times 24 = .ok (.iload_n 1, 1) := by decide +kernel
theorem dX12_times_25 : decode cX12_times 25 = .ok (.if_icmp .gt 280, 3) := by decide +kernel
theorem dX12_times_28 : decode cX12_times 28 = .ok (.iconst 1, 1) := by decide +kernel
theorem dX12_times_29 : decode cX12_times 29 = .ok (.istore_n 3, 1) := by decide +kernel
theorem dX12_times_30 : decode cX12_times 30 = .ok (.iload_n 3, 1) := by decide +kernel
theorem dX12_times_31 : decode cX12_times 31 = .ok (.ifCond .eq 225, 3) := by decide +kernel
theorem dX12_times_34 : decode cX12_times 34 = .ok (.iconst 0, 1) := by decide +kernel
theorem dX12_times_35 : decode cX12_times 35 = .ok (.istore_n 3, 1) := by decide +kernel
theorem dX12_times_36 : decode cX12_times 36 = .ok (.iconst 0, 1) := by decide +kernel
theorem dX12_times_37 : decode cX12_times 37 = .ok (.istore 4, 2) := by decide +kernel
theorem dX12_times_39 : decode cX12_times 39 = .ok (.iload 4, 2) := by decide +kernel
theorem dX12_times_41 : decode cX12_times 41 = .ok (.aload_n 0, 1) := by decide +kernel
theorem dX12_times_42 : decode cX12_times 42 = .ok (.getfield 156, 3) := by decide +kernel
theorem dX12_times_45 : decode cX12_times 45 = .ok (.if_icmp .ge 208, 3) := by decide +kernel
theorem dX12_times_48 : decode cX12_times 48 = .ok (.aload_n 0, 1) := by decide +kernel
theorem dX12_times_49 : decode cX12_times 49 = .ok (.getfield 72, 3) := by decide +kernel
theorem dX12_times_52 : decode cX12_times 52 = .ok (.iload 4, 2) := by decide +kernel
theorem dX12_times_54 : decode cX12_times 54 = .ok (.iaload, 1) := by decide +kernel
theorem dX12_times_55 : decode cX12_times 55 = .ok (.iload_n 2, 1) := by decide +kernel
theorem dX12_times_56 : decode cX12_times 56 = .ok (.if_icmp .ne 6, 3) := by decide +kernel
theorem dX12_times_59 : decode cX12_times 59 = .ok (.goto 188, 3) := by decide +kernel
theorem dX12_times_62 : decode cX12_times 62 = .ok (.iconst 0, 1) := by decide +kernel
theorem dX12_times_63 : decode cX12_times 63 = .ok (.istore 5, 2) := by decide +kernel
theorem dX12_times_65 : decode cX12_times 65 = .ok (.iconst 1, 1) := by decide +kernel
theorem dX12_times_66 : decode cX12_times 66 = .ok (.istore 6, 2) := by decide +kernel
theorem dX12_times_68 : decode cX12_times 68 = .ok (.iconst 0, 1) := by decide +kernel
theorem dX12_times_69 : decode cX12_times 69 = .ok (.istore 7, 2) := by decide +kernel
theorem dX12_times_71 : decode cX12_times 71 = .ok (.iconst 0, 1) := by decide +kernel
theorem dX12_times_72 : decode cX12_times 72 = .ok (.istore 8, 2) := by decide +kernel
theorem dX12_times_74 : decode cX12_times 74 = .ok (.iload 8, 2) := by decide +kernel
theorem dX12_times_76 : decode cX12_times 76 = .ok (.aload_n 0, 1) := by decide +kernel
theorem dX12_times_77 : decode cX12_times 77 = .ok (.getfield 159, 3) := by decide +kernel
theorem dX12_times_80 : decode cX12_times 80 = .ok (.if_icmp .ge 117, 3) := by decide +kernel
theorem dX12_times_83 : decode cX12_times 83 = .ok (.iload_n 2, 1) := by decide +kernel
theorem dX12_times_84 : decode cX12_times 84 = .ok (.aload_n 0, 1) := by decide +kernel
theorem dX12_times_85 : decode cX12_times 85 = .ok (.getfield 66, 3) := by decide +kernel
theorem dX12_times_88 : decode cX12_times 88 = .ok (.iload 8, 2) := by decide +kernel
theorem dX12_times_90 : decode cX12_times 90 = .ok (.iaload, 1) := by decide +kernel
theorem dX12_times_91 : decode cX12_times 91 = .ok (.isub, 1) := by decide +kernel
theorem dX12_times_92 : decode cX12_times 92 = .ok (.istore 9, 2) := by decide +kernel
theorem dX12_times_94 : decode cX12_times 94 = .ok (.aload_n 0, 1) := by decide +kernel
theorem dX12_times_95 : decode cX12_times 95 = .ok (.getfield 63, 3) := by decide +kernel
theorem dX12_times_98 : decode cX12_times 98 = .ok (.iload 8, 2) := by decide +kernel
theorem dX12_times_100 : decode cX12_times 100 = .ok (.iaload, 1) := by decide +kernel
theorem dX12_times_101 : decode cX12_times 101 = .ok (.iload 4, 2) := by decide +kernel
theorem dX12_times_103 : decode cX12_times 103 = .ok (.if_icmp .ne 88, 3) := by decide +kernel
theorem dX12_times_106 : decode cX12_times 106 = .ok (.iload 9, 2) := by decide +kernel
theorem dX12_times_108 : decode cX12_times 108 = .ok (.iconst 1, 1) := by decide +kernel
theorem dX12_times_109 : decode cX12_times 109 = .ok (.if_icmp .ge 6, 3) := by decide +kernel
theorem dX12_times_112 : decode cX12_times 112 = .ok (.goto 79, 3) := by decide +kernel
theorem dX12_times_115 : decode cX12_times 115 = .ok (.iload 9, 2) := by decide +kernel
theorem dX12_times_117 : decode cX12_times 117 = .ok (.iload_n 2, 1) := by decide +kernel
theorem dX12_times_118 : decode cX12_times 118 = .ok (.if_icmp .ne 25, 3) := by decide +kernel
theorem dX12_times_121 : decode cX12_times 121 = .ok (.aload_n 0, 1) := by decide +kernel
theorem dX12_times_122 : decode cX12_times 122 = .ok (.getfield 72, 3) := by decide +kernel
theorem dX12_times_125 : decode cX12_times 125 = .ok (.aload_n 0, 1) := by decide +kernel
theorem dX12_times_126 : decode cX12_times 126 = .ok (.getfield 60, 3) := by decide +kernel
theorem dX12_times_129 : decode cX12_times 129 = .ok (.iload 8, 2) := by decide +kernel
theorem dX12_times_131 : decode cX12_times 131 = .ok (.iaload, 1) := by decide +kernel
theorem dX12_times_132 : decode cX12_times 132 = .ok (.iaload, 1) := by decide +kernel
theorem dX12_times_133 : decode cX12_times 133 = .ok (.iload_n 2, 1) := by decide +kernel
theorem dX12_times_134 : decode cX12_times 134 = .ok (.if_icmp .eq 9, 3) := by decide +kernel
theorem dX12_times_137 : decode cX12_times 137 = .ok (.iconst 0, 1) := by decide +kernel
theorem dX12_times_138 : decode cX12_times 138 = .ok (.istore 6, 2) := by decide +kernel
theorem dX12_times_140 : decode cX12_times 140 = .ok (.goto 51, 3) := by decide +kernel
theorem dX12_times_143 : decode cX12_times 143 = .ok (.aload_n 0, 1) := by decide +kernel
theorem dX12_times_144 : decode cX12_times 144 = .ok (.getfield 69, 3) := by decide +kernel
theorem dX12_times_147 : decode cX12_times 147 = .ok (.sipush 201, 3) := by decide +kernel
theorem dX12_times_150 : decode cX12_times 150 = .ok (.aload_n 0, 1) := by decide +kernel
theorem dX12_times_151 : decode cX12_times 151 = .ok (.getfield 60, 3) := by decide +kernel
theorem dX12_times_154 : decode cX12_times 154 = .ok (.iload 8, 2) := by decide +kernel
theorem dX12_times_156 : decode cX12_times 156 = .ok (.iaload, 1) := by decide +kernel
theorem dX12_times_157 : decode cX12_times 157 = .ok (.imul, 1) := by decide +kernel
theorem dX12_times_158 : decode cX12_times 158 = .ok (.iload 9, 2) := by decide +kernel
theorem dX12_times_160 : decode cX12_times 160 = .ok (.iadd, 1) := by decide +kernel
theorem dX12_times_161 : decode cX12_times 161 = .ok (.iaload, 1) := by decide +kernel
theorem dX12_times_162 : decode cX12_times 162 = .ok (.istore 10, 2) := by decide +kernel
theorem dX12_times_164 : decode cX12_times 164 = .ok (.iload 7, 2) := by decide +kernel
theorem dX12_times_166 : decode cX12_times 166 = .ok (.ifCond .ne 9, 3) := by decide +kernel
theorem dX12_times_169 : decode cX12_times 169 = .ok (.iload 10, 2) := by decide +kernel
theorem dX12_times_171 : decode cX12_times 171 = .ok (.iconst (-1), 1) := by decide +kernel
theorem dX12_times_172 : decode cX12_times 172 = .ok (.if_icmp .ne 7, 3) := by decide +kernel
theorem dX12_times_175 : decode cX12_times 175 = .ok (.iconst 1, 1) := by decide +kernel
theorem dX12_times_176 : decode cX12_times 176 = .ok (.goto 4, 3) := by decide +kernel
theorem dX12_times_179 : decode cX12_times 179 = .ok (.iconst 0, 1) := by decide +kernel
theorem dX12_times_180 : decode cX12_times 180 = .ok (.istore 7, 2) := by decide +kernel
theorem dX12_times_182 : decode cX12_times 182 = .ok (.iload 5, 2) := by decide +kernel
theorem dX12_times_184 : decode cX12_times 184 = .ok (.iload 10, 2) := by decide +kernel
theorem dX12_times_186 : decode cX12_times 186 = .ok (.invokestatic 189, 3) := by decide +kernel
theorem dX12_times_189 : decode cX12_times 189 = .ok (.istore 5, 2) := by decide +kernel
theorem dX12_times_191 : decode cX12_times 191 = .ok (.iinc 8 1, 3) := by decide +kernel
theorem dX12_times_194 : decode cX12_times 194 = .ok (.goto (-120), 3) := by decide +kernel
theorem dX12_times_197 : decode cX12_times 197 = .ok (.iload 6, 2) := by decide +kernel
theorem dX12_times_199 : decode cX12_times 199 = .ok (.ifCond .ne 6, 3) := by decide +kernel
theorem dX12_times_202 : decode cX12_times 202 = .ok (.goto 45, 3) := by decide +kernel
theorem dX12_times_205 : decode cX12_times 205 = .ok (.aload_n 0, 1) := by decide +kernel
theorem dX12_times_206 : decode cX12_times 206 = .ok (.getfield 69, 3) := by decide +kernel
theorem dX12_times_209 : decode cX12_times 209 = .ok (.sipush 201, 3) := by decide +kernel
theorem dX12_times_212 : decode cX12_times 212 = .ok (.iload 4, 2) := by decide +kernel
theorem dX12_times_214 : decode cX12_times 214 = .ok (.imul, 1) := by decide +kernel
theorem dX12_times_215 : decode cX12_times 215 = .ok (.iload_n 2, 1) := by decide +kernel
theorem dX12_times_216 : decode cX12_times 216 = .ok (.iadd, 1) := by decide +kernel
theorem dX12_times_217 : decode cX12_times 217 = .ok (.iload 7, 2) := by decide +kernel
theorem dX12_times_219 : decode cX12_times 219 = .ok (.ifCond .eq 7, 3) := by decide +kernel
theorem dX12_times_222 : decode cX12_times 222 = .ok (.iconst (-1), 1) := by decide +kernel
theorem dX12_times_223 : decode cX12_times 223 = .ok (.goto 13, 3) := by decide +kernel
theorem dX12_times_226 : decode cX12_times 226 = .ok (.iload 5, 2) := by decide +kernel
theorem dX12_times_228 : decode cX12_times 228 = .ok (.aload_n 0, 1) := by decide +kernel
theorem dX12_times_229 : decode cX12_times 229 = .ok (.getfield 57, 3) := by decide +kernel
theorem dX12_times_232 : decode cX12_times 232 = .ok (.iload 4, 2) := by decide +kernel
theorem dX12_times_234 : decode cX12_times 234 = .ok (.iaload, 1) := by decide +kernel
theorem dX12_times_235 : decode cX12_times 235 = .ok (.iadd, 1) := by decide +kernel
theorem dX12_times_236 : decode cX12_times 236 = .ok (.iastore, 1) := by decide +kernel
theorem dX12_times_237 : decode cX12_times 237 = .ok (.aload_n 0, 1) := by decide +kernel
theorem dX12_times_238 : decode cX12_times 238 = .ok (.getfield 72, 3) := by decide +kernel
theorem dX12_times_241 : decode cX12_times 241 = .ok (.iload 4, 2) := by decide +kernel
theorem dX12_times_243 : decode cX12_times 243 = .ok (.iload_n 2, 1) := by decide +kernel
theorem dX12_times_244 : decode cX12_times 244 = .ok (.iastore, 1) := by decide +kernel
theorem dX12_times_245 : decode cX12_times 245 = .ok (.iconst 1, 1) := by decide +kernel
theorem dX12_times_246 : decode cX12_times 246 = .ok (.istore_n 3, 1) := by decide +kernel
theorem dX12_times_247 : decode cX12_times 247 = .ok (.iinc 4 1, 3) := by decide +kernel
theorem dX12_times_250 : decode cX12_times 250 = .ok (.goto (-211), 3) := by decide +kernel
theorem dX12_times_253 : decode cX12_times 253 = .ok (.goto (-223), 3) := by decide +kernel
theorem dX12_times_256 : decode cX12_times 256 = .ok (.iconst 0, 1) := by decide +kernel
theorem dX12_times_257 : decode cX12_times 257 = .ok (.istore 4, 2) := by decide +kernel
theorem dX12_times_259 : decode cX12_times 259 = .ok (.iload 4, 2) := by decide +kernel
theorem dX12_times_261 : decode cX12_times 261 = .ok (.aload_n 0, 1) := by decide +kernel
theorem dX12_times_262 : decode cX12_times 262 = .ok (.getfield 156, 3) := by decide +kernel
theorem dX12_times_265 : decode cX12_times 265 = .ok (.if_icmp .ge 34, 3) := by decide +kernel
theorem dX12_times_268 : decode cX12_times 268 = .ok (.aload_n 0, 1) := by decide +kernel
theorem dX12_times_269 : decode cX12_times 269 = .ok (.getfield 72, 3) := by decide +kernel
theorem dX12_times_272 : decode cX12_times 272 = .ok (.iload 4, 2) := by decide +kernel
theorem dX12_times_274 : decode cX12_times 274 = .ok (.iaload, 1) := by decide +kernel
theorem dX12_times_275 : decode cX12_times 275 = .ok (.iload_n 2, 1) := by decide +kernel
theorem dX12_times_276 : decode cX12_times 276 = .ok (.if_icmp .eq 17, 3) := by decide +kernel
theorem dX12_times_279 : decode cX12_times 279 = .ok (.aload_n 0, 1) := by decide +kernel
theorem dX12_times_280 : decode cX12_times 280 = .ok (.getfield 69, 3) := by decide +kernel
theorem dX12_times_283 : decode cX12_times 283 = .ok (.sipush 201, 3) := by decide +kernel
theorem dX12_times_286 : decode cX12_times 286 = .ok (.iload 4, 2) := by decide +kernel
theorem dX12_times_288 : decode cX12_times 288 = .ok (.imul, 1) := by decide +kernel
theorem dX12_times_289 : decode cX12_times 289 = .ok (.iload_n 2, 1) := by decide +kernel
theorem dX12_times_290 : decode cX12_times 290 = .ok (.iadd, 1) := by decide +kernel
theorem dX12_times_291 : decode cX12_times 291 = .ok (.iconst (-1), 1) := by decide +kernel
theorem dX12_times_292 : decode cX12_times 292 = .ok (.iastore, 1) := by decide +kernel
theorem dX12_times_293 : decode cX12_times 293 = .ok (.iinc 4 1, 3) := by decide +kernel
theorem dX12_times_296 : decode cX12_times 296 = .ok (.goto (-37), 3) := by decide +kernel
theorem dX12_times_299 : decode cX12_times 299 = .ok (.iinc 2 1, 3) := by decide +kernel
theorem dX12_times_302 : decode cX12_times 302 = .ok (.goto (-279), 3) := by decide +kernel
theorem dX12_times_305 : decode cX12_times 305 = .ok (.return_, 1) := by decide +kernel
theorem dX12_time_0 : decode cX12_time 0 = .ok (.aload_n 0, 1) := by decide +kernel
theorem dX12_time_1 : decode cX12_time 1 = .ok (.iconst 1, 1) := by decide +kernel
theorem dX12_time_2 : decode cX12_time 2 = .ok (.putfield 75, 3) := by decide +kernel
theorem dX12_time_5 : decode cX12_time 5 = .ok (.iload_n 1, 1) := by decide +kernel
theorem dX12_time_6 : decode cX12_time 6 = .ok (.iconst 0, 1) := by decide +kernel
theorem dX12_time_7 : decode cX12_time 7 = .ok (.aload_n 0, 1) := by decide +kernel
theorem dX12_time_8 : decode cX12_time 8 = .ok (.getfield 156, 3) := by decide +kernel
theorem dX12_time_11 : decode cX12_time 11 = .ok (.iconst 1, 1) := by decide +kernel
theorem dX12_time_12 : decode cX12_time 12 = .ok (.isub, 1) := by decide +kernel
theorem dX12_time_13 : decode cX12_time 13 = .ok (.invokestatic 148, 3) := by decide +kernel
theorem dX12_time_16 : decode cX12_time 16 = .ok (.ifCond .eq 14, 3) := by decide +kernel
theorem dX12_time_19 : decode cX12_time 19 = .ok (.iload_n 2, 1) := by decide +kernel
theorem dX12_time_20 : decode cX12_time 20 = .ok (.iconst 1, 1) := by decide +kernel
theorem dX12_time_21 : decode cX12_time 21 = .ok (.sipush 200, 3) := by decide +kernel
theorem dX12_time_24 : decode cX12_time 24 = .ok (.invokestatic 148, 3) := by decide +kernel
theorem dX12_time_27 : decode cX12_time 27 = .ok (.ifCond .ne 5, 3) := by decide +kernel
theorem dX12_time_30 : decode cX12_time 30 = .ok (.iconst 0, 1) := by decide +kernel
theorem dX12_time_31 : decode cX12_time 31 = .ok (.ireturn, 1) := by decide +kernel
theorem dX12_time_32 : decode cX12_time 32 = .ok (.aload_n 0, 1) := by decide +kernel
theorem dX12_time_33 : decode cX12_time 33 = .ok (.iload_n 2, 1) := by decide +kernel
theorem dX12_time_34 : decode cX12_time 34 = .ok (.invokevirtual 194, 3) := by decide +kernel
theorem dX12_time_37 : decode cX12_time 37 = .ok (.aload_n 0, 1) := by decide +kernel
theorem dX12_time_38 : decode cX12_time 38 = .ok (.getfield 69, 3) := by decide +kernel
theorem dX12_time_41 : decode cX12_time 41 = .ok (.sipush 201, 3) := by decide +kernel
theorem dX12_time_44 : decode cX12_time 44 = .ok (.iload_n 1, 1) := by decide +kernel
theorem dX12_time_45 : decode cX12_time 45 = .ok (.imul, 1) := by decide +kernel
theorem dX12_time_46 : decode cX12_time 46 = .ok (.iload_n 2, 1) := by decide +kernel
theorem dX12_time_47 : decode cX12_time 47 = .ok (.iadd, 1) := by decide +kernel
theorem dX12_time_48 : decode cX12_time 48 = .ok (.iaload, 1) := by decide +kernel
theorem dX12_time_49 : decode cX12_time 49 = .ok (.istore_n 3, 1) := by decide +kernel
theorem dX12_time_50 : decode cX12_time 50 = .ok (.iload_n 3, 1) := by decide +kernel
theorem dX12_time_51 : decode cX12_time 51 = .ok (.iconst (-1), 1) := by decide +kernel
theorem dX12_time_52 : decode cX12_time 52 = .ok (.if_icmp .ne 5, 3) := by decide +kernel
theorem dX12_time_55 : decode cX12_time 55 = .ok (.iconst 0, 1) := by decide +kernel
theorem dX12_time_56 : decode cX12_time 56 = .ok (.ireturn, 1) := by decide +kernel
theorem dX12_time_57 : decode cX12_time 57 = .ok (.aload_n 0, 1) := by decide +kernel
theorem dX12_time_58 : decode cX12_time 58 = .ok (.iconst 0, 1) := by decide +kernel
theorem dX12_time_59 : decode cX12_time 59 = .ok (.putfield 75, 3) := by decide +kernel
theorem dX12_time_62 : decode cX12_time 62 = .ok (.iload_n 3, 1) := by decide +kernel
theorem dX12_time_63 : decode cX12_time 63 = .ok (.ireturn, 1) := by decide +kernel
theorem dX12_helps_0 : decode cX12_helps 0 = .ok (.aload_n 0, 1) := by decide +kernel
theorem dX12_helps_1 : decode cX12_helps 1 = .ok (.iconst 0, 1) := by decide +kernel
theorem dX12_helps_2 : decode cX12_helps 2 = .ok (.putfield 75, 3) := by decide +kernel
theorem dX12_helps_5 : decode cX12_helps 5 = .ok (.aload_n 0, 1) := by decide +kernel
theorem dX12_helps_6 : decode cX12_helps 6 = .ok (.invokevirtual 186, 3) := by decide +kernel
theorem dX12_helps_9 : decode cX12_helps 9 = .ok (.aload_n 0, 1) := by decide +kernel
theorem dX12_helps_10 : decode cX12_helps 10 = .ok (.getfield 173, 3) := by decide +kernel
theorem dX12_helps_13 : decode cX12_helps 13 = .ok (.ifCond .ne 10, 3) := by decide +kernel
theorem dX12_helps_16 : decode cX12_helps 16 = .ok (.aload_n 0, 1) := by decide +kernel
theorem dX12_helps_17 : decode cX12_helps 17 = .ok (.getfield 170, 3) := by decide +kernel
theorem dX12_helps_20 : decode cX12_helps 20 = .ok (.ifCond .ne 5, 3) := by decide +kernel
theorem dX12_helps_23 : decode cX12_helps 23 = .ok (.iconst (-1), 1) := by decide +kernel
theorem dX12_helps_24 : decode cX12_helps 24 = .ok (.ireturn, 1) := by decide +kernel
theorem dX12_helps_25 : decode cX12_helps 25 = .ok (.iconst (-1), 1) := by decide +kernel
theorem dX12_helps_26 : decode cX12_helps 26 = .ok (.istore_n 1, 1) := by decide +kernel
theorem dX12_helps_27 : decode cX12_helps 27 = .ok (.aload_n 0, 1) := by decide +kernel
theorem dX12_helps_28 : decode cX12_helps 28 = .ok (.getfield 181, 3) := by decide +kernel
theorem dX12_helps_31 : decode cX12_helps 31 = .ok (.lstore_n 2, 1) := by decide +kernel
theorem dX12_helps_32 : decode cX12_helps 32 = .ok (.aload_n 0, 1) := by decide +kernel
theorem dX12_helps_33 : decode cX12_helps 33 = .ok (.getfield 177, 3) := by decide +kernel
theorem dX12_helps_36 : decode cX12_helps 36 = .ok (.lstore 4, 2) := by decide +kernel
theorem dX12_helps_38 : decode cX12_helps 38 = .ok (.iconst 0, 1) := by decide +kernel
theorem dX12_helps_39 : decode cX12_helps 39 = .ok (.istore 6, 2) := by decide +kernel
theorem dX12_helps_41 : decode cX12_helps 41 = .ok (.iload 6, 2) := by decide +kernel
theorem dX12_helps_43 : decode cX12_helps 43 = .ok (.aload_n 0, 1) := by decide +kernel
theorem dX12_helps_44 : decode cX12_helps 44 = .ok (.getfield 159, 3) := by decide +kernel
theorem dX12_helps_47 : decode cX12_helps 47 = .ok (.if_icmp .ge 69, 3) := by decide +kernel
theorem dX12_helps_50 : decode cX12_helps 50 = .ok (.aload_n 0, 1) := by decide +kernel
theorem dX12_helps_51 : decode cX12_helps 51 = .ok (.getfield 66, 3) := by decide +kernel
theorem dX12_helps_54 : decode cX12_helps 54 = .ok (.iload 6, 2) := by decide +kernel
theorem dX12_helps_56 : decode cX12_helps 56 = .ok (.dup2, 1) := by decide +kernel
theorem dX12_helps_57 : decode cX12_helps 57 = .ok (.iaload, 1) := by decide +kernel
theorem dX12_helps_58 : decode cX12_helps 58 = .ok (.iconst 1, 1) := by decide +kernel
theorem dX12_helps_59 : decode cX12_helps 59 = .ok (.iadd, 1) := by decide +kernel
theorem dX12_helps_60 : decode cX12_helps 60 = .ok (.iastore, 1) := by decide +kernel
theorem dX12_helps_61 : decode cX12_helps 61 = .ok (.aload_n 0, 1) := by decide +kernel
theorem dX12_helps_62 : decode cX12_helps 62 = .ok (.invokevirtual 186, 3) := by decide +kernel
theorem dX12_helps_65 : decode cX12_helps 65 = .ok (.aload_n 0, 1) := by decide +kernel
theorem dX12_helps_66 : decode cX12_helps 66 = .ok (.getfield 66, 3) := by decide +kernel
theorem dX12_helps_69 : decode cX12_helps 69 = .ok (.iload 6, 2) := by decide +kernel
theorem dX12_helps_71 : decode cX12_helps 71 = .ok (.dup2, 1) := by decide +kernel
theorem dX12_helps_72 : decode cX12_helps 72 = .ok (.iaload, 1) := by decide +kernel
theorem dX12_helps_73 : decode cX12_helps 73 = .ok (.iconst 1, 1) := by decide +kernel
theorem dX12_helps_74 : decode cX12_helps 74 = .ok (.isub, 1) := by decide +kernel
theorem dX12_helps_75 : decode cX12_helps 75 = .ok (.iastore, 1) := by decide +kernel
theorem dX12_helps_76 : decode cX12_helps 76 = .ok (.aload_n 0, 1) := by decide +kernel
theorem dX12_helps_77 : decode cX12_helps 77 = .ok (.getfield 181, 3) := by decide +kernel
theorem dX12_helps_80 : decode cX12_helps 80 = .ok (.lload 4, 2) := by decide +kernel
theorem dX12_helps_82 : decode cX12_helps 82 = .ok (.lmul, 1) := by decide +kernel
theorem dX12_helps_83 : decode cX12_helps 83 = .ok (.lload_n 2, 1) := by decide +kernel
theorem dX12_helps_84 : decode cX12_helps 84 = .ok (.aload_n 0, 1) := by decide +kernel
theorem dX12_helps_85 : decode cX12_helps 85 = .ok (.getfield 177, 3) := by decide +kernel
theorem dX12_helps_88 : decode cX12_helps 88 = .ok (.lmul, 1) := by decide +kernel
theorem dX12_helps_89 : decode cX12_helps 89 = .ok (.lcmp, 1) := by decide +kernel
theorem dX12_helps_90 : decode cX12_helps 90 = .ok (.ifCond .lt 6, 3) := by decide +kernel
theorem dX12_helps_93 : decode cX12_helps 93 = .ok (.goto 17, 3) := by decide +kernel
theorem dX12_helps_96 : decode cX12_helps 96 = .ok (.iload 6, 2) := by decide +kernel
theorem dX12_helps_98 : decode cX12_helps 98 = .ok (.istore_n 1, 1) := by decide +kernel
theorem dX12_helps_99 : decode cX12_helps 99 = .ok (.aload_n 0, 1) := by decide +kernel
theorem dX12_helps_100 : decode cX12_helps 100 = .ok (.getfield 181, 3) := by decide +kernel
theorem dX12_helps_103 : decode cX12_helps 103 = .ok (.lstore_n 2, 1) := by decide +kernel
theorem dX12_helps_104 : decode cX12_helps 104 = .ok (.aload_n 0, 1) := by decide +kernel
theorem dX12_helps_105 : decode cX12_helps 105 = .ok (.getfield 177, 3) := by decide +kernel
theorem dX12_helps_108 : decode cX12_helps 108 = .ok (.lstore 4, 2) := by decide +kernel
theorem dX12_helps_110 : decode cX12_helps 110 = .ok (.iinc 6 1, 3) := by decide +kernel
theorem dX12_helps_113 : decode cX12_helps 113 = .ok (.goto (-72), 3) := by decide +kernel
theorem dX12_helps_116 : decode cX12_helps 116 = .ok (.iload_n 1, 1) := by decide +kernel
theorem dX12_helps_117 : decode cX12_helps 117 = .ok (.ireturn, 1) := by decide +kernel
theorem dX12_count_0 : decode cX12_count 0 = .ok (.aload_n 0, 1) := by decide +kernel
theorem dX12_count_1 : decode cX12_count 1 = .ok (.iconst 0, 1) := by decide +kernel
theorem dX12_count_2 : decode cX12_count 2 = .ok (.putfield 75, 3) := by decide +kernel
theorem dX12_count_5 : decode cX12_count 5 = .ok (.iconst 0, 1) := by decide +kernel
theorem dX12_count_6 : decode cX12_count 6 = .ok (.istore_n 2, 1) := by decide +kernel
theorem dX12_count_7 : decode cX12_count 7 = .ok (.iload_n 1, 1) := by decide +kernel
theorem dX12_count_8 : decode cX12_count 8 = .ok (.tableswitch 154 0 7 #[48, 82, 121, 128, 134, 139, 144, 149], 48) := by decide +kernel
theorem dX12_count_56 : decode cX12_count 56 = .ok (.iconst 0, 1) := by decide +kernel
theorem dX12_count_57 : decode cX12_count 57 = .ok (.istore_n 3, 1) := by decide +kernel
theorem dX12_count_58 : decode cX12_count 58 = .ok (.iload_n 3, 1) := by decide +kernel
theorem dX12_count_59 : decode cX12_count 59 = .ok (.bipush 12, 2) := by decide +kernel
theorem dX12_count_61 : decode cX12_count 61 = .ok (.if_icmp .ge 27, 3) := by decide +kernel
theorem dX12_count_64 : decode cX12_count 64 = .ok (.iload_n 2, 1) := by decide +kernel
theorem dX12_count_65 : decode cX12_count 65 = .ok (.aload_n 0, 1) := by decide +kernel
theorem dX12_count_66 : decode cX12_count 66 = .ok (.getfield 13, 3) := by decide +kernel
theorem dX12_count_69 : decode cX12_count 69 = .ok (.iload_n 3, 1) := by decide +kernel
theorem dX12_count_70 : decode cX12_count 70 = .ok (.iaload, 1) := by decide +kernel
theorem dX12_count_71 : decode cX12_count 71 = .ok (.iconst (-1), 1) := by decide +kernel
theorem dX12_count_72 : decode cX12_count 72 = .ok (.if_icmp .eq 7, 3) := by decide +kernel
theorem dX12_count_75 : decode cX12_count 75 = .ok (.iconst 1, 1) := by decide +kernel
theorem dX12_count_76 : decode cX12_count 76 = .ok (.goto 4, 3) := by decide +kernel
theorem dX12_count_79 : decode cX12_count 79 = .ok (.iconst 0, 1) := by decide +kernel
theorem dX12_count_80 : decode cX12_count 80 = .ok (.iadd, 1) := by decide +kernel
theorem dX12_count_81 : decode cX12_count 81 = .ok (.istore_n 2, 1) := by decide +kernel
theorem dX12_count_82 : decode cX12_count 82 = .ok (.iinc 3 1, 3) := by decide +kernel
theorem dX12_count_85 : decode cX12_count 85 = .ok (.goto (-27), 3) := by decide +kernel
theorem dX12_count_88 : decode cX12_count 88 = .ok (.iload_n 2, 1) := by decide +kernel
theorem dX12_count_89 : decode cX12_count 89 = .ok (.ireturn, 1) := by decide +kernel
theorem dX12_count_90 : decode cX12_count 90 = .ok (.iconst 0, 1) := by decide +kernel
theorem dX12_count_91 : decode cX12_count 91 = .ok (.istore_n 3, 1) := by decide +kernel
theorem dX12_count_92 : decode cX12_count 92 = .ok (.iload_n 3, 1) := by decide +kernel
theorem dX12_count_93 : decode cX12_count 93 = .ok (.bipush 12, 2) := by decide +kernel
theorem dX12_count_95 : decode cX12_count 95 = .ok (.if_icmp .ge 32, 3) := by decide +kernel
theorem dX12_count_98 : decode cX12_count 98 = .ok (.iload_n 2, 1) := by decide +kernel
theorem dX12_count_99 : decode cX12_count 99 = .ok (.aload_n 0, 1) := by decide +kernel
theorem dX12_count_100 : decode cX12_count 100 = .ok (.getfield 13, 3) := by decide +kernel
theorem dX12_count_103 : decode cX12_count 103 = .ok (.iload_n 3, 1) := by decide +kernel
theorem dX12_count_104 : decode cX12_count 104 = .ok (.iaload, 1) := by decide +kernel
theorem dX12_count_105 : decode cX12_count 105 = .ok (.iconst (-1), 1) := by decide +kernel
theorem dX12_count_106 : decode cX12_count 106 = .ok (.if_icmp .eq 12, 3) := by decide +kernel
theorem dX12_count_109 : decode cX12_count 109 = .ok (.aload_n 0, 1) := by decide +kernel
theorem dX12_count_110 : decode cX12_count 110 = .ok (.getfield 13, 3) := by decide +kernel
theorem dX12_count_113 : decode cX12_count 113 = .ok (.iload_n 3, 1) := by decide +kernel
theorem dX12_count_114 : decode cX12_count 114 = .ok (.iaload, 1) := by decide +kernel
theorem dX12_count_115 : decode cX12_count 115 = .ok (.goto 4, 3) := by decide +kernel
theorem dX12_count_118 : decode cX12_count 118 = .ok (.iconst 0, 1) := by decide +kernel
theorem dX12_count_119 : decode cX12_count 119 = .ok (.iadd, 1) := by decide +kernel
theorem dX12_count_120 : decode cX12_count 120 = .ok (.istore_n 2, 1) := by decide +kernel
theorem dX12_count_121 : decode cX12_count 121 = .ok (.iinc 3 1, 3) := by decide +kernel
theorem dX12_count_124 : decode cX12_count 124 = .ok (.goto (-32), 3) := by decide +kernel
theorem dX12_count_127 : decode cX12_count 127 = .ok (.iload_n 2, 1) := by decide +kernel
theorem dX12_count_128 : decode cX12_count 128 = .ok (.ireturn, 1) := by decide +kernel
theorem dX12_count_129 : decode cX12_count 129 = .ok (.aload_n 0, 1) := by decide +kernel
theorem dX12_count_130 : decode cX12_count 130 = .ok (.iconst (-1), 1) := by decide +kernel
theorem dX12_count_131 : decode cX12_count 131 = .ok (.iconst 0, 1) := by decide +kernel
theorem dX12_count_132 : decode cX12_count 132 = .ok (.invokevirtual 129, 3) := by decide +kernel
theorem dX12_count_135 : decode cX12_count 135 = .ok (.ireturn, 1) := by decide +kernel
theorem dX12_count_136 : decode cX12_count 136 = .ok (.aload_n 0, 1) := by decide +kernel
theorem dX12_count_137 : decode cX12_count 137 = .ok (.iconst (-1), 1) := by decide +kernel
theorem dX12_count_138 : decode cX12_count 138 = .ok (.invokevirtual 133, 3) := by decide +kernel
theorem dX12_count_141 : decode cX12_count 141 = .ok (.ireturn, 1) := by decide +kernel
theorem dX12_count_142 : decode cX12_count 142 = .ok (.aload_n 0, 1) := by decide +kernel
theorem dX12_count_143 : decode cX12_count 143 = .ok (.getfield 156, 3) := by decide +kernel
theorem dX12_count_146 : decode cX12_count 146 = .ok (.ireturn, 1) := by decide +kernel
theorem dX12_count_147 : decode cX12_count 147 = .ok (.aload_n 0, 1) := by decide +kernel
theorem dX12_count_148 : decode cX12_count 148 = .ok (.getfield 159, 3) := by decide +kernel
theorem dX12_count_151 : decode cX12_count 151 = .ok (.ireturn, 1) := by decide +kernel
theorem dX12_count_152 : decode cX12_count 152 = .ok (.aload_n 0, 1) := by decide +kernel
theorem dX12_count_153 : decode cX12_count 153 = .ok (.getfield 79, 3) := by decide +kernel
theorem dX12_count_156 : decode cX12_count 156 = .ok (.ireturn, 1) := by decide +kernel
theorem dX12_count_157 : decode cX12_count 157 = .ok (.aload_n 0, 1) := by decide +kernel
theorem dX12_count_158 : decode cX12_count 158 = .ok (.getfield 114, 3) := by decide +kernel
theorem dX12_count_161 : decode cX12_count 161 = .ok (.ireturn, 1) := by decide +kernel
theorem dX12_count_162 : decode cX12_count 162 = .ok (.iconst (-1), 1) := by decide +kernel
theorem dX12_count_163 : decode cX12_count 163 = .ok (.ireturn, 1) := by decide +kernel
