theorem dX8_init_0 : decode cX8_init 0 = .ok (.aload_n 0, 1) := by decide +kernel
theorem dX8_init_1 : decode cX8_init 1 = .ok (.invokespecial 3, 3) := by decide +kernel
theorem dX8_init_4 : decode cX8_init 4 = .ok (.aload_n 0, 1) := by decide +kernel
theorem dX8_init_5 : decode cX8_init 5 = .ok (.sipush 160, 3) := by decide +kernel
theorem dX8_init_8 : decode cX8_init 8 = .ok (.newarray .int, 2) := by decide +kernel
theorem dX8_init_10 : decode cX8_init 10 = .ok (.putfield 9, 3) := by decide +kernel
theorem dX8_init_13 : decode cX8_init 13 = .ok (.aload_n 0, 1) := by decide +kernel
theorem dX8_init_14 : decode cX8_init 14 = .ok (.sipush 161, 3) := by decide +kernel
theorem dX8_init_17 : decode cX8_init 17 = .ok (.newarray .int, 2) := by decide +kernel
theorem dX8_init_19 : decode cX8_init 19 = .ok (.putfield 15, 3) := by decide +kernel
theorem dX8_init_22 : decode cX8_init 22 = .ok (.aload_n 0, 1) := by decide +kernel
theorem dX8_init_23 : decode cX8_init 23 = .ok (.sipush 161, 3) := by decide +kernel
theorem dX8_init_26 : decode cX8_init 26 = .ok (.newarray .int, 2) := by decide +kernel
theorem dX8_init_28 : decode cX8_init 28 = .ok (.putfield 18, 3) := by decide +kernel
theorem dX8_init_31 : decode cX8_init 31 = .ok (.aload_n 0, 1) := by decide +kernel
theorem dX8_init_32 : decode cX8_init 32 = .ok (.sipush 161, 3) := by decide +kernel
theorem dX8_init_35 : decode cX8_init 35 = .ok (.newarray .int, 2) := by decide +kernel
theorem dX8_init_37 : decode cX8_init 37 = .ok (.putfield 21, 3) := by decide +kernel
theorem dX8_init_40 : decode cX8_init 40 = .ok (.aload_n 0, 1) := by decide +kernel
theorem dX8_init_41 : decode cX8_init 41 = .ok (.sipush 160, 3) := by decide +kernel
theorem dX8_init_44 : decode cX8_init 44 = .ok (.newarray .int, 2) := by decide +kernel
theorem dX8_init_46 : decode cX8_init 46 = .ok (.putfield 24, 3) := by decide +kernel
theorem dX8_init_49 : decode cX8_init 49 = .ok (.return_, 1) := by decide +kernel
theorem dX8_take_0 : decode cX8_take 0 = .ok (.aload_n 0, 1) := by decide +kernel
theorem dX8_take_1 : decode cX8_take 1 = .ok (.getfield 27, 3) := by decide +kernel
theorem dX8_take_4 : decode cX8_take 4 = .ok (.sipush 160, 3) := by decide +kernel
theorem dX8_take_7 : decode cX8_take 7 = .ok (.if_icmp .lt 4, 3) := by decide +kernel
theorem dX8_take_10 : decode cX8_take 10 = .ok (.return_, 1) := by decide +kernel
theorem dX8_take_11 : decode cX8_take 11 = .ok (.aload_n 0, 1) := by decide +kernel
theorem dX8_take_12 : decode cX8_take 12 = .ok (.getfield 9, 3) := by decide +kernel
theorem dX8_take_15 : decode cX8_take 15 = .ok (.aload_n 0, 1) := by decide +kernel
theorem dX8_take_16 : decode cX8_take 16 = .ok (.getfield 27, 3) := by decide +kernel
theorem dX8_take_19 : decode cX8_take 19 = .ok (.iload_n 1, 1) := by decide +kernel
theorem dX8_take_20 : decode cX8_take 20 = .ok (.iastore, 1) := by decide +kernel
theorem dX8_take_21 : decode cX8_take 21 = .ok (.aload_n 0, 1) := by decide +kernel
theorem dX8_take_22 : decode cX8_take 22 = .ok (.dup, 1) := by decide +kernel
theorem dX8_take_23 : decode cX8_take 23 = .ok (.getfield 27, 3) := by decide +kernel
theorem dX8_take_26 : decode cX8_take 26 = .ok (.iconst 1, 1) := by decide +kernel
theorem dX8_take_27 : decode cX8_take 27 = .ok (.iadd, 1) := by decide +kernel
theorem dX8_take_28 : decode cX8_take 28 = .ok (.putfield 27, 3) := by decide +kernel
theorem dX8_take_31 : decode cX8_take 31 = .ok (.return_, 1) := by decide +kernel
theorem dX8_takeTheAct_0 : decode cX8_takeTheAct 0 = .ok (.iconst 0, 1) := by decide +kernel
theorem dX8_takeTheAct_1 : decode cX8_takeTheAct 1 = .ok (.istore_n 1, 1) := by decide +kernel
theorem dX8_takeTheAct_2 : decode cX8_takeTheAct 2 = .ok (.iload_n 1, 1) := by decide +kernel
theorem dX8_takeTheAct_3 : decode cX8_takeTheAct 3 = .ok (.ldc 31, 2) := by decide +kernel
theorem dX8_takeTheAct_5 : decode cX8_takeTheAct 5 = .ok (.invokevirtual 33, 3) := by decide +kernel
theorem dX8_takeTheAct_8 : decode cX8_takeTheAct 8 = .ok (.if_icmp .ge 19, 3) := by decide +kernel
theorem dX8_takeTheAct_11 : decode cX8_takeTheAct 11 = .ok (.aload_n 0, 1) := by decide +kernel
theorem dX8_takeTheAct_12 : decode cX8_takeTheAct 12 = .ok (.ldc 31, 2) := by decide +kernel
theorem dX8_takeTheAct_14 : decode cX8_takeTheAct 14 = .ok (.iload_n 1, 1) := by decide +kernel
theorem dX8_takeTheAct_15 : decode cX8_takeTheAct 15 = .ok (.invokevirtual 39, 3) := by decide +kernel
theorem dX8_takeTheAct_18 : decode cX8_takeTheAct 18 = .ok (.invokevirtual 43, 3) := by decide +kernel
theorem dX8_takeTheAct_21 : decode cX8_takeTheAct 21 = .ok (.iinc 1 1, 3) := by decide +kernel
theorem dX8_takeTheAct_24 : decode cX8_takeTheAct 24 = .ok (.goto (-22), 3) := by decide +kernel
theorem dX8_takeTheAct_27 : decode cX8_takeTheAct 27 = .ok (.return_, 1) := by decide +kernel
theorem dX8_readTape_0 : decode cX8_readTape 0 = .ok (.aload_n 0, 1) := by decide +kernel
theorem dX8_readTape_1 : decode cX8_readTape 1 = .ok (.invokevirtual 47, 3) := by decide +kernel
theorem dX8_readTape_4 : decode cX8_readTape 4 = .ok (.aload_n 0, 1) := by decide +kernel
theorem dX8_readTape_5 : decode cX8_readTape 5 = .ok (.iconst 0, 1) := by decide +kernel
theorem dX8_readTape_6 : decode cX8_readTape 6 = .ok (.putfield 50, 3) := by decide +kernel
theorem dX8_readTape_9 : decode cX8_readTape 9 = .ok (.aload_n 0, 1) := by decide +kernel
theorem dX8_readTape_10 : decode cX8_readTape 10 = .ok (.iconst 0, 1) := by decide +kernel
theorem dX8_readTape_11 : decode cX8_readTape 11 = .ok (.putfield 53, 3) := by decide +kernel
theorem dX8_readTape_14 : decode cX8_readTape 14 = .ok (.aload_n 0, 1) := by decide +kernel
theorem dX8_readTape_15 : decode cX8_readTape 15 = .ok (.iconst 0, 1) := by decide +kernel
theorem dX8_readTape_16 : decode cX8_readTape 16 = .ok (.putfield 55, 3) := by decide +kernel
theorem dX8_readTape_19 : decode cX8_readTape 19 = .ok (.aload_n 0, 1) := by decide +kernel
theorem dX8_readTape_20 : decode cX8_readTape 20 = .ok (.invokevirtual 58, 3) := by decide +kernel
theorem dX8_readTape_23 : decode cX8_readTape 23 = .ok (.istore_n 1, 1) := by decide +kernel
theorem dX8_readTape_24 : decode cX8_readTape 24 = .ok (.aload_n 0, 1) := by decide +kernel
theorem dX8_readTape_25 : decode cX8_readTape 25 = .ok (.iconst 0, 1) := by decide +kernel
theorem dX8_readTape_26 : decode cX8_readTape 26 = .ok (.putfield 27, 3) := by decide +kernel
theorem dX8_readTape_29 : decode cX8_readTape 29 = .ok (.iload_n 1, 1) := by decide +kernel
theorem dX8_readTape_30 : decode cX8_readTape 30 = .ok (.ifCond .eq 7, 3) := by decide +kernel
theorem dX8_readTape_33 : decode cX8_readTape 33 = .ok (.iconst (-1), 1) := by decide +kernel
theorem dX8_readTape_34 : decode cX8_readTape 34 = .ok (.goto 12, 3) := by decide +kernel
theorem dX8_readTape_37 : decode cX8_readTape 37 = .ok (.aload_n 0, 1) := by decide +kernel
theorem dX8_readTape_38 : decode cX8_readTape 38 = .ok (.getfield 18, 3) := by decide +kernel
theorem dX8_readTape_41 : decode cX8_readTape 41 = .ok (.aload_n 0, 1) := by decide +kernel
theorem dX8_readTape_42 : decode cX8_readTape 42 = .ok (.getfield 50, 3) := by decide +kernel
theorem dX8_readTape_45 : decode cX8_readTape 45 = .ok (.iaload, 1) := by decide +kernel
theorem dX8_readTape_46 : decode cX8_readTape 46 = .ok (.ireturn, 1) := by decide +kernel
theorem dX8_splitTape_0 : decode cX8_splitTape 0 = .ok (.aload_n 0, 1) := by decide +kernel
theorem dX8_splitTape_1 : decode cX8_splitTape 1 = .ok (.iconst 0, 1) := by decide +kernel
theorem dX8_splitTape_2 : decode cX8_splitTape 2 = .ok (.putfield 62, 3) := by decide +kernel
theorem dX8_splitTape_5 : decode cX8_splitTape 5 = .ok (.iconst 0, 1) := by decide +kernel
theorem dX8_splitTape_6 : decode cX8_splitTape 6 = .ok (.istore_n 1, 1) := by decide +kernel
theorem dX8_splitTape_7 : decode cX8_splitTape 7 = .ok (.iconst 0, 1) := by decide +kernel
theorem dX8_splitTape_8 : decode cX8_splitTape 8 = .ok (.istore_n 2, 1) := by decide +kernel
theorem dX8_splitTape_9 : decode cX8_splitTape 9 = .ok (.iload_n 2, 1) := by decide +kernel
theorem dX8_splitTape_10 : decode cX8_splitTape 10 = .ok (.sipush 160, 3) := by decide +kernel
theorem dX8_splitTape_13 : decode cX8_splitTape 13 = .ok (.if_icmp .gt 24, 3) := by decide +kernel
theorem dX8_splitTape_16 : decode cX8_splitTape 16 = .ok (.iload_n 1, 1) := by decide +kernel
theorem dX8_splitTape_17 : decode cX8_splitTape 17 = .ok (.iconst (-1), 1) := by decide +kernel
theorem dX8_splitTape_18 : decode cX8_splitTape 18 = .ok (.if_icmp .eq 19, 3) := by decide +kernel
theorem dX8_splitTape_21 : decode cX8_splitTape 21 = .ok (.aload_n 0, 1) := by decide +kernel
theorem dX8_splitTape_22 : decode cX8_splitTape 22 = .ok (.aload_n 0, 1) := by decide +kernel
theorem dX8_splitTape_23 : decode cX8_splitTape 23 = .ok (.iload_n 1, 1) := by decide +kernel
theorem dX8_splitTape_24 : decode cX8_splitTape 24 = .ok (.invokevirtual 65, 3) := by decide +kernel
theorem dX8_splitTape_27 : decode cX8_splitTape 27 = .ok (.invokevirtual 69, 3) := by decide +kernel
theorem dX8_splitTape_30 : decode cX8_splitTape 30 = .ok (.istore_n 1, 1) := by decide +kernel
theorem dX8_splitTape_31 : decode cX8_splitTape 31 = .ok (.iinc 2 1, 3) := by decide +kernel
theorem dX8_splitTape_34 : decode cX8_splitTape 34 = .ok (.goto (-25), 3) := by decide +kernel
theorem dX8_splitTape_37 : decode cX8_splitTape 37 = .ok (.return_, 1) := by decide +kernel
theorem dX8_splitOne_0 : decode cX8_splitOne 0 = .ok (.iload_n 1, 1) := by decide +kernel
theorem dX8_splitOne_1 : decode cX8_splitOne 1 = .ok (.aload_n 0, 1) := by decide +kernel
theorem dX8_splitOne_2 : decode cX8_splitOne 2 = .ok (.getfield 27, 3) := by decide +kernel
theorem dX8_splitOne_5 : decode cX8_splitOne 5 = .ok (.if_icmp .lt 14, 3) := by decide +kernel
theorem dX8_splitOne_8 : decode cX8_splitOne 8 = .ok (.aload_n 0, 1) := by decide +kernel
theorem dX8_splitOne_9 : decode cX8_splitOne 9 = .ok (.iconst 0, 1) := by decide +kernel
theorem dX8_splitOne_10 : decode cX8_splitOne 10 = .ok (.aload_n 0, 1) := by decide +kernel
theorem dX8_splitOne_11 : decode cX8_splitOne 11 = .ok (.getfield 27, 3) := by decide +kernel
theorem dX8_splitOne_14 : decode cX8_splitOne 14 = .ok (.iconst (-1), 1) := by decide +kernel
theorem dX8_splitOne_15 : decode cX8_splitOne 15 = .ok (.invokevirtual 72, 3) := by decide +kernel
theorem dX8_splitOne_18 : decode cX8_splitOne 18 = .ok (.ireturn, 1) := by decide +kernel
theorem dX8_splitOne_19 : decode cX8_splitOne 19 = .ok (.aload_n 0, 1) := by decide +kernel
theorem dX8_splitOne_20 : decode cX8_splitOne 20 = .ok (.getfield 9, 3) := by decide +kernel
theorem dX8_splitOne_23 : decode cX8_splitOne 23 = .ok (.iload_n 1, 1) := by decide +kernel
theorem dX8_splitOne_24 : decode cX8_splitOne 24 = .ok (.iaload, 1) := by decide +kernel
theorem dX8_splitOne_25 : decode cX8_splitOne 25 = .ok (.istore_n 2, 1) := by decide +kernel
theorem dX8_splitOne_26 : decode cX8_splitOne 26 = .ok (.iload_n 2, 1) := by decide +kernel
theorem dX8_splitOne_27 : decode cX8_splitOne 27 = .ok (.invokestatic 76, 3) := by decide +kernel
theorem dX8_splitOne_30 : decode cX8_splitOne 30 = .ok (.ifCond .eq 36, 3) := by decide +kernel
theorem dX8_splitOne_33 : decode cX8_splitOne 33 = .ok (.aload_n 0, 1) := by decide +kernel
theorem dX8_splitOne_34 : decode cX8_splitOne 34 = .ok (.iload_n 1, 1) := by decide +kernel
theorem dX8_splitOne_35 : decode cX8_splitOne 35 = .ok (.invokevirtual 80, 3) := by decide +kernel
theorem dX8_splitOne_38 : decode cX8_splitOne 38 = .ok (.istore_n 3, 1) := by decide +kernel
theorem dX8_splitOne_39 : decode cX8_splitOne 39 = .ok (.aload_n 0, 1) := by decide +kernel
theorem dX8_splitOne_40 : decode cX8_splitOne 40 = .ok (.iload_n 1, 1) := by decide +kernel
theorem dX8_splitOne_41 : decode cX8_splitOne 41 = .ok (.iload_n 3, 1) := by decide +kernel
theorem dX8_splitOne_42 : decode cX8_splitOne 42 = .ok (.invokevirtual 83, 3) := by decide +kernel
theorem dX8_splitOne_45 : decode cX8_splitOne 45 = .ok (.istore 4, 2) := by decide +kernel
theorem dX8_splitOne_47 : decode cX8_splitOne 47 = .ok (.aload_n 0, 1) := by decide +kernel
theorem dX8_splitOne_48 : decode cX8_splitOne 48 = .ok (.iload 4, 2) := by decide +kernel
theorem dX8_splitOne_50 : decode cX8_splitOne 50 = .ok (.iload_n 1, 1) := by decide +kernel
theorem dX8_splitOne_51 : decode cX8_splitOne 51 = .ok (.iload 4, 2) := by decide +kernel
theorem dX8_splitOne_53 : decode cX8_splitOne 53 = .ok (.iconst 1, 1) := by decide +kernel
theorem dX8_splitOne_54 : decode cX8_splitOne 54 = .ok (.if_icmp .ne 7, 3) := by decide +kernel
theorem dX8_splitOne_57 : decode cX8_splitOne 57 = .ok (.iconst (-1), 1) := by decide +kernel
theorem dX8_splitOne_58 : decode cX8_splitOne 58 = .ok (.goto 4, 3) := by decide +kernel
theorem dX8_splitOne_61 : decode cX8_splitOne 61 = .ok (.iload_n 3, 1) := by decide +kernel
theorem dX8_splitOne_62 : decode cX8_splitOne 62 = .ok (.invokevirtual 72, 3) := by decide +kernel
theorem dX8_splitOne_65 : decode cX8_splitOne 65 = .ok (.ireturn, 1) := by decide +kernel
theorem dX8_splitOne_66 : decode cX8_splitOne 66 = .ok (.iload_n 2, 1) := by decide +kernel
theorem dX8_splitOne_67 : decode cX8_splitOne 67 = .ok (.invokestatic 87, 3) := by decide +kernel
theorem dX8_splitOne_70 : decode cX8_splitOne 70 = .ok (.ifCond .eq 47, 3) := by decide +kernel
theorem dX8_splitOne_73 : decode cX8_splitOne 73 = .ok (.aload_n 0, 1) := by decide +kernel
theorem dX8_splitOne_74 : decode cX8_splitOne 74 = .ok (.iload_n 1, 1) := by decide +kernel
theorem dX8_splitOne_75 : decode cX8_splitOne 75 = .ok (.invokevirtual 90, 3) := by decide +kernel
theorem dX8_splitOne_78 : decode cX8_splitOne 78 = .ok (.istore_n 3, 1) := by decide +kernel
theorem dX8_splitOne_79 : decode cX8_splitOne 79 = .ok (.iload_n 3, 1) := by decide +kernel
theorem dX8_splitOne_80 : decode cX8_splitOne 80 = .ok (.iload_n 1, 1) := by decide +kernel
theorem dX8_splitOne_81 : decode cX8_splitOne 81 = .ok (.isub, 1) := by decide +kernel
theorem dX8_splitOne_82 : decode cX8_splitOne 82 = .ok (.iconst 4, 1) := by decide +kernel
theorem dX8_splitOne_83 : decode cX8_splitOne 83 = .ok (.if_icmp .le 11, 3) := by decide +kernel
theorem dX8_splitOne_86 : decode cX8_splitOne 86 = .ok (.aload_n 0, 1) := by decide +kernel
theorem dX8_splitOne_87 : decode cX8_splitOne 87 = .ok (.iconst 1, 1) := by decide +kernel
theorem dX8_splitOne_88 : decode cX8_splitOne 88 = .ok (.iload_n 1, 1) := by decide +kernel
theorem dX8_splitOne_89 : decode cX8_splitOne 89 = .ok (.iconst (-1), 1) := by decide +kernel
theorem dX8_splitOne_90 : decode cX8_splitOne 90 = .ok (.invokevirtual 72, 3) := by decide +kernel
theorem dX8_splitOne_93 : decode cX8_splitOne 93 = .ok (.ireturn, 1) := by decide +kernel
theorem dX8_splitOne_94 : decode cX8_splitOne 94 = .ok (.aload_n 0, 1) := by decide +kernel
theorem dX8_splitOne_95 : decode cX8_splitOne 95 = .ok (.getfield 21, 3) := by decide +kernel
theorem dX8_splitOne_98 : decode cX8_splitOne 98 = .ok (.aload_n 0, 1) := by decide +kernel
theorem dX8_splitOne_99 : decode cX8_splitOne 99 = .ok (.getfield 62, 3) := by decide +kernel
theorem dX8_splitOne_102 : decode cX8_splitOne 102 = .ok (.aload_n 0, 1) := by decide +kernel
theorem dX8_splitOne_103 : decode cX8_splitOne 103 = .ok (.iload_n 1, 1) := by decide +kernel
theorem dX8_splitOne_104 : decode cX8_splitOne 104 = .ok (.iload_n 3, 1) := by decide +kernel
theorem dX8_splitOne_105 : decode cX8_splitOne 105 = .ok (.invokevirtual 93, 3) := by decide +kernel
theorem dX8_splitOne_108 : decode cX8_splitOne 108 = .ok (.iastore, 1) := by decide +kernel
theorem dX8_splitOne_109 : decode cX8_splitOne 109 = .ok (.aload_n 0, 1) := by decide +kernel
theorem dX8_splitOne_110 : decode cX8_splitOne 110 = .ok (.iconst 2, 1) := by decide +kernel
theorem dX8_splitOne_111 : decode cX8_splitOne 111 = .ok (.iload_n 1, 1) := by decide +kernel
theorem dX8_splitOne_112 : decode cX8_splitOne 112 = .ok (.iload_n 3, 1) := by decide +kernel
theorem dX8_splitOne_113 : decode cX8_splitOne 113 = .ok (.invokevirtual 72, 3) := by decide +kernel
theorem dX8_splitOne_116 : decode cX8_splitOne 116 = .ok (.ireturn, 1) := by decide +kernel
theorem dX8_splitOne_117 : decode cX8_splitOne 117 = .ok (.iload_n 2, 1) := by decide +kernel
theorem dX8_splitOne_118 : decode cX8_splitOne 118 = .ok (.invokestatic 96, 3) := by decide +kernel
theorem dX8_splitOne_121 : decode cX8_splitOne 121 = .ok (.ifCond .eq 15, 3) := by decide +kernel
theorem dX8_splitOne_124 : decode cX8_splitOne 124 = .ok (.aload_n 0, 1) := by decide +kernel
theorem dX8_splitOne_125 : decode cX8_splitOne 125 = .ok (.iload_n 2, 1) := by decide +kernel
theorem dX8_splitOne_126 : decode cX8_splitOne 126 = .ok (.iload_n 1, 1) := by decide +kernel
theorem dX8_splitOne_127 : decode cX8_splitOne 127 = .ok (.iload_n 1, 1) := by decide +kernel
theorem dX8_splitOne_128 : decode cX8_splitOne 128 = .ok (.iconst 1, 1) := by decide +kernel
theorem dX8_splitOne_129 : decode cX8_splitOne 129 = .ok (.iadd, 1) := by decide +kernel
theorem dX8_splitOne_130 : decode cX8_splitOne 130 = .ok (.invokevirtual 72, 3) := by decide +kernel
theorem dX8_splitOne_133 : decode cX8_splitOne 133 = .ok (.goto 10, 3) := by decide +kernel
theorem dX8_splitOne_136 : decode cX8_splitOne 136 = .ok (.aload_n 0, 1) := by decide +kernel
theorem dX8_splitOne_137 : decode cX8_splitOne 137 = .ok (.iconst 1, 1) := by decide +kernel
theorem dX8_splitOne_138 : decode cX8_splitOne 138 = .ok (.iload_n 1, 1) := by decide +kernel
theorem dX8_splitOne_139 : decode cX8_splitOne 139 = .ok (.iconst (-1), 1) := by decide +kernel
theorem dX8_splitOne_140 : decode cX8_splitOne 140 = .ok (.invokevirtual 72, 3) := by decide +kernel
theorem dX8_splitOne_143 : decode cX8_splitOne 143 = .ok (.ireturn, 1) := by decide +kernel
theorem dX8_put_0 : decode cX8_put 0 = .ok (.aload_n 0, 1) := by decide +kernel
theorem dX8_put_1 : decode cX8_put 1 = .ok (.getfield 15, 3) := by decide +kernel
theorem dX8_put_4 : decode cX8_put 4 = .ok (.aload_n 0, 1) := by decide +kernel
theorem dX8_put_5 : decode cX8_put 5 = .ok (.getfield 62, 3) := by decide +kernel
theorem dX8_put_8 : decode cX8_put 8 = .ok (.iload_n 1, 1) := by decide +kernel
theorem dX8_put_9 : decode cX8_put 9 = .ok (.iastore, 1) := by decide +kernel
theorem dX8_put_10 : decode cX8_put 10 = .ok (.aload_n 0, 1) := by decide +kernel
theorem dX8_put_11 : decode cX8_put 11 = .ok (.getfield 18, 3) := by decide +kernel
theorem dX8_put_14 : decode cX8_put 14 = .ok (.aload_n 0, 1) := by decide +kernel
theorem dX8_put_15 : decode cX8_put 15 = .ok (.getfield 62, 3) := by decide +kernel
theorem dX8_put_18 : decode cX8_put 18 = .ok (.iload_n 2, 1) := by decide +kernel
theorem dX8_put_19 : decode cX8_put 19 = .ok (.iastore, 1) := by decide +kernel
theorem dX8_put_20 : decode cX8_put 20 = .ok (.aload_n 0, 1) := by decide +kernel
theorem dX8_put_21 : decode cX8_put 21 = .ok (.dup, 1) := by decide +kernel
theorem dX8_put_22 : decode cX8_put 22 = .ok (.getfield 62, 3) := by decide +kernel
theorem dX8_put_25 : decode cX8_put 25 = .ok (.iconst 1, 1) := by decide +kernel
theorem dX8_put_26 : decode cX8_put 26 = .ok (.iadd, 1) := by decide +kernel
theorem dX8_put_27 : decode cX8_put 27 = .ok (.putfield 62, 3) := by decide +kernel
theorem dX8_put_30 : decode cX8_put 30 = .ok (.iload_n 3, 1) := by decide +kernel
theorem dX8_put_31 : decode cX8_put 31 = .ok (.ireturn, 1) := by decide +kernel
theorem dX8_isLetter_0 : decode cX8_isLetter 0 = .ok (.iload_n 0, 1) := by decide +kernel
theorem dX8_isLetter_1 : decode cX8_isLetter 1 = .ok (.bipush 97, 2) := by decide +kernel
theorem dX8_isLetter_3 : decode cX8_isLetter 3 = .ok (.bipush 122, 2) := by decide +kernel
theorem dX8_isLetter_5 : decode cX8_isLetter 5 = .ok (.invokestatic 99, 3) := by decide +kernel
theorem dX8_isLetter_8 : decode cX8_isLetter 8 = .ok (.ireturn, 1) := by decide +kernel
theorem dX8_isDigit_0 : decode cX8_isDigit 0 = .ok (.iload_n 0, 1) := by decide +kernel
theorem dX8_isDigit_1 : decode cX8_isDigit 1 = .ok (.bipush 48, 2) := by decide +kernel
theorem dX8_isDigit_3 : decode cX8_isDigit 3 = .ok (.bipush 57, 2) := by decide +kernel
theorem dX8_isDigit_5 : decode cX8_isDigit 5 = .ok (.invokestatic 99, 3) := by decide +kernel
theorem dX8_isDigit_8 : decode cX8_isDigit 8 = .ok (.ireturn, 1) := by decide +kernel
theorem dX8_isSign_0 : decode cX8_isSign 0 = .ok (.iload_n 0, 1) := by decide +kernel
theorem dX8_isSign_1 : decode cX8_isSign 1 = .ok (.bipush 40, 2) := by decide +kernel
theorem dX8_isSign_3 : decode cX8_isSign 3 = .ok (.bipush 43, 2) := by decide +kernel
theorem dX8_isSign_5 : decode cX8_isSign 5 = .ok (.invokestatic 99, 3) := by decide +kernel
theorem dX8_isSign_8 : decode cX8_isSign 8 = .ok (.ifCond .ne 20, 3) := by decide +kernel
theorem dX8_isSign_11 : decode cX8_isSign 11 = .ok (.iload_n 0, 1) := by decide +kernel
theorem dX8_isSign_12 : decode cX8_isSign 12 = .ok (.bipush 45, 2) := by decide +kernel
theorem dX8_isSign_14 : decode cX8_isSign 14 = .ok (.if_icmp .eq 14, 3) := by decide +kernel
theorem dX8_isSign_17 : decode cX8_isSign 17 = .ok (.iload_n 0, 1) := by decide +kernel
theorem dX8_isSign_18 : decode cX8_isSign 18 = .ok (.bipush 59, 2) := by decide +kernel
theorem dX8_isSign_20 : decode cX8_isSign 20 = .ok (.bipush 61, 2) := by decide +kernel
theorem dX8_isSign_22 : decode cX8_isSign 22 = .ok (.invokestatic 99, 3) := by decide +kernel
theorem dX8_isSign_25 : decode cX8_isSign 25 = .ok (.ifCond .eq 7, 3) := by decide +kernel
theorem dX8_isSign_28 : decode cX8_isSign 28 = .ok (.iconst 1, 1) := by decide +kernel
theorem dX8_isSign_29 : decode cX8_isSign 29 = .ok (.goto 4, 3) := by decide +kernel
theorem dX8_isSign_32 : decode cX8_isSign 32 = .ok (.iconst 0, 1) := by decide +kernel
theorem dX8_isSign_33 : decode cX8_isSign 33 = .ok (.ireturn, 1) := by decide +kernel
theorem dX8_behindBlanks_0 : decode cX8_behindBlanks 0 = .ok (.iload_n 1, 1) := by decide +kernel
theorem dX8_behindBlanks_1 : decode cX8_behindBlanks 1 = .ok (.istore_n 2, 1) := by decide +kernel
theorem dX8_behindBlanks_2 : decode cX8_behindBlanks 2 = .ok (.iload_n 2, 1) := by decide +kernel
theorem dX8_behindBlanks_3 : decode cX8_behindBlanks 3 = .ok (.aload_n 0, 1) := by decide +kernel
theorem dX8_behindBlanks_4 : decode cX8_behindBlanks 4 = .ok (.getfield 27, 3) := by decide +kernel
theorem dX8_behindBlanks_7 : decode cX8_behindBlanks 7 = .ok (.if_icmp .ge 31, 3) := by decide +kernel
theorem dX8_behindBlanks_10 : decode cX8_behindBlanks 10 = .ok (.aload_n 0, 1) := by decide +kernel
theorem dX8_behindBlanks_11 : decode cX8_behindBlanks 11 = .ok (.getfield 9, 3) := by decide +kernel
theorem dX8_behindBlanks_14 : decode cX8_behindBlanks 14 = .ok (.iload_n 2, 1) := by decide +kernel
theorem dX8_behindBlanks_15 : decode cX8_behindBlanks 15 = .ok (.iaload, 1) := by decide +kernel
theorem dX8_behindBlanks_16 : decode cX8_behindBlanks 16 = .ok (.bipush 32, 2) := by decide +kernel
theorem dX8_behindBlanks_18 : decode cX8_behindBlanks 18 = .ok (.if_icmp .eq 14, 3) := by decide +kernel
theorem dX8_behindBlanks_21 : decode cX8_behindBlanks 21 = .ok (.aload_n 0, 1) := by decide +kernel
theorem dX8_behindBlanks_22 : decode cX8_behindBlanks 22 = .ok (.getfield 9, 3) := by decide +kernel
theorem dX8_behindBlanks_25 : decode cX8_behindBlanks 25 = .ok (.iload_n 2, 1) := by decide +kernel
theorem dX8_behindBlanks_26 : decode cX8_behindBlanks 26 = .ok (.iaload, 1) := by decide +kernel
theorem dX8_behindBlanks_27 : decode cX8_behindBlanks 27 = .ok (.bipush 10, 2) := by decide +kernel
theorem dX8_behindBlanks_29 : decode cX8_behindBlanks 29 = .ok (.if_icmp .ne 9, 3) := by decide +kernel
theorem dX8_behindBlanks_32 : decode cX8_behindBlanks 32 = .ok (.iinc 2 1, 3) := by decide +kernel
theorem dX8_behindBlanks_35 : decode cX8_behindBlanks 35 = .ok (.goto (-33), 3) := by decide +kernel
theorem dX8_behindBlanks_38 : decode cX8_behindBlanks 38 = .ok (.iload_n 2, 1) := by decide +kernel
theorem dX8_behindBlanks_39 : decode cX8_behindBlanks 39 = .ok (.ireturn, 1) := by decide +kernel
theorem dX8_behindLetters_0 : decode cX8_behindLetters 0 = .ok (.iload_n 1, 1) := by decide +kernel
theorem dX8_behindLetters_1 : decode cX8_behindLetters 1 = .ok (.istore_n 2, 1) := by decide +kernel
theorem dX8_behindLetters_2 : decode cX8_behindLetters 2 = .ok (.iload_n 2, 1) := by decide +kernel
theorem dX8_behindLetters_3 : decode cX8_behindLetters 3 = .ok (.aload_n 0, 1) := by decide +kernel
theorem dX8_behindLetters_4 : decode cX8_behindLetters 4 = .ok (.getfield 27, 3) := by decide +kernel
theorem dX8_behindLetters_7 : decode cX8_behindLetters 7 = .ok (.if_icmp .ge 21, 3) := by decide +kernel
theorem dX8_behindLetters_10 : decode cX8_behindLetters 10 = .ok (.aload_n 0, 1) := by decide +kernel
theorem dX8_behindLetters_11 : decode cX8_behindLetters 11 = .ok (.getfield 9, 3) := by decide +kernel
theorem dX8_behindLetters_14 : decode cX8_behindLetters 14 = .ok (.iload_n 2, 1) := by decide +kernel
theorem dX8_behindLetters_15 : decode cX8_behindLetters 15 = .ok (.iaload, 1) := by decide +kernel
theorem dX8_behindLetters_16 : decode cX8_behindLetters 16 = .ok (.invokestatic 76, 3) := by decide +kernel
theorem dX8_behindLetters_19 : decode cX8_behindLetters 19 = .ok (.ifCond .eq 9, 3) := by decide +kernel
theorem dX8_behindLetters_22 : decode cX8_behindLetters 22 = .ok (.iinc 2 1, 3) := by decide +kernel
theorem dX8_behindLetters_25 : decode cX8_behindLetters 25 = .ok (.goto (-23), 3) := by decide +kernel
theorem dX8_behindLetters_28 : decode cX8_behindLetters 28 = .ok (.iload_n 2, 1) := by decide +kernel
theorem dX8_behindLetters_29 : decode cX8_behindLetters 29 = .ok (.ireturn, 1) := by decide +kernel
theorem dX8_behindDigits_0 : decode cX8_behindDigits 0 = .ok (.iload_n 1, 1) := by decide +kernel
theorem dX8_behindDigits_1 : decode cX8_behindDigits 1 = .ok (.istore_n 2, 1) := by decide +kernel
theorem dX8_behindDigits_2 : decode cX8_behindDigits 2 = .ok (.iload_n 2, 1) := by decide +kernel
theorem dX8_behindDigits_3 : decode cX8_behindDigits 3 = .ok (.aload_n 0, 1) := by decide +kernel
theorem dX8_behindDigits_4 : decode cX8_behindDigits 4 = .ok (.getfield 27, 3) := by decide +kernel
theorem dX8_behindDigits_7 : decode cX8_behindDigits 7 = .ok (.if_icmp .ge 21, 3) := by decide +kernel
theorem dX8_behindDigits_10 : decode cX8_behindDigits 10 = .ok (.aload_n 0, 1) := by decide +kernel
theorem dX8_behindDigits_11 : decode cX8_behindDigits 11 = .ok (.getfield 9, 3) := by decide +kernel
theorem dX8_behindDigits_14 : decode cX8_behindDigits 14 = .ok (.iload_n 2, 1) := by decide +kernel
theorem dX8_behindDigits_15 : decode cX8_behindDigits 15 = .ok (.iaload, 1) := by decide +kernel
theorem dX8_behindDigits_16 : decode cX8_behindDigits 16 = .ok (.invokestatic 87, 3) := by decide +kernel
theorem dX8_behindDigits_19 : decode cX8_behindDigits 19 = .ok (.ifCond .eq 9, 3) := by decide +kernel
theorem dX8_behindDigits_22 : decode cX8_behindDigits 22 = .ok (.iinc 2 1, 3) := by decide +kernel
theorem dX8_behindDigits_25 : decode cX8_behindDigits 25 = .ok (.goto (-23), 3) := by decide +kernel
theorem dX8_behindDigits_28 : decode cX8_behindDigits 28 = .ok (.iload_n 2, 1) := by decide +kernel
theorem dX8_behindDigits_29 : decode cX8_behindDigits 29 = .ok (.ireturn, 1) := by decide +kernel
theorem dX8_numberAt_0 : decode cX8_numberAt 0 = .ok (.iconst 0, 1) := by decide +kernel
theorem dX8_numberAt_1 : decode cX8_numberAt 1 = .ok (.istore_n 3, 1) := by decide +kernel
theorem dX8_numberAt_2 : decode cX8_numberAt 2 = .ok (.iload_n 1, 1) := by decide +kernel
theorem dX8_numberAt_3 : decode cX8_numberAt 3 = .ok (.istore 4, 2) := by decide +kernel
theorem dX8_numberAt_5 : decode cX8_numberAt 5 = .ok (.iload 4, 2) := by decide +kernel
theorem dX8_numberAt_7 : decode cX8_numberAt 7 = .ok (.iload_n 2, 1) := by decide +kernel
theorem dX8_numberAt_8 : decode cX8_numberAt 8 = .ok (.if_icmp .ge 25, 3) := by decide +kernel
theorem dX8_numberAt_11 : decode cX8_numberAt 11 = .ok (.bipush 10, 2) := by decide +kernel
theorem dX8_numberAt_13 : decode cX8_numberAt 13 = .ok (.iload_n 3, 1) := by decide +kernel
theorem dX8_numberAt_14 : decode cX8_numberAt 14 = .ok (.imul, 1) := by decide +kernel
theorem dX8_numberAt_15 : decode cX8_numberAt 15 = .ok (.aload_n 0, 1) := by decide +kernel
theorem dX8_numberAt_16 : decode cX8_numberAt 16 = .ok (.getfield 9, 3) := by decide +kernel
theorem dX8_numberAt_19 : decode cX8_numberAt 19 = .ok (.iload 4, 2) := by decide +kernel
theorem dX8_numberAt_21 : decode cX8_numberAt 21 = .ok (.iaload, 1) := by decide +kernel
theorem dX8_numberAt_22 : decode cX8_numberAt 22 = .ok (.iadd, 1) := by decide +kernel
theorem dX8_numberAt_23 : decode cX8_numberAt 23 = .ok (.bipush 48, 2) := by decide +kernel
theorem dX8_numberAt_25 : decode cX8_numberAt 25 = .ok (.isub, 1) := by decide +kernel
theorem dX8_numberAt_26 : decode cX8_numberAt 26 = .ok (.istore_n 3, 1) := by decide +kernel
theorem dX8_numberAt_27 : decode cX8_numberAt 27 = .ok (.iinc 4 1, 3) := by decide +kernel
theorem dX8_numberAt_30 : decode cX8_numberAt 30 = .ok (.goto (-25), 3) := by decide +kernel
theorem dX8_numberAt_33 : decode cX8_numberAt 33 = .ok (.iload_n 3, 1) := by decide +kernel
theorem dX8_numberAt_34 : decode cX8_numberAt 34 = .ok (.ireturn, 1) := by decide +kernel
theorem dX8_wordAt_0 : decode cX8_wordAt 0 = .ok (.aload_n 0, 1) := by decide +kernel
theorem dX8_wordAt_1 : decode cX8_wordAt 1 = .ok (.iload_n 1, 1) := by decide +kernel
theorem dX8_wordAt_2 : decode cX8_wordAt 2 = .ok (.iload_n 2, 1) := by decide +kernel
theorem dX8_wordAt_3 : decode cX8_wordAt 3 = .ok (.ldc 103, 2) := by decide +kernel
theorem dX8_wordAt_5 : decode cX8_wordAt 5 = .ok (.invokevirtual 105, 3) := by decide +kernel
theorem dX8_wordAt_8 : decode cX8_wordAt 8 = .ok (.ifCond .eq 7, 3) := by decide +kernel
theorem dX8_wordAt_11 : decode cX8_wordAt 11 = .ok (.sipush 128, 3) := by decide +kernel
theorem dX8_wordAt_14 : decode cX8_wordAt 14 = .ok (.ireturn, 1) := by decide +kernel
theorem dX8_wordAt_15 : decode cX8_wordAt 15 = .ok (.aload_n 0, 1) := by decide +kernel
theorem dX8_wordAt_16 : decode cX8_wordAt 16 = .ok (.iload_n 1, 1) := by decide +kernel
theorem dX8_wordAt_17 : decode cX8_wordAt 17 = .ok (.iload_n 2, 1) := by decide +kernel
theorem dX8_wordAt_18 : decode cX8_wordAt 18 = .ok (.ldc 109, 2) := by decide +kernel
theorem dX8_wordAt_20 : decode cX8_wordAt 20 = .ok (.invokevirtual 105, 3) := by decide +kernel
theorem dX8_wordAt_23 : decode cX8_wordAt 23 = .ok (.ifCond .eq 7, 3) := by decide +kernel
theorem dX8_wordAt_26 : decode cX8_wordAt 26 = .ok (.sipush 129, 3) := by decide +kernel
theorem dX8_wordAt_29 : decode cX8_wordAt 29 = .ok (.ireturn, 1) := by decide +kernel
theorem dX8_wordAt_30 : decode cX8_wordAt 30 = .ok (.aload_n 0, 1) := by decide +kernel
theorem dX8_wordAt_31 : decode cX8_wordAt 31 = .ok (.iload_n 1, 1) := by decide +kernel
theorem dX8_wordAt_32 : decode cX8_wordAt 32 = .ok (.iload_n 2, 1) := by decide +kernel
theorem dX8_wordAt_33 : decode cX8_wordAt 33 = .ok (.ldc 111, 2) := by decide +kernel
theorem dX8_wordAt_35 : decode cX8_wordAt 35 = .ok (.invokevirtual 105, 3) := by decide +kernel
theorem dX8_wordAt_38 : decode cX8_wordAt 38 = .ok (.ifCond .eq 7, 3) := by decide +kernel
theorem dX8_wordAt_41 : decode cX8_wordAt 41 = .ok (.sipush 130, 3) := by decide +kernel
theorem dX8_wordAt_44 : decode cX8_wordAt 44 = .ok (.ireturn, 1) := by decide +kernel
theorem dX8_wordAt_45 : decode cX8_wordAt 45 = .ok (.aload_n 0, 1) := by decide +kernel
theorem dX8_wordAt_46 : decode cX8_wordAt 46 = .ok (.iload_n 1, 1) := by decide +kernel
theorem dX8_wordAt_47 : decode cX8_wordAt 47 = .ok (.iload_n 2, 1) := by decide +kernel
theorem dX8_wordAt_48 : decode cX8_wordAt 48 = .ok (.ldc 113, 2) := by decide +kernel
theorem dX8_wordAt_50 : decode cX8_wordAt 50 = .ok (.invokevirtual 105, 3) := by decide +kernel
theorem dX8_wordAt_53 : decode cX8_wordAt 53 = .ok (.ifCond .eq 7, 3) := by decide +kernel
theorem dX8_wordAt_56 : decode cX8_wordAt 56 = .ok (.sipush 131, 3) := by decide +kernel
theorem dX8_wordAt_59 : decode cX8_wordAt 59 = .ok (.ireturn, 1) := by decide +kernel
theorem dX8_wordAt_60 : decode cX8_wordAt 60 = .ok (.aload_n 0, 1) := by decide +kernel
theorem dX8_wordAt_61 : decode cX8_wordAt 61 = .ok (.iload_n 1, 1) := by decide +kernel
theorem dX8_wordAt_62 : decode cX8_wordAt 62 = .ok (.iload_n 2, 1) := by decide +kernel
theorem dX8_wordAt_63 : decode cX8_wordAt 63 = .ok (.ldc 115, 2) := by decide +kernel
theorem dX8_wordAt_65 : decode cX8_wordAt 65 = .ok (.invokevirtual 105, 3) := by decide +kernel
theorem dX8_wordAt_68 : decode cX8_wordAt 68 = .ok (.ifCond .eq 7, 3) := by decide +kernel
theorem dX8_wordAt_71 : decode cX8_wordAt 71 = .ok (.sipush 132, 3) := by decide +kernel
theorem dX8_wordAt_74 : decode cX8_wordAt 74 = .ok (.ireturn, 1) := by decide +kernel
theorem dX8_wordAt_75 : decode cX8_wordAt 75 = .ok (.aload_n 0, 1) := by decide +kernel
theorem dX8_wordAt_76 : decode cX8_wordAt 76 = .ok (.iload_n 1, 1) := by decide +kernel
theorem dX8_wordAt_77 : decode cX8_wordAt 77 = .ok (.iload_n 2, 1) := by decide +kernel
theorem dX8_wordAt_78 : decode cX8_wordAt 78 = .ok (.ldc 117, 2) := by decide +kernel
theorem dX8_wordAt_80 : decode cX8_wordAt 80 = .ok (.invokevirtual 105, 3) := by decide +kernel
theorem dX8_wordAt_83 : decode cX8_wordAt 83 = .ok (.ifCond .eq 7, 3) := by decide +kernel
theorem dX8_wordAt_86 : decode cX8_wordAt 86 = .ok (.sipush 134, 3) := by decide +kernel
theorem dX8_wordAt_89 : decode cX8_wordAt 89 = .ok (.ireturn, 1) := by decide +kernel
theorem dX8_wordAt_90 : decode cX8_wordAt 90 = .ok (.aload_n 0, 1) := by decide +kernel
theorem dX8_wordAt_91 : decode cX8_wordAt 91 = .ok (.iload_n 1, 1) := by decide +kernel
theorem dX8_wordAt_92 : decode cX8_wordAt 92 = .ok (.iload_n 2, 1) := by decide +kernel
theorem dX8_wordAt_93 : decode cX8_wordAt 93 = .ok (.ldc 119, 2) := by decide +kernel
theorem dX8_wordAt_95 : decode cX8_wordAt 95 = .ok (.invokevirtual 105, 3) := by decide +kernel
theorem dX8_wordAt_98 : decode cX8_wordAt 98 = .ok (.ifCond .eq 7, 3) := by decide +kernel
theorem dX8_wordAt_101 : decode cX8_wordAt 101 = .ok (.sipush 135, 3) := by decide +kernel
theorem dX8_wordAt_104 : decode cX8_wordAt 104 = .ok (.ireturn, 1) := by decide +kernel
theorem dX8_wordAt_105 : decode cX8_wordAt 105 = .ok (.aload_n 0, 1) := by decide +kernel
theorem dX8_wordAt_106 : decode cX8_wordAt 106 = .ok (.iload_n 1, 1) := by decide +kernel
theorem dX8_wordAt_107 : decode cX8_wordAt 107 = .ok (.iload_n 2, 1) := by decide +kernel
theorem dX8_wordAt_108 : decode cX8_wordAt 108 = .ok (.ldc 121, 2) := by decide +kernel
theorem dX8_wordAt_110 : decode cX8_wordAt 110 = .ok (.invokevirtual 105, 3) := by decide +kernel
theorem dX8_wordAt_113 : decode cX8_wordAt 113 = .ok (.ifCond .eq 7, 3) := by decide +kernel
theorem dX8_wordAt_116 : decode cX8_wordAt 116 = .ok (.sipush 136, 3) := by decide +kernel
theorem dX8_wordAt_119 : decode cX8_wordAt 119 = .ok (.ireturn, 1) := by decide +kernel
theorem dX8_wordAt_120 : decode cX8_wordAt 120 = .ok (.aload_n 0, 1) := by decide +kernel
theorem dX8_wordAt_121 : decode cX8_wordAt 121 = .ok (.iload_n 1, 1) := by decide +kernel
theorem dX8_wordAt_122 : decode cX8_wordAt 122 = .ok (.iload_n 2, 1) := by decide +kernel
theorem dX8_wordAt_123 : decode cX8_wordAt 123 = .ok (.ldc 123, 2) := by decide +kernel
theorem dX8_wordAt_125 : decode cX8_wordAt 125 = .ok (.invokevirtual 105, 3) := by decide +kernel
theorem dX8_wordAt_128 : decode cX8_wordAt 128 = .ok (.ifCond .eq 7, 3) := by decide +kernel
theorem dX8_wordAt_131 : decode cX8_wordAt 131 = .ok (.sipush 137, 3) := by decide +kernel
theorem dX8_wordAt_134 : decode cX8_wordAt 134 = .ok (.ireturn, 1) := by decide +kernel
theorem dX8_wordAt_135 : decode cX8_wordAt 135 = .ok (.aload_n 0, 1) := by decide +kernel
theorem dX8_wordAt_136 : decode cX8_wordAt 136 = .ok (.iload_n 1, 1) := by decide +kernel
theorem dX8_wordAt_137 : decode cX8_wordAt 137 = .ok (.iload_n 2, 1) := by decide +kernel
theorem dX8_wordAt_138 : decode cX8_wordAt 138 = .ok (.ldc 125, 2) := by decide +kernel
theorem dX8_wordAt_140 : decode cX8_wordAt 140 = .ok (.invokevirtual 105, 3) := by decide +kernel
theorem dX8_wordAt_143 : decode cX8_wordAt 143 = .ok (.ifCond .eq 7, 3) := by decide +kernel
theorem dX8_wordAt_146 : decode cX8_wordAt 146 = .ok (.sipush 138, 3) := by decide +kernel
theorem dX8_wordAt_149 : decode cX8_wordAt 149 = .ok (.ireturn, 1) := by decide +kernel
theorem dX8_wordAt_150 : decode cX8_wordAt 150 = .ok (.aload_n 0, 1) := by decide +kernel
theorem dX8_wordAt_151 : decode cX8_wordAt 151 = .ok (.iload_n 1, 1) := by decide +kernel
theorem dX8_wordAt_152 : decode cX8_wordAt 152 = .ok (.iload_n 2, 1) := by decide +kernel
theorem dX8_wordAt_153 : decode cX8_wordAt 153 = .ok (.ldc 127, 2) := by decide +kernel
theorem dX8_wordAt_155 : decode cX8_wordAt 155 = .ok (.invokevirtual 105, 3) := by decide +kernel
theorem dX8_wordAt_158 : decode cX8_wordAt 158 = .ok (.ifCond .eq 7, 3) := by decide +kernel
theorem dX8_wordAt_161 : decode cX8_wordAt 161 = .ok (.sipush 139, 3) := by decide +kernel
theorem dX8_wordAt_164 : decode cX8_wordAt 164 = .ok (.ireturn, 1) := by decide +kernel
theorem dX8_wordAt_165 : decode cX8_wordAt 165 = .ok (.iconst 1, 1) := by decide +kernel
theorem dX8_wordAt_166 : decode cX8_wordAt 166 = .ok (.ireturn, 1) := by decide +kernel
theorem dX8_isWord_0 : decode cX8_isWord 0 = .ok (.iload_n 2, 1) := by decide +kernel
theorem dX8_isWord_1 : decode cX8_isWord 1 = .ok (.iload_n 1, 1) := by decide +kernel
theorem dX8_isWord_2 : decode cX8_isWord 2 = .ok (.isub, 1) := by decide +kernel
theorem dX8_isWord_3 : decode cX8_isWord 3 = .ok (.aload_n 3, 1) := by decide +kernel
theorem dX8_isWord_4 : decode cX8_isWord 4 = .ok (.invokevirtual 33, 3) := by decide +kernel
theorem dX8_isWord_7 : decode cX8_isWord 7 = .ok (.if_icmp .eq 5, 3) := by decide +kernel
theorem dX8_isWord_10 : decode cX8_isWord 10 = .ok (.iconst 0, 1) := by decide +kernel
theorem dX8_isWord_11 : decode cX8_isWord 11 = .ok (.ireturn, 1) := by decide +kernel
theorem dX8_isWord_12 : decode cX8_isWord 12 = .ok (.iconst 0, 1) := by decide +kernel
theorem dX8_isWord_13 : decode cX8_isWord 13 = .ok (.istore 4, 2) := by decide +kernel
theorem dX8_isWord_15 : decode cX8_isWord 15 = .ok (.iload 4, 2) := by decide +kernel
theorem dX8_isWord_17 : decode cX8_isWord 17 = .ok (.aload_n 3, 1) := by decide +kernel
theorem dX8_isWord_18 : decode cX8_isWord 18 = .ok (.invokevirtual 33, 3) := by decide +kernel
theorem dX8_isWord_21 : decode cX8_isWord 21 = .ok (.if_icmp .ge 29, 3) := by decide +kernel
theorem dX8_isWord_24 : decode cX8_isWord 24 = .ok (.aload_n 0, 1) := by decide +kernel
theorem dX8_isWord_25 : decode cX8_isWord 25 = .ok (.getfield 9, 3) := by decide +kernel
theorem dX8_isWord_28 : decode cX8_isWord 28 = .ok (.iload_n 1, 1) := by decide +kernel
theorem dX8_isWord_29 : decode cX8_isWord 29 = .ok (.iload 4, 2) := by decide +kernel
theorem dX8_isWord_31 : decode cX8_isWord 31 = .ok (.iadd, 1) := by decide +kernel
theorem dX8_isWord_32 : decode cX8_isWord 32 = .ok (.iaload, 1) := by decide +kernel
theorem dX8_isWord_33 : decode cX8_isWord 33 = .ok (.aload_n 3, 1) := by decide +kernel
theorem dX8_isWord_34 : decode cX8_isWord 34 = .ok (.iload 4, 2) := by decide +kernel
theorem dX8_isWord_36 : decode cX8_isWord 36 = .ok (.invokevirtual 39, 3) := by decide +kernel
theorem dX8_isWord_39 : decode cX8_isWord 39 = .ok (.if_icmp .eq 5, 3) := by decide +kernel
theorem dX8_isWord_42 : decode cX8_isWord 42 = .ok (.iconst 0, 1) := by decide +kernel
theorem dX8_isWord_43 : decode cX8_isWord 43 = .ok (.ireturn, 1) := by decide +kernel
theorem dX8_isWord_44 : decode cX8_isWord 44 = .ok (.iinc 4 1, 3) := by decide +kernel
theorem dX8_isWord_47 : decode cX8_isWord 47 = .ok (.goto (-32), 3) := by decide +kernel
theorem dX8_isWord_50 : decode cX8_isWord 50 = .ok (.iconst 1, 1) := by decide +kernel
theorem dX8_isWord_51 : decode cX8_isWord 51 = .ok (.ireturn, 1) := by decide +kernel
theorem dX8_accept_0 : decode cX8_accept 0 = .ok (.aload_n 0, 1) := by decide +kernel
theorem dX8_accept_1 : decode cX8_accept 1 = .ok (.getfield 15, 3) := by decide +kernel
theorem dX8_accept_4 : decode cX8_accept 4 = .ok (.aload_n 0, 1) := by decide +kernel
theorem dX8_accept_5 : decode cX8_accept 5 = .ok (.getfield 50, 3) := by decide +kernel
theorem dX8_accept_8 : decode cX8_accept 8 = .ok (.iaload, 1) := by decide +kernel
theorem dX8_accept_9 : decode cX8_accept 9 = .ok (.iload_n 1, 1) := by decide +kernel
theorem dX8_accept_10 : decode cX8_accept 10 = .ok (.if_icmp .eq 5, 3) := by decide +kernel
theorem dX8_accept_13 : decode cX8_accept 13 = .ok (.iconst 0, 1) := by decide +kernel
theorem dX8_accept_14 : decode cX8_accept 14 = .ok (.ireturn, 1) := by decide +kernel
theorem dX8_accept_15 : decode cX8_accept 15 = .ok (.aload_n 0, 1) := by decide +kernel
theorem dX8_accept_16 : decode cX8_accept 16 = .ok (.dup, 1) := by decide +kernel
theorem dX8_accept_17 : decode cX8_accept 17 = .ok (.getfield 50, 3) := by decide +kernel
theorem dX8_accept_20 : decode cX8_accept 20 = .ok (.iconst 1, 1) := by decide +kernel
theorem dX8_accept_21 : decode cX8_accept 21 = .ok (.iadd, 1) := by decide +kernel
theorem dX8_accept_22 : decode cX8_accept 22 = .ok (.putfield 50, 3) := by decide +kernel
theorem dX8_accept_25 : decode cX8_accept 25 = .ok (.iconst 1, 1) := by decide +kernel
theorem dX8_accept_26 : decode cX8_accept 26 = .ok (.ireturn, 1) := by decide +kernel
theorem dX8_emit_0 : decode cX8_emit 0 = .ok (.aload_n 0, 1) := by decide +kernel
theorem dX8_emit_1 : decode cX8_emit 1 = .ok (.getfield 53, 3) := by decide +kernel
theorem dX8_emit_4 : decode cX8_emit 4 = .ok (.sipush 160, 3) := by decide +kernel
theorem dX8_emit_7 : decode cX8_emit 7 = .ok (.if_icmp .lt 4, 3) := by decide +kernel
theorem dX8_emit_10 : decode cX8_emit 10 = .ok (.return_, 1) := by decide +kernel
theorem dX8_emit_11 : decode cX8_emit 11 = .ok (.aload_n 0, 1) := by decide +kernel
theorem dX8_emit_12 : decode cX8_emit 12 = .ok (.getfield 24, 3) := by decide +kernel
theorem dX8_emit_15 : decode cX8_emit 15 = .ok (.aload_n 0, 1) := by decide +kernel
theorem dX8_emit_16 : decode cX8_emit 16 = .ok (.getfield 53, 3) := by decide +kernel
theorem dX8_emit_19 : decode cX8_emit 19 = .ok (.iload_n 1, 1) := by decide +kernel
theorem dX8_emit_20 : decode cX8_emit 20 = .ok (.iastore, 1) := by decide +kernel
theorem dX8_emit_21 : decode cX8_emit 21 = .ok (.aload_n 0, 1) := by decide +kernel
theorem dX8_emit_22 : decode cX8_emit 22 = .ok (.dup, 1) := by decide +kernel
theorem dX8_emit_23 : decode cX8_emit 23 = .ok (.getfield 53, 3) := by decide +kernel
theorem dX8_emit_26 : decode cX8_emit 26 = .ok (.iconst 1, 1) := by decide +kernel
theorem dX8_emit_27 : decode cX8_emit 27 = .ok (.iadd, 1) := by decide +kernel
theorem dX8_emit_28 : decode cX8_emit 28 = .ok (.putfield 53, 3) := by decide +kernel
theorem dX8_emit_31 : decode cX8_emit 31 = .ok (.return_, 1) := by decide +kernel
theorem dX8_readParts_0 : decode cX8_readParts 0 = .ok (.aload_n 0, 1) := by decide +kernel
theorem dX8_readParts_1 : decode cX8_readParts 1 = .ok (.sipush 128, 3) := by decide +kernel
theorem dX8_readParts_4 : decode cX8_readParts 4 = .ok (.invokevirtual 129, 3) := by decide +kernel
theorem dX8_readParts_7 : decode cX8_readParts 7 = .ok (.ifCond .eq 21, 3) := by decide +kernel
theorem dX8_readParts_10 : decode cX8_readParts 10 = .ok (.aload_n 0, 1) := by decide +kernel
theorem dX8_readParts_11 : decode cX8_readParts 11 = .ok (.iconst 0, 1) := by decide +kernel
theorem dX8_readParts_12 : decode cX8_readParts 12 = .ok (.iconst 0, 1) := by decide +kernel
theorem dX8_readParts_13 : decode cX8_readParts 13 = .ok (.invokevirtual 132, 3) := by decide +kernel
theorem dX8_readParts_16 : decode cX8_readParts 16 = .ok (.ifCond .eq 12, 3) := by decide +kernel
theorem dX8_readParts_19 : decode cX8_readParts 19 = .ok (.aload_n 0, 1) := by decide +kernel
theorem dX8_readParts_20 : decode cX8_readParts 20 = .ok (.bipush 59, 2) := by decide +kernel
theorem dX8_readParts_22 : decode cX8_readParts 22 = .ok (.invokevirtual 129, 3) := by decide +kernel
theorem dX8_readParts_25 : decode cX8_readParts 25 = .ok (.ifCond .ne 5, 3) := by decide +kernel
theorem dX8_readParts_28 : decode cX8_readParts 28 = .ok (.iconst 0, 1) := by decide +kernel
theorem dX8_readParts_29 : decode cX8_readParts 29 = .ok (.ireturn, 1) := by decide +kernel
theorem dX8_readParts_30 : decode cX8_readParts 30 = .ok (.aload_n 0, 1) := by decide +kernel
theorem dX8_readParts_31 : decode cX8_readParts 31 = .ok (.aload_n 0, 1) := by decide +kernel
theorem dX8_readParts_32 : decode cX8_readParts 32 = .ok (.getfield 53, 3) := by decide +kernel
theorem dX8_readParts_35 : decode cX8_readParts 35 = .ok (.putfield 55, 3) := by decide +kernel
theorem dX8_readParts_38 : decode cX8_readParts 38 = .ok (.aload_n 0, 1) := by decide +kernel
theorem dX8_readParts_39 : decode cX8_readParts 39 = .ok (.sipush 129, 3) := by decide +kernel
theorem dX8_readParts_42 : decode cX8_readParts 42 = .ok (.invokevirtual 129, 3) := by decide +kernel
theorem dX8_readParts_45 : decode cX8_readParts 45 = .ok (.ifCond .eq 37, 3) := by decide +kernel
theorem dX8_readParts_48 : decode cX8_readParts 48 = .ok (.aload_n 0, 1) := by decide +kernel
theorem dX8_readParts_49 : decode cX8_readParts 49 = .ok (.iconst 0, 1) := by decide +kernel
theorem dX8_readParts_50 : decode cX8_readParts 50 = .ok (.iconst 0, 1) := by decide +kernel
theorem dX8_readParts_51 : decode cX8_readParts 51 = .ok (.invokevirtual 132, 3) := by decide +kernel
theorem dX8_readParts_54 : decode cX8_readParts 54 = .ok (.ifCond .eq 28, 3) := by decide +kernel
theorem dX8_readParts_57 : decode cX8_readParts 57 = .ok (.aload_n 0, 1) := by decide +kernel
theorem dX8_readParts_58 : decode cX8_readParts 58 = .ok (.bipush 59, 2) := by decide +kernel
theorem dX8_readParts_60 : decode cX8_readParts 60 = .ok (.invokevirtual 129, 3) := by decide +kernel
theorem dX8_readParts_63 : decode cX8_readParts 63 = .ok (.ifCond .eq 19, 3) := by decide +kernel
theorem dX8_readParts_66 : decode cX8_readParts 66 = .ok (.aload_n 0, 1) := by decide +kernel
theorem dX8_readParts_67 : decode cX8_readParts 67 = .ok (.getfield 15, 3) := by decide +kernel
theorem dX8_readParts_70 : decode cX8_readParts 70 = .ok (.aload_n 0, 1) := by decide +kernel
theorem dX8_readParts_71 : decode cX8_readParts 71 = .ok (.getfield 50, 3) := by decide +kernel
theorem dX8_readParts_74 : decode cX8_readParts 74 = .ok (.iaload, 1) := by decide +kernel
theorem dX8_readParts_75 : decode cX8_readParts 75 = .ok (.ifCond .ne 7, 3) := by decide +kernel
theorem dX8_readParts_78 : decode cX8_readParts 78 = .ok (.iconst 1, 1) := by decide +kernel
theorem dX8_readParts_79 : decode cX8_readParts 79 = .ok (.goto 4, 3) := by decide +kernel
theorem dX8_readParts_82 : decode cX8_readParts 82 = .ok (.iconst 0, 1) := by decide +kernel
theorem dX8_readParts_83 : decode cX8_readParts 83 = .ok (.ireturn, 1) := by decide +kernel
theorem dX8_readLevel_0 : decode cX8_readLevel 0 = .ok (.iload_n 1, 1) := by decide +kernel
theorem dX8_readLevel_1 : decode cX8_readLevel 1 = .ok (.iconst 5, 1) := by decide +kernel
theorem dX8_readLevel_2 : decode cX8_readLevel 2 = .ok (.if_icmp .lt 9, 3) := by decide +kernel
theorem dX8_readLevel_5 : decode cX8_readLevel 5 = .ok (.aload_n 0, 1) := by decide +kernel
theorem dX8_readLevel_6 : decode cX8_readLevel 6 = .ok (.iload_n 2, 1) := by decide +kernel
theorem dX8_readLevel_7 : decode cX8_readLevel 7 = .ok (.invokevirtual 136, 3) := by decide +kernel
theorem dX8_readLevel_10 : decode cX8_readLevel 10 = .ok (.ireturn, 1) := by decide +kernel
theorem dX8_readLevel_11 : decode cX8_readLevel 11 = .ok (.iload_n 1, 1) := by decide +kernel
theorem dX8_readLevel_12 : decode cX8_readLevel 12 = .ok (.iconst 2, 1) := by decide +kernel
theorem dX8_readLevel_13 : decode cX8_readLevel 13 = .ok (.if_icmp .ne 28, 3) := by decide +kernel
theorem dX8_readLevel_16 : decode cX8_readLevel 16 = .ok (.aload_n 0, 1) := by decide +kernel
theorem dX8_readLevel_17 : decode cX8_readLevel 17 = .ok (.getfield 15, 3) := by decide +kernel
theorem dX8_readLevel_20 : decode cX8_readLevel 20 = .ok (.aload_n 0, 1) := by decide +kernel
theorem dX8_readLevel_21 : decode cX8_readLevel 21 = .ok (.getfield 50, 3) := by decide +kernel
theorem dX8_readLevel_24 : decode cX8_readLevel 24 = .ok (.iaload, 1) := by decide +kernel
theorem dX8_readLevel_25 : decode cX8_readLevel 25 = .ok (.sipush 132, 3) := by decide +kernel
theorem dX8_readLevel_28 : decode cX8_readLevel 28 = .ok (.if_icmp .ne 13, 3) := by decide +kernel
theorem dX8_readLevel_31 : decode cX8_readLevel 31 = .ok (.aload_n 0, 1) := by decide +kernel
theorem dX8_readLevel_32 : decode cX8_readLevel 32 = .ok (.sipush 132, 3) := by decide +kernel
theorem dX8_readLevel_35 : decode cX8_readLevel 35 = .ok (.iconst 2, 1) := by decide +kernel
theorem dX8_readLevel_36 : decode cX8_readLevel 36 = .ok (.iload_n 2, 1) := by decide +kernel
theorem dX8_readLevel_37 : decode cX8_readLevel 37 = .ok (.invokevirtual 139, 3) := by decide +kernel
theorem dX8_readLevel_40 : decode cX8_readLevel 40 = .ok (.ireturn, 1) := by decide +kernel
theorem dX8_readLevel_41 : decode cX8_readLevel 41 = .ok (.aload_n 0, 1) := by decide +kernel
theorem dX8_readLevel_42 : decode cX8_readLevel 42 = .ok (.iload_n 1, 1) := by decide +kernel
theorem dX8_readLevel_43 : decode cX8_readLevel 43 = .ok (.iconst 1, 1) := by decide +kernel
theorem dX8_readLevel_44 : decode cX8_readLevel 44 = .ok (.iadd, 1) := by decide +kernel
theorem dX8_readLevel_45 : decode cX8_readLevel 45 = .ok (.iload_n 2, 1) := by decide +kernel
theorem dX8_readLevel_46 : decode cX8_readLevel 46 = .ok (.invokevirtual 132, 3) := by decide +kernel
theorem dX8_readLevel_49 : decode cX8_readLevel 49 = .ok (.ifCond .ne 5, 3) := by decide +kernel
theorem dX8_readLevel_52 : decode cX8_readLevel 52 = .ok (.iconst 0, 1) := by decide +kernel
theorem dX8_readLevel_53 : decode cX8_readLevel 53 = .ok (.ireturn, 1) := by decide +kernel
theorem dX8_readLevel_54 : decode cX8_readLevel 54 = .ok (.iload_n 1, 1) := by decide +kernel
theorem dX8_readLevel_55 : decode cX8_readLevel 55 = .ok (.iconst 2, 1) := by decide +kernel
theorem dX8_readLevel_56 : decode cX8_readLevel 56 = .ok (.if_icmp .ne 7, 3) := by decide +kernel
theorem dX8_readLevel_59 : decode cX8_readLevel 59 = .ok (.iconst 1, 1) := by decide +kernel
theorem dX8_readLevel_60 : decode cX8_readLevel 60 = .ok (.goto 6, 3) := by decide +kernel
theorem dX8_readLevel_63 : decode cX8_readLevel 63 = .ok (.sipush 160, 3) := by decide +kernel
theorem dX8_readLevel_66 : decode cX8_readLevel 66 = .ok (.istore_n 3, 1) := by decide +kernel
theorem dX8_readLevel_67 : decode cX8_readLevel 67 = .ok (.iconst 0, 1) := by decide +kernel
theorem dX8_readLevel_68 : decode cX8_readLevel 68 = .ok (.istore 4, 2) := by decide +kernel
theorem dX8_readLevel_70 : decode cX8_readLevel 70 = .ok (.iload 4, 2) := by decide +kernel
theorem dX8_readLevel_72 : decode cX8_readLevel 72 = .ok (.iload_n 3, 1) := by decide +kernel
theorem dX8_readLevel_73 : decode cX8_readLevel 73 = .ok (.if_icmp .ge 66, 3) := by decide +kernel
theorem dX8_readLevel_76 : decode cX8_readLevel 76 = .ok (.iload_n 1, 1) := by decide +kernel
theorem dX8_readLevel_77 : decode cX8_readLevel 77 = .ok (.aload_n 0, 1) := by decide +kernel
theorem dX8_readLevel_78 : decode cX8_readLevel 78 = .ok (.getfield 15, 3) := by decide +kernel
theorem dX8_readLevel_81 : decode cX8_readLevel 81 = .ok (.aload_n 0, 1) := by decide +kernel
theorem dX8_readLevel_82 : decode cX8_readLevel 82 = .ok (.getfield 50, 3) := by decide +kernel
theorem dX8_readLevel_85 : decode cX8_readLevel 85 = .ok (.iaload, 1) := by decide +kernel
theorem dX8_readLevel_86 : decode cX8_readLevel 86 = .ok (.invokestatic 142, 3) := by decide +kernel
theorem dX8_readLevel_89 : decode cX8_readLevel 89 = .ok (.ifCond .eq 50, 3) := by decide +kernel
theorem dX8_readLevel_92 : decode cX8_readLevel 92 = .ok (.aload_n 0, 1) := by decide +kernel
theorem dX8_readLevel_93 : decode cX8_readLevel 93 = .ok (.getfield 15, 3) := by decide +kernel
theorem dX8_readLevel_96 : decode cX8_readLevel 96 = .ok (.aload_n 0, 1) := by decide +kernel
theorem dX8_readLevel_97 : decode cX8_readLevel 97 = .ok (.getfield 50, 3) := by decide +kernel
theorem dX8_readLevel_100 : decode cX8_readLevel 100 = .ok (.iaload, 1) := by decide +kernel
theorem dX8_readLevel_101 : decode cX8_readLevel 101 = .ok (.istore 5, 2) := by decide +kernel
theorem dX8_readLevel_103 : decode cX8_readLevel 103 = .ok (.aload_n 0, 1) := by decide +kernel
theorem dX8_readLevel_104 : decode cX8_readLevel 104 = .ok (.dup, 1) := by decide +kernel
theorem dX8_readLevel_105 : decode cX8_readLevel 105 = .ok (.getfield 50, 3) := by decide +kernel
theorem dX8_readLevel_108 : decode cX8_readLevel 108 = .ok (.iconst 1, 1) := by decide +kernel
theorem dX8_readLevel_109 : decode cX8_readLevel 109 = .ok (.iadd, 1) := by decide +kernel
theorem dX8_readLevel_110 : decode cX8_readLevel 110 = .ok (.putfield 50, 3) := by decide +kernel
theorem dX8_readLevel_113 : decode cX8_readLevel 113 = .ok (.aload_n 0, 1) := by decide +kernel
theorem dX8_readLevel_114 : decode cX8_readLevel 114 = .ok (.iload_n 1, 1) := by decide +kernel
theorem dX8_readLevel_115 : decode cX8_readLevel 115 = .ok (.iconst 1, 1) := by decide +kernel
theorem dX8_readLevel_116 : decode cX8_readLevel 116 = .ok (.iadd, 1) := by decide +kernel
theorem dX8_readLevel_117 : decode cX8_readLevel 117 = .ok (.iload_n 2, 1) := by decide +kernel
theorem dX8_readLevel_118 : decode cX8_readLevel 118 = .ok (.invokevirtual 132, 3) := by decide +kernel
theorem dX8_readLevel_121 : decode cX8_readLevel 121 = .ok (.ifCond .ne 5, 3) := by decide +kernel
theorem dX8_readLevel_124 : decode cX8_readLevel 124 = .ok (.iconst 0, 1) := by decide +kernel
theorem dX8_readLevel_125 : decode cX8_readLevel 125 = .ok (.ireturn, 1) := by decide +kernel
theorem dX8_readLevel_126 : decode cX8_readLevel 126 = .ok (.aload_n 0, 1) := by decide +kernel
theorem dX8_readLevel_127 : decode cX8_readLevel 127 = .ok (.iload 5, 2) := by decide +kernel
theorem dX8_readLevel_129 : decode cX8_readLevel 129 = .ok (.ineg, 1) := by decide +kernel
theorem dX8_readLevel_130 : decode cX8_readLevel 130 = .ok (.invokevirtual 145, 3) := by decide +kernel
theorem dX8_readLevel_133 : decode cX8_readLevel 133 = .ok (.iinc 4 1, 3) := by decide +kernel
theorem dX8_readLevel_136 : decode cX8_readLevel 136 = .ok (.goto (-66), 3) := by decide +kernel
theorem dX8_readLevel_139 : decode cX8_readLevel 139 = .ok (.iconst 1, 1) := by decide +kernel
theorem dX8_readLevel_140 : decode cX8_readLevel 140 = .ok (.ireturn, 1) := by decide +kernel
theorem dX8_isSignOf_0 : decode cX8_isSignOf 0 = .ok (.iload_n 0, 1) := by decide +kernel
theorem dX8_isSignOf_1 : decode cX8_isSignOf 1 = .ok (.tableswitch 93 0 3 #[31, 44, 57, 75], 31) := by decide +kernel
theorem dX8_isSignOf_32 : decode cX8_isSignOf 32 = .ok (.iload_n 1, 1) := by decide +kernel
theorem dX8_isSignOf_33 : decode cX8_isSignOf 33 = .ok (.sipush 130, 3) := by decide +kernel
theorem dX8_isSignOf_36 : decode cX8_isSignOf 36 = .ok (.if_icmp .ne 7, 3) := by decide +kernel
theorem dX8_isSignOf_39 : decode cX8_isSignOf 39 = .ok (.iconst 1, 1) := by decide +kernel
theorem dX8_isSignOf_40 : decode cX8_isSignOf 40 = .ok (.goto 4, 3) := by decide +kernel
theorem dX8_isSignOf_43 : decode cX8_isSignOf 43 = .ok (.iconst 0, 1) := by decide +kernel
theorem dX8_isSignOf_44 : decode cX8_isSignOf 44 = .ok (.ireturn, 1) := by decide +kernel
theorem dX8_isSignOf_45 : decode cX8_isSignOf 45 = .ok (.iload_n 1, 1) := by decide +kernel
theorem dX8_isSignOf_46 : decode cX8_isSignOf 46 = .ok (.sipush 131, 3) := by decide +kernel
theorem dX8_isSignOf_49 : decode cX8_isSignOf 49 = .ok (.if_icmp .ne 7, 3) := by decide +kernel
theorem dX8_isSignOf_52 : decode cX8_isSignOf 52 = .ok (.iconst 1, 1) := by decide +kernel
theorem dX8_isSignOf_53 : decode cX8_isSignOf 53 = .ok (.goto 4, 3) := by decide +kernel
theorem dX8_isSignOf_56 : decode cX8_isSignOf 56 = .ok (.iconst 0, 1) := by decide +kernel
theorem dX8_isSignOf_57 : decode cX8_isSignOf 57 = .ok (.ireturn, 1) := by decide +kernel
theorem dX8_isSignOf_58 : decode cX8_isSignOf 58 = .ok (.iload_n 1, 1) := by decide +kernel
theorem dX8_isSignOf_59 : decode cX8_isSignOf 59 = .ok (.bipush 60, 2) := by decide +kernel
theorem dX8_isSignOf_61 : decode cX8_isSignOf 61 = .ok (.if_icmp .eq 9, 3) := by decide +kernel
theorem dX8_isSignOf_64 : decode cX8_isSignOf 64 = .ok (.iload_n 1, 1) := by decide +kernel
theorem dX8_isSignOf_65 : decode cX8_isSignOf 65 = .ok (.bipush 61, 2) := by decide +kernel
theorem dX8_isSignOf_67 : decode cX8_isSignOf 67 = .ok (.if_icmp .ne 7, 3) := by decide +kernel
theorem dX8_isSignOf_70 : decode cX8_isSignOf 70 = .ok (.iconst 1, 1) := by decide +kernel
theorem dX8_isSignOf_71 : decode cX8_isSignOf 71 = .ok (.goto 4, 3) := by decide +kernel
theorem dX8_isSignOf_74 : decode cX8_isSignOf 74 = .ok (.iconst 0, 1) := by decide +kernel
theorem dX8_isSignOf_75 : decode cX8_isSignOf 75 = .ok (.ireturn, 1) := by decide +kernel
theorem dX8_isSignOf_76 : decode cX8_isSignOf 76 = .ok (.iload_n 1, 1) := by decide +kernel
theorem dX8_isSignOf_77 : decode cX8_isSignOf 77 = .ok (.bipush 43, 2) := by decide +kernel
theorem dX8_isSignOf_79 : decode cX8_isSignOf 79 = .ok (.if_icmp .eq 9, 3) := by decide +kernel
theorem dX8_isSignOf_82 : decode cX8_isSignOf 82 = .ok (.iload_n 1, 1) := by decide +kernel
theorem dX8_isSignOf_83 : decode cX8_isSignOf 83 = .ok (.bipush 45, 2) := by decide +kernel
theorem dX8_isSignOf_85 : decode cX8_isSignOf 85 = .ok (.if_icmp .ne 7, 3) := by decide +kernel
theorem dX8_isSignOf_88 : decode cX8_isSignOf 88 = .ok (.iconst 1, 1) := by decide +kernel
theorem dX8_isSignOf_89 : decode cX8_isSignOf 89 = .ok (.goto 4, 3) := by decide +kernel
theorem dX8_isSignOf_92 : decode cX8_isSignOf 92 = .ok (.iconst 0, 1) := by decide +kernel
theorem dX8_isSignOf_93 : decode cX8_isSignOf 93 = .ok (.ireturn, 1) := by decide +kernel
theorem dX8_isSignOf_94 : decode cX8_isSignOf 94 = .ok (.iload_n 1, 1) := by decide +kernel
theorem dX8_isSignOf_95 : decode cX8_isSignOf 95 = .ok (.bipush 42, 2) := by decide +kernel
theorem dX8_isSignOf_97 : decode cX8_isSignOf 97 = .ok (.if_icmp .ne 7, 3) := by decide +kernel
theorem dX8_isSignOf_100 : decode cX8_isSignOf 100 = .ok (.iconst 1, 1) := by decide +kernel
theorem dX8_isSignOf_101 : decode cX8_isSignOf 101 = .ok (.goto 4, 3) := by decide +kernel
theorem dX8_isSignOf_104 : decode cX8_isSignOf 104 = .ok (.iconst 0, 1) := by decide +kernel
theorem dX8_isSignOf_105 : decode cX8_isSignOf 105 = .ok (.ireturn, 1) := by decide +kernel
theorem dX8_readOne_0 : decode cX8_readOne 0 = .ok (.aload_n 0, 1) := by decide +kernel
theorem dX8_readOne_1 : decode cX8_readOne 1 = .ok (.getfield 15, 3) := by decide +kernel
theorem dX8_readOne_4 : decode cX8_readOne 4 = .ok (.aload_n 0, 1) := by decide +kernel
theorem dX8_readOne_5 : decode cX8_readOne 5 = .ok (.getfield 50, 3) := by decide +kernel
theorem dX8_readOne_8 : decode cX8_readOne 8 = .ok (.iaload, 1) := by decide +kernel
theorem dX8_readOne_9 : decode cX8_readOne 9 = .ok (.istore_n 2, 1) := by decide +kernel
theorem dX8_readOne_10 : decode cX8_readOne 10 = .ok (.iload_n 2, 1) := by decide +kernel
theorem dX8_readOne_11 : decode cX8_readOne 11 = .ok (.bipush 45, 2) := by decide +kernel
theorem dX8_readOne_13 : decode cX8_readOne 13 = .ok (.if_icmp .ne 13, 3) := by decide +kernel
theorem dX8_readOne_16 : decode cX8_readOne 16 = .ok (.aload_n 0, 1) := by decide +kernel
theorem dX8_readOne_17 : decode cX8_readOne 17 = .ok (.sipush 133, 3) := by decide +kernel
theorem dX8_readOne_20 : decode cX8_readOne 20 = .ok (.iconst 5, 1) := by decide +kernel
theorem dX8_readOne_21 : decode cX8_readOne 21 = .ok (.iload_n 1, 1) := by decide +kernel
theorem dX8_readOne_22 : decode cX8_readOne 22 = .ok (.invokevirtual 139, 3) := by decide +kernel
theorem dX8_readOne_25 : decode cX8_readOne 25 = .ok (.ireturn, 1) := by decide +kernel
theorem dX8_readOne_26 : decode cX8_readOne 26 = .ok (.iload_n 2, 1) := by decide +kernel
theorem dX8_readOne_27 : decode cX8_readOne 27 = .ok (.bipush 40, 2) := by decide +kernel
theorem dX8_readOne_29 : decode cX8_readOne 29 = .ok (.if_icmp .ne 28, 3) := by decide +kernel
theorem dX8_readOne_32 : decode cX8_readOne 32 = .ok (.aload_n 0, 1) := by decide +kernel
theorem dX8_readOne_33 : decode cX8_readOne 33 = .ok (.iconst 0, 1) := by decide +kernel
theorem dX8_readOne_34 : decode cX8_readOne 34 = .ok (.iconst 0, 1) := by decide +kernel
theorem dX8_readOne_35 : decode cX8_readOne 35 = .ok (.iload_n 1, 1) := by decide +kernel
theorem dX8_readOne_36 : decode cX8_readOne 36 = .ok (.invokevirtual 139, 3) := by decide +kernel
theorem dX8_readOne_39 : decode cX8_readOne 39 = .ok (.ifCond .eq 16, 3) := by decide +kernel
theorem dX8_readOne_42 : decode cX8_readOne 42 = .ok (.aload_n 0, 1) := by decide +kernel
theorem dX8_readOne_43 : decode cX8_readOne 43 = .ok (.bipush 41, 2) := by decide +kernel
theorem dX8_readOne_45 : decode cX8_readOne 45 = .ok (.invokevirtual 129, 3) := by decide +kernel
theorem dX8_readOne_48 : decode cX8_readOne 48 = .ok (.ifCond .eq 7, 3) := by decide +kernel
theorem dX8_readOne_51 : decode cX8_readOne 51 = .ok (.iconst 1, 1) := by decide +kernel
theorem dX8_readOne_52 : decode cX8_readOne 52 = .ok (.goto 4, 3) := by decide +kernel
theorem dX8_readOne_55 : decode cX8_readOne 55 = .ok (.iconst 0, 1) := by decide +kernel
theorem dX8_readOne_56 : decode cX8_readOne 56 = .ok (.ireturn, 1) := by decide +kernel
theorem dX8_readOne_57 : decode cX8_readOne 57 = .ok (.iload_n 2, 1) := by decide +kernel
theorem dX8_readOne_58 : decode cX8_readOne 58 = .ok (.iconst 2, 1) := by decide +kernel
theorem dX8_readOne_59 : decode cX8_readOne 59 = .ok (.if_icmp .eq 18, 3) := by decide +kernel
theorem dX8_readOne_62 : decode cX8_readOne 62 = .ok (.iload_n 2, 1) := by decide +kernel
theorem dX8_readOne_63 : decode cX8_readOne 63 = .ok (.sipush 134, 3) := by decide +kernel
theorem dX8_readOne_66 : decode cX8_readOne 66 = .ok (.sipush 139, 3) := by decide +kernel
theorem dX8_readOne_69 : decode cX8_readOne 69 = .ok (.invokestatic 99, 3) := by decide +kernel
theorem dX8_readOne_72 : decode cX8_readOne 72 = .ok (.ifCond .ne 5, 3) := by decide +kernel
theorem dX8_readOne_75 : decode cX8_readOne 75 = .ok (.iconst 0, 1) := by decide +kernel
theorem dX8_readOne_76 : decode cX8_readOne 76 = .ok (.ireturn, 1) := by decide +kernel
theorem dX8_readOne_77 : decode cX8_readOne 77 = .ok (.aload_n 0, 1) := by decide +kernel
theorem dX8_readOne_78 : decode cX8_readOne 78 = .ok (.iload_n 2, 1) := by decide +kernel
theorem dX8_readOne_79 : decode cX8_readOne 79 = .ok (.iconst 2, 1) := by decide +kernel
theorem dX8_readOne_80 : decode cX8_readOne 80 = .ok (.if_icmp .ne 15, 3) := by decide +kernel
theorem dX8_readOne_83 : decode cX8_readOne 83 = .ok (.aload_n 0, 1) := by decide +kernel
theorem dX8_readOne_84 : decode cX8_readOne 84 = .ok (.getfield 21, 3) := by decide +kernel
theorem dX8_readOne_87 : decode cX8_readOne 87 = .ok (.aload_n 0, 1) := by decide +kernel
theorem dX8_readOne_88 : decode cX8_readOne 88 = .ok (.getfield 50, 3) := by decide +kernel
theorem dX8_readOne_91 : decode cX8_readOne 91 = .ok (.iaload, 1) := by decide +kernel
theorem dX8_readOne_92 : decode cX8_readOne 92 = .ok (.goto 5, 3) := by decide +kernel
theorem dX8_readOne_95 : decode cX8_readOne 95 = .ok (.iload_n 2, 1) := by decide +kernel
theorem dX8_readOne_96 : decode cX8_readOne 96 = .ok (.ineg, 1) := by decide +kernel
theorem dX8_readOne_97 : decode cX8_readOne 97 = .ok (.invokevirtual 145, 3) := by decide +kernel
theorem dX8_readOne_100 : decode cX8_readOne 100 = .ok (.aload_n 0, 1) := by decide +kernel
theorem dX8_readOne_101 : decode cX8_readOne 101 = .ok (.dup, 1) := by decide +kernel
theorem dX8_readOne_102 : decode cX8_readOne 102 = .ok (.getfield 50, 3) := by decide +kernel
theorem dX8_readOne_105 : decode cX8_readOne 105 = .ok (.iconst 1, 1) := by decide +kernel
theorem dX8_readOne_106 : decode cX8_readOne 106 = .ok (.iadd, 1) := by decide +kernel
theorem dX8_readOne_107 : decode cX8_readOne 107 = .ok (.putfield 50, 3) := by decide +kernel
theorem dX8_readOne_110 : decode cX8_readOne 110 = .ok (.iconst 1, 1) := by decide +kernel
theorem dX8_readOne_111 : decode cX8_readOne 111 = .ok (.ireturn, 1) := by decide +kernel
theorem dX8_readOpened_0 : decode cX8_readOpened 0 = .ok (.iload_n 3, 1) := by decide +kernel
theorem dX8_readOpened_1 : decode cX8_readOpened 1 = .ok (.iconst 5, 1) := by decide +kernel
theorem dX8_readOpened_2 : decode cX8_readOpened 2 = .ok (.if_icmp .lt 5, 3) := by decide +kernel
theorem dX8_readOpened_5 : decode cX8_readOpened 5 = .ok (.iconst 0, 1) := by decide +kernel
theorem dX8_readOpened_6 : decode cX8_readOpened 6 = .ok (.ireturn, 1) := by decide +kernel
theorem dX8_readOpened_7 : decode cX8_readOpened 7 = .ok (.aload_n 0, 1) := by decide +kernel
theorem dX8_readOpened_8 : decode cX8_readOpened 8 = .ok (.dup, 1) := by decide +kernel
theorem dX8_readOpened_9 : decode cX8_readOpened 9 = .ok (.getfield 50, 3) := by decide +kernel
theorem dX8_readOpened_12 : decode cX8_readOpened 12 = .ok (.iconst 1, 1) := by decide +kernel
theorem dX8_readOpened_13 : decode cX8_readOpened 13 = .ok (.iadd, 1) := by decide +kernel
theorem dX8_readOpened_14 : decode cX8_readOpened 14 = .ok (.putfield 50, 3) := by decide +kernel
theorem dX8_readOpened_17 : decode cX8_readOpened 17 = .ok (.aload_n 0, 1) := by decide +kernel
theorem dX8_readOpened_18 : decode cX8_readOpened 18 = .ok (.iload_n 2, 1) := by decide +kernel
theorem dX8_readOpened_19 : decode cX8_readOpened 19 = .ok (.iload_n 3, 1) := by decide +kernel
theorem dX8_readOpened_20 : decode cX8_readOpened 20 = .ok (.iconst 1, 1) := by decide +kernel
theorem dX8_readOpened_21 : decode cX8_readOpened 21 = .ok (.iadd, 1) := by decide +kernel
theorem dX8_readOpened_22 : decode cX8_readOpened 22 = .ok (.invokevirtual 132, 3) := by decide +kernel
theorem dX8_readOpened_25 : decode cX8_readOpened 25 = .ok (.ifCond .ne 5, 3) := by decide +kernel
theorem dX8_readOpened_28 : decode cX8_readOpened 28 = .ok (.iconst 0, 1) := by decide +kernel
theorem dX8_readOpened_29 : decode cX8_readOpened 29 = .ok (.ireturn, 1) := by decide +kernel
theorem dX8_readOpened_30 : decode cX8_readOpened 30 = .ok (.iload_n 1, 1) := by decide +kernel
theorem dX8_readOpened_31 : decode cX8_readOpened 31 = .ok (.ifCond .eq 9, 3) := by decide +kernel
theorem dX8_readOpened_34 : decode cX8_readOpened 34 = .ok (.aload_n 0, 1) := by decide +kernel
theorem dX8_readOpened_35 : decode cX8_readOpened 35 = .ok (.iload_n 1, 1) := by decide +kernel
theorem dX8_readOpened_36 : decode cX8_readOpened 36 = .ok (.ineg, 1) := by decide +kernel
theorem dX8_readOpened_37 : decode cX8_readOpened 37 = .ok (.invokevirtual 145, 3) := by decide +kernel
theorem dX8_readOpened_40 : decode cX8_readOpened 40 = .ok (.iconst 1, 1) := by decide +kernel
theorem dX8_readOpened_41 : decode cX8_readOpened 41 = .ok (.ireturn, 1) := by decide +kernel
theorem dX9_init_0 : decode cX9_init 0 = .ok (.aload_n 0, 1) := by decide +kernel
theorem dX9_init_1 : decode cX9_init 1 = .ok (.invokespecial 3, 3) := by decide +kernel
theorem dX9_init_4 : decode cX9_init 4 = .ok (.aload_n 0, 1) := by decide +kernel
theorem dX9_init_5 : decode cX9_init 5 = .ok (.iconst 4, 1) := by decide +kernel
theorem dX9_init_6 : decode cX9_init 6 = .ok (.newarray .int, 2) := by decide +kernel
theorem dX9_init_8 : decode cX9_init 8 = .ok (.putfield 11, 3) := by decide +kernel
theorem dX9_init_11 : decode cX9_init 11 = .ok (.aload_n 0, 1) := by decide +kernel
theorem dX9_init_12 : decode cX9_init 12 = .ok (.iconst 4, 1) := by decide +kernel
theorem dX9_init_13 : decode cX9_init 13 = .ok (.newarray .int, 2) := by decide +kernel
theorem dX9_init_15 : decode cX9_init 15 = .ok (.putfield 15, 3) := by decide +kernel
theorem dX9_init_18 : decode cX9_init 18 = .ok (.aload_n 0, 1) := by decide +kernel
theorem dX9_init_19 : decode cX9_init 19 = .ok (.iconst 4, 1) := by decide +kernel
theorem dX9_init_20 : decode cX9_init 20 = .ok (.bipush 40, 2) := by decide +kernel
theorem dX9_init_22 : decode cX9_init 22 = .ok (.multianewarray 18 2, 4) := by decide +kernel
theorem dX9_init_26 : decode cX9_init 26 = .ok (.putfield 20, 3) := by decide +kernel
theorem dX9_init_29 : decode cX9_init 29 = .ok (.aload_n 0, 1) := by decide +kernel
theorem dX9_init_30 : decode cX9_init 30 = .ok (.aload_n 1, 1) := by decide +kernel
theorem dX9_init_31 : decode cX9_init 31 = .ok (.putfield 23, 3) := by decide +kernel
theorem dX9_init_34 : decode cX9_init 34 = .ok (.aload_n 0, 1) := by decide +kernel
theorem dX9_init_35 : decode cX9_init 35 = .ok (.getfield 11, 3) := by decide +kernel
theorem dX9_init_38 : decode cX9_init 38 = .ok (.iconst (-1), 1) := by decide +kernel
theorem dX9_init_39 : decode cX9_init 39 = .ok (.invokestatic 27, 3) := by decide +kernel
theorem dX9_init_42 : decode cX9_init 42 = .ok (.return_, 1) := by decide +kernel
theorem dX9_isSheet_0 : decode cX9_isSheet 0 = .ok (.iload_n 1, 1) := by decide +kernel
theorem dX9_isSheet_1 : decode cX9_isSheet 1 = .ok (.iconst 0, 1) := by decide +kernel
theorem dX9_isSheet_2 : decode cX9_isSheet 2 = .ok (.iconst 3, 1) := by decide +kernel
theorem dX9_isSheet_3 : decode cX9_isSheet 3 = .ok (.invokestatic 33, 3) := by decide +kernel
theorem dX9_isSheet_6 : decode cX9_isSheet 6 = .ok (.ireturn, 1) := by decide +kernel
theorem dX9_isMissing_0 : decode cX9_isMissing 0 = .ok (.aload_n 0, 1) := by decide +kernel
theorem dX9_isMissing_1 : decode cX9_isMissing 1 = .ok (.getfield 11, 3) := by decide +kernel
theorem dX9_isMissing_4 : decode cX9_isMissing 4 = .ok (.iload_n 1, 1) := by decide +kernel
theorem dX9_isMissing_5 : decode cX9_isMissing 5 = .ok (.iaload, 1) := by decide +kernel
theorem dX9_isMissing_6 : decode cX9_isMissing 6 = .ok (.iconst (-1), 1) := by decide +kernel
theorem dX9_isMissing_7 : decode cX9_isMissing 7 = .ok (.if_icmp .ne 7, 3) := by decide +kernel
theorem dX9_isMissing_10 : decode cX9_isMissing 10 = .ok (.iconst 1, 1) := by decide +kernel
theorem dX9_isMissing_11 : decode cX9_isMissing 11 = .ok (.goto 4, 3) := by decide +kernel
theorem dX9_isMissing_14 : decode cX9_isMissing 14 = .ok (.iconst 0, 1) := by decide +kernel
theorem dX9_isMissing_15 : decode cX9_isMissing 15 = .ok (.ireturn, 1) := by decide +kernel
theorem dX9_hasPlaces_0 : decode cX9_hasPlaces 0 = .ok (.iload_n 2, 1) := by decide +kernel
theorem dX9_hasPlaces_1 : decode cX9_hasPlaces 1 = .ok (.ifCond .lt 23, 3) := by decide +kernel
theorem dX9_hasPlaces_4 : decode cX9_hasPlaces 4 = .ok (.iload_n 3, 1) := by decide +kernel
theorem dX9_hasPlaces_5 : decode cX9_hasPlaces 5 = .ok (.ifCond .lt 19, 3) := by decide +kernel
theorem dX9_hasPlaces_8 : decode cX9_hasPlaces 8 = .ok (.iload_n 3, 1) := by decide +kernel
theorem dX9_hasPlaces_9 : decode cX9_hasPlaces 9 = .ok (.aload_n 0, 1) := by decide +kernel
theorem dX9_hasPlaces_10 : decode cX9_hasPlaces 10 = .ok (.getfield 15, 3) := by decide +kernel
theorem dX9_hasPlaces_13 : decode cX9_hasPlaces 13 = .ok (.iload_n 1, 1) := by decide +kernel
theorem dX9_hasPlaces_14 : decode cX9_hasPlaces 14 = .ok (.iaload, 1) := by decide +kernel
theorem dX9_hasPlaces_15 : decode cX9_hasPlaces 15 = .ok (.iload_n 2, 1) := by decide +kernel
theorem dX9_hasPlaces_16 : decode cX9_hasPlaces 16 = .ok (.isub, 1) := by decide +kernel
theorem dX9_hasPlaces_17 : decode cX9_hasPlaces 17 = .ok (.if_icmp .gt 7, 3) := by decide +kernel
theorem dX9_hasPlaces_20 : decode cX9_hasPlaces 20 = .ok (.iconst 1, 1) := by decide +kernel
theorem dX9_hasPlaces_21 : decode cX9_hasPlaces 21 = .ok (.goto 4, 3) := by decide +kernel
theorem dX9_hasPlaces_24 : decode cX9_hasPlaces 24 = .ok (.iconst 0, 1) := by decide +kernel
theorem dX9_hasPlaces_25 : decode cX9_hasPlaces 25 = .ok (.ireturn, 1) := by decide +kernel
theorem dX9_remove_0 : decode cX9_remove 0 = .ok (.aload_n 0, 1) := by decide +kernel
theorem dX9_remove_1 : decode cX9_remove 1 = .ok (.getfield 11, 3) := by decide +kernel
theorem dX9_remove_4 : decode cX9_remove 4 = .ok (.iload_n 1, 1) := by decide +kernel
theorem dX9_remove_5 : decode cX9_remove 5 = .ok (.iconst (-1), 1) := by decide +kernel
theorem dX9_remove_6 : decode cX9_remove 6 = .ok (.iastore, 1) := by decide +kernel
theorem dX9_remove_7 : decode cX9_remove 7 = .ok (.aload_n 0, 1) := by decide +kernel
theorem dX9_remove_8 : decode cX9_remove 8 = .ok (.getfield 15, 3) := by decide +kernel
theorem dX9_remove_11 : decode cX9_remove 11 = .ok (.iload_n 1, 1) := by decide +kernel
theorem dX9_remove_12 : decode cX9_remove 12 = .ok (.iconst 0, 1) := by decide +kernel
theorem dX9_remove_13 : decode cX9_remove 13 = .ok (.iastore, 1) := by decide +kernel
theorem dX9_remove_14 : decode cX9_remove 14 = .ok (.iconst 1, 1) := by decide +kernel
theorem dX9_remove_15 : decode cX9_remove 15 = .ok (.ireturn, 1) := by decide +kernel
theorem dX9_lay_0 : decode cX9_lay 0 = .ok (.aload_n 0, 1) := by decide +kernel
theorem dX9_lay_1 : decode cX9_lay 1 = .ok (.getfield 11, 3) := by decide +kernel
theorem dX9_lay_4 : decode cX9_lay 4 = .ok (.iload_n 1, 1) := by decide +kernel
theorem dX9_lay_5 : decode cX9_lay 5 = .ok (.iload_n 2, 1) := by decide +kernel
theorem dX9_lay_6 : decode cX9_lay 6 = .ok (.iastore, 1) := by decide +kernel
theorem dX9_lay_7 : decode cX9_lay 7 = .ok (.aload_n 0, 1) := by decide +kernel
theorem dX9_lay_8 : decode cX9_lay 8 = .ok (.getfield 15, 3) := by decide +kernel
theorem dX9_lay_11 : decode cX9_lay 11 = .ok (.iload_n 1, 1) := by decide +kernel
theorem dX9_lay_12 : decode cX9_lay 12 = .ok (.iload_n 3, 1) := by decide +kernel
theorem dX9_lay_13 : decode cX9_lay 13 = .ok (.iastore, 1) := by decide +kernel
theorem dX9_lay_14 : decode cX9_lay 14 = .ok (.aload_n 0, 1) := by decide +kernel
theorem dX9_lay_15 : decode cX9_lay 15 = .ok (.getfield 20, 3) := by decide +kernel
theorem dX9_lay_18 : decode cX9_lay 18 = .ok (.iload_n 1, 1) := by decide +kernel
theorem dX9_lay_19 : decode cX9_lay 19 = .ok (.aaload, 1) := by decide +kernel
theorem dX9_lay_20 : decode cX9_lay 20 = .ok (.iconst 0, 1) := by decide +kernel
theorem dX9_lay_21 : decode cX9_lay 21 = .ok (.invokestatic 27, 3) := by decide +kernel
theorem dX9_lay_24 : decode cX9_lay 24 = .ok (.iconst 1, 1) := by decide +kernel
theorem dX9_lay_25 : decode cX9_lay 25 = .ok (.ireturn, 1) := by decide +kernel
theorem dX9_write_0 : decode cX9_write 0 = .ok (.aload_n 0, 1) := by decide +kernel
theorem dX9_write_1 : decode cX9_write 1 = .ok (.getfield 20, 3) := by decide +kernel
theorem dX9_write_4 : decode cX9_write 4 = .ok (.iload_n 1, 1) := by decide +kernel
theorem dX9_write_5 : decode cX9_write 5 = .ok (.aaload, 1) := by decide +kernel
theorem dX9_write_6 : decode cX9_write 6 = .ok (.iload_n 2, 1) := by decide +kernel
theorem dX9_write_7 : decode cX9_write 7 = .ok (.aload_n 0, 1) := by decide +kernel
theorem dX9_write_8 : decode cX9_write 8 = .ok (.getfield 11, 3) := by decide +kernel
theorem dX9_write_11 : decode cX9_write 11 = .ok (.iload_n 1, 1) := by decide +kernel
theorem dX9_write_12 : decode cX9_write 12 = .ok (.iaload, 1) := by decide +kernel
theorem dX9_write_13 : decode cX9_write 13 = .ok (.iload_n 3, 1) := by decide +kernel
theorem dX9_write_14 : decode cX9_write 14 = .ok (.invokestatic 37, 3) := by decide +kernel
theorem dX9_write_17 : decode cX9_write 17 = .ok (.iastore, 1) := by decide +kernel
theorem dX9_write_18 : decode cX9_write 18 = .ok (.iconst 1, 1) := by decide +kernel
theorem dX9_write_19 : decode cX9_write 19 = .ok (.ireturn, 1) := by decide +kernel
theorem dX9_narrowed_0 : decode cX9_narrowed 0 = .ok (.iload_n 0, 1) := by decide +kernel
theorem dX9_narrowed_1 : decode cX9_narrowed 1 = .ok (.lookupswitch 33 #[(0, 27), (1, 30)], 27) := by decide +kernel
theorem dX9_narrowed_28 : decode cX9_narrowed 28 = .ok (.iload_n 1, 1) := by decide +kernel
theorem dX9_narrowed_29 : decode cX9_narrowed 29 = .ok (.i2b, 1) := by decide +kernel
theorem dX9_narrowed_30 : decode cX9_narrowed 30 = .ok (.ireturn, 1) := by decide +kernel
theorem dX9_narrowed_31 : decode cX9_narrowed 31 = .ok (.iload_n 1, 1) := by decide +kernel
theorem dX9_narrowed_32 : decode cX9_narrowed 32 = .ok (.i2s, 1) := by decide +kernel
theorem dX9_narrowed_33 : decode cX9_narrowed 33 = .ok (.ireturn, 1) := by decide +kernel
theorem dX9_narrowed_34 : decode cX9_narrowed 34 = .ok (.iload_n 1, 1) := by decide +kernel
theorem dX9_narrowed_35 : decode cX9_narrowed 35 = .ok (.ireturn, 1) := by decide +kernel
theorem dX9_tellCosts_0 : decode cX9_tellCosts 0 = .ok (.iconst 0, 1) := by decide +kernel
theorem dX9_tellCosts_1 : decode cX9_tellCosts 1 = .ok (.istore 5, 2) := by decide +kernel
theorem dX9_tellCosts_3 : decode cX9_tellCosts 3 = .ok (.iconst 0, 1) := by decide +kernel
theorem dX9_tellCosts_4 : decode cX9_tellCosts 4 = .ok (.istore 6, 2) := by decide +kernel
theorem dX9_tellCosts_6 : decode cX9_tellCosts 6 = .ok (.iload 6, 2) := by decide +kernel
theorem dX9_tellCosts_8 : decode cX9_tellCosts 8 = .ok (.iload 4, 2) := by decide +kernel
theorem dX9_tellCosts_10 : decode cX9_tellCosts 10 = .ok (.if_icmp .ge 84, 3) := by decide +kernel
theorem dX9_tellCosts_13 : decode cX9_tellCosts 13 = .ok (.aload_n 0, 1) := by decide +kernel
theorem dX9_tellCosts_14 : decode cX9_tellCosts 14 = .ok (.iload_n 2, 1) := by decide +kernel
theorem dX9_tellCosts_15 : decode cX9_tellCosts 15 = .ok (.iload_n 3, 1) := by decide +kernel
theorem dX9_tellCosts_16 : decode cX9_tellCosts 16 = .ok (.iload 6, 2) := by decide +kernel
theorem dX9_tellCosts_18 : decode cX9_tellCosts 18 = .ok (.iadd, 1) := by decide +kernel
theorem dX9_tellCosts_19 : decode cX9_tellCosts 19 = .ok (.iconst 1, 1) := by decide +kernel
theorem dX9_tellCosts_20 : decode cX9_tellCosts 20 = .ok (.invokevirtual 41, 3) := by decide +kernel
theorem dX9_tellCosts_23 : decode cX9_tellCosts 23 = .ok (.ifCond .ne 6, 3) := by decide +kernel
theorem dX9_tellCosts_26 : decode cX9_tellCosts 26 = .ok (.bipush (-12), 2) := by decide +kernel
theorem dX9_tellCosts_28 : decode cX9_tellCosts 28 = .ok (.ireturn, 1) := by decide +kernel
theorem dX9_tellCosts_29 : decode cX9_tellCosts 29 = .ok (.aload_n 0, 1) := by decide +kernel
theorem dX9_tellCosts_30 : decode cX9_tellCosts 30 = .ok (.getfield 20, 3) := by decide +kernel
theorem dX9_tellCosts_33 : decode cX9_tellCosts 33 = .ok (.iload_n 2, 1) := by decide +kernel
theorem dX9_tellCosts_34 : decode cX9_tellCosts 34 = .ok (.aaload, 1) := by decide +kernel
theorem dX9_tellCosts_35 : decode cX9_tellCosts 35 = .ok (.iload_n 3, 1) := by decide +kernel
theorem dX9_tellCosts_36 : decode cX9_tellCosts 36 = .ok (.iload 6, 2) := by decide +kernel
theorem dX9_tellCosts_38 : decode cX9_tellCosts 38 = .ok (.iadd, 1) := by decide +kernel
theorem dX9_tellCosts_39 : decode cX9_tellCosts 39 = .ok (.iaload, 1) := by decide +kernel
theorem dX9_tellCosts_40 : decode cX9_tellCosts 40 = .ok (.istore 7, 2) := by decide +kernel
theorem dX9_tellCosts_42 : decode cX9_tellCosts 42 = .ok (.iload_n 1, 1) := by decide +kernel
theorem dX9_tellCosts_43 : decode cX9_tellCosts 43 = .ok (.iload 6, 2) := by decide +kernel
theorem dX9_tellCosts_45 : decode cX9_tellCosts 45 = .ok (.iadd, 1) := by decide +kernel
theorem dX9_tellCosts_46 : decode cX9_tellCosts 46 = .ok (.invokestatic 44, 3) := by decide +kernel
theorem dX9_tellCosts_49 : decode cX9_tellCosts 49 = .ok (.ifCond .eq 39, 3) := by decide +kernel
theorem dX9_tellCosts_52 : decode cX9_tellCosts 52 = .ok (.iload 7, 2) := by decide +kernel
theorem dX9_tellCosts_54 : decode cX9_tellCosts 54 = .ok (.getstatic 48, 3) := by decide +kernel
theorem dX9_tellCosts_57 : decode cX9_tellCosts 57 = .ok (.iconst 2, 1) := by decide +kernel
theorem dX9_tellCosts_58 : decode cX9_tellCosts 58 = .ok (.iaload, 1) := by decide +kernel
theorem dX9_tellCosts_59 : decode cX9_tellCosts 59 = .ok (.getstatic 51, 3) := by decide +kernel
theorem dX9_tellCosts_62 : decode cX9_tellCosts 62 = .ok (.iconst 2, 1) := by decide +kernel
theorem dX9_tellCosts_63 : decode cX9_tellCosts 63 = .ok (.iaload, 1) := by decide +kernel
theorem dX9_tellCosts_64 : decode cX9_tellCosts 64 = .ok (.invokestatic 33, 3) := by decide +kernel
theorem dX9_tellCosts_67 : decode cX9_tellCosts 67 = .ok (.ifCond .eq 21, 3) := by decide +kernel
theorem dX9_tellCosts_70 : decode cX9_tellCosts 70 = .ok (.aload_n 0, 1) := by decide +kernel
theorem dX9_tellCosts_71 : decode cX9_tellCosts 71 = .ok (.getfield 23, 3) := by decide +kernel
theorem dX9_tellCosts_74 : decode cX9_tellCosts 74 = .ok (.iload_n 1, 1) := by decide +kernel
theorem dX9_tellCosts_75 : decode cX9_tellCosts 75 = .ok (.iload 6, 2) := by decide +kernel
theorem dX9_tellCosts_77 : decode cX9_tellCosts 77 = .ok (.iadd, 1) := by decide +kernel
theorem dX9_tellCosts_78 : decode cX9_tellCosts 78 = .ok (.iconst 2, 1) := by decide +kernel
theorem dX9_tellCosts_79 : decode cX9_tellCosts 79 = .ok (.iload 7, 2) := by decide +kernel
theorem dX9_tellCosts_81 : decode cX9_tellCosts 81 = .ok (.invokevirtual 54, 3) := by decide +kernel
theorem dX9_tellCosts_84 : decode cX9_tellCosts 84 = .ok (.pop, 1) := by decide +kernel
theorem dX9_tellCosts_85 : decode cX9_tellCosts 85 = .ok (.iinc 5 1, 3) := by decide +kernel
theorem dX9_tellCosts_88 : decode cX9_tellCosts 88 = .ok (.iinc 6 1, 3) := by decide +kernel
theorem dX9_tellCosts_91 : decode cX9_tellCosts 91 = .ok (.goto (-85), 3) := by decide +kernel
theorem dX9_tellCosts_94 : decode cX9_tellCosts 94 = .ok (.iload 5, 2) := by decide +kernel
theorem dX9_tellCosts_96 : decode cX9_tellCosts 96 = .ok (.ireturn, 1) := by decide +kernel
theorem dX10_init_0 : decode cX10_init 0 = .ok (.aload_n 0, 1) := by decide +kernel
theorem dX10_init_1 : decode cX10_init 1 = .ok (.invokespecial 3, 3) := by decide +kernel
theorem dX10_init_4 : decode cX10_init 4 = .ok (.aload_n 0, 1) := by decide +kernel
theorem dX10_init_5 : decode cX10_init 5 = .ok (.bipush 48, 2) := by decide +kernel
theorem dX10_init_7 : decode cX10_init 7 = .ok (.newarray .int, 2) := by decide +kernel
theorem dX10_init_9 : decode cX10_init 9 = .ok (.putfield 9, 3) := by decide +kernel
theorem dX10_init_12 : decode cX10_init 12 = .ok (.aload_n 0, 1) := by decide +kernel
theorem dX10_init_13 : decode cX10_init 13 = .ok (.bipush 48, 2) := by decide +kernel
theorem dX10_init_15 : decode cX10_init 15 = .ok (.newarray .int, 2) := by decide +kernel
theorem dX10_init_17 : decode cX10_init 17 = .ok (.putfield 15, 3) := by decide +kernel
theorem dX10_init_20 : decode cX10_init 20 = .ok (.aload_n 0, 1) := by decide +kernel
theorem dX10_init_21 : decode cX10_init 21 = .ok (.aload_n 1, 1) := by decide +kernel
theorem dX10_init_22 : decode cX10_init 22 = .ok (.putfield 18, 3) := by decide +kernel
theorem dX10_init_25 : decode cX10_init 25 = .ok (.return_, 1) := by decide +kernel
theorem dX10_leastCost_0 : decode cX10_leastCost 0 = .ok (.iconst 0, 1) := by decide +kernel
theorem dX10_leastCost_1 : decode cX10_leastCost 1 = .ok (.istore 5, 2) := by decide +kernel
theorem dX10_leastCost_3 : decode cX10_leastCost 3 = .ok (.iload 5, 2) := by decide +kernel
theorem dX10_leastCost_5 : decode cX10_leastCost 5 = .ok (.bipush 48, 2) := by decide +kernel
theorem dX10_leastCost_7 : decode cX10_leastCost 7 = .ok (.if_icmp .ge 25, 3) := by decide +kernel
theorem dX10_leastCost_10 : decode cX10_leastCost 10 = .ok (.aload_n 0, 1) := by decide +kernel
theorem dX10_leastCost_11 : decode cX10_leastCost 11 = .ok (.getfield 9, 3) := by decide +kernel
theorem dX10_leastCost_14 : decode cX10_leastCost 14 = .ok (.iload 5, 2) := by decide +kernel
theorem dX10_leastCost_16 : decode cX10_leastCost 16 = .ok (.aload_n 0, 1) := by decide +kernel
theorem dX10_leastCost_17 : decode cX10_leastCost 17 = .ok (.iload 5, 2) := by decide +kernel
theorem dX10_leastCost_19 : decode cX10_leastCost 19 = .ok (.iload_n 3, 1) := by decide +kernel
theorem dX10_leastCost_20 : decode cX10_leastCost 20 = .ok (.iload 4, 2) := by decide +kernel
theorem dX10_leastCost_22 : decode cX10_leastCost 22 = .ok (.invokevirtual 22, 3) := by decide +kernel
theorem dX10_leastCost_25 : decode cX10_leastCost 25 = .ok (.iastore, 1) := by decide +kernel
theorem dX10_leastCost_26 : decode cX10_leastCost 26 = .ok (.iinc 5 1, 3) := by decide +kernel
theorem dX10_leastCost_29 : decode cX10_leastCost 29 = .ok (.goto (-26), 3) := by decide +kernel
theorem dX10_leastCost_32 : decode cX10_leastCost 32 = .ok (.aload_n 0, 1) := by decide +kernel
theorem dX10_leastCost_33 : decode cX10_leastCost 33 = .ok (.iload_n 2, 1) := by decide +kernel
theorem dX10_leastCost_34 : decode cX10_leastCost 34 = .ok (.invokevirtual 26, 3) := by decide +kernel
theorem dX10_leastCost_37 : decode cX10_leastCost 37 = .ok (.aload_n 0, 1) := by decide +kernel
theorem dX10_leastCost_38 : decode cX10_leastCost 38 = .ok (.getfield 15, 3) := by decide +kernel
theorem dX10_leastCost_41 : decode cX10_leastCost 41 = .ok (.iload_n 1, 1) := by decide +kernel
theorem dX10_leastCost_42 : decode cX10_leastCost 42 = .ok (.iaload, 1) := by decide +kernel
theorem dX10_leastCost_43 : decode cX10_leastCost 43 = .ok (.ldc 30, 2) := by decide +kernel
theorem dX10_leastCost_45 : decode cX10_leastCost 45 = .ok (.if_icmp .ne 7, 3) := by decide +kernel
theorem dX10_leastCost_48 : decode cX10_leastCost 48 = .ok (.iconst (-1), 1) := by decide +kernel
theorem dX10_leastCost_49 : decode cX10_leastCost 49 = .ok (.goto 12, 3) := by decide +kernel
theorem dX10_leastCost_52 : decode cX10_leastCost 52 = .ok (.aload_n 0, 1) := by decide +kernel
theorem dX10_leastCost_53 : decode cX10_leastCost 53 = .ok (.getfield 15, 3) := by decide +kernel
theorem dX10_leastCost_56 : decode cX10_leastCost 56 = .ok (.iload_n 1, 1) := by decide +kernel
theorem dX10_leastCost_57 : decode cX10_leastCost 57 = .ok (.iaload, 1) := by decide +kernel
theorem dX10_leastCost_58 : decode cX10_leastCost 58 = .ok (.bipush 64, 2) := by decide +kernel
theorem dX10_leastCost_60 : decode cX10_leastCost 60 = .ok (.idiv, 1) := by decide +kernel
theorem dX10_leastCost_61 : decode cX10_leastCost 61 = .ok (.ireturn, 1) := by decide +kernel
theorem dX10_weightOf_0 : decode cX10_weightOf 0 = .ok (.aload_n 0, 1) := by decide +kernel
theorem dX10_weightOf_1 : decode cX10_weightOf 1 = .ok (.getfield 18, 3) := by decide +kernel
theorem dX10_weightOf_4 : decode cX10_weightOf 4 = .ok (.iload_n 1, 1) := by decide +kernel
theorem dX10_weightOf_5 : decode cX10_weightOf 5 = .ok (.aload_n 0, 1) := by decide +kernel
theorem dX10_weightOf_6 : decode cX10_weightOf 6 = .ok (.getfield 18, 3) := by decide +kernel
theorem dX10_weightOf_9 : decode cX10_weightOf 9 = .ok (.getfield 31, 3) := by decide +kernel
theorem dX10_weightOf_12 : decode cX10_weightOf 12 = .ok (.invokevirtual 37, 3) := by decide +kernel
theorem dX10_weightOf_15 : decode cX10_weightOf 15 = .ok (.istore 4, 2) := by decide +kernel
theorem dX10_weightOf_17 : decode cX10_weightOf 17 = .ok (.aload_n 0, 1) := by decide +kernel
theorem dX10_weightOf_18 : decode cX10_weightOf 18 = .ok (.getfield 18, 3) := by decide +kernel
theorem dX10_weightOf_21 : decode cX10_weightOf 21 = .ok (.getfield 41, 3) := by decide +kernel
theorem dX10_weightOf_24 : decode cX10_weightOf 24 = .ok (.iconst 3, 1) := by decide +kernel
theorem dX10_weightOf_25 : decode cX10_weightOf 25 = .ok (.aaload, 1) := by decide +kernel
theorem dX10_weightOf_26 : decode cX10_weightOf 26 = .ok (.iload_n 1, 1) := by decide +kernel
theorem dX10_weightOf_27 : decode cX10_weightOf 27 = .ok (.iaload, 1) := by decide +kernel
theorem dX10_weightOf_28 : decode cX10_weightOf 28 = .ok (.iconst 1, 1) := by decide +kernel
theorem dX10_weightOf_29 : decode cX10_weightOf 29 = .ok (.if_icmp .eq 9, 3) := by decide +kernel
theorem dX10_weightOf_32 : decode cX10_weightOf 32 = .ok (.iload 4, 2) := by decide +kernel
theorem dX10_weightOf_34 : decode cX10_weightOf 34 = .ok (.iload_n 3, 1) := by decide +kernel
theorem dX10_weightOf_35 : decode cX10_weightOf 35 = .ok (.if_icmp .ne 5, 3) := by decide +kernel
theorem dX10_weightOf_38 : decode cX10_weightOf 38 = .ok (.iconst (-1), 1) := by decide +kernel
theorem dX10_weightOf_39 : decode cX10_weightOf 39 = .ok (.ireturn, 1) := by decide +kernel
theorem dX10_weightOf_40 : decode cX10_weightOf 40 = .ok (.iload 4, 2) := by decide +kernel
theorem dX10_weightOf_42 : decode cX10_weightOf 42 = .ok (.iload_n 2, 1) := by decide +kernel
theorem dX10_weightOf_43 : decode cX10_weightOf 43 = .ok (.if_icmp .ne 7, 3) := by decide +kernel
theorem dX10_weightOf_46 : decode cX10_weightOf 46 = .ok (.iconst 0, 1) := by decide +kernel
theorem dX10_weightOf_47 : decode cX10_weightOf 47 = .ok (.goto 13, 3) := by decide +kernel
theorem dX10_weightOf_50 : decode cX10_weightOf 50 = .ok (.aload_n 0, 1) := by decide +kernel
theorem dX10_weightOf_51 : decode cX10_weightOf 51 = .ok (.getfield 18, 3) := by decide +kernel
theorem dX10_weightOf_54 : decode cX10_weightOf 54 = .ok (.getfield 45, 3) := by decide +kernel
theorem dX10_weightOf_57 : decode cX10_weightOf 57 = .ok (.iload 4, 2) := by decide +kernel
theorem dX10_weightOf_59 : decode cX10_weightOf 59 = .ok (.iaload, 1) := by decide +kernel
theorem dX10_weightOf_60 : decode cX10_weightOf 60 = .ok (.istore 5, 2) := by decide +kernel
theorem dX10_weightOf_62 : decode cX10_weightOf 62 = .ok (.aload_n 0, 1) := by decide +kernel
theorem dX10_weightOf_63 : decode cX10_weightOf 63 = .ok (.getfield 18, 3) := by decide +kernel
theorem dX10_weightOf_66 : decode cX10_weightOf 66 = .ok (.getfield 41, 3) := by decide +kernel
theorem dX10_weightOf_69 : decode cX10_weightOf 69 = .ok (.iconst 2, 1) := by decide +kernel
theorem dX10_weightOf_70 : decode cX10_weightOf 70 = .ok (.aaload, 1) := by decide +kernel
theorem dX10_weightOf_71 : decode cX10_weightOf 71 = .ok (.iload_n 1, 1) := by decide +kernel
theorem dX10_weightOf_72 : decode cX10_weightOf 72 = .ok (.iaload, 1) := by decide +kernel
theorem dX10_weightOf_73 : decode cX10_weightOf 73 = .ok (.iload 5, 2) := by decide +kernel
theorem dX10_weightOf_75 : decode cX10_weightOf 75 = .ok (.iadd, 1) := by decide +kernel
theorem dX10_weightOf_76 : decode cX10_weightOf 76 = .ok (.bipush 64, 2) := by decide +kernel
theorem dX10_weightOf_78 : decode cX10_weightOf 78 = .ok (.imul, 1) := by decide +kernel
theorem dX10_weightOf_79 : decode cX10_weightOf 79 = .ok (.iconst 1, 1) := by decide +kernel
theorem dX10_weightOf_80 : decode cX10_weightOf 80 = .ok (.iadd, 1) := by decide +kernel
theorem dX10_weightOf_81 : decode cX10_weightOf 81 = .ok (.ireturn, 1) := by decide +kernel
theorem dX10_spreadFrom_0 : decode cX10_spreadFrom 0 = .ok (.aload_n 0, 1) := by decide +kernel
theorem dX10_spreadFrom_1 : decode cX10_spreadFrom 1 = .ok (.getfield 15, 3) := by decide +kernel
theorem dX10_spreadFrom_4 : decode cX10_spreadFrom 4 = .ok (.ldc 30, 2) := by decide +kernel
theorem dX10_spreadFrom_6 : decode cX10_spreadFrom 6 = .ok (.invokestatic 48, 3) := by decide +kernel
theorem dX10_spreadFrom_9 : decode cX10_spreadFrom 9 = .ok (.aload_n 0, 1) := by decide +kernel
theorem dX10_spreadFrom_10 : decode cX10_spreadFrom 10 = .ok (.getfield 9, 3) := by decide +kernel
theorem dX10_spreadFrom_13 : decode cX10_spreadFrom 13 = .ok (.iload_n 1, 1) := by decide +kernel
theorem dX10_spreadFrom_14 : decode cX10_spreadFrom 14 = .ok (.iaload, 1) := by decide +kernel
theorem dX10_spreadFrom_15 : decode cX10_spreadFrom 15 = .ok (.iconst (-1), 1) := by decide +kernel
theorem dX10_spreadFrom_16 : decode cX10_spreadFrom 16 = .ok (.if_icmp .ne 4, 3) := by decide +kernel
theorem dX10_spreadFrom_19 : decode cX10_spreadFrom 19 = .ok (.return_, 1) := by decide +kernel
theorem dX10_spreadFrom_20 : decode cX10_spreadFrom 20 = .ok (.aload_n 0, 1) := by decide +kernel
theorem dX10_spreadFrom_21 : decode cX10_spreadFrom 21 = .ok (.getfield 15, 3) := by decide +kernel
theorem dX10_spreadFrom_24 : decode cX10_spreadFrom 24 = .ok (.iload_n 1, 1) := by decide +kernel
theorem dX10_spreadFrom_25 : decode cX10_spreadFrom 25 = .ok (.aload_n 0, 1) := by decide +kernel
theorem dX10_spreadFrom_26 : decode cX10_spreadFrom 26 = .ok (.getfield 9, 3) := by decide +kernel
theorem dX10_spreadFrom_29 : decode cX10_spreadFrom 29 = .ok (.iload_n 1, 1) := by decide +kernel
theorem dX10_spreadFrom_30 : decode cX10_spreadFrom 30 = .ok (.iaload, 1) := by decide +kernel
theorem dX10_spreadFrom_31 : decode cX10_spreadFrom 31 = .ok (.iastore, 1) := by decide +kernel
theorem dX10_spreadFrom_32 : decode cX10_spreadFrom 32 = .ok (.iconst 1, 1) := by decide +kernel
theorem dX10_spreadFrom_33 : decode cX10_spreadFrom 33 = .ok (.istore_n 2, 1) := by decide +kernel
theorem dX10_spreadFrom_34 : decode cX10_spreadFrom 34 = .ok (.iconst 0, 1) := by decide +kernel
theorem dX10_spreadFrom_35 : decode cX10_spreadFrom 35 = .ok (.istore_n 3, 1) := by decide +kernel
theorem dX10_spreadFrom_36 : decode cX10_spreadFrom 36 = .ok (.iload_n 3, 1) := by decide +kernel
theorem dX10_spreadFrom_37 : decode cX10_spreadFrom 37 = .ok (.bipush 48, 2) := by decide +kernel
theorem dX10_spreadFrom_39 : decode cX10_spreadFrom 39 = .ok (.if_icmp .ge 56, 3) := by decide +kernel
theorem dX10_spreadFrom_42 : decode cX10_spreadFrom 42 = .ok (.iload_n 2, 1) := by decide +kernel
theorem dX10_spreadFrom_43 : decode cX10_spreadFrom 43 = .ok (.ifCond .eq 52, 3) := by decide +kernel
theorem dX10_spreadFrom_46 : decode cX10_spreadFrom 46 = .ok (.iconst 0, 1) := by decide +kernel
theorem dX10_spreadFrom_47 : decode cX10_spreadFrom 47 = .ok (.istore_n 2, 1) := by decide +kernel
theorem dX10_spreadFrom_48 : decode cX10_spreadFrom 48 = .ok (.iconst 0, 1) := by decide +kernel
theorem dX10_spreadFrom_49 : decode cX10_spreadFrom 49 = .ok (.istore 4, 2) := by decide +kernel
theorem dX10_spreadFrom_51 : decode cX10_spreadFrom 51 = .ok (.iload 4, 2) := by decide +kernel
theorem dX10_spreadFrom_53 : decode cX10_spreadFrom 53 = .ok (.bipush 48, 2) := by decide +kernel
theorem dX10_spreadFrom_55 : decode cX10_spreadFrom 55 = .ok (.if_icmp .ge 34, 3) := by decide +kernel
theorem dX10_spreadFrom_58 : decode cX10_spreadFrom 58 = .ok (.aload_n 0, 1) := by decide +kernel
theorem dX10_spreadFrom_59 : decode cX10_spreadFrom 59 = .ok (.iload_n 3, 1) := by decide +kernel
theorem dX10_spreadFrom_60 : decode cX10_spreadFrom 60 = .ok (.iconst 2, 1) := by decide +kernel
theorem dX10_spreadFrom_61 : decode cX10_spreadFrom 61 = .ok (.irem, 1) := by decide +kernel
theorem dX10_spreadFrom_62 : decode cX10_spreadFrom 62 = .ok (.ifCond .ne 8, 3) := by decide +kernel
theorem dX10_spreadFrom_65 : decode cX10_spreadFrom 65 = .ok (.iload 4, 2) := by decide +kernel
theorem dX10_spreadFrom_67 : decode cX10_spreadFrom 67 = .ok (.goto 8, 3) := by decide +kernel
theorem dX10_spreadFrom_70 : decode cX10_spreadFrom 70 = .ok (.bipush 47, 2) := by decide +kernel
theorem dX10_spreadFrom_72 : decode cX10_spreadFrom 72 = .ok (.iload 4, 2) := by decide +kernel
theorem dX10_spreadFrom_74 : decode cX10_spreadFrom 74 = .ok (.isub, 1) := by decide +kernel
theorem dX10_spreadFrom_75 : decode cX10_spreadFrom 75 = .ok (.invokevirtual 54, 3) := by decide +kernel
theorem dX10_spreadFrom_78 : decode cX10_spreadFrom 78 = .ok (.ifCond .eq 5, 3) := by decide +kernel
theorem dX10_spreadFrom_81 : decode cX10_spreadFrom 81 = .ok (.iconst 1, 1) := by decide +kernel
theorem dX10_spreadFrom_82 : decode cX10_spreadFrom 82 = .ok (.istore_n 2, 1) := by decide +kernel
theorem dX10_spreadFrom_83 : decode cX10_spreadFrom 83 = .ok (.iinc 4 1, 3) := by decide +kernel
theorem dX10_spreadFrom_86 : decode cX10_spreadFrom 86 = .ok (.goto (-35), 3) := by decide +kernel
theorem dX10_spreadFrom_89 : decode cX10_spreadFrom 89 = .ok (.iinc 3 1, 3) := by decide +kernel
theorem dX10_spreadFrom_92 : decode cX10_spreadFrom 92 = .ok (.goto (-56), 3) := by decide +kernel
theorem dX10_spreadFrom_95 : decode cX10_spreadFrom 95 = .ok (.return_, 1) := by decide +kernel
theorem dX10_lessen_0 : decode cX10_lessen 0 = .ok (.aload_n 0, 1) := by decide +kernel
theorem dX10_lessen_1 : decode cX10_lessen 1 = .ok (.getfield 9, 3) := by decide +kernel
theorem dX10_lessen_4 : decode cX10_lessen 4 = .ok (.iload_n 1, 1) := by decide +kernel
theorem dX10_lessen_5 : decode cX10_lessen 5 = .ok (.iaload, 1) := by decide +kernel
theorem dX10_lessen_6 : decode cX10_lessen 6 = .ok (.iconst (-1), 1) := by decide +kernel
theorem dX10_lessen_7 : decode cX10_lessen 7 = .ok (.if_icmp .ne 5, 3) := by decide +kernel
theorem dX10_lessen_10 : decode cX10_lessen 10 = .ok (.iconst 0, 1) := by decide +kernel
theorem dX10_lessen_11 : decode cX10_lessen 11 = .ok (.ireturn, 1) := by decide +kernel
theorem dX10_lessen_12 : decode cX10_lessen 12 = .ok (.ldc 30, 2) := by decide +kernel
theorem dX10_lessen_14 : decode cX10_lessen 14 = .ok (.istore_n 2, 1) := by decide +kernel
theorem dX10_lessen_15 : decode cX10_lessen 15 = .ok (.iconst 0, 1) := by decide +kernel
theorem dX10_lessen_16 : decode cX10_lessen 16 = .ok (.istore_n 3, 1) := by decide +kernel
theorem dX10_lessen_17 : decode cX10_lessen 17 = .ok (.iload_n 3, 1) := by decide +kernel
theorem dX10_lessen_18 : decode cX10_lessen 18 = .ok (.iconst 4, 1) := by decide +kernel
theorem dX10_lessen_19 : decode cX10_lessen 19 = .ok (.if_icmp .ge 34, 3) := by decide +kernel
theorem dX10_lessen_22 : decode cX10_lessen 22 = .ok (.iload_n 1, 1) := by decide +kernel
theorem dX10_lessen_23 : decode cX10_lessen 23 = .ok (.iload_n 3, 1) := by decide +kernel
theorem dX10_lessen_24 : decode cX10_lessen 24 = .ok (.invokestatic 58, 3) := by decide +kernel
theorem dX10_lessen_27 : decode cX10_lessen 27 = .ok (.istore 4, 2) := by decide +kernel
theorem dX10_lessen_29 : decode cX10_lessen 29 = .ok (.iload 4, 2) := by decide +kernel
theorem dX10_lessen_31 : decode cX10_lessen 31 = .ok (.iconst (-1), 1) := by decide +kernel
theorem dX10_lessen_32 : decode cX10_lessen 32 = .ok (.if_icmp .eq 15, 3) := by decide +kernel
theorem dX10_lessen_35 : decode cX10_lessen 35 = .ok (.iload_n 2, 1) := by decide +kernel
theorem dX10_lessen_36 : decode cX10_lessen 36 = .ok (.aload_n 0, 1) := by decide +kernel
theorem dX10_lessen_37 : decode cX10_lessen 37 = .ok (.getfield 15, 3) := by decide +kernel
theorem dX10_lessen_40 : decode cX10_lessen 40 = .ok (.iload 4, 2) := by decide +kernel
theorem dX10_lessen_42 : decode cX10_lessen 42 = .ok (.iaload, 1) := by decide +kernel
theorem dX10_lessen_43 : decode cX10_lessen 43 = .ok (.invokestatic 61, 3) := by decide +kernel
theorem dX10_lessen_46 : decode cX10_lessen 46 = .ok (.istore_n 2, 1) := by decide +kernel
theorem dX10_lessen_47 : decode cX10_lessen 47 = .ok (.iinc 3 1, 3) := by decide +kernel
theorem dX10_lessen_50 : decode cX10_lessen 50 = .ok (.goto (-33), 3) := by decide +kernel
theorem dX10_lessen_53 : decode cX10_lessen 53 = .ok (.iload_n 2, 1) := by decide +kernel
theorem dX10_lessen_54 : decode cX10_lessen 54 = .ok (.ldc 30, 2) := by decide +kernel
theorem dX10_lessen_56 : decode cX10_lessen 56 = .ok (.if_icmp .eq 20, 3) := by decide +kernel
theorem dX10_lessen_59 : decode cX10_lessen 59 = .ok (.iload_n 2, 1) := by decide +kernel
theorem dX10_lessen_60 : decode cX10_lessen 60 = .ok (.aload_n 0, 1) := by decide +kernel
theorem dX10_lessen_61 : decode cX10_lessen 61 = .ok (.getfield 9, 3) := by decide +kernel
theorem dX10_lessen_64 : decode cX10_lessen 64 = .ok (.iload_n 1, 1) := by decide +kernel
theorem dX10_lessen_65 : decode cX10_lessen 65 = .ok (.iaload, 1) := by decide +kernel
theorem dX10_lessen_66 : decode cX10_lessen 66 = .ok (.iadd, 1) := by decide +kernel
theorem dX10_lessen_67 : decode cX10_lessen 67 = .ok (.aload_n 0, 1) := by decide +kernel
theorem dX10_lessen_68 : decode cX10_lessen 68 = .ok (.getfield 15, 3) := by decide +kernel
theorem dX10_lessen_71 : decode cX10_lessen 71 = .ok (.iload_n 1, 1) := by decide +kernel
theorem dX10_lessen_72 : decode cX10_lessen 72 = .ok (.iaload, 1) := by decide +kernel
theorem dX10_lessen_73 : decode cX10_lessen 73 = .ok (.if_icmp .lt 5, 3) := by decide +kernel
theorem dX10_lessen_76 : decode cX10_lessen 76 = .ok (.iconst 0, 1) := by decide +kernel
theorem dX10_lessen_77 : decode cX10_lessen 77 = .ok (.ireturn, 1) := by decide +kernel
theorem dX10_lessen_78 : decode cX10_lessen 78 = .ok (.aload_n 0, 1) := by decide +kernel
theorem dX10_lessen_79 : decode cX10_lessen 79 = .ok (.getfield 15, 3) := by decide +kernel
theorem dX10_lessen_82 : decode cX10_lessen 82 = .ok (.iload_n 1, 1) := by decide +kernel
theorem dX10_lessen_83 : decode cX10_lessen 83 = .ok (.iload_n 2, 1) := by decide +kernel
theorem dX10_lessen_84 : decode cX10_lessen 84 = .ok (.aload_n 0, 1) := by decide +kernel
theorem dX10_lessen_85 : decode cX10_lessen 85 = .ok (.getfield 9, 3) := by decide +kernel
theorem dX10_lessen_88 : decode cX10_lessen 88 = .ok (.iload_n 1, 1) := by decide +kernel
theorem dX10_lessen_89 : decode cX10_lessen 89 = .ok (.iaload, 1) := by decide +kernel
theorem dX10_lessen_90 : decode cX10_lessen 90 = .ok (.iadd, 1) := by decide +kernel
theorem dX10_lessen_91 : decode cX10_lessen 91 = .ok (.iastore, 1) := by decide +kernel
theorem dX10_lessen_92 : decode cX10_lessen 92 = .ok (.iconst 1, 1) := by decide +kernel
theorem dX10_lessen_93 : decode cX10_lessen 93 = .ok (.ireturn, 1) := by decide +kernel
theorem dX10_beside_0 : decode cX10_beside 0 = .ok (.iload_n 0, 1) := by decide +kernel
theorem dX10_beside_1 : decode cX10_beside 1 = .ok (.bipush 8, 2) := by decide +kernel
theorem dX10_beside_3 : decode cX10_beside 3 = .ok (.irem, 1) := by decide +kernel
theorem dX10_beside_4 : decode cX10_beside 4 = .ok (.istore_n 2, 1) := by decide +kernel
theorem dX10_beside_5 : decode cX10_beside 5 = .ok (.iload_n 1, 1) := by decide +kernel
theorem dX10_beside_6 : decode cX10_beside 6 = .ok (.tableswitch 67 0 2 #[26, 41, 53], 26) := by decide +kernel
theorem dX10_beside_32 : decode cX10_beside 32 = .ok (.iload_n 0, 1) := by decide +kernel
theorem dX10_beside_33 : decode cX10_beside 33 = .ok (.bipush 8, 2) := by decide +kernel
theorem dX10_beside_35 : decode cX10_beside 35 = .ok (.if_icmp .lt 10, 3) := by decide +kernel
theorem dX10_beside_38 : decode cX10_beside 38 = .ok (.iload_n 0, 1) := by decide +kernel
theorem dX10_beside_39 : decode cX10_beside 39 = .ok (.bipush 8, 2) := by decide +kernel
theorem dX10_beside_41 : decode cX10_beside 41 = .ok (.isub, 1) := by decide +kernel
theorem dX10_beside_42 : decode cX10_beside 42 = .ok (.goto 4, 3) := by decide +kernel
theorem dX10_beside_45 : decode cX10_beside 45 = .ok (.iconst (-1), 1) := by decide +kernel
theorem dX10_beside_46 : decode cX10_beside 46 = .ok (.ireturn, 1) := by decide +kernel
theorem dX10_beside_47 : decode cX10_beside 47 = .ok (.iload_n 2, 1) := by decide +kernel
theorem dX10_beside_48 : decode cX10_beside 48 = .ok (.ifCond .le 9, 3) := by decide +kernel
theorem dX10_beside_51 : decode cX10_beside 51 = .ok (.iload_n 0, 1) := by decide +kernel
theorem dX10_beside_52 : decode cX10_beside 52 = .ok (.iconst 1, 1) := by decide +kernel
theorem dX10_beside_53 : decode cX10_beside 53 = .ok (.isub, 1) := by decide +kernel
theorem dX10_beside_54 : decode cX10_beside 54 = .ok (.goto 4, 3) := by decide +kernel
theorem dX10_beside_57 : decode cX10_beside 57 = .ok (.iconst (-1), 1) := by decide +kernel
theorem dX10_beside_58 : decode cX10_beside 58 = .ok (.ireturn, 1) := by decide +kernel
theorem dX10_beside_59 : decode cX10_beside 59 = .ok (.iload_n 2, 1) := by decide +kernel
theorem dX10_beside_60 : decode cX10_beside 60 = .ok (.bipush 7, 2) := by decide +kernel
theorem dX10_beside_62 : decode cX10_beside 62 = .ok (.if_icmp .ge 9, 3) := by decide +kernel
theorem dX10_beside_65 : decode cX10_beside 65 = .ok (.iload_n 0, 1) := by decide +kernel
theorem dX10_beside_66 : decode cX10_beside 66 = .ok (.iconst 1, 1) := by decide +kernel
theorem dX10_beside_67 : decode cX10_beside 67 = .ok (.iadd, 1) := by decide +kernel
theorem dX10_beside_68 : decode cX10_beside 68 = .ok (.goto 4, 3) := by decide +kernel
theorem dX10_beside_71 : decode cX10_beside 71 = .ok (.iconst (-1), 1) := by decide +kernel
theorem dX10_beside_72 : decode cX10_beside 72 = .ok (.ireturn, 1) := by decide +kernel
theorem dX10_beside_73 : decode cX10_beside 73 = .ok (.iload_n 0, 1) := by decide +kernel
theorem dX10_beside_74 : decode cX10_beside 74 = .ok (.bipush 40, 2) := by decide +kernel
theorem dX10_beside_76 : decode cX10_beside 76 = .ok (.if_icmp .ge 10, 3) := by decide +kernel
theorem dX10_beside_79 : decode cX10_beside 79 = .ok (.iload_n 0, 1) := by decide +kernel
theorem dX10_beside_80 : decode cX10_beside 80 = .ok (.bipush 8, 2) := by decide +kernel
theorem dX10_beside_82 : decode cX10_beside 82 = .ok (.iadd, 1) := by decide +kernel
theorem dX10_beside_83 : decode cX10_beside 83 = .ok (.goto 4, 3) := by decide +kernel
theorem dX10_beside_86 : decode cX10_beside 86 = .ok (.iconst (-1), 1) := by decide +kernel
theorem dX10_beside_87 : decode cX10_beside 87 = .ok (.ireturn, 1) := by decide +kernel
theorem dX10_plotAt_0 : decode cX10_plotAt 0 = .ok (.iload_n 2, 1) := by decide +kernel
theorem dX10_plotAt_1 : decode cX10_plotAt 1 = .ok (.iconst 0, 1) := by decide +kernel
theorem dX10_plotAt_2 : decode cX10_plotAt 2 = .ok (.aload_n 0, 1) := by decide +kernel
theorem dX10_plotAt_3 : decode cX10_plotAt 3 = .ok (.getfield 15, 3) := by decide +kernel
theorem dX10_plotAt_6 : decode cX10_plotAt 6 = .ok (.iload_n 1, 1) := by decide +kernel
theorem dX10_plotAt_7 : decode cX10_plotAt 7 = .ok (.iaload, 1) := by decide +kernel
theorem dX10_plotAt_8 : decode cX10_plotAt 8 = .ok (.bipush 64, 2) := by decide +kernel
theorem dX10_plotAt_10 : decode cX10_plotAt 10 = .ok (.irem, 1) := by decide +kernel
theorem dX10_plotAt_11 : decode cX10_plotAt 11 = .ok (.iconst 1, 1) := by decide +kernel
theorem dX10_plotAt_12 : decode cX10_plotAt 12 = .ok (.isub, 1) := by decide +kernel
theorem dX10_plotAt_13 : decode cX10_plotAt 13 = .ok (.invokestatic 66, 3) := by decide +kernel
theorem dX10_plotAt_16 : decode cX10_plotAt 16 = .ok (.ifCond .ne 5, 3) := by decide +kernel
theorem dX10_plotAt_19 : decode cX10_plotAt 19 = .ok (.iconst (-1), 1) := by decide +kernel
theorem dX10_plotAt_20 : decode cX10_plotAt 20 = .ok (.ireturn, 1) := by decide +kernel
theorem dX10_plotAt_21 : decode cX10_plotAt 21 = .ok (.iload_n 1, 1) := by decide +kernel
theorem dX10_plotAt_22 : decode cX10_plotAt 22 = .ok (.istore_n 3, 1) := by decide +kernel
theorem dX10_plotAt_23 : decode cX10_plotAt 23 = .ok (.iconst 0, 1) := by decide +kernel
theorem dX10_plotAt_24 : decode cX10_plotAt 24 = .ok (.istore 4, 2) := by decide +kernel
theorem dX10_plotAt_26 : decode cX10_plotAt 26 = .ok (.iload 4, 2) := by decide +kernel
theorem dX10_plotAt_28 : decode cX10_plotAt 28 = .ok (.iload_n 2, 1) := by decide +kernel
theorem dX10_plotAt_29 : decode cX10_plotAt 29 = .ok (.if_icmp .ge 20, 3) := by decide +kernel
theorem dX10_plotAt_32 : decode cX10_plotAt 32 = .ok (.iload_n 3, 1) := by decide +kernel
theorem dX10_plotAt_33 : decode cX10_plotAt 33 = .ok (.iconst (-1), 1) := by decide +kernel
theorem dX10_plotAt_34 : decode cX10_plotAt 34 = .ok (.if_icmp .eq 15, 3) := by decide +kernel
theorem dX10_plotAt_37 : decode cX10_plotAt 37 = .ok (.aload_n 0, 1) := by decide +kernel
theorem dX10_plotAt_38 : decode cX10_plotAt 38 = .ok (.iload_n 3, 1) := by decide +kernel
theorem dX10_plotAt_39 : decode cX10_plotAt 39 = .ok (.invokevirtual 70, 3) := by decide +kernel
theorem dX10_plotAt_42 : decode cX10_plotAt 42 = .ok (.istore_n 3, 1) := by decide +kernel
theorem dX10_plotAt_43 : decode cX10_plotAt 43 = .ok (.iinc 4 1, 3) := by decide +kernel
theorem dX10_plotAt_46 : decode cX10_plotAt 46 = .ok (.goto (-20), 3) := by decide +kernel
theorem dX10_plotAt_49 : decode cX10_plotAt 49 = .ok (.iload_n 3, 1) := by decide +kernel
theorem dX10_plotAt_50 : decode cX10_plotAt 50 = .ok (.ireturn, 1) := by decide +kernel
theorem dX10_nextOn_0 : decode cX10_nextOn 0 = .ok (.aload_n 0, 1) := by decide +kernel
theorem dX10_nextOn_1 : decode cX10_nextOn 1 = .ok (.getfield 15, 3) := by decide +kernel
theorem dX10_nextOn_4 : decode cX10_nextOn 4 = .ok (.iload_n 1, 1) := by decide +kernel
theorem dX10_nextOn_5 : decode cX10_nextOn 5 = .ok (.iaload, 1) := by decide +kernel
theorem dX10_nextOn_6 : decode cX10_nextOn 6 = .ok (.aload_n 0, 1) := by decide +kernel
theorem dX10_nextOn_7 : decode cX10_nextOn 7 = .ok (.getfield 9, 3) := by decide +kernel
theorem dX10_nextOn_10 : decode cX10_nextOn 10 = .ok (.iload_n 1, 1) := by decide +kernel
theorem dX10_nextOn_11 : decode cX10_nextOn 11 = .ok (.iaload, 1) := by decide +kernel
theorem dX10_nextOn_12 : decode cX10_nextOn 12 = .ok (.isub, 1) := by decide +kernel
theorem dX10_nextOn_13 : decode cX10_nextOn 13 = .ok (.istore_n 2, 1) := by decide +kernel
theorem dX10_nextOn_14 : decode cX10_nextOn 14 = .ok (.iconst 0, 1) := by decide +kernel
theorem dX10_nextOn_15 : decode cX10_nextOn 15 = .ok (.istore_n 3, 1) := by decide +kernel
theorem dX10_nextOn_16 : decode cX10_nextOn 16 = .ok (.iload_n 3, 1) := by decide +kernel
theorem dX10_nextOn_17 : decode cX10_nextOn 17 = .ok (.iconst 4, 1) := by decide +kernel
theorem dX10_nextOn_18 : decode cX10_nextOn 18 = .ok (.if_icmp .ge 36, 3) := by decide +kernel
theorem dX10_nextOn_21 : decode cX10_nextOn 21 = .ok (.iload_n 1, 1) := by decide +kernel
theorem dX10_nextOn_22 : decode cX10_nextOn 22 = .ok (.iload_n 3, 1) := by decide +kernel
theorem dX10_nextOn_23 : decode cX10_nextOn 23 = .ok (.invokestatic 58, 3) := by decide +kernel
theorem dX10_nextOn_26 : decode cX10_nextOn 26 = .ok (.istore 4, 2) := by decide +kernel
theorem dX10_nextOn_28 : decode cX10_nextOn 28 = .ok (.iload 4, 2) := by decide +kernel
theorem dX10_nextOn_30 : decode cX10_nextOn 30 = .ok (.iconst (-1), 1) := by decide +kernel
theorem dX10_nextOn_31 : decode cX10_nextOn 31 = .ok (.if_icmp .eq 17, 3) := by decide +kernel
theorem dX10_nextOn_34 : decode cX10_nextOn 34 = .ok (.aload_n 0, 1) := by decide +kernel
theorem dX10_nextOn_35 : decode cX10_nextOn 35 = .ok (.getfield 15, 3) := by decide +kernel
theorem dX10_nextOn_38 : decode cX10_nextOn 38 = .ok (.iload 4, 2) := by decide +kernel
theorem dX10_nextOn_40 : decode cX10_nextOn 40 = .ok (.iaload, 1) := by decide +kernel
theorem dX10_nextOn_41 : decode cX10_nextOn 41 = .ok (.iload_n 2, 1) := by decide +kernel
theorem dX10_nextOn_42 : decode cX10_nextOn 42 = .ok (.if_icmp .ne 6, 3) := by decide +kernel
theorem dX10_nextOn_45 : decode cX10_nextOn 45 = .ok (.iload 4, 2) := by decide +kernel
theorem dX10_nextOn_47 : decode cX10_nextOn 47 = .ok (.ireturn, 1) := by decide +kernel
theorem dX10_nextOn_48 : decode cX10_nextOn 48 = .ok (.iinc 3 1, 3) := by decide +kernel
theorem dX10_nextOn_51 : decode cX10_nextOn 51 = .ok (.goto (-35), 3) := by decide +kernel
theorem dX10_nextOn_54 : decode cX10_nextOn 54 = .ok (.iconst (-1), 1) := by decide +kernel
theorem dX10_nextOn_55 : decode cX10_nextOn 55 = .ok (.ireturn, 1) := by decide +kernel
theorem dX11_init_0 : decode cX11_init 0 = .ok (.aload_n 0, 1) := by decide +kernel
theorem dX11_init_1 : decode cX11_init 1 = .ok (.invokespecial 1, 3) := by decide +kernel
theorem dX11_init_4 : decode cX11_init 4 = .ok (.aload_n 0, 1) := by decide +kernel
theorem dX11_init_5 : decode cX11_init 5 = .ok (.new 7, 3) := by decide +kernel
theorem dX11_init_8 : decode cX11_init 8 = .ok (.dup, 1) := by decide +kernel
theorem dX11_init_9 : decode cX11_init 9 = .ok (.invokespecial 9, 3) := by decide +kernel
theorem dX11_init_12 : decode cX11_init 12 = .ok (.putfield 10, 3) := by decide +kernel
theorem dX11_init_15 : decode cX11_init 15 = .ok (.aload_n 0, 1) := by decide +kernel
theorem dX11_init_16 : decode cX11_init 16 = .ok (.new 16, 3) := by decide +kernel
theorem dX11_init_19 : decode cX11_init 19 = .ok (.dup, 1) := by decide +kernel
theorem dX11_init_20 : decode cX11_init 20 = .ok (.invokespecial 18, 3) := by decide +kernel
theorem dX11_init_23 : decode cX11_init 23 = .ok (.putfield 19, 3) := by decide +kernel
theorem dX11_init_26 : decode cX11_init 26 = .ok (.aload_n 0, 1) := by decide +kernel
theorem dX11_init_27 : decode cX11_init 27 = .ok (.new 23, 3) := by decide +kernel
theorem dX11_init_30 : decode cX11_init 30 = .ok (.dup, 1) := by decide +kernel
theorem dX11_init_31 : decode cX11_init 31 = .ok (.aload_n 0, 1) := by decide +kernel
theorem dX11_init_32 : decode cX11_init 32 = .ok (.getfield 10, 3) := by decide +kernel
theorem dX11_init_35 : decode cX11_init 35 = .ok (.invokespecial 25, 3) := by decide +kernel
theorem dX11_init_38 : decode cX11_init 38 = .ok (.putfield 28, 3) := by decide +kernel
theorem dX11_init_41 : decode cX11_init 41 = .ok (.aload_n 0, 1) := by decide +kernel
theorem dX11_init_42 : decode cX11_init 42 = .ok (.new 32, 3) := by decide +kernel
theorem dX11_init_45 : decode cX11_init 45 = .ok (.dup, 1) := by decide +kernel
theorem dX11_init_46 : decode cX11_init 46 = .ok (.aload_n 0, 1) := by decide +kernel
theorem dX11_init_47 : decode cX11_init 47 = .ok (.getfield 10, 3) := by decide +kernel
theorem dX11_init_50 : decode cX11_init 50 = .ok (.aload_n 0, 1) := by decide +kernel
theorem dX11_init_51 : decode cX11_init 51 = .ok (.getfield 28, 3) := by decide +kernel
theorem dX11_init_54 : decode cX11_init 54 = .ok (.aload_n 0, 1) := by decide +kernel
theorem dX11_init_55 : decode cX11_init 55 = .ok (.getfield 19, 3) := by decide +kernel
theorem dX11_init_58 : decode cX11_init 58 = .ok (.invokespecial 34, 3) := by decide +kernel
theorem dX11_init_61 : decode cX11_init 61 = .ok (.putfield 37, 3) := by decide +kernel
theorem dX11_init_64 : decode cX11_init 64 = .ok (.aload_n 0, 1) := by decide +kernel
theorem dX11_init_65 : decode cX11_init 65 = .ok (.new 41, 3) := by decide +kernel
theorem dX11_init_68 : decode cX11_init 68 = .ok (.dup, 1) := by decide +kernel
theorem dX11_init_69 : decode cX11_init 69 = .ok (.invokespecial 43, 3) := by decide +kernel
theorem dX11_init_72 : decode cX11_init 72 = .ok (.putfield 44, 3) := by decide +kernel
theorem dX11_init_75 : decode cX11_init 75 = .ok (.aload_n 0, 1) := by decide +kernel
theorem dX11_init_76 : decode cX11_init 76 = .ok (.new 48, 3) := by decide +kernel
theorem dX11_init_79 : decode cX11_init 79 = .ok (.dup, 1) := by decide +kernel
theorem dX11_init_80 : decode cX11_init 80 = .ok (.aload_n 0, 1) := by decide +kernel
theorem dX11_init_81 : decode cX11_init 81 = .ok (.getfield 10, 3) := by decide +kernel
theorem dX11_init_84 : decode cX11_init 84 = .ok (.aload_n 0, 1) := by decide +kernel
theorem dX11_init_85 : decode cX11_init 85 = .ok (.getfield 28, 3) := by decide +kernel
theorem dX11_init_88 : decode cX11_init 88 = .ok (.invokespecial 50, 3) := by decide +kernel
theorem dX11_init_91 : decode cX11_init 91 = .ok (.putfield 53, 3) := by decide +kernel
theorem dX11_init_94 : decode cX11_init 94 = .ok (.aload_n 0, 1) := by decide +kernel
theorem dX11_init_95 : decode cX11_init 95 = .ok (.new 57, 3) := by decide +kernel
theorem dX11_init_98 : decode cX11_init 98 = .ok (.dup, 1) := by decide +kernel
theorem dX11_init_99 : decode cX11_init 99 = .ok (.aload_n 0, 1) := by decide +kernel
theorem dX11_init_100 : decode cX11_init 100 = .ok (.getfield 10, 3) := by decide +kernel
theorem dX11_init_103 : decode cX11_init 103 = .ok (.aload_n 0, 1) := by decide +kernel
theorem dX11_init_104 : decode cX11_init 104 = .ok (.getfield 37, 3) := by decide +kernel
theorem dX11_init_107 : decode cX11_init 107 = .ok (.aload_n 0, 1) := by decide +kernel
theorem dX11_init_108 : decode cX11_init 108 = .ok (.getfield 53, 3) := by decide +kernel
theorem dX11_init_111 : decode cX11_init 111 = .ok (.aload_n 0, 1) := by decide +kernel
theorem dX11_init_112 : decode cX11_init 112 = .ok (.getfield 19, 3) := by decide +kernel
theorem dX11_init_115 : decode cX11_init 115 = .ok (.invokespecial 59, 3) := by decide +kernel
theorem dX11_init_118 : decode cX11_init 118 = .ok (.putfield 62, 3) := by decide +kernel
theorem dX11_init_121 : decode cX11_init 121 = .ok (.aload_n 0, 1) := by decide +kernel
theorem dX11_init_122 : decode cX11_init 122 = .ok (.new 66, 3) := by decide +kernel
theorem dX11_init_125 : decode cX11_init 125 = .ok (.dup, 1) := by decide +kernel
theorem dX11_init_126 : decode cX11_init 126 = .ok (.invokespecial 68, 3) := by decide +kernel
theorem dX11_init_129 : decode cX11_init 129 = .ok (.putfield 69, 3) := by decide +kernel
theorem dX11_init_132 : decode cX11_init 132 = .ok (.aload_n 0, 1) := by decide +kernel
theorem dX11_init_133 : decode cX11_init 133 = .ok (.new 73, 3) := by decide +kernel
theorem dX11_init_136 : decode cX11_init 136 = .ok (.dup, 1) := by decide +kernel
theorem dX11_init_137 : decode cX11_init 137 = .ok (.aload_n 0, 1) := by decide +kernel
theorem dX11_init_138 : decode cX11_init 138 = .ok (.getfield 10, 3) := by decide +kernel
theorem dX11_init_141 : decode cX11_init 141 = .ok (.invokespecial 75, 3) := by decide +kernel
theorem dX11_init_144 : decode cX11_init 144 = .ok (.putfield 76, 3) := by decide +kernel
theorem dX11_init_147 : decode cX11_init 147 = .ok (.aload_n 0, 1) := by decide +kernel
theorem dX11_init_148 : decode cX11_init 148 = .ok (.new 80, 3) := by decide +kernel
theorem dX11_init_151 : decode cX11_init 151 = .ok (.dup, 1) := by decide +kernel
theorem dX11_init_152 : decode cX11_init 152 = .ok (.aload_n 0, 1) := by decide +kernel
theorem dX11_init_153 : decode cX11_init 153 = .ok (.getfield 10, 3) := by decide +kernel
theorem dX11_init_156 : decode cX11_init 156 = .ok (.aload_n 0, 1) := by decide +kernel
theorem dX11_init_157 : decode cX11_init 157 = .ok (.getfield 28, 3) := by decide +kernel
theorem dX11_init_160 : decode cX11_init 160 = .ok (.aload_n 0, 1) := by decide +kernel
theorem dX11_init_161 : decode cX11_init 161 = .ok (.getfield 37, 3) := by decide +kernel
theorem dX11_init_164 : decode cX11_init 164 = .ok (.invokespecial 82, 3) := by decide +kernel
theorem dX11_init_167 : decode cX11_init 167 = .ok (.putfield 85, 3) := by decide +kernel
theorem dX11_init_170 : decode cX11_init 170 = .ok (.aload_n 0, 1) := by decide +kernel
theorem dX11_init_171 : decode cX11_init 171 = .ok (.new 89, 3) := by decide +kernel
theorem dX11_init_174 : decode cX11_init 174 = .ok (.dup, 1) := by decide +kernel
theorem dX11_init_175 : decode cX11_init 175 = .ok (.aload_n 0, 1) := by decide +kernel
theorem dX11_init_176 : decode cX11_init 176 = .ok (.getfield 10, 3) := by decide +kernel
theorem dX11_init_179 : decode cX11_init 179 = .ok (.invokespecial 91, 3) := by decide +kernel
theorem dX11_init_182 : decode cX11_init 182 = .ok (.putfield 92, 3) := by decide +kernel
theorem dX11_init_185 : decode cX11_init 185 = .ok (.aload_n 0, 1) := by decide +kernel
theorem dX11_init_186 : decode cX11_init 186 = .ok (.getfield 44, 3) := by decide +kernel
theorem dX11_init_189 : decode cX11_init 189 = .ok (.invokevirtual 96, 3) := by decide +kernel
theorem dX11_init_192 : decode cX11_init 192 = .ok (.aload_n 0, 1) := by decide +kernel
theorem dX11_init_193 : decode cX11_init 193 = .ok (.getfield 44, 3) := by decide +kernel
theorem dX11_init_196 : decode cX11_init 196 = .ok (.invokevirtual 99, 3) := by decide +kernel
theorem dX11_init_199 : decode cX11_init 199 = .ok (.pop, 1) := by decide +kernel
theorem dX11_init_200 : decode cX11_init 200 = .ok (.aload_n 0, 1) := by decide +kernel
theorem dX11_init_201 : decode cX11_init 201 = .ok (.getfield 53, 3) := by decide +kernel
theorem dX11_init_204 : decode cX11_init 204 = .ok (.aload_n 0, 1) := by decide +kernel
theorem dX11_init_205 : decode cX11_init 205 = .ok (.getfield 44, 3) := by decide +kernel
theorem dX11_init_208 : decode cX11_init 208 = .ok (.invokevirtual 103, 3) := by decide +kernel
theorem dX11_init_211 : decode cX11_init 211 = .ok (.pop, 1) := by decide +kernel
theorem dX11_init_212 : decode cX11_init 212 = .ok (.return_, 1) := by decide +kernel
theorem dX11_within_0 : decode cX11_within 0 = .ok (.iload_n 0, 1) := by decide +kernel
theorem dX11_within_1 : decode cX11_within 1 = .ok (.iload_n 1, 1) := by decide +kernel
theorem dX11_within_2 : decode cX11_within 2 = .ok (.if_icmp .lt 12, 3) := by decide +kernel
theorem dX11_within_5 : decode cX11_within 5 = .ok (.iload_n 0, 1) := by decide +kernel
theorem dX11_within_6 : decode cX11_within 6 = .ok (.iload_n 2, 1) := by decide +kernel
theorem dX11_within_7 : decode cX11_within 7 = .ok (.if_icmp .gt 7, 3) := by decide +kernel
theorem dX11_within_10 : decode cX11_within 10 = .ok (.iconst 1, 1) := by decide +kernel
theorem dX11_within_11 : decode cX11_within 11 = .ok (.goto 4, 3) := by decide +kernel
theorem dX11_within_14 : decode cX11_within 14 = .ok (.iconst 0, 1) := by decide +kernel
theorem dX11_within_15 : decode cX11_within 15 = .ok (.ireturn, 1) := by decide +kernel
theorem dX11_isDay_0 : decode cX11_isDay 0 = .ok (.iload_n 0, 1) := by decide +kernel
theorem dX11_isDay_1 : decode cX11_isDay 1 = .ok (.iconst 0, 1) := by decide +kernel
theorem dX11_isDay_2 : decode cX11_isDay 2 = .ok (.sipush 9999, 3) := by decide +kernel
theorem dX11_isDay_5 : decode cX11_isDay 5 = .ok (.invokestatic 107, 3) := by decide +kernel
theorem dX11_isDay_8 : decode cX11_isDay 8 = .ok (.ireturn, 1) := by decide +kernel
theorem dX11_isPlot_0 : decode cX11_isPlot 0 = .ok (.iload_n 0, 1) := by decide +kernel
theorem dX11_isPlot_1 : decode cX11_isPlot 1 = .ok (.iconst 0, 1) := by decide +kernel
theorem dX11_isPlot_2 : decode cX11_isPlot 2 = .ok (.bipush 47, 2) := by decide +kernel
theorem dX11_isPlot_4 : decode cX11_isPlot 4 = .ok (.invokestatic 107, 3) := by decide +kernel
theorem dX11_isPlot_7 : decode cX11_isPlot 7 = .ok (.ireturn, 1) := by decide +kernel
theorem dX11_isOwner_0 : decode cX11_isOwner 0 = .ok (.iload_n 0, 1) := by decide +kernel
theorem dX11_isOwner_1 : decode cX11_isOwner 1 = .ok (.iconst 0, 1) := by decide +kernel
theorem dX11_isOwner_2 : decode cX11_isOwner 2 = .ok (.bipush 9, 2) := by decide +kernel
theorem dX11_isOwner_4 : decode cX11_isOwner 4 = .ok (.invokestatic 107, 3) := by decide +kernel
theorem dX11_isOwner_7 : decode cX11_isOwner 7 = .ok (.ireturn, 1) := by decide +kernel
theorem dX11_pass_0 : decode cX11_pass 0 = .ok (.iload_n 1, 1) := by decide +kernel
theorem dX11_pass_1 : decode cX11_pass 1 = .ok (.iconst 1, 1) := by decide +kernel
theorem dX11_pass_2 : decode cX11_pass 2 = .ok (.sipush 2000, 3) := by decide +kernel
theorem dX11_pass_5 : decode cX11_pass 5 = .ok (.invokestatic 107, 3) := by decide +kernel
theorem dX11_pass_8 : decode cX11_pass 8 = .ok (.ifCond .ne 6, 3) := by decide +kernel
theorem dX11_pass_11 : decode cX11_pass 11 = .ok (.bipush (-2), 2) := by decide +kernel
theorem dX11_pass_13 : decode cX11_pass 13 = .ok (.ireturn, 1) := by decide +kernel
theorem dX11_pass_14 : decode cX11_pass 14 = .ok (.aload_n 0, 1) := by decide +kernel
theorem dX11_pass_15 : decode cX11_pass 15 = .ok (.getfield 10, 3) := by decide +kernel
theorem dX11_pass_18 : decode cX11_pass 18 = .ok (.getfield 111, 3) := by decide +kernel
theorem dX11_pass_21 : decode cX11_pass 21 = .ok (.iload_n 1, 1) := by decide +kernel
theorem dX11_pass_22 : decode cX11_pass 22 = .ok (.iadd, 1) := by decide +kernel
theorem dX11_pass_23 : decode cX11_pass 23 = .ok (.sipush 9999, 3) := by decide +kernel
theorem dX11_pass_26 : decode cX11_pass 26 = .ok (.if_icmp .le 6, 3) := by decide +kernel
theorem dX11_pass_29 : decode cX11_pass 29 = .ok (.bipush (-4), 2) := by decide +kernel
theorem dX11_pass_31 : decode cX11_pass 31 = .ok (.ireturn, 1) := by decide +kernel
theorem dX11_pass_32 : decode cX11_pass 32 = .ok (.aload_n 0, 1) := by decide +kernel
theorem dX11_pass_33 : decode cX11_pass 33 = .ok (.getfield 10, 3) := by decide +kernel
theorem dX11_pass_36 : decode cX11_pass 36 = .ok (.dup, 1) := by decide +kernel
theorem dX11_pass_37 : decode cX11_pass 37 = .ok (.getfield 111, 3) := by decide +kernel
theorem dX11_pass_40 : decode cX11_pass 40 = .ok (.iload_n 1, 1) := by decide +kernel
theorem dX11_pass_41 : decode cX11_pass 41 = .ok (.iadd, 1) := by decide +kernel
theorem dX11_pass_42 : decode cX11_pass 42 = .ok (.putfield 111, 3) := by decide +kernel
theorem dX11_pass_45 : decode cX11_pass 45 = .ok (.aload_n 0, 1) := by decide +kernel
theorem dX11_pass_46 : decode cX11_pass 46 = .ok (.getfield 10, 3) := by decide +kernel
theorem dX11_pass_49 : decode cX11_pass 49 = .ok (.getfield 111, 3) := by decide +kernel
theorem dX11_pass_52 : decode cX11_pass 52 = .ok (.ireturn, 1) := by decide +kernel
theorem dX11_sell_0 : decode cX11_sell 0 = .ok (.iload_n 1, 1) := by decide +kernel
theorem dX11_sell_1 : decode cX11_sell 1 = .ok (.invokestatic 115, 3) := by decide +kernel
theorem dX11_sell_4 : decode cX11_sell 4 = .ok (.ifCond .eq 21, 3) := by decide +kernel
theorem dX11_sell_7 : decode cX11_sell 7 = .ok (.iload_n 2, 1) := by decide +kernel
theorem dX11_sell_8 : decode cX11_sell 8 = .ok (.invokestatic 119, 3) := by decide +kernel
theorem dX11_sell_11 : decode cX11_sell 11 = .ok (.ifCond .eq 14, 3) := by decide +kernel
theorem dX11_sell_14 : decode cX11_sell 14 = .ok (.aload_n 0, 1) := by decide +kernel
theorem dX11_sell_15 : decode cX11_sell 15 = .ok (.getfield 10, 3) := by decide +kernel
theorem dX11_sell_18 : decode cX11_sell 18 = .ok (.iload_n 3, 1) := by decide +kernel
theorem dX11_sell_19 : decode cX11_sell 19 = .ok (.invokevirtual 122, 3) := by decide +kernel
theorem dX11_sell_22 : decode cX11_sell 22 = .ok (.ifCond .ne 6, 3) := by decide +kernel
theorem dX11_sell_25 : decode cX11_sell 25 = .ok (.bipush (-2), 2) := by decide +kernel
theorem dX11_sell_27 : decode cX11_sell 27 = .ok (.ireturn, 1) := by decide +kernel
theorem dX11_sell_28 : decode cX11_sell 28 = .ok (.aload_n 0, 1) := by decide +kernel
theorem dX11_sell_29 : decode cX11_sell 29 = .ok (.getfield 10, 3) := by decide +kernel
theorem dX11_sell_32 : decode cX11_sell 32 = .ok (.getfield 125, 3) := by decide +kernel
theorem dX11_sell_35 : decode cX11_sell 35 = .ok (.bipush 40, 2) := by decide +kernel
theorem dX11_sell_37 : decode cX11_sell 37 = .ok (.if_icmp .lt 6, 3) := by decide +kernel
theorem dX11_sell_40 : decode cX11_sell 40 = .ok (.bipush (-4), 2) := by decide +kernel
theorem dX11_sell_42 : decode cX11_sell 42 = .ok (.ireturn, 1) := by decide +kernel
theorem dX11_sell_43 : decode cX11_sell 43 = .ok (.aload_n 0, 1) := by decide +kernel
theorem dX11_sell_44 : decode cX11_sell 44 = .ok (.getfield 10, 3) := by decide +kernel
theorem dX11_sell_47 : decode cX11_sell 47 = .ok (.iload_n 1, 1) := by decide +kernel
theorem dX11_sell_48 : decode cX11_sell 48 = .ok (.iload_n 2, 1) := by decide +kernel
theorem dX11_sell_49 : decode cX11_sell 49 = .ok (.iload_n 3, 1) := by decide +kernel
theorem dX11_sell_50 : decode cX11_sell 50 = .ok (.invokevirtual 128, 3) := by decide +kernel
theorem dX11_sell_53 : decode cX11_sell 53 = .ok (.ireturn, 1) := by decide +kernel
theorem dX11_owner_0 : decode cX11_owner 0 = .ok (.iload_n 1, 1) := by decide +kernel
theorem dX11_owner_1 : decode cX11_owner 1 = .ok (.invokestatic 115, 3) := by decide +kernel
theorem dX11_owner_4 : decode cX11_owner 4 = .ok (.ifCond .eq 10, 3) := by decide +kernel
theorem dX11_owner_7 : decode cX11_owner 7 = .ok (.iload_n 2, 1) := by decide +kernel
theorem dX11_owner_8 : decode cX11_owner 8 = .ok (.invokestatic 132, 3) := by decide +kernel
theorem dX11_owner_11 : decode cX11_owner 11 = .ok (.ifCond .ne 6, 3) := by decide +kernel
theorem dX11_owner_14 : decode cX11_owner 14 = .ok (.bipush (-2), 2) := by decide +kernel
theorem dX11_owner_16 : decode cX11_owner 16 = .ok (.ireturn, 1) := by decide +kernel
theorem dX11_owner_17 : decode cX11_owner 17 = .ok (.aload_n 0, 1) := by decide +kernel
theorem dX11_owner_18 : decode cX11_owner 18 = .ok (.getfield 10, 3) := by decide +kernel
theorem dX11_owner_21 : decode cX11_owner 21 = .ok (.iload_n 1, 1) := by decide +kernel
theorem dX11_owner_22 : decode cX11_owner 22 = .ok (.iload_n 2, 1) := by decide +kernel
theorem dX11_owner_23 : decode cX11_owner 23 = .ok (.invokevirtual 135, 3) := by decide +kernel
theorem dX11_owner_26 : decode cX11_owner 26 = .ok (.ireturn, 1) := by decide +kernel
theorem dX11_heir_0 : decode cX11_heir 0 = .ok (.iload_n 1, 1) := by decide +kernel
theorem dX11_heir_1 : decode cX11_heir 1 = .ok (.invokestatic 119, 3) := by decide +kernel
theorem dX11_heir_4 : decode cX11_heir 4 = .ok (.ifCond .eq 25, 3) := by decide +kernel
theorem dX11_heir_7 : decode cX11_heir 7 = .ok (.iload_n 2, 1) := by decide +kernel
theorem dX11_heir_8 : decode cX11_heir 8 = .ok (.invokestatic 119, 3) := by decide +kernel
theorem dX11_heir_11 : decode cX11_heir 11 = .ok (.ifCond .eq 18, 3) := by decide +kernel
theorem dX11_heir_14 : decode cX11_heir 14 = .ok (.iload_n 1, 1) := by decide +kernel
theorem dX11_heir_15 : decode cX11_heir 15 = .ok (.iload_n 2, 1) := by decide +kernel
theorem dX11_heir_16 : decode cX11_heir 16 = .ok (.if_icmp .eq 13, 3) := by decide +kernel
theorem dX11_heir_19 : decode cX11_heir 19 = .ok (.iload_n 3, 1) := by decide +kernel
theorem dX11_heir_20 : decode cX11_heir 20 = .ok (.iconst 0, 1) := by decide +kernel
theorem dX11_heir_21 : decode cX11_heir 21 = .ok (.bipush 99, 2) := by decide +kernel
theorem dX11_heir_23 : decode cX11_heir 23 = .ok (.invokestatic 107, 3) := by decide +kernel
theorem dX11_heir_26 : decode cX11_heir 26 = .ok (.ifCond .ne 6, 3) := by decide +kernel
theorem dX11_heir_29 : decode cX11_heir 29 = .ok (.bipush (-2), 2) := by decide +kernel
theorem dX11_heir_31 : decode cX11_heir 31 = .ok (.ireturn, 1) := by decide +kernel
theorem dX11_heir_32 : decode cX11_heir 32 = .ok (.aload_n 0, 1) := by decide +kernel
theorem dX11_heir_33 : decode cX11_heir 33 = .ok (.getfield 19, 3) := by decide +kernel
theorem dX11_heir_36 : decode cX11_heir 36 = .ok (.iload_n 1, 1) := by decide +kernel
theorem dX11_heir_37 : decode cX11_heir 37 = .ok (.iload_n 2, 1) := by decide +kernel
theorem dX11_heir_38 : decode cX11_heir 38 = .ok (.iload_n 3, 1) := by decide +kernel
theorem dX11_heir_39 : decode cX11_heir 39 = .ok (.invokevirtual 139, 3) := by decide +kernel
theorem dX11_heir_42 : decode cX11_heir 42 = .ok (.ireturn, 1) := by decide +kernel
theorem dX11_set_0 : decode cX11_set 0 = .ok (.iload_n 1, 1) := by decide +kernel
theorem dX11_set_1 : decode cX11_set 1 = .ok (.invokestatic 115, 3) := by decide +kernel
theorem dX11_set_4 : decode cX11_set 4 = .ok (.ifCond .eq 12, 3) := by decide +kernel
theorem dX11_set_7 : decode cX11_set 7 = .ok (.iload_n 2, 1) := by decide +kernel
theorem dX11_set_8 : decode cX11_set 8 = .ok (.iconst 0, 1) := by decide +kernel
theorem dX11_set_9 : decode cX11_set 9 = .ok (.iconst 3, 1) := by decide +kernel
theorem dX11_set_10 : decode cX11_set 10 = .ok (.invokestatic 107, 3) := by decide +kernel
theorem dX11_set_13 : decode cX11_set 13 = .ok (.ifCond .ne 6, 3) := by decide +kernel
theorem dX11_set_16 : decode cX11_set 16 = .ok (.bipush (-2), 2) := by decide +kernel
theorem dX11_set_18 : decode cX11_set 18 = .ok (.ireturn, 1) := by decide +kernel
theorem dX11_set_19 : decode cX11_set 19 = .ok (.iload_n 3, 1) := by decide +kernel
theorem dX11_set_20 : decode cX11_set 20 = .ok (.getstatic 142, 3) := by decide +kernel
theorem dX11_set_23 : decode cX11_set 23 = .ok (.iload_n 2, 1) := by decide +kernel
theorem dX11_set_24 : decode cX11_set 24 = .ok (.iaload, 1) := by decide +kernel
theorem dX11_set_25 : decode cX11_set 25 = .ok (.getstatic 146, 3) := by decide +kernel
theorem dX11_set_28 : decode cX11_set 28 = .ok (.iload_n 2, 1) := by decide +kernel
theorem dX11_set_29 : decode cX11_set 29 = .ok (.iaload, 1) := by decide +kernel
theorem dX11_set_30 : decode cX11_set 30 = .ok (.invokestatic 107, 3) := by decide +kernel
theorem dX11_set_33 : decode cX11_set 33 = .ok (.ifCond .ne 6, 3) := by decide +kernel
theorem dX11_set_36 : decode cX11_set 36 = .ok (.bipush (-2), 2) := by decide +kernel
theorem dX11_set_38 : decode cX11_set 38 = .ok (.ireturn, 1) := by decide +kernel
theorem dX11_set_39 : decode cX11_set 39 = .ok (.aload_n 0, 1) := by decide +kernel
theorem dX11_set_40 : decode cX11_set 40 = .ok (.getfield 10, 3) := by decide +kernel
theorem dX11_set_43 : decode cX11_set 43 = .ok (.iload_n 1, 1) := by decide +kernel
theorem dX11_set_44 : decode cX11_set 44 = .ok (.iload_n 2, 1) := by decide +kernel
theorem dX11_set_45 : decode cX11_set 45 = .ok (.iload_n 3, 1) := by decide +kernel
theorem dX11_set_46 : decode cX11_set 46 = .ok (.invokevirtual 149, 3) := by decide +kernel
theorem dX11_set_49 : decode cX11_set 49 = .ok (.ireturn, 1) := by decide +kernel
theorem dX11_trees_0 : decode cX11_trees 0 = .ok (.iload_n 1, 1) := by decide +kernel
theorem dX11_trees_1 : decode cX11_trees 1 = .ok (.invokestatic 115, 3) := by decide +kernel
theorem dX11_trees_4 : decode cX11_trees 4 = .ok (.ifCond .eq 23, 3) := by decide +kernel
theorem dX11_trees_7 : decode cX11_trees 7 = .ok (.iload_n 2, 1) := by decide +kernel
theorem dX11_trees_8 : decode cX11_trees 8 = .ok (.iconst 0, 1) := by decide +kernel
theorem dX11_trees_9 : decode cX11_trees 9 = .ok (.bipush 40, 2) := by decide +kernel
theorem dX11_trees_11 : decode cX11_trees 11 = .ok (.invokestatic 107, 3) := by decide +kernel
theorem dX11_trees_14 : decode cX11_trees 14 = .ok (.ifCond .eq 13, 3) := by decide +kernel
theorem dX11_trees_17 : decode cX11_trees 17 = .ok (.iload_n 3, 1) := by decide +kernel
theorem dX11_trees_18 : decode cX11_trees 18 = .ok (.iconst 0, 1) := by decide +kernel
theorem dX11_trees_19 : decode cX11_trees 19 = .ok (.bipush 9, 2) := by decide +kernel
theorem dX11_trees_21 : decode cX11_trees 21 = .ok (.invokestatic 107, 3) := by decide +kernel
theorem dX11_trees_24 : decode cX11_trees 24 = .ok (.ifCond .ne 6, 3) := by decide +kernel
theorem dX11_trees_27 : decode cX11_trees 27 = .ok (.bipush (-2), 2) := by decide +kernel
theorem dX11_trees_29 : decode cX11_trees 29 = .ok (.ireturn, 1) := by decide +kernel
theorem dX11_trees_30 : decode cX11_trees 30 = .ok (.aload_n 0, 1) := by decide +kernel
theorem dX11_trees_31 : decode cX11_trees 31 = .ok (.getfield 10, 3) := by decide +kernel
theorem dX11_trees_34 : decode cX11_trees 34 = .ok (.iload_n 1, 1) := by decide +kernel
theorem dX11_trees_35 : decode cX11_trees 35 = .ok (.iload_n 2, 1) := by decide +kernel
theorem dX11_trees_36 : decode cX11_trees 36 = .ok (.iload_n 3, 1) := by decide +kernel
theorem dX11_trees_37 : decode cX11_trees 37 = .ok (.invokevirtual 152, 3) := by decide +kernel
theorem dX11_trees_40 : decode cX11_trees 40 = .ok (.ireturn, 1) := by decide +kernel
theorem dX11_high_0 : decode cX11_high 0 = .ok (.iload_n 1, 1) := by decide +kernel
theorem dX11_high_1 : decode cX11_high 1 = .ok (.invokestatic 115, 3) := by decide +kernel
theorem dX11_high_4 : decode cX11_high 4 = .ok (.ifCond .ne 6, 3) := by decide +kernel
theorem dX11_high_7 : decode cX11_high 7 = .ok (.bipush (-2), 2) := by decide +kernel
theorem dX11_high_9 : decode cX11_high 9 = .ok (.ireturn, 1) := by decide +kernel
theorem dX11_high_10 : decode cX11_high 10 = .ok (.aload_n 0, 1) := by decide +kernel
theorem dX11_high_11 : decode cX11_high 11 = .ok (.getfield 10, 3) := by decide +kernel
theorem dX11_high_14 : decode cX11_high 14 = .ok (.iload_n 1, 1) := by decide +kernel
theorem dX11_high_15 : decode cX11_high 15 = .ok (.invokevirtual 155, 3) := by decide +kernel
theorem dX11_high_18 : decode cX11_high 18 = .ok (.ireturn, 1) := by decide +kernel
theorem dX11_tower_0 : decode cX11_tower 0 = .ok (.iload_n 1, 1) := by decide +kernel
theorem dX11_tower_1 : decode cX11_tower 1 = .ok (.invokestatic 115, 3) := by decide +kernel
theorem dX11_tower_4 : decode cX11_tower 4 = .ok (.ifCond .eq 14, 3) := by decide +kernel
theorem dX11_tower_7 : decode cX11_tower 7 = .ok (.iload_n 2, 1) := by decide +kernel
theorem dX11_tower_8 : decode cX11_tower 8 = .ok (.bipush 10, 2) := by decide +kernel
theorem dX11_tower_10 : decode cX11_tower 10 = .ok (.bipush 90, 2) := by decide +kernel
theorem dX11_tower_12 : decode cX11_tower 12 = .ok (.invokestatic 107, 3) := by decide +kernel
theorem dX11_tower_15 : decode cX11_tower 15 = .ok (.ifCond .ne 6, 3) := by decide +kernel
theorem dX11_tower_18 : decode cX11_tower 18 = .ok (.bipush (-2), 2) := by decide +kernel
theorem dX11_tower_20 : decode cX11_tower 20 = .ok (.ireturn, 1) := by decide +kernel
theorem dX11_tower_21 : decode cX11_tower 21 = .ok (.aload_n 0, 1) := by decide +kernel
theorem dX11_tower_22 : decode cX11_tower 22 = .ok (.getfield 28, 3) := by decide +kernel
theorem dX11_tower_25 : decode cX11_tower 25 = .ok (.getfield 159, 3) := by decide +kernel
theorem dX11_tower_28 : decode cX11_tower 28 = .ok (.bipush 16, 2) := by decide +kernel
theorem dX11_tower_30 : decode cX11_tower 30 = .ok (.if_icmp .lt 6, 3) := by decide +kernel
theorem dX11_tower_33 : decode cX11_tower 33 = .ok (.bipush (-4), 2) := by decide +kernel
theorem dX11_tower_35 : decode cX11_tower 35 = .ok (.ireturn, 1) := by decide +kernel
theorem dX11_tower_36 : decode cX11_tower 36 = .ok (.aload_n 0, 1) := by decide +kernel
theorem dX11_tower_37 : decode cX11_tower 37 = .ok (.getfield 28, 3) := by decide +kernel
theorem dX11_tower_40 : decode cX11_tower 40 = .ok (.iload_n 2, 1) := by decide +kernel
theorem dX11_tower_41 : decode cX11_tower 41 = .ok (.invokevirtual 162, 3) := by decide +kernel
theorem dX11_tower_44 : decode cX11_tower 44 = .ok (.ireturn, 1) := by decide +kernel
theorem dX11_span_0 : decode cX11_span 0 = .ok (.aload_n 0, 1) := by decide +kernel
theorem dX11_span_1 : decode cX11_span 1 = .ok (.getfield 28, 3) := by decide +kernel
theorem dX11_span_4 : decode cX11_span 4 = .ok (.iload_n 1, 1) := by decide +kernel
theorem dX11_span_5 : decode cX11_span 5 = .ok (.invokevirtual 165, 3) := by decide +kernel
theorem dX11_span_8 : decode cX11_span 8 = .ok (.ifCond .eq 19, 3) := by decide +kernel
theorem dX11_span_11 : decode cX11_span 11 = .ok (.aload_n 0, 1) := by decide +kernel
theorem dX11_span_12 : decode cX11_span 12 = .ok (.getfield 28, 3) := by decide +kernel
theorem dX11_span_15 : decode cX11_span 15 = .ok (.iload_n 2, 1) := by decide +kernel
theorem dX11_span_16 : decode cX11_span 16 = .ok (.invokevirtual 165, 3) := by decide +kernel
theorem dX11_span_19 : decode cX11_span 19 = .ok (.ifCond .eq 8, 3) := by decide +kernel
theorem dX11_span_22 : decode cX11_span 22 = .ok (.iload_n 1, 1) := by decide +kernel
theorem dX11_span_23 : decode cX11_span 23 = .ok (.iload_n 2, 1) := by decide +kernel
theorem dX11_span_24 : decode cX11_span 24 = .ok (.if_icmp .ne 6, 3) := by decide +kernel
theorem dX11_span_27 : decode cX11_span 27 = .ok (.bipush (-2), 2) := by decide +kernel
theorem dX11_span_29 : decode cX11_span 29 = .ok (.ireturn, 1) := by decide +kernel
theorem dX11_span_30 : decode cX11_span 30 = .ok (.iload_n 3, 1) := by decide +kernel
theorem dX11_span_31 : decode cX11_span 31 = .ok (.invokestatic 115, 3) := by decide +kernel
theorem dX11_span_34 : decode cX11_span 34 = .ok (.ifCond .eq 16, 3) := by decide +kernel
theorem dX11_span_37 : decode cX11_span 37 = .ok (.iload 4, 2) := by decide +kernel
theorem dX11_span_39 : decode cX11_span 39 = .ok (.bipush 50, 2) := by decide +kernel
theorem dX11_span_41 : decode cX11_span 41 = .ok (.sipush 600, 3) := by decide +kernel
theorem dX11_span_44 : decode cX11_span 44 = .ok (.invokestatic 107, 3) := by decide +kernel
theorem dX11_span_47 : decode cX11_span 47 = .ok (.ifCond .ne 6, 3) := by decide +kernel
theorem dX11_span_50 : decode cX11_span 50 = .ok (.bipush (-2), 2) := by decide +kernel
theorem dX11_span_52 : decode cX11_span 52 = .ok (.ireturn, 1) := by decide +kernel
theorem dX11_span_53 : decode cX11_span 53 = .ok (.aload_n 0, 1) := by decide +kernel
theorem dX11_span_54 : decode cX11_span 54 = .ok (.getfield 28, 3) := by decide +kernel
theorem dX11_span_57 : decode cX11_span 57 = .ok (.getfield 168, 3) := by decide +kernel
theorem dX11_span_60 : decode cX11_span 60 = .ok (.bipush 16, 2) := by decide +kernel
theorem dX11_span_62 : decode cX11_span 62 = .ok (.if_icmp .lt 6, 3) := by decide +kernel
theorem dX11_span_65 : decode cX11_span 65 = .ok (.bipush (-4), 2) := by decide +kernel
theorem dX11_span_67 : decode cX11_span 67 = .ok (.ireturn, 1) := by decide +kernel
theorem dX11_span_68 : decode cX11_span 68 = .ok (.aload_n 0, 1) := by decide +kernel
theorem dX11_span_69 : decode cX11_span 69 = .ok (.getfield 28, 3) := by decide +kernel
theorem dX11_span_72 : decode cX11_span 72 = .ok (.iload_n 1, 1) := by decide +kernel
theorem dX11_span_73 : decode cX11_span 73 = .ok (.iload_n 2, 1) := by decide +kernel
theorem dX11_span_74 : decode cX11_span 74 = .ok (.iload_n 3, 1) := by decide +kernel
theorem dX11_span_75 : decode cX11_span 75 = .ok (.iload 4, 2) := by decide +kernel
theorem dX11_span_77 : decode cX11_span 77 = .ok (.invokevirtual 171, 3) := by decide +kernel
theorem dX11_span_80 : decode cX11_span 80 = .ok (.ireturn, 1) := by decide +kernel
theorem dX11_heat_0 : decode cX11_heat 0 = .ok (.aload_n 0, 1) := by decide +kernel
theorem dX11_heat_1 : decode cX11_heat 1 = .ok (.getfield 28, 3) := by decide +kernel
theorem dX11_heat_4 : decode cX11_heat 4 = .ok (.iload_n 1, 1) := by decide +kernel
theorem dX11_heat_5 : decode cX11_heat 5 = .ok (.invokevirtual 175, 3) := by decide +kernel
theorem dX11_heat_8 : decode cX11_heat 8 = .ok (.ifCond .eq 14, 3) := by decide +kernel
theorem dX11_heat_11 : decode cX11_heat 11 = .ok (.iload_n 2, 1) := by decide +kernel
theorem dX11_heat_12 : decode cX11_heat 12 = .ok (.bipush (-20), 2) := by decide +kernel
theorem dX11_heat_14 : decode cX11_heat 14 = .ok (.bipush 90, 2) := by decide +kernel
theorem dX11_heat_16 : decode cX11_heat 16 = .ok (.invokestatic 107, 3) := by decide +kernel
theorem dX11_heat_19 : decode cX11_heat 19 = .ok (.ifCond .ne 6, 3) := by decide +kernel
theorem dX11_heat_22 : decode cX11_heat 22 = .ok (.bipush (-100), 2) := by decide +kernel
theorem dX11_heat_24 : decode cX11_heat 24 = .ok (.ireturn, 1) := by decide +kernel
theorem dX11_heat_25 : decode cX11_heat 25 = .ok (.aload_n 0, 1) := by decide +kernel
theorem dX11_heat_26 : decode cX11_heat 26 = .ok (.getfield 28, 3) := by decide +kernel
theorem dX11_heat_29 : decode cX11_heat 29 = .ok (.iload_n 1, 1) := by decide +kernel
theorem dX11_heat_30 : decode cX11_heat 30 = .ok (.iload_n 2, 1) := by decide +kernel
theorem dX11_heat_31 : decode cX11_heat 31 = .ok (.invokevirtual 178, 3) := by decide +kernel
theorem dX11_heat_34 : decode cX11_heat 34 = .ok (.ireturn, 1) := by decide +kernel
theorem dX11_spanTold_0 : decode cX11_spanTold 0 = .ok (.aload_n 0, 1) := by decide +kernel
theorem dX11_spanTold_1 : decode cX11_spanTold 1 = .ok (.getfield 28, 3) := by decide +kernel
theorem dX11_spanTold_4 : decode cX11_spanTold 4 = .ok (.iload_n 1, 1) := by decide +kernel
theorem dX11_spanTold_5 : decode cX11_spanTold 5 = .ok (.invokevirtual 175, 3) := by decide +kernel
theorem dX11_spanTold_8 : decode cX11_spanTold 8 = .ok (.ifCond .ne 7, 3) := by decide +kernel
theorem dX11_spanTold_11 : decode cX11_spanTold 11 = .ok (.ldc2_w 181, 3) := by decide +kernel
theorem dX11_spanTold_14 : decode cX11_spanTold 14 = .ok (.lreturn, 1) := by decide +kernel
theorem dX11_spanTold_15 : decode cX11_spanTold 15 = .ok (.iload_n 2, 1) := by decide +kernel
theorem dX11_spanTold_16 : decode cX11_spanTold 16 = .ok (.tableswitch 138 0 7 #[48, 59, 70, 80, 90, 100, 117, 127], 48) := by decide +kernel
theorem dX11_spanTold_64 : decode cX11_spanTold 64 = .ok (.aload_n 0, 1) := by decide +kernel
theorem dX11_spanTold_65 : decode cX11_spanTold 65 = .ok (.getfield 28, 3) := by decide +kernel
theorem dX11_spanTold_68 : decode cX11_spanTold 68 = .ok (.getfield 183, 3) := by decide +kernel
theorem dX11_spanTold_71 : decode cX11_spanTold 71 = .ok (.iload_n 1, 1) := by decide +kernel
theorem dX11_spanTold_72 : decode cX11_spanTold 72 = .ok (.iaload, 1) := by decide +kernel
theorem dX11_spanTold_73 : decode cX11_spanTold 73 = .ok (.i2l, 1) := by decide +kernel
theorem dX11_spanTold_74 : decode cX11_spanTold 74 = .ok (.lreturn, 1) := by decide +kernel
theorem dX11_spanTold_75 : decode cX11_spanTold 75 = .ok (.aload_n 0, 1) := by decide +kernel
theorem dX11_spanTold_76 : decode cX11_spanTold 76 = .ok (.getfield 28, 3) := by decide +kernel
theorem dX11_spanTold_79 : decode cX11_spanTold 79 = .ok (.getfield 186, 3) := by decide +kernel
theorem dX11_spanTold_82 : decode cX11_spanTold 82 = .ok (.iload_n 1, 1) := by decide +kernel
theorem dX11_spanTold_83 : decode cX11_spanTold 83 = .ok (.iaload, 1) := by decide +kernel
theorem dX11_spanTold_84 : decode cX11_spanTold 84 = .ok (.i2l, 1) := by decide +kernel
theorem dX11_spanTold_85 : decode cX11_spanTold 85 = .ok (.lreturn, 1) := by decide +kernel
theorem dX11_spanTold_86 : decode cX11_spanTold 86 = .ok (.aload_n 0, 1) := by decide +kernel
theorem dX11_spanTold_87 : decode cX11_spanTold 87 = .ok (.getfield 28, 3) := by decide +kernel
theorem dX11_spanTold_90 : decode cX11_spanTold 90 = .ok (.iload_n 1, 1) := by decide +kernel
theorem dX11_spanTold_91 : decode cX11_spanTold 91 = .ok (.invokevirtual 189, 3) := by decide +kernel
theorem dX11_spanTold_94 : decode cX11_spanTold 94 = .ok (.i2l, 1) := by decide +kernel
theorem dX11_spanTold_95 : decode cX11_spanTold 95 = .ok (.lreturn, 1) := by decide +kernel
theorem dX11_spanTold_96 : decode cX11_spanTold 96 = .ok (.aload_n 0, 1) := by decide +kernel
theorem dX11_spanTold_97 : decode cX11_spanTold 97 = .ok (.getfield 28, 3) := by decide +kernel
theorem dX11_spanTold_100 : decode cX11_spanTold 100 = .ok (.iload_n 1, 1) := by decide +kernel
theorem dX11_spanTold_101 : decode cX11_spanTold 101 = .ok (.invokevirtual 192, 3) := by decide +kernel
theorem dX11_spanTold_104 : decode cX11_spanTold 104 = .ok (.i2l, 1) := by decide +kernel
theorem dX11_spanTold_105 : decode cX11_spanTold 105 = .ok (.lreturn, 1) := by decide +kernel
theorem dX11_spanTold_106 : decode cX11_spanTold 106 = .ok (.aload_n 0, 1) := by decide +kernel
theorem dX11_spanTold_107 : decode cX11_spanTold 107 = .ok (.getfield 28, 3) := by decide +kernel
theorem dX11_spanTold_110 : decode cX11_spanTold 110 = .ok (.iload_n 1, 1) := by decide +kernel
theorem dX11_spanTold_111 : decode cX11_spanTold 111 = .ok (.invokevirtual 195, 3) := by decide +kernel
theorem dX11_spanTold_114 : decode cX11_spanTold 114 = .ok (.i2l, 1) := by decide +kernel
theorem dX11_spanTold_115 : decode cX11_spanTold 115 = .ok (.lreturn, 1) := by decide +kernel
theorem dX11_spanTold_116 : decode cX11_spanTold 116 = .ok (.aload_n 0, 1) := by decide +kernel
theorem dX11_spanTold_117 : decode cX11_spanTold 117 = .ok (.getfield 28, 3) := by decide +kernel
theorem dX11_spanTold_120 : decode cX11_spanTold 120 = .ok (.iload_n 1, 1) := by decide +kernel
theorem dX11_spanTold_121 : decode cX11_spanTold 121 = .ok (.invokevirtual 198, 3) := by decide +kernel
theorem dX11_spanTold_124 : decode cX11_spanTold 124 = .ok (.ifCond .eq 7, 3) := by decide +kernel
theorem dX11_spanTold_127 : decode cX11_spanTold 127 = .ok (.lconst 1, 1) := by decide +kernel
theorem dX11_spanTold_128 : decode cX11_spanTold 128 = .ok (.goto 4, 3) := by decide +kernel
theorem dX11_spanTold_131 : decode cX11_spanTold 131 = .ok (.lconst 0, 1) := by decide +kernel
theorem dX11_spanTold_132 : decode cX11_spanTold 132 = .ok (.lreturn, 1) := by decide +kernel
theorem dX11_spanTold_133 : decode cX11_spanTold 133 = .ok (.aload_n 0, 1) := by decide +kernel
theorem dX11_spanTold_134 : decode cX11_spanTold 134 = .ok (.getfield 37, 3) := by decide +kernel
theorem dX11_spanTold_137 : decode cX11_spanTold 137 = .ok (.iload_n 1, 1) := by decide +kernel
theorem dX11_spanTold_138 : decode cX11_spanTold 138 = .ok (.invokevirtual 201, 3) := by decide +kernel
theorem dX11_spanTold_141 : decode cX11_spanTold 141 = .ok (.i2l, 1) := by decide +kernel
theorem dX11_spanTold_142 : decode cX11_spanTold 142 = .ok (.lreturn, 1) := by decide +kernel
theorem dX11_spanTold_143 : decode cX11_spanTold 143 = .ok (.aload_n 0, 1) := by decide +kernel
theorem dX11_spanTold_144 : decode cX11_spanTold 144 = .ok (.getfield 28, 3) := by decide +kernel
theorem dX11_spanTold_147 : decode cX11_spanTold 147 = .ok (.getfield 204, 3) := by decide +kernel
theorem dX11_spanTold_150 : decode cX11_spanTold 150 = .ok (.iload_n 1, 1) := by decide +kernel
theorem dX11_spanTold_151 : decode cX11_spanTold 151 = .ok (.iaload, 1) := by decide +kernel
theorem dX11_spanTold_152 : decode cX11_spanTold 152 = .ok (.i2l, 1) := by decide +kernel
theorem dX11_spanTold_153 : decode cX11_spanTold 153 = .ok (.lreturn, 1) := by decide +kernel
theorem dX11_spanTold_154 : decode cX11_spanTold 154 = .ok (.ldc2_w 181, 3) := by decide +kernel
theorem dX11_spanTold_157 : decode cX11_spanTold 157 = .ok (.lreturn, 1) := by decide +kernel
theorem dX11_leave_0 : decode cX11_leave 0 = .ok (.iload_n 1, 1) := by decide +kernel
theorem dX11_leave_1 : decode cX11_leave 1 = .ok (.iconst 0, 1) := by decide +kernel
theorem dX11_leave_2 : decode cX11_leave 2 = .ok (.iconst 5, 1) := by decide +kernel
theorem dX11_leave_3 : decode cX11_leave 3 = .ok (.invokestatic 107, 3) := by decide +kernel
theorem dX11_leave_6 : decode cX11_leave 6 = .ok (.ifCond .eq 14, 3) := by decide +kernel
theorem dX11_leave_9 : decode cX11_leave 9 = .ok (.aload_n 0, 1) := by decide +kernel
theorem dX11_leave_10 : decode cX11_leave 10 = .ok (.getfield 28, 3) := by decide +kernel
theorem dX11_leave_13 : decode cX11_leave 13 = .ok (.iload_n 2, 1) := by decide +kernel
theorem dX11_leave_14 : decode cX11_leave 14 = .ok (.invokevirtual 175, 3) := by decide +kernel
theorem dX11_leave_17 : decode cX11_leave 17 = .ok (.ifCond .ne 6, 3) := by decide +kernel
theorem dX11_leave_20 : decode cX11_leave 20 = .ok (.bipush (-2), 2) := by decide +kernel
theorem dX11_leave_22 : decode cX11_leave 22 = .ok (.ireturn, 1) := by decide +kernel
theorem dX11_leave_23 : decode cX11_leave 23 = .ok (.iload_n 3, 1) := by decide +kernel
theorem dX11_leave_24 : decode cX11_leave 24 = .ok (.iconst 0, 1) := by decide +kernel
theorem dX11_leave_25 : decode cX11_leave 25 = .ok (.ldc 207, 2) := by decide +kernel
theorem dX11_leave_27 : decode cX11_leave 27 = .ok (.invokestatic 107, 3) := by decide +kernel
theorem dX11_leave_30 : decode cX11_leave 30 = .ok (.ifCond .eq 15, 3) := by decide +kernel
theorem dX11_leave_33 : decode cX11_leave 33 = .ok (.aload_n 0, 1) := by decide +kernel
theorem dX11_leave_34 : decode cX11_leave 34 = .ok (.getfield 10, 3) := by decide +kernel
theorem dX11_leave_37 : decode cX11_leave 37 = .ok (.iload 4, 2) := by decide +kernel
theorem dX11_leave_39 : decode cX11_leave 39 = .ok (.invokevirtual 122, 3) := by decide +kernel
theorem dX11_leave_42 : decode cX11_leave 42 = .ok (.ifCond .ne 6, 3) := by decide +kernel
theorem dX11_leave_45 : decode cX11_leave 45 = .ok (.bipush (-2), 2) := by decide +kernel
theorem dX11_leave_47 : decode cX11_leave 47 = .ok (.ireturn, 1) := by decide +kernel
theorem dX11_leave_48 : decode cX11_leave 48 = .ok (.iload 5, 2) := by decide +kernel
theorem dX11_leave_50 : decode cX11_leave 50 = .ok (.iconst (-1), 1) := by decide +kernel
theorem dX11_leave_51 : decode cX11_leave 51 = .ok (.if_icmp .eq 32, 3) := by decide +kernel
theorem dX11_leave_54 : decode cX11_leave 54 = .ok (.aload_n 0, 1) := by decide +kernel
theorem dX11_leave_55 : decode cX11_leave 55 = .ok (.getfield 37, 3) := by decide +kernel
theorem dX11_leave_58 : decode cX11_leave 58 = .ok (.iload 5, 2) := by decide +kernel
theorem dX11_leave_60 : decode cX11_leave 60 = .ok (.invokevirtual 208, 3) := by decide +kernel
theorem dX11_leave_63 : decode cX11_leave 63 = .ok (.ifCond .eq 17, 3) := by decide +kernel
theorem dX11_leave_66 : decode cX11_leave 66 = .ok (.aload_n 0, 1) := by decide +kernel
theorem dX11_leave_67 : decode cX11_leave 67 = .ok (.getfield 37, 3) := by decide +kernel
theorem dX11_leave_70 : decode cX11_leave 70 = .ok (.getfield 211, 3) := by decide +kernel
theorem dX11_leave_73 : decode cX11_leave 73 = .ok (.iload 5, 2) := by decide +kernel
theorem dX11_leave_75 : decode cX11_leave 75 = .ok (.iaload, 1) := by decide +kernel
theorem dX11_leave_76 : decode cX11_leave 76 = .ok (.iload_n 2, 1) := by decide +kernel
theorem dX11_leave_77 : decode cX11_leave 77 = .ok (.if_icmp .eq 6, 3) := by decide +kernel
theorem dX11_leave_80 : decode cX11_leave 80 = .ok (.bipush (-2), 2) := by decide +kernel
theorem dX11_leave_82 : decode cX11_leave 82 = .ok (.ireturn, 1) := by decide +kernel
theorem dX11_leave_83 : decode cX11_leave 83 = .ok (.aload_n 0, 1) := by decide +kernel
theorem dX11_leave_84 : decode cX11_leave 84 = .ok (.getfield 37, 3) := by decide +kernel
theorem dX11_leave_87 : decode cX11_leave 87 = .ok (.getfield 213, 3) := by decide +kernel
theorem dX11_leave_90 : decode cX11_leave 90 = .ok (.bipush 24, 2) := by decide +kernel
theorem dX11_leave_92 : decode cX11_leave 92 = .ok (.if_icmp .lt 6, 3) := by decide +kernel
theorem dX11_leave_95 : decode cX11_leave 95 = .ok (.bipush (-4), 2) := by decide +kernel
theorem dX11_leave_97 : decode cX11_leave 97 = .ok (.ireturn, 1) := by decide +kernel
theorem dX11_leave_98 : decode cX11_leave 98 = .ok (.aload_n 0, 1) := by decide +kernel
theorem dX11_leave_99 : decode cX11_leave 99 = .ok (.getfield 37, 3) := by decide +kernel
theorem dX11_leave_102 : decode cX11_leave 102 = .ok (.iload_n 1, 1) := by decide +kernel
theorem dX11_leave_103 : decode cX11_leave 103 = .ok (.iload_n 2, 1) := by decide +kernel
theorem dX11_leave_104 : decode cX11_leave 104 = .ok (.iload_n 3, 1) := by decide +kernel
theorem dX11_leave_105 : decode cX11_leave 105 = .ok (.iload 4, 2) := by decide +kernel
theorem dX11_leave_107 : decode cX11_leave 107 = .ok (.iload 5, 2) := by decide +kernel
theorem dX11_leave_109 : decode cX11_leave 109 = .ok (.invokevirtual 216, 3) := by decide +kernel
theorem dX11_leave_112 : decode cX11_leave 112 = .ok (.ireturn, 1) := by decide +kernel
theorem dX11_leaveTold_0 : decode cX11_leaveTold 0 = .ok (.aload_n 0, 1) := by decide +kernel
theorem dX11_leaveTold_1 : decode cX11_leaveTold 1 = .ok (.getfield 37, 3) := by decide +kernel
theorem dX11_leaveTold_4 : decode cX11_leaveTold 4 = .ok (.iload_n 1, 1) := by decide +kernel
theorem dX11_leaveTold_5 : decode cX11_leaveTold 5 = .ok (.invokevirtual 208, 3) := by decide +kernel
theorem dX11_leaveTold_8 : decode cX11_leaveTold 8 = .ok (.ifCond .ne 6, 3) := by decide +kernel
theorem dX11_leaveTold_11 : decode cX11_leaveTold 11 = .ok (.bipush (-2), 2) := by decide +kernel
theorem dX11_leaveTold_13 : decode cX11_leaveTold 13 = .ok (.ireturn, 1) := by decide +kernel
theorem dX11_leaveTold_14 : decode cX11_leaveTold 14 = .ok (.iload_n 2, 1) := by decide +kernel
theorem dX11_leaveTold_15 : decode cX11_leaveTold 15 = .ok (.tableswitch 163 0 8 #[49, 59, 69, 79, 88, 102, 111, 135, 145], 49) := by decide +kernel
theorem dX11_leaveTold_64 : decode cX11_leaveTold 64 = .ok (.aload_n 0, 1) := by decide +kernel
theorem dX11_leaveTold_65 : decode cX11_leaveTold 65 = .ok (.getfield 37, 3) := by decide +kernel
theorem dX11_leaveTold_68 : decode cX11_leaveTold 68 = .ok (.getfield 220, 3) := by decide +kernel
theorem dX11_leaveTold_71 : decode cX11_leaveTold 71 = .ok (.iload_n 1, 1) := by decide +kernel
theorem dX11_leaveTold_72 : decode cX11_leaveTold 72 = .ok (.iaload, 1) := by decide +kernel
theorem dX11_leaveTold_73 : decode cX11_leaveTold 73 = .ok (.ireturn, 1) := by decide +kernel
theorem dX11_leaveTold_74 : decode cX11_leaveTold 74 = .ok (.aload_n 0, 1) := by decide +kernel
theorem dX11_leaveTold_75 : decode cX11_leaveTold 75 = .ok (.getfield 37, 3) := by decide +kernel
theorem dX11_leaveTold_78 : decode cX11_leaveTold 78 = .ok (.getfield 211, 3) := by decide +kernel
theorem dX11_leaveTold_81 : decode cX11_leaveTold 81 = .ok (.iload_n 1, 1) := by decide +kernel
theorem dX11_leaveTold_82 : decode cX11_leaveTold 82 = .ok (.iaload, 1) := by decide +kernel
theorem dX11_leaveTold_83 : decode cX11_leaveTold 83 = .ok (.ireturn, 1) := by decide +kernel
theorem dX11_leaveTold_84 : decode cX11_leaveTold 84 = .ok (.aload_n 0, 1) := by decide +kernel
theorem dX11_leaveTold_85 : decode cX11_leaveTold 85 = .ok (.getfield 37, 3) := by decide +kernel
theorem dX11_leaveTold_88 : decode cX11_leaveTold 88 = .ok (.getfield 223, 3) := by decide +kernel
theorem dX11_leaveTold_91 : decode cX11_leaveTold 91 = .ok (.iload_n 1, 1) := by decide +kernel
theorem dX11_leaveTold_92 : decode cX11_leaveTold 92 = .ok (.iaload, 1) := by decide +kernel
theorem dX11_leaveTold_93 : decode cX11_leaveTold 93 = .ok (.ireturn, 1) := by decide +kernel
theorem dX11_leaveTold_94 : decode cX11_leaveTold 94 = .ok (.aload_n 0, 1) := by decide +kernel
theorem dX11_leaveTold_95 : decode cX11_leaveTold 95 = .ok (.getfield 37, 3) := by decide +kernel
theorem dX11_leaveTold_98 : decode cX11_leaveTold 98 = .ok (.iload_n 1, 1) := by decide +kernel
theorem dX11_leaveTold_99 : decode cX11_leaveTold 99 = .ok (.invokevirtual 226, 3) := by decide +kernel
theorem dX11_leaveTold_102 : decode cX11_leaveTold 102 = .ok (.ireturn, 1) := by decide +kernel
theorem dX11_leaveTold_103 : decode cX11_leaveTold 103 = .ok (.getstatic 229, 3) := by decide +kernel
theorem dX11_leaveTold_106 : decode cX11_leaveTold 106 = .ok (.aload_n 0, 1) := by decide +kernel
theorem dX11_leaveTold_107 : decode cX11_leaveTold 107 = .ok (.getfield 37, 3) := by decide +kernel
theorem dX11_leaveTold_110 : decode cX11_leaveTold 110 = .ok (.getfield 220, 3) := by decide +kernel
theorem dX11_leaveTold_113 : decode cX11_leaveTold 113 = .ok (.iload_n 1, 1) := by decide +kernel
theorem dX11_leaveTold_114 : decode cX11_leaveTold 114 = .ok (.iaload, 1) := by decide +kernel
theorem dX11_leaveTold_115 : decode cX11_leaveTold 115 = .ok (.iaload, 1) := by decide +kernel
theorem dX11_leaveTold_116 : decode cX11_leaveTold 116 = .ok (.ireturn, 1) := by decide +kernel
theorem dX11_leaveTold_117 : decode cX11_leaveTold 117 = .ok (.aload_n 0, 1) := by decide +kernel
theorem dX11_leaveTold_118 : decode cX11_leaveTold 118 = .ok (.getfield 37, 3) := by decide +kernel
theorem dX11_leaveTold_121 : decode cX11_leaveTold 121 = .ok (.iload_n 1, 1) := by decide +kernel
theorem dX11_leaveTold_122 : decode cX11_leaveTold 122 = .ok (.invokevirtual 232, 3) := by decide +kernel
theorem dX11_leaveTold_125 : decode cX11_leaveTold 125 = .ok (.ireturn, 1) := by decide +kernel
theorem dX11_leaveTold_126 : decode cX11_leaveTold 126 = .ok (.aload_n 0, 1) := by decide +kernel
theorem dX11_leaveTold_127 : decode cX11_leaveTold 127 = .ok (.getfield 37, 3) := by decide +kernel
theorem dX11_leaveTold_130 : decode cX11_leaveTold 130 = .ok (.iload_n 1, 1) := by decide +kernel
theorem dX11_leaveTold_131 : decode cX11_leaveTold 131 = .ok (.aload_n 0, 1) := by decide +kernel
theorem dX11_leaveTold_132 : decode cX11_leaveTold 132 = .ok (.getfield 10, 3) := by decide +kernel
theorem dX11_leaveTold_135 : decode cX11_leaveTold 135 = .ok (.getfield 111, 3) := by decide +kernel
theorem dX11_leaveTold_138 : decode cX11_leaveTold 138 = .ok (.invokevirtual 235, 3) := by decide +kernel
theorem dX11_leaveTold_141 : decode cX11_leaveTold 141 = .ok (.ifCond .eq 7, 3) := by decide +kernel
theorem dX11_leaveTold_144 : decode cX11_leaveTold 144 = .ok (.iconst 1, 1) := by decide +kernel
theorem dX11_leaveTold_145 : decode cX11_leaveTold 145 = .ok (.goto 4, 3) := by decide +kernel
theorem dX11_leaveTold_148 : decode cX11_leaveTold 148 = .ok (.iconst 0, 1) := by decide +kernel
theorem dX11_leaveTold_149 : decode cX11_leaveTold 149 = .ok (.ireturn, 1) := by decide +kernel
theorem dX11_leaveTold_150 : decode cX11_leaveTold 150 = .ok (.aload_n 0, 1) := by decide +kernel
theorem dX11_leaveTold_151 : decode cX11_leaveTold 151 = .ok (.getfield 37, 3) := by decide +kernel
theorem dX11_leaveTold_154 : decode cX11_leaveTold 154 = .ok (.getfield 239, 3) := by decide +kernel
theorem dX11_leaveTold_157 : decode cX11_leaveTold 157 = .ok (.iload_n 1, 1) := by decide +kernel
theorem dX11_leaveTold_158 : decode cX11_leaveTold 158 = .ok (.iaload, 1) := by decide +kernel
theorem dX11_leaveTold_159 : decode cX11_leaveTold 159 = .ok (.ireturn, 1) := by decide +kernel
theorem dX11_leaveTold_160 : decode cX11_leaveTold 160 = .ok (.aload_n 0, 1) := by decide +kernel
theorem dX11_leaveTold_161 : decode cX11_leaveTold 161 = .ok (.getfield 37, 3) := by decide +kernel
theorem dX11_leaveTold_164 : decode cX11_leaveTold 164 = .ok (.getfield 242, 3) := by decide +kernel
theorem dX11_leaveTold_167 : decode cX11_leaveTold 167 = .ok (.iload_n 1, 1) := by decide +kernel
theorem dX11_leaveTold_168 : decode cX11_leaveTold 168 = .ok (.baload, 1) := by decide +kernel
theorem dX11_leaveTold_169 : decode cX11_leaveTold 169 = .ok (.ifCond .eq 7, 3) := by decide +kernel
theorem dX11_leaveTold_172 : decode cX11_leaveTold 172 = .ok (.iconst 1, 1) := by decide +kernel
theorem dX11_leaveTold_173 : decode cX11_leaveTold 173 = .ok (.goto 4, 3) := by decide +kernel
theorem dX11_leaveTold_176 : decode cX11_leaveTold 176 = .ok (.iconst 0, 1) := by decide +kernel
theorem dX11_leaveTold_177 : decode cX11_leaveTold 177 = .ok (.ireturn, 1) := by decide +kernel
theorem dX11_leaveTold_178 : decode cX11_leaveTold 178 = .ok (.bipush (-2), 2) := by decide +kernel
theorem dX11_leaveTold_180 : decode cX11_leaveTold 180 = .ok (.ireturn, 1) := by decide +kernel
theorem dX11_renew_0 : decode cX11_renew 0 = .ok (.aload_n 0, 1) := by decide +kernel
theorem dX11_renew_1 : decode cX11_renew 1 = .ok (.getfield 37, 3) := by decide +kernel
theorem dX11_renew_4 : decode cX11_renew 4 = .ok (.iload_n 1, 1) := by decide +kernel
theorem dX11_renew_5 : decode cX11_renew 5 = .ok (.invokevirtual 208, 3) := by decide +kernel
theorem dX11_renew_8 : decode cX11_renew 8 = .ok (.ifCond .ne 6, 3) := by decide +kernel
theorem dX11_renew_11 : decode cX11_renew 11 = .ok (.bipush (-2), 2) := by decide +kernel
theorem dX11_renew_13 : decode cX11_renew 13 = .ok (.ireturn, 1) := by decide +kernel
theorem dX11_renew_14 : decode cX11_renew 14 = .ok (.aload_n 0, 1) := by decide +kernel
theorem dX11_renew_15 : decode cX11_renew 15 = .ok (.getfield 37, 3) := by decide +kernel
theorem dX11_renew_18 : decode cX11_renew 18 = .ok (.getfield 220, 3) := by decide +kernel
theorem dX11_renew_21 : decode cX11_renew 21 = .ok (.iload_n 1, 1) := by decide +kernel
theorem dX11_renew_22 : decode cX11_renew 22 = .ok (.iaload, 1) := by decide +kernel
theorem dX11_renew_23 : decode cX11_renew 23 = .ok (.iconst 4, 1) := by decide +kernel
theorem dX11_renew_24 : decode cX11_renew 24 = .ok (.if_icmp .ne 6, 3) := by decide +kernel
theorem dX11_renew_27 : decode cX11_renew 27 = .ok (.bipush (-13), 2) := by decide +kernel
theorem dX11_renew_29 : decode cX11_renew 29 = .ok (.ireturn, 1) := by decide +kernel
theorem dX11_renew_30 : decode cX11_renew 30 = .ok (.aload_n 0, 1) := by decide +kernel
theorem dX11_renew_31 : decode cX11_renew 31 = .ok (.getfield 37, 3) := by decide +kernel
theorem dX11_renew_34 : decode cX11_renew 34 = .ok (.getfield 246, 3) := by decide +kernel
theorem dX11_renew_37 : decode cX11_renew 37 = .ok (.iload_n 1, 1) := by decide +kernel
theorem dX11_renew_38 : decode cX11_renew 38 = .ok (.iaload, 1) := by decide +kernel
theorem dX11_renew_39 : decode cX11_renew 39 = .ok (.iconst 5, 1) := by decide +kernel
theorem dX11_renew_40 : decode cX11_renew 40 = .ok (.if_icmp .lt 6, 3) := by decide +kernel
theorem dX11_renew_43 : decode cX11_renew 43 = .ok (.bipush (-3), 2) := by decide +kernel
theorem dX11_renew_45 : decode cX11_renew 45 = .ok (.ireturn, 1) := by decide +kernel
theorem dX11_renew_46 : decode cX11_renew 46 = .ok (.aload_n 0, 1) := by decide +kernel
theorem dX11_renew_47 : decode cX11_renew 47 = .ok (.getfield 37, 3) := by decide +kernel
theorem dX11_renew_50 : decode cX11_renew 50 = .ok (.getfield 246, 3) := by decide +kernel
theorem dX11_renew_53 : decode cX11_renew 53 = .ok (.iload_n 1, 1) := by decide +kernel
theorem dX11_renew_54 : decode cX11_renew 54 = .ok (.dup2, 1) := by decide +kernel
theorem dX11_renew_55 : decode cX11_renew 55 = .ok (.iaload, 1) := by decide +kernel
theorem dX11_renew_56 : decode cX11_renew 56 = .ok (.iconst 1, 1) := by decide +kernel
theorem dX11_renew_57 : decode cX11_renew 57 = .ok (.iadd, 1) := by decide +kernel
theorem dX11_renew_58 : decode cX11_renew 58 = .ok (.iastore, 1) := by decide +kernel
theorem dX11_renew_59 : decode cX11_renew 59 = .ok (.aload_n 0, 1) := by decide +kernel
theorem dX11_renew_60 : decode cX11_renew 60 = .ok (.getfield 37, 3) := by decide +kernel
theorem dX11_renew_63 : decode cX11_renew 63 = .ok (.getfield 246, 3) := by decide +kernel
theorem dX11_renew_66 : decode cX11_renew 66 = .ok (.iload_n 1, 1) := by decide +kernel
theorem dX11_renew_67 : decode cX11_renew 67 = .ok (.iaload, 1) := by decide +kernel
theorem dX11_renew_68 : decode cX11_renew 68 = .ok (.ireturn, 1) := by decide +kernel
theorem dX11_appeal_0 : decode cX11_appeal 0 = .ok (.aload_n 0, 1) := by decide +kernel
theorem dX11_appeal_1 : decode cX11_appeal 1 = .ok (.getfield 37, 3) := by decide +kernel
theorem dX11_appeal_4 : decode cX11_appeal 4 = .ok (.iload_n 1, 1) := by decide +kernel
theorem dX11_appeal_5 : decode cX11_appeal 5 = .ok (.invokevirtual 208, 3) := by decide +kernel
theorem dX11_appeal_8 : decode cX11_appeal 8 = .ok (.ifCond .ne 6, 3) := by decide +kernel
theorem dX11_appeal_11 : decode cX11_appeal 11 = .ok (.bipush (-2), 2) := by decide +kernel
theorem dX11_appeal_13 : decode cX11_appeal 13 = .ok (.ireturn, 1) := by decide +kernel
theorem dX11_appeal_14 : decode cX11_appeal 14 = .ok (.aload_n 0, 1) := by decide +kernel
theorem dX11_appeal_15 : decode cX11_appeal 15 = .ok (.getfield 37, 3) := by decide +kernel
theorem dX11_appeal_18 : decode cX11_appeal 18 = .ok (.getfield 220, 3) := by decide +kernel
theorem dX11_appeal_21 : decode cX11_appeal 21 = .ok (.iload_n 1, 1) := by decide +kernel
theorem dX11_appeal_22 : decode cX11_appeal 22 = .ok (.iaload, 1) := by decide +kernel
theorem dX11_appeal_23 : decode cX11_appeal 23 = .ok (.iconst 4, 1) := by decide +kernel
theorem dX11_appeal_24 : decode cX11_appeal 24 = .ok (.if_icmp .eq 6, 3) := by decide +kernel
theorem dX11_appeal_27 : decode cX11_appeal 27 = .ok (.bipush (-13), 2) := by decide +kernel
theorem dX11_appeal_29 : decode cX11_appeal 29 = .ok (.ireturn, 1) := by decide +kernel
theorem dX11_appeal_30 : decode cX11_appeal 30 = .ok (.aload_n 0, 1) := by decide +kernel
theorem dX11_appeal_31 : decode cX11_appeal 31 = .ok (.getfield 10, 3) := by decide +kernel
theorem dX11_appeal_34 : decode cX11_appeal 34 = .ok (.getfield 111, 3) := by decide +kernel
theorem dX11_appeal_37 : decode cX11_appeal 37 = .ok (.aload_n 0, 1) := by decide +kernel
theorem dX11_appeal_38 : decode cX11_appeal 38 = .ok (.getfield 37, 3) := by decide +kernel
theorem dX11_appeal_41 : decode cX11_appeal 41 = .ok (.getfield 223, 3) := by decide +kernel
theorem dX11_appeal_44 : decode cX11_appeal 44 = .ok (.iload_n 1, 1) := by decide +kernel
theorem dX11_appeal_45 : decode cX11_appeal 45 = .ok (.iaload, 1) := by decide +kernel
theorem dX11_appeal_46 : decode cX11_appeal 46 = .ok (.isub, 1) := by decide +kernel
theorem dX11_appeal_47 : decode cX11_appeal 47 = .ok (.istore_n 2, 1) := by decide +kernel
theorem dX11_appeal_48 : decode cX11_appeal 48 = .ok (.aload_n 0, 1) := by decide +kernel
theorem dX11_appeal_49 : decode cX11_appeal 49 = .ok (.getfield 37, 3) := by decide +kernel
theorem dX11_appeal_52 : decode cX11_appeal 52 = .ok (.getfield 242, 3) := by decide +kernel
theorem dX11_appeal_55 : decode cX11_appeal 55 = .ok (.iload_n 1, 1) := by decide +kernel
theorem dX11_appeal_56 : decode cX11_appeal 56 = .ok (.baload, 1) := by decide +kernel
theorem dX11_appeal_57 : decode cX11_appeal 57 = .ok (.ifCond .ne 13, 3) := by decide +kernel
theorem dX11_appeal_60 : decode cX11_appeal 60 = .ok (.iload_n 2, 1) := by decide +kernel
theorem dX11_appeal_61 : decode cX11_appeal 61 = .ok (.iconst 0, 1) := by decide +kernel
theorem dX11_appeal_62 : decode cX11_appeal 62 = .ok (.bipush 42, 2) := by decide +kernel
theorem dX11_appeal_64 : decode cX11_appeal 64 = .ok (.invokestatic 107, 3) := by decide +kernel
theorem dX11_appeal_67 : decode cX11_appeal 67 = .ok (.ifCond .ne 6, 3) := by decide +kernel
theorem dX11_appeal_70 : decode cX11_appeal 70 = .ok (.bipush (-3), 2) := by decide +kernel
theorem dX11_appeal_72 : decode cX11_appeal 72 = .ok (.ireturn, 1) := by decide +kernel
theorem dX11_appeal_73 : decode cX11_appeal 73 = .ok (.aload_n 0, 1) := by decide +kernel
theorem dX11_appeal_74 : decode cX11_appeal 74 = .ok (.getfield 37, 3) := by decide +kernel
theorem dX11_appeal_77 : decode cX11_appeal 77 = .ok (.getfield 242, 3) := by decide +kernel
theorem dX11_appeal_80 : decode cX11_appeal 80 = .ok (.iload_n 1, 1) := by decide +kernel
theorem dX11_appeal_81 : decode cX11_appeal 81 = .ok (.iconst 1, 1) := by decide +kernel
theorem dX11_appeal_82 : decode cX11_appeal 82 = .ok (.bastore, 1) := by decide +kernel
theorem dX11_appeal_83 : decode cX11_appeal 83 = .ok (.iconst 1, 1) := by decide +kernel
theorem dX11_appeal_84 : decode cX11_appeal 84 = .ok (.ireturn, 1) := by decide +kernel
theorem dX11_undo_0 : decode cX11_undo 0 = .ok (.aload_n 0, 1) := by decide +kernel
theorem dX11_undo_1 : decode cX11_undo 1 = .ok (.getfield 37, 3) := by decide +kernel
theorem dX11_undo_4 : decode cX11_undo 4 = .ok (.iload_n 1, 1) := by decide +kernel
theorem dX11_undo_5 : decode cX11_undo 5 = .ok (.invokevirtual 208, 3) := by decide +kernel
theorem dX11_undo_8 : decode cX11_undo 8 = .ok (.ifCond .eq 22, 3) := by decide +kernel
theorem dX11_undo_11 : decode cX11_undo 11 = .ok (.iload_n 2, 1) := by decide +kernel
theorem dX11_undo_12 : decode cX11_undo 12 = .ok (.aload_n 0, 1) := by decide +kernel
theorem dX11_undo_13 : decode cX11_undo 13 = .ok (.getfield 37, 3) := by decide +kernel
theorem dX11_undo_16 : decode cX11_undo 16 = .ok (.getfield 223, 3) := by decide +kernel
theorem dX11_undo_19 : decode cX11_undo 19 = .ok (.iload_n 1, 1) := by decide +kernel
theorem dX11_undo_20 : decode cX11_undo 20 = .ok (.iaload, 1) := by decide +kernel
theorem dX11_undo_21 : decode cX11_undo 21 = .ok (.sipush 9999, 3) := by decide +kernel
theorem dX11_undo_24 : decode cX11_undo 24 = .ok (.invokestatic 107, 3) := by decide +kernel
theorem dX11_undo_27 : decode cX11_undo 27 = .ok (.ifCond .ne 6, 3) := by decide +kernel
theorem dX11_undo_30 : decode cX11_undo 30 = .ok (.bipush (-2), 2) := by decide +kernel
theorem dX11_undo_32 : decode cX11_undo 32 = .ok (.ireturn, 1) := by decide +kernel
theorem dX11_undo_33 : decode cX11_undo 33 = .ok (.aload_n 0, 1) := by decide +kernel
theorem dX11_undo_34 : decode cX11_undo 34 = .ok (.getfield 37, 3) := by decide +kernel
theorem dX11_undo_37 : decode cX11_undo 37 = .ok (.getfield 220, 3) := by decide +kernel
theorem dX11_undo_40 : decode cX11_undo 40 = .ok (.iload_n 1, 1) := by decide +kernel
theorem dX11_undo_41 : decode cX11_undo 41 = .ok (.iaload, 1) := by decide +kernel
theorem dX11_undo_42 : decode cX11_undo 42 = .ok (.iconst 4, 1) := by decide +kernel
theorem dX11_undo_43 : decode cX11_undo 43 = .ok (.if_icmp .eq 6, 3) := by decide +kernel
theorem dX11_undo_46 : decode cX11_undo 46 = .ok (.bipush (-13), 2) := by decide +kernel
theorem dX11_undo_48 : decode cX11_undo 48 = .ok (.ireturn, 1) := by decide +kernel
theorem dX11_undo_49 : decode cX11_undo 49 = .ok (.aload_n 0, 1) := by decide +kernel
theorem dX11_undo_50 : decode cX11_undo 50 = .ok (.getfield 37, 3) := by decide +kernel
theorem dX11_undo_53 : decode cX11_undo 53 = .ok (.getfield 242, 3) := by decide +kernel
theorem dX11_undo_56 : decode cX11_undo 56 = .ok (.iload_n 1, 1) := by decide +kernel
theorem dX11_undo_57 : decode cX11_undo 57 = .ok (.baload, 1) := by decide +kernel
theorem dX11_undo_58 : decode cX11_undo 58 = .ok (.ifCond .eq 16, 3) := by decide +kernel
theorem dX11_undo_61 : decode cX11_undo 61 = .ok (.aload_n 0, 1) := by decide +kernel
theorem dX11_undo_62 : decode cX11_undo 62 = .ok (.getfield 37, 3) := by decide +kernel
theorem dX11_undo_65 : decode cX11_undo 65 = .ok (.getfield 239, 3) := by decide +kernel
theorem dX11_undo_68 : decode cX11_undo 68 = .ok (.iload_n 1, 1) := by decide +kernel
theorem dX11_undo_69 : decode cX11_undo 69 = .ok (.iaload, 1) := by decide +kernel
theorem dX11_undo_70 : decode cX11_undo 70 = .ok (.iconst (-1), 1) := by decide +kernel
theorem dX11_undo_71 : decode cX11_undo 71 = .ok (.if_icmp .eq 6, 3) := by decide +kernel
theorem dX11_undo_74 : decode cX11_undo 74 = .ok (.bipush (-3), 2) := by decide +kernel
theorem dX11_undo_76 : decode cX11_undo 76 = .ok (.ireturn, 1) := by decide +kernel
theorem dX11_undo_77 : decode cX11_undo 77 = .ok (.aload_n 0, 1) := by decide +kernel
theorem dX11_undo_78 : decode cX11_undo 78 = .ok (.getfield 37, 3) := by decide +kernel
theorem dX11_undo_81 : decode cX11_undo 81 = .ok (.getfield 239, 3) := by decide +kernel
theorem dX11_undo_84 : decode cX11_undo 84 = .ok (.iload_n 1, 1) := by decide +kernel
theorem dX11_undo_85 : decode cX11_undo 85 = .ok (.iload_n 2, 1) := by decide +kernel
theorem dX11_undo_86 : decode cX11_undo 86 = .ok (.iastore, 1) := by decide +kernel
theorem dX11_undo_87 : decode cX11_undo 87 = .ok (.aload_n 0, 1) := by decide +kernel
theorem dX11_undo_88 : decode cX11_undo 88 = .ok (.getfield 37, 3) := by decide +kernel
theorem dX11_undo_91 : decode cX11_undo 91 = .ok (.iload_n 1, 1) := by decide +kernel
theorem dX11_undo_92 : decode cX11_undo 92 = .ok (.invokevirtual 249, 3) := by decide +kernel
theorem dX11_undo_95 : decode cX11_undo 95 = .ok (.ireturn, 1) := by decide +kernel
theorem dX11_has_0 : decode cX11_has 0 = .ok (.aload_n 0, 1) := by decide +kernel
theorem dX11_has_1 : decode cX11_has 1 = .ok (.getfield 28, 3) := by decide +kernel
theorem dX11_has_4 : decode cX11_has 4 = .ok (.iload_n 1, 1) := by decide +kernel
theorem dX11_has_5 : decode cX11_has 5 = .ok (.invokevirtual 175, 3) := by decide +kernel
theorem dX11_has_8 : decode cX11_has 8 = .ok (.ifCond .eq 10, 3) := by decide +kernel
theorem dX11_has_11 : decode cX11_has 11 = .ok (.iload_n 2, 1) := by decide +kernel
theorem dX11_has_12 : decode cX11_has 12 = .ok (.invokestatic 132, 3) := by decide +kernel
theorem dX11_has_15 : decode cX11_has 15 = .ok (.ifCond .ne 6, 3) := by decide +kernel
theorem dX11_has_18 : decode cX11_has 18 = .ok (.bipush (-2), 2) := by decide +kernel
theorem dX11_has_20 : decode cX11_has 20 = .ok (.ireturn, 1) := by decide +kernel
theorem dX11_has_21 : decode cX11_has 21 = .ok (.aload_n 0, 1) := by decide +kernel
theorem dX11_has_22 : decode cX11_has 22 = .ok (.getfield 37, 3) := by decide +kernel
theorem dX11_has_25 : decode cX11_has 25 = .ok (.iload_n 1, 1) := by decide +kernel
theorem dX11_has_26 : decode cX11_has 26 = .ok (.iload_n 2, 1) := by decide +kernel
theorem dX11_has_27 : decode cX11_has 27 = .ok (.invokevirtual 252, 3) := by decide +kernel
theorem dX11_has_30 : decode cX11_has 30 = .ok (.ireturn, 1) := by decide +kernel
theorem dX11_yearly_0 : decode cX11_yearly 0 = .ok (.iload_n 1, 1) := by decide +kernel
theorem dX11_yearly_1 : decode cX11_yearly 1 = .ok (.invokestatic 119, 3) := by decide +kernel
theorem dX11_yearly_4 : decode cX11_yearly 4 = .ok (.ifCond .eq 10, 3) := by decide +kernel
theorem dX11_yearly_7 : decode cX11_yearly 7 = .ok (.iload_n 2, 1) := by decide +kernel
theorem dX11_yearly_8 : decode cX11_yearly 8 = .ok (.invokestatic 132, 3) := by decide +kernel
theorem dX11_yearly_11 : decode cX11_yearly 11 = .ok (.ifCond .ne 7, 3) := by decide +kernel
theorem dX11_yearly_14 : decode cX11_yearly 14 = .ok (.ldc2_w 181, 3) := by decide +kernel
theorem dX11_yearly_17 : decode cX11_yearly 17 = .ok (.lreturn, 1) := by decide +kernel
theorem dX11_yearly_18 : decode cX11_yearly 18 = .ok (.aload_n 0, 1) := by decide +kernel
theorem dX11_yearly_19 : decode cX11_yearly 19 = .ok (.getfield 37, 3) := by decide +kernel
theorem dX11_yearly_22 : decode cX11_yearly 22 = .ok (.iload_n 1, 1) := by decide +kernel
theorem dX11_yearly_23 : decode cX11_yearly 23 = .ok (.iload_n 2, 1) := by decide +kernel
theorem dX11_yearly_24 : decode cX11_yearly 24 = .ok (.invokevirtual 255, 3) := by decide +kernel
theorem dX11_yearly_27 : decode cX11_yearly 27 = .ok (.lreturn, 1) := by decide +kernel
theorem dX11_feed_0 : decode cX11_feed 0 = .ok (.iload_n 1, 1) := by decide +kernel
theorem dX11_feed_1 : decode cX11_feed 1 = .ok (.iconst 1, 1) := by decide +kernel
theorem dX11_feed_2 : decode cX11_feed 2 = .ok (.bipush 8, 2) := by decide +kernel
theorem dX11_feed_4 : decode cX11_feed 4 = .ok (.invokestatic 107, 3) := by decide +kernel
theorem dX11_feed_7 : decode cX11_feed 7 = .ok (.ifCond .ne 6, 3) := by decide +kernel
theorem dX11_feed_10 : decode cX11_feed 10 = .ok (.bipush (-2), 2) := by decide +kernel
theorem dX11_feed_12 : decode cX11_feed 12 = .ok (.ireturn, 1) := by decide +kernel
theorem dX11_feed_13 : decode cX11_feed 13 = .ok (.aload_n 0, 1) := by decide +kernel
theorem dX11_feed_14 : decode cX11_feed 14 = .ok (.getfield 44, 3) := by decide +kernel
theorem dX11_feed_17 : decode cX11_feed 17 = .ok (.getfield 259, 3) := by decide +kernel
theorem dX11_feed_20 : decode cX11_feed 20 = .ok (.iload_n 1, 1) := by decide +kernel
theorem dX11_feed_21 : decode cX11_feed 21 = .ok (.iadd, 1) := by decide +kernel
theorem dX11_feed_22 : decode cX11_feed 22 = .ok (.sipush 160, 3) := by decide +kernel
theorem dX11_feed_25 : decode cX11_feed 25 = .ok (.if_icmp .le 6, 3) := by decide +kernel
theorem dX11_feed_28 : decode cX11_feed 28 = .ok (.bipush (-4), 2) := by decide +kernel
theorem dX11_feed_30 : decode cX11_feed 30 = .ok (.ireturn, 1) := by decide +kernel
theorem dX11_feed_31 : decode cX11_feed 31 = .ok (.iconst 0, 1) := by decide +kernel
theorem dX11_feed_32 : decode cX11_feed 32 = .ok (.istore 4, 2) := by decide +kernel
theorem dX11_feed_34 : decode cX11_feed 34 = .ok (.iload 4, 2) := by decide +kernel
theorem dX11_feed_36 : decode cX11_feed 36 = .ok (.iload_n 1, 1) := by decide +kernel
theorem dX11_feed_37 : decode cX11_feed 37 = .ok (.if_icmp .ge 28, 3) := by decide +kernel
theorem dX11_feed_40 : decode cX11_feed 40 = .ok (.aload_n 0, 1) := by decide +kernel
theorem dX11_feed_41 : decode cX11_feed 41 = .ok (.getfield 44, 3) := by decide +kernel
theorem dX11_feed_44 : decode cX11_feed 44 = .ok (.lload_n 2, 1) := by decide +kernel
theorem dX11_feed_45 : decode cX11_feed 45 = .ok (.bipush 8, 2) := by decide +kernel
theorem dX11_feed_47 : decode cX11_feed 47 = .ok (.iload 4, 2) := by decide +kernel
theorem dX11_feed_49 : decode cX11_feed 49 = .ok (.imul, 1) := by decide +kernel
theorem dX11_feed_50 : decode cX11_feed 50 = .ok (.lushr, 1) := by decide +kernel
theorem dX11_feed_51 : decode cX11_feed 51 = .ok (.l2i, 1) := by decide +kernel
theorem dX11_feed_52 : decode cX11_feed 52 = .ok (.sipush 255, 3) := by decide +kernel
theorem dX11_feed_55 : decode cX11_feed 55 = .ok (.iand, 1) := by decide +kernel
theorem dX11_feed_56 : decode cX11_feed 56 = .ok (.invokevirtual 262, 3) := by decide +kernel
theorem dX11_feed_59 : decode cX11_feed 59 = .ok (.iinc 4 1, 3) := by decide +kernel
theorem dX11_feed_62 : decode cX11_feed 62 = .ok (.goto (-28), 3) := by decide +kernel
theorem dX11_feed_65 : decode cX11_feed 65 = .ok (.aload_n 0, 1) := by decide +kernel
theorem dX11_feed_66 : decode cX11_feed 66 = .ok (.getfield 44, 3) := by decide +kernel
theorem dX11_feed_69 : decode cX11_feed 69 = .ok (.getfield 259, 3) := by decide +kernel
theorem dX11_feed_72 : decode cX11_feed 72 = .ok (.ireturn, 1) := by decide +kernel
theorem dX11_text_0 : decode cX11_text 0 = .ok (.aload_n 0, 1) := by decide +kernel
theorem dX11_text_1 : decode cX11_text 1 = .ok (.getfield 53, 3) := by decide +kernel
theorem dX11_text_4 : decode cX11_text 4 = .ok (.getfield 266, 3) := by decide +kernel
theorem dX11_text_7 : decode cX11_text 7 = .ok (.bipush 6, 2) := by decide +kernel
theorem dX11_text_9 : decode cX11_text 9 = .ok (.if_icmp .lt 6, 3) := by decide +kernel
theorem dX11_text_12 : decode cX11_text 12 = .ok (.bipush (-4), 2) := by decide +kernel
theorem dX11_text_14 : decode cX11_text 14 = .ok (.ireturn, 1) := by decide +kernel
theorem dX11_text_15 : decode cX11_text 15 = .ok (.aload_n 0, 1) := by decide +kernel
theorem dX11_text_16 : decode cX11_text 16 = .ok (.getfield 44, 3) := by decide +kernel
theorem dX11_text_19 : decode cX11_text 19 = .ok (.invokevirtual 99, 3) := by decide +kernel
theorem dX11_text_22 : decode cX11_text 22 = .ok (.istore_n 1, 1) := by decide +kernel
theorem dX11_text_23 : decode cX11_text 23 = .ok (.iload_n 1, 1) := by decide +kernel
theorem dX11_text_24 : decode cX11_text 24 = .ok (.iconst (-1), 1) := by decide +kernel
theorem dX11_text_25 : decode cX11_text 25 = .ok (.if_icmp .eq 8, 3) := by decide +kernel
theorem dX11_text_28 : decode cX11_text 28 = .ok (.bipush (-100), 2) := by decide +kernel
theorem dX11_text_30 : decode cX11_text 30 = .ok (.iload_n 1, 1) := by decide +kernel
theorem dX11_text_31 : decode cX11_text 31 = .ok (.isub, 1) := by decide +kernel
theorem dX11_text_32 : decode cX11_text 32 = .ok (.ireturn, 1) := by decide +kernel
theorem dX11_text_33 : decode cX11_text 33 = .ok (.aload_n 0, 1) := by decide +kernel
theorem dX11_text_34 : decode cX11_text 34 = .ok (.getfield 53, 3) := by decide +kernel
theorem dX11_text_37 : decode cX11_text 37 = .ok (.aload_n 0, 1) := by decide +kernel
theorem dX11_text_38 : decode cX11_text 38 = .ok (.getfield 44, 3) := by decide +kernel
theorem dX11_text_41 : decode cX11_text 41 = .ok (.invokevirtual 103, 3) := by decide +kernel
theorem dX11_text_44 : decode cX11_text 44 = .ok (.ireturn, 1) := by decide +kernel
theorem dX11_force_0 : decode cX11_force 0 = .ok (.iload_n 1, 1) := by decide +kernel
theorem dX11_force_1 : decode cX11_force 1 = .ok (.iconst 0, 1) := by decide +kernel
theorem dX11_force_2 : decode cX11_force 2 = .ok (.aload_n 0, 1) := by decide +kernel
theorem dX11_force_3 : decode cX11_force 3 = .ok (.getfield 53, 3) := by decide +kernel
theorem dX11_force_6 : decode cX11_force 6 = .ok (.getfield 266, 3) := by decide +kernel
theorem dX11_force_9 : decode cX11_force 9 = .ok (.iconst 1, 1) := by decide +kernel
theorem dX11_force_10 : decode cX11_force 10 = .ok (.isub, 1) := by decide +kernel
theorem dX11_force_11 : decode cX11_force 11 = .ok (.invokestatic 107, 3) := by decide +kernel
theorem dX11_force_14 : decode cX11_force 14 = .ok (.ifCond .ne 6, 3) := by decide +kernel
theorem dX11_force_17 : decode cX11_force 17 = .ok (.bipush (-2), 2) := by decide +kernel
theorem dX11_force_19 : decode cX11_force 19 = .ok (.ireturn, 1) := by decide +kernel
theorem dX11_force_20 : decode cX11_force 20 = .ok (.aload_n 0, 1) := by decide +kernel
theorem dX11_force_21 : decode cX11_force 21 = .ok (.getfield 53, 3) := by decide +kernel
theorem dX11_force_24 : decode cX11_force 24 = .ok (.getfield 267, 3) := by decide +kernel
theorem dX11_force_27 : decode cX11_force 27 = .ok (.istore_n 2, 1) := by decide +kernel
theorem dX11_force_28 : decode cX11_force 28 = .ok (.aload_n 0, 1) := by decide +kernel
theorem dX11_force_29 : decode cX11_force 29 = .ok (.getfield 53, 3) := by decide +kernel
theorem dX11_force_32 : decode cX11_force 32 = .ok (.iload_n 1, 1) := by decide +kernel
theorem dX11_force_33 : decode cX11_force 33 = .ok (.putfield 267, 3) := by decide +kernel
theorem dX11_force_36 : decode cX11_force 36 = .ok (.iload_n 2, 1) := by decide +kernel
theorem dX11_force_37 : decode cX11_force 37 = .ok (.ireturn, 1) := by decide +kernel
theorem dX11_says_0 : decode cX11_says 0 = .ok (.aload_n 0, 1) := by decide +kernel
theorem dX11_says_1 : decode cX11_says 1 = .ok (.getfield 28, 3) := by decide +kernel
theorem dX11_says_4 : decode cX11_says 4 = .ok (.iload_n 1, 1) := by decide +kernel
theorem dX11_says_5 : decode cX11_says 5 = .ok (.invokevirtual 175, 3) := by decide +kernel
theorem dX11_says_8 : decode cX11_says 8 = .ok (.ifCond .eq 12, 3) := by decide +kernel
theorem dX11_says_11 : decode cX11_says 11 = .ok (.iload_n 2, 1) := by decide +kernel
theorem dX11_says_12 : decode cX11_says 12 = .ok (.iconst 0, 1) := by decide +kernel
theorem dX11_says_13 : decode cX11_says 13 = .ok (.iconst 1, 1) := by decide +kernel
theorem dX11_says_14 : decode cX11_says 14 = .ok (.invokestatic 107, 3) := by decide +kernel
theorem dX11_says_17 : decode cX11_says 17 = .ok (.ifCond .ne 7, 3) := by decide +kernel
theorem dX11_says_20 : decode cX11_says 20 = .ok (.ldc2_w 181, 3) := by decide +kernel
theorem dX11_says_23 : decode cX11_says 23 = .ok (.lreturn, 1) := by decide +kernel
theorem dX11_says_24 : decode cX11_says 24 = .ok (.aload_n 0, 1) := by decide +kernel
theorem dX11_says_25 : decode cX11_says 25 = .ok (.getfield 53, 3) := by decide +kernel
theorem dX11_says_28 : decode cX11_says 28 = .ok (.iload_n 1, 1) := by decide +kernel
theorem dX11_says_29 : decode cX11_says 29 = .ok (.iload_n 2, 1) := by decide +kernel
theorem dX11_says_30 : decode cX11_says 30 = .ok (.invokevirtual 270, 3) := by decide +kernel
theorem dX11_says_33 : decode cX11_says 33 = .ok (.i2l, 1) := by decide +kernel
theorem dX11_says_34 : decode cX11_says 34 = .ok (.lreturn, 1) := by decide +kernel
theorem dX11_claim_0 : decode cX11_claim 0 = .ok (.iload_n 1, 1) := by decide +kernel
theorem dX11_claim_1 : decode cX11_claim 1 = .ok (.invokestatic 119, 3) := by decide +kernel
theorem dX11_claim_4 : decode cX11_claim 4 = .ok (.ifCond .eq 24, 3) := by decide +kernel
theorem dX11_claim_7 : decode cX11_claim 7 = .ok (.aload_n 0, 1) := by decide +kernel
theorem dX11_claim_8 : decode cX11_claim 8 = .ok (.getfield 28, 3) := by decide +kernel
theorem dX11_claim_11 : decode cX11_claim 11 = .ok (.iload_n 2, 1) := by decide +kernel
theorem dX11_claim_12 : decode cX11_claim 12 = .ok (.invokevirtual 175, 3) := by decide +kernel
theorem dX11_claim_15 : decode cX11_claim 15 = .ok (.ifCond .eq 13, 3) := by decide +kernel
theorem dX11_claim_18 : decode cX11_claim 18 = .ok (.iload_n 3, 1) := by decide +kernel
theorem dX11_claim_19 : decode cX11_claim 19 = .ok (.iconst 0, 1) := by decide +kernel
theorem dX11_claim_20 : decode cX11_claim 20 = .ok (.ldc 207, 2) := by decide +kernel
theorem dX11_claim_22 : decode cX11_claim 22 = .ok (.invokestatic 107, 3) := by decide +kernel
theorem dX11_claim_25 : decode cX11_claim 25 = .ok (.ifCond .ne 6, 3) := by decide +kernel
theorem dX11_claim_28 : decode cX11_claim 28 = .ok (.bipush (-2), 2) := by decide +kernel
theorem dX11_claim_30 : decode cX11_claim 30 = .ok (.ireturn, 1) := by decide +kernel
theorem dX11_claim_31 : decode cX11_claim 31 = .ok (.aload_n 0, 1) := by decide +kernel
theorem dX11_claim_32 : decode cX11_claim 32 = .ok (.getfield 62, 3) := by decide +kernel
theorem dX11_claim_35 : decode cX11_claim 35 = .ok (.getfield 273, 3) := by decide +kernel
theorem dX11_claim_38 : decode cX11_claim 38 = .ok (.bipush 30, 2) := by decide +kernel
theorem dX11_claim_40 : decode cX11_claim 40 = .ok (.if_icmp .lt 6, 3) := by decide +kernel
theorem dX11_claim_43 : decode cX11_claim 43 = .ok (.bipush (-4), 2) := by decide +kernel
theorem dX11_claim_45 : decode cX11_claim 45 = .ok (.ireturn, 1) := by decide +kernel
theorem dX11_claim_46 : decode cX11_claim 46 = .ok (.aload_n 0, 1) := by decide +kernel
theorem dX11_claim_47 : decode cX11_claim 47 = .ok (.getfield 62, 3) := by decide +kernel
theorem dX11_claim_50 : decode cX11_claim 50 = .ok (.iload_n 1, 1) := by decide +kernel
theorem dX11_claim_51 : decode cX11_claim 51 = .ok (.iload_n 2, 1) := by decide +kernel
theorem dX11_claim_52 : decode cX11_claim 52 = .ok (.iload_n 3, 1) := by decide +kernel
theorem dX11_claim_53 : decode cX11_claim 53 = .ok (.invokevirtual 274, 3) := by decide +kernel
theorem dX11_claim_56 : decode cX11_claim 56 = .ok (.ireturn, 1) := by decide +kernel
theorem dX11_doubled_0 : decode cX11_doubled 0 = .ok (.aload_n 0, 1) := by decide +kernel
theorem dX11_doubled_1 : decode cX11_doubled 1 = .ok (.getfield 62, 3) := by decide +kernel
theorem dX11_doubled_4 : decode cX11_doubled 4 = .ok (.getfield 276, 3) := by decide +kernel
theorem dX11_doubled_7 : decode cX11_doubled 7 = .ok (.ireturn, 1) := by decide +kernel
theorem dX11_due_0 : decode cX11_due 0 = .ok (.iload_n 1, 1) := by decide +kernel
theorem dX11_due_1 : decode cX11_due 1 = .ok (.invokestatic 119, 3) := by decide +kernel
theorem dX11_due_4 : decode cX11_due 4 = .ok (.ifCond .ne 7, 3) := by decide +kernel
theorem dX11_due_7 : decode cX11_due 7 = .ok (.ldc2_w 181, 3) := by decide +kernel
theorem dX11_due_10 : decode cX11_due 10 = .ok (.lreturn, 1) := by decide +kernel
theorem dX11_due_11 : decode cX11_due 11 = .ok (.aload_n 0, 1) := by decide +kernel
theorem dX11_due_12 : decode cX11_due 12 = .ok (.getfield 62, 3) := by decide +kernel
theorem dX11_due_15 : decode cX11_due 15 = .ok (.iload_n 1, 1) := by decide +kernel
theorem dX11_due_16 : decode cX11_due 16 = .ok (.invokevirtual 279, 3) := by decide +kernel
theorem dX11_due_19 : decode cX11_due 19 = .ok (.lreturn, 1) := by decide +kernel
theorem dX11_look_0 : decode cX11_look 0 = .ok (.iload_n 1, 1) := by decide +kernel
theorem dX11_look_1 : decode cX11_look 1 = .ok (.invokestatic 115, 3) := by decide +kernel
theorem dX11_look_4 : decode cX11_look 4 = .ok (.ifCond .eq 23, 3) := by decide +kernel
theorem dX11_look_7 : decode cX11_look 7 = .ok (.iload_n 2, 1) := by decide +kernel
theorem dX11_look_8 : decode cX11_look 8 = .ok (.iconst 0, 1) := by decide +kernel
theorem dX11_look_9 : decode cX11_look 9 = .ok (.ldc 207, 2) := by decide +kernel
theorem dX11_look_11 : decode cX11_look 11 = .ok (.invokestatic 107, 3) := by decide +kernel
theorem dX11_look_14 : decode cX11_look 14 = .ok (.ifCond .eq 13, 3) := by decide +kernel
theorem dX11_look_17 : decode cX11_look 17 = .ok (.iload_n 3, 1) := by decide +kernel
theorem dX11_look_18 : decode cX11_look 18 = .ok (.iconst 0, 1) := by decide +kernel
theorem dX11_look_19 : decode cX11_look 19 = .ok (.bipush 50, 2) := by decide +kernel
theorem dX11_look_21 : decode cX11_look 21 = .ok (.invokestatic 107, 3) := by decide +kernel
theorem dX11_look_24 : decode cX11_look 24 = .ok (.ifCond .ne 6, 3) := by decide +kernel
theorem dX11_look_27 : decode cX11_look 27 = .ok (.bipush (-2), 2) := by decide +kernel
theorem dX11_look_29 : decode cX11_look 29 = .ok (.ireturn, 1) := by decide +kernel
theorem dX11_look_30 : decode cX11_look 30 = .ok (.aload_n 0, 1) := by decide +kernel
theorem dX11_look_31 : decode cX11_look 31 = .ok (.getfield 69, 3) := by decide +kernel
theorem dX11_look_34 : decode cX11_look 34 = .ok (.getfield 283, 3) := by decide +kernel
theorem dX11_look_37 : decode cX11_look 37 = .ok (.bipush 20, 2) := by decide +kernel
theorem dX11_look_39 : decode cX11_look 39 = .ok (.if_icmp .lt 6, 3) := by decide +kernel
theorem dX11_look_42 : decode cX11_look 42 = .ok (.bipush (-4), 2) := by decide +kernel
theorem dX11_look_44 : decode cX11_look 44 = .ok (.ireturn, 1) := by decide +kernel
theorem dX11_look_45 : decode cX11_look 45 = .ok (.aload_n 0, 1) := by decide +kernel
theorem dX11_look_46 : decode cX11_look 46 = .ok (.getfield 69, 3) := by decide +kernel
theorem dX11_look_49 : decode cX11_look 49 = .ok (.iload_n 1, 1) := by decide +kernel
theorem dX11_look_50 : decode cX11_look 50 = .ok (.iload_n 2, 1) := by decide +kernel
theorem dX11_look_51 : decode cX11_look 51 = .ok (.iload_n 3, 1) := by decide +kernel
theorem dX11_look_52 : decode cX11_look 52 = .ok (.invokevirtual 284, 3) := by decide +kernel
theorem dX11_look_55 : decode cX11_look 55 = .ok (.ireturn, 1) := by decide +kernel
theorem dX11_bounds_0 : decode cX11_bounds 0 = .ok (.iload_n 1, 1) := by decide +kernel
theorem dX11_bounds_1 : decode cX11_bounds 1 = .ok (.invokestatic 115, 3) := by decide +kernel
theorem dX11_bounds_4 : decode cX11_bounds 4 = .ok (.ifCond .eq 12, 3) := by decide +kernel
theorem dX11_bounds_7 : decode cX11_bounds 7 = .ok (.iload_n 2, 1) := by decide +kernel
theorem dX11_bounds_8 : decode cX11_bounds 8 = .ok (.iconst 0, 1) := by decide +kernel
theorem dX11_bounds_9 : decode cX11_bounds 9 = .ok (.iconst 1, 1) := by decide +kernel
theorem dX11_bounds_10 : decode cX11_bounds 10 = .ok (.invokestatic 107, 3) := by decide +kernel
theorem dX11_bounds_13 : decode cX11_bounds 13 = .ok (.ifCond .ne 6, 3) := by decide +kernel
theorem dX11_bounds_16 : decode cX11_bounds 16 = .ok (.bipush (-5), 2) := by decide +kernel
theorem dX11_bounds_18 : decode cX11_bounds 18 = .ok (.ireturn, 1) := by decide +kernel
theorem dX11_bounds_19 : decode cX11_bounds 19 = .ok (.aload_n 0, 1) := by decide +kernel
theorem dX11_bounds_20 : decode cX11_bounds 20 = .ok (.getfield 69, 3) := by decide +kernel
theorem dX11_bounds_23 : decode cX11_bounds 23 = .ok (.iload_n 1, 1) := by decide +kernel
theorem dX11_bounds_24 : decode cX11_bounds 24 = .ok (.iload_n 2, 1) := by decide +kernel
theorem dX11_bounds_25 : decode cX11_bounds 25 = .ok (.invokevirtual 285, 3) := by decide +kernel
theorem dX11_bounds_28 : decode cX11_bounds 28 = .ok (.ireturn, 1) := by decide +kernel
theorem dX11_hold_0 : decode cX11_hold 0 = .ok (.iload_n 1, 1) := by decide +kernel
theorem dX11_hold_1 : decode cX11_hold 1 = .ok (.invokestatic 119, 3) := by decide +kernel
theorem dX11_hold_4 : decode cX11_hold 4 = .ok (.ifCond .eq 14, 3) := by decide +kernel
theorem dX11_hold_7 : decode cX11_hold 7 = .ok (.iload_n 2, 1) := by decide +kernel
theorem dX11_hold_8 : decode cX11_hold 8 = .ok (.iconst 0, 1) := by decide +kernel
theorem dX11_hold_9 : decode cX11_hold 9 = .ok (.sipush 9999, 3) := by decide +kernel
theorem dX11_hold_12 : decode cX11_hold 12 = .ok (.invokestatic 107, 3) := by decide +kernel
theorem dX11_hold_15 : decode cX11_hold 15 = .ok (.ifCond .ne 6, 3) := by decide +kernel
theorem dX11_hold_18 : decode cX11_hold 18 = .ok (.bipush (-2), 2) := by decide +kernel
theorem dX11_hold_20 : decode cX11_hold 20 = .ok (.ireturn, 1) := by decide +kernel
theorem dX11_hold_21 : decode cX11_hold 21 = .ok (.aload_n 0, 1) := by decide +kernel
theorem dX11_hold_22 : decode cX11_hold 22 = .ok (.getfield 10, 3) := by decide +kernel
theorem dX11_hold_25 : decode cX11_hold 25 = .ok (.getfield 288, 3) := by decide +kernel
theorem dX11_hold_28 : decode cX11_hold 28 = .ok (.iload_n 1, 1) := by decide +kernel
theorem dX11_hold_29 : decode cX11_hold 29 = .ok (.iaload, 1) := by decide +kernel
theorem dX11_hold_30 : decode cX11_hold 30 = .ok (.istore_n 3, 1) := by decide +kernel
theorem dX11_hold_31 : decode cX11_hold 31 = .ok (.aload_n 0, 1) := by decide +kernel
theorem dX11_hold_32 : decode cX11_hold 32 = .ok (.getfield 10, 3) := by decide +kernel
theorem dX11_hold_35 : decode cX11_hold 35 = .ok (.getfield 288, 3) := by decide +kernel
theorem dX11_hold_38 : decode cX11_hold 38 = .ok (.iload_n 1, 1) := by decide +kernel
theorem dX11_hold_39 : decode cX11_hold 39 = .ok (.iload_n 2, 1) := by decide +kernel
theorem dX11_hold_40 : decode cX11_hold 40 = .ok (.iastore, 1) := by decide +kernel
theorem dX11_hold_41 : decode cX11_hold 41 = .ok (.iload_n 3, 1) := by decide +kernel
theorem dX11_hold_42 : decode cX11_hold 42 = .ok (.ireturn, 1) := by decide +kernel
theorem dX11_way_0 : decode cX11_way 0 = .ok (.iload_n 1, 1) := by decide +kernel
theorem dX11_way_1 : decode cX11_way 1 = .ok (.invokestatic 115, 3) := by decide +kernel
theorem dX11_way_4 : decode cX11_way 4 = .ok (.ifCond .eq 10, 3) := by decide +kernel
theorem dX11_way_7 : decode cX11_way 7 = .ok (.iload_n 2, 1) := by decide +kernel
theorem dX11_way_8 : decode cX11_way 8 = .ok (.invokestatic 115, 3) := by decide +kernel
theorem dX11_way_11 : decode cX11_way 11 = .ok (.ifCond .ne 6, 3) := by decide +kernel
theorem dX11_way_14 : decode cX11_way 14 = .ok (.bipush (-2), 2) := by decide +kernel
theorem dX11_way_16 : decode cX11_way 16 = .ok (.ireturn, 1) := by decide +kernel
theorem dX11_way_17 : decode cX11_way 17 = .ok (.aload_n 0, 1) := by decide +kernel
theorem dX11_way_18 : decode cX11_way 18 = .ok (.getfield 76, 3) := by decide +kernel
theorem dX11_way_21 : decode cX11_way 21 = .ok (.iload_n 1, 1) := by decide +kernel
theorem dX11_way_22 : decode cX11_way 22 = .ok (.iload_n 2, 1) := by decide +kernel
theorem dX11_way_23 : decode cX11_way 23 = .ok (.iconst (-1), 1) := by decide +kernel
theorem dX11_way_24 : decode cX11_way 24 = .ok (.iconst (-1), 1) := by decide +kernel
theorem dX11_way_25 : decode cX11_way 25 = .ok (.invokevirtual 291, 3) := by decide +kernel
theorem dX11_way_28 : decode cX11_way 28 = .ok (.istore 4, 2) := by decide +kernel
theorem dX11_way_30 : decode cX11_way 30 = .ok (.iload 4, 2) := by decide +kernel
theorem dX11_way_32 : decode cX11_way 32 = .ok (.iconst (-1), 1) := by decide +kernel
theorem dX11_way_33 : decode cX11_way 33 = .ok (.if_icmp .eq 8, 3) := by decide +kernel
theorem dX11_way_36 : decode cX11_way 36 = .ok (.iload_n 3, 1) := by decide +kernel
theorem dX11_way_37 : decode cX11_way 37 = .ok (.iconst (-1), 1) := by decide +kernel
theorem dX11_way_38 : decode cX11_way 38 = .ok (.if_icmp .ne 6, 3) := by decide +kernel
theorem dX11_way_41 : decode cX11_way 41 = .ok (.iload 4, 2) := by decide +kernel
theorem dX11_way_43 : decode cX11_way 43 = .ok (.ireturn, 1) := by decide +kernel
theorem dX11_way_44 : decode cX11_way 44 = .ok (.aload_n 0, 1) := by decide +kernel
theorem dX11_way_45 : decode cX11_way 45 = .ok (.getfield 76, 3) := by decide +kernel
theorem dX11_way_48 : decode cX11_way 48 = .ok (.iload_n 1, 1) := by decide +kernel
theorem dX11_way_49 : decode cX11_way 49 = .ok (.iload_n 3, 1) := by decide +kernel
theorem dX11_way_50 : decode cX11_way 50 = .ok (.invokevirtual 294, 3) := by decide +kernel
theorem dX11_way_53 : decode cX11_way 53 = .ok (.ireturn, 1) := by decide +kernel
theorem dX11_couldAsk_0 : decode cX11_couldAsk 0 = .ok (.iload_n 1, 1) := by decide +kernel
theorem dX11_couldAsk_1 : decode cX11_couldAsk 1 = .ok (.invokestatic 119, 3) := by decide +kernel
theorem dX11_couldAsk_4 : decode cX11_couldAsk 4 = .ok (.ifCond .eq 17, 3) := by decide +kernel
theorem dX11_couldAsk_7 : decode cX11_couldAsk 7 = .ok (.iload_n 2, 1) := by decide +kernel
theorem dX11_couldAsk_8 : decode cX11_couldAsk 8 = .ok (.invokestatic 115, 3) := by decide +kernel
theorem dX11_couldAsk_11 : decode cX11_couldAsk 11 = .ok (.ifCond .eq 10, 3) := by decide +kernel
theorem dX11_couldAsk_14 : decode cX11_couldAsk 14 = .ok (.iload_n 3, 1) := by decide +kernel
theorem dX11_couldAsk_15 : decode cX11_couldAsk 15 = .ok (.invokestatic 115, 3) := by decide +kernel
theorem dX11_couldAsk_18 : decode cX11_couldAsk 18 = .ok (.ifCond .ne 6, 3) := by decide +kernel
theorem dX11_couldAsk_21 : decode cX11_couldAsk 21 = .ok (.bipush (-2), 2) := by decide +kernel
theorem dX11_couldAsk_23 : decode cX11_couldAsk 23 = .ok (.ireturn, 1) := by decide +kernel
theorem dX11_couldAsk_24 : decode cX11_couldAsk 24 = .ok (.aload_n 0, 1) := by decide +kernel
theorem dX11_couldAsk_25 : decode cX11_couldAsk 25 = .ok (.getfield 76, 3) := by decide +kernel
theorem dX11_couldAsk_28 : decode cX11_couldAsk 28 = .ok (.iload_n 2, 1) := by decide +kernel
theorem dX11_couldAsk_29 : decode cX11_couldAsk 29 = .ok (.iload_n 3, 1) := by decide +kernel
theorem dX11_couldAsk_30 : decode cX11_couldAsk 30 = .ok (.iconst (-1), 1) := by decide +kernel
theorem dX11_couldAsk_31 : decode cX11_couldAsk 31 = .ok (.iload_n 1, 1) := by decide +kernel
theorem dX11_couldAsk_32 : decode cX11_couldAsk 32 = .ok (.invokevirtual 291, 3) := by decide +kernel
theorem dX11_couldAsk_35 : decode cX11_couldAsk 35 = .ok (.istore 4, 2) := by decide +kernel
theorem dX11_couldAsk_37 : decode cX11_couldAsk 37 = .ok (.iload 4, 2) := by decide +kernel
theorem dX11_couldAsk_39 : decode cX11_couldAsk 39 = .ok (.iconst (-1), 1) := by decide +kernel
theorem dX11_couldAsk_40 : decode cX11_couldAsk 40 = .ok (.if_icmp .ne 5, 3) := by decide +kernel
theorem dX11_couldAsk_43 : decode cX11_couldAsk 43 = .ok (.iconst (-1), 1) := by decide +kernel
theorem dX11_couldAsk_44 : decode cX11_couldAsk 44 = .ok (.ireturn, 1) := by decide +kernel
theorem dX11_couldAsk_45 : decode cX11_couldAsk 45 = .ok (.iload 4, 2) := by decide +kernel
theorem dX11_couldAsk_47 : decode cX11_couldAsk 47 = .ok (.aload_n 0, 1) := by decide +kernel
theorem dX11_couldAsk_48 : decode cX11_couldAsk 48 = .ok (.getfield 76, 3) := by decide +kernel
theorem dX11_couldAsk_51 : decode cX11_couldAsk 51 = .ok (.iload_n 2, 1) := by decide +kernel
theorem dX11_couldAsk_52 : decode cX11_couldAsk 52 = .ok (.iload_n 3, 1) := by decide +kernel
theorem dX11_couldAsk_53 : decode cX11_couldAsk 53 = .ok (.iload_n 1, 1) := by decide +kernel
theorem dX11_couldAsk_54 : decode cX11_couldAsk 54 = .ok (.iconst (-1), 1) := by decide +kernel
theorem dX11_couldAsk_55 : decode cX11_couldAsk 55 = .ok (.invokevirtual 291, 3) := by decide +kernel
theorem dX11_couldAsk_58 : decode cX11_couldAsk 58 = .ok (.isub, 1) := by decide +kernel
theorem dX11_couldAsk_59 : decode cX11_couldAsk 59 = .ok (.ireturn, 1) := by decide +kernel
theorem dX11_asking_0 : decode cX11_asking 0 = .ok (.aload_n 0, 1) := by decide +kernel
theorem dX11_asking_1 : decode cX11_asking 1 = .ok (.getfield 28, 3) := by decide +kernel
theorem dX11_asking_4 : decode cX11_asking 4 = .ok (.iload_n 1, 1) := by decide +kernel
theorem dX11_asking_5 : decode cX11_asking 5 = .ok (.invokevirtual 175, 3) := by decide +kernel
theorem dX11_asking_8 : decode cX11_asking 8 = .ok (.ifCond .eq 13, 3) := by decide +kernel
theorem dX11_asking_11 : decode cX11_asking 11 = .ok (.iload_n 2, 1) := by decide +kernel
theorem dX11_asking_12 : decode cX11_asking 12 = .ok (.iconst 1, 1) := by decide +kernel
theorem dX11_asking_13 : decode cX11_asking 13 = .ok (.bipush 60, 2) := by decide +kernel
theorem dX11_asking_15 : decode cX11_asking 15 = .ok (.invokestatic 107, 3) := by decide +kernel
theorem dX11_asking_18 : decode cX11_asking 18 = .ok (.ifCond .ne 6, 3) := by decide +kernel
theorem dX11_asking_21 : decode cX11_asking 21 = .ok (.bipush (-2), 2) := by decide +kernel
theorem dX11_asking_23 : decode cX11_asking 23 = .ok (.ireturn, 1) := by decide +kernel
theorem dX11_asking_24 : decode cX11_asking 24 = .ok (.aload_n 0, 1) := by decide +kernel
theorem dX11_asking_25 : decode cX11_asking 25 = .ok (.getfield 28, 3) := by decide +kernel
theorem dX11_asking_28 : decode cX11_asking 28 = .ok (.getfield 204, 3) := by decide +kernel
theorem dX11_asking_31 : decode cX11_asking 31 = .ok (.iload_n 1, 1) := by decide +kernel
theorem dX11_asking_32 : decode cX11_asking 32 = .ok (.iaload, 1) := by decide +kernel
theorem dX11_asking_33 : decode cX11_asking 33 = .ok (.istore_n 3, 1) := by decide +kernel
theorem dX11_asking_34 : decode cX11_asking 34 = .ok (.aload_n 0, 1) := by decide +kernel
theorem dX11_asking_35 : decode cX11_asking 35 = .ok (.getfield 28, 3) := by decide +kernel
theorem dX11_asking_38 : decode cX11_asking 38 = .ok (.getfield 204, 3) := by decide +kernel
theorem dX11_asking_41 : decode cX11_asking 41 = .ok (.iload_n 1, 1) := by decide +kernel
theorem dX11_asking_42 : decode cX11_asking 42 = .ok (.iload_n 2, 1) := by decide +kernel
theorem dX11_asking_43 : decode cX11_asking 43 = .ok (.iastore, 1) := by decide +kernel
theorem dX11_asking_44 : decode cX11_asking 44 = .ok (.iload_n 3, 1) := by decide +kernel
theorem dX11_asking_45 : decode cX11_asking 45 = .ok (.ireturn, 1) := by decide +kernel
theorem dX11_toAsk_0 : decode cX11_toAsk 0 = .ok (.iload_n 1, 1) := by decide +kernel
theorem dX11_toAsk_1 : decode cX11_toAsk 1 = .ok (.aload_n 0, 1) := by decide +kernel
theorem dX11_toAsk_2 : decode cX11_toAsk 2 = .ok (.getfield 28, 3) := by decide +kernel
theorem dX11_toAsk_5 : decode cX11_toAsk 5 = .ok (.getfield 168, 3) := by decide +kernel
theorem dX11_toAsk_8 : decode cX11_toAsk 8 = .ok (.iushr, 1) := by decide +kernel
theorem dX11_toAsk_9 : decode cX11_toAsk 9 = .ok (.ifCond .ne 12, 3) := by decide +kernel
theorem dX11_toAsk_12 : decode cX11_toAsk 12 = .ok (.iload_n 1, 1) := by decide +kernel
theorem dX11_toAsk_13 : decode cX11_toAsk 13 = .ok (.invokestatic 297, 3) := by decide +kernel
theorem dX11_toAsk_16 : decode cX11_toAsk 16 = .ok (.bipush 6, 2) := by decide +kernel
theorem dX11_toAsk_18 : decode cX11_toAsk 18 = .ok (.if_icmp .le 6, 3) := by decide +kernel
theorem dX11_toAsk_21 : decode cX11_toAsk 21 = .ok (.bipush (-2), 2) := by decide +kernel
theorem dX11_toAsk_23 : decode cX11_toAsk 23 = .ok (.ireturn, 1) := by decide +kernel
theorem dX11_toAsk_24 : decode cX11_toAsk 24 = .ok (.aload_n 0, 1) := by decide +kernel
theorem dX11_toAsk_25 : decode cX11_toAsk 25 = .ok (.getfield 85, 3) := by decide +kernel
theorem dX11_toAsk_28 : decode cX11_toAsk 28 = .ok (.iload_n 1, 1) := by decide +kernel
theorem dX11_toAsk_29 : decode cX11_toAsk 29 = .ok (.invokevirtual 302, 3) := by decide +kernel
theorem dX11_toAsk_32 : decode cX11_toAsk 32 = .ok (.aload_n 0, 1) := by decide +kernel
theorem dX11_toAsk_33 : decode cX11_toAsk 33 = .ok (.getfield 85, 3) := by decide +kernel
theorem dX11_toAsk_36 : decode cX11_toAsk 36 = .ok (.invokevirtual 305, 3) := by decide +kernel
theorem dX11_toAsk_39 : decode cX11_toAsk 39 = .ok (.iload_n 2, 1) := by decide +kernel
theorem dX11_toAsk_40 : decode cX11_toAsk 40 = .ok (.iconst (-1), 1) := by decide +kernel
theorem dX11_toAsk_41 : decode cX11_toAsk 41 = .ok (.if_icmp .ne 13, 3) := by decide +kernel
theorem dX11_toAsk_44 : decode cX11_toAsk 44 = .ok (.aload_n 0, 1) := by decide +kernel
theorem dX11_toAsk_45 : decode cX11_toAsk 45 = .ok (.getfield 85, 3) := by decide +kernel
theorem dX11_toAsk_48 : decode cX11_toAsk 48 = .ok (.invokevirtual 308, 3) := by decide +kernel
theorem dX11_toAsk_51 : decode cX11_toAsk 51 = .ok (.goto 11, 3) := by decide +kernel
theorem dX11_toAsk_54 : decode cX11_toAsk 54 = .ok (.aload_n 0, 1) := by decide +kernel
theorem dX11_toAsk_55 : decode cX11_toAsk 55 = .ok (.getfield 85, 3) := by decide +kernel
theorem dX11_toAsk_58 : decode cX11_toAsk 58 = .ok (.iload_n 2, 1) := by decide +kernel
theorem dX11_toAsk_59 : decode cX11_toAsk 59 = .ok (.invokevirtual 311, 3) := by decide +kernel
theorem dX11_toAsk_62 : decode cX11_toAsk 62 = .ok (.ireturn, 1) := by decide +kernel
theorem dX11_count_0 : decode cX11_count 0 = .ok (.iload_n 1, 1) := by decide +kernel
theorem dX11_count_1 : decode cX11_count 1 = .ok (.tableswitch 159 0 11 #[63, 71, 79, 87, 95, 103, 111, 119, 127, 135, 143, 151], 63) := by decide +kernel
theorem dX11_count_64 : decode cX11_count 64 = .ok (.aload_n 0, 1) := by decide +kernel
theorem dX11_count_65 : decode cX11_count 65 = .ok (.getfield 10, 3) := by decide +kernel
theorem dX11_count_68 : decode cX11_count 68 = .ok (.getfield 111, 3) := by decide +kernel
theorem dX11_count_71 : decode cX11_count 71 = .ok (.ireturn, 1) := by decide +kernel
theorem dX11_count_72 : decode cX11_count 72 = .ok (.aload_n 0, 1) := by decide +kernel
theorem dX11_count_73 : decode cX11_count 73 = .ok (.getfield 10, 3) := by decide +kernel
theorem dX11_count_76 : decode cX11_count 76 = .ok (.getfield 125, 3) := by decide +kernel
theorem dX11_count_79 : decode cX11_count 79 = .ok (.ireturn, 1) := by decide +kernel
theorem dX11_count_80 : decode cX11_count 80 = .ok (.aload_n 0, 1) := by decide +kernel
theorem dX11_count_81 : decode cX11_count 81 = .ok (.getfield 28, 3) := by decide +kernel
theorem dX11_count_84 : decode cX11_count 84 = .ok (.getfield 159, 3) := by decide +kernel
theorem dX11_count_87 : decode cX11_count 87 = .ok (.ireturn, 1) := by decide +kernel
theorem dX11_count_88 : decode cX11_count 88 = .ok (.aload_n 0, 1) := by decide +kernel
theorem dX11_count_89 : decode cX11_count 89 = .ok (.getfield 28, 3) := by decide +kernel
theorem dX11_count_92 : decode cX11_count 92 = .ok (.getfield 168, 3) := by decide +kernel
theorem dX11_count_95 : decode cX11_count 95 = .ok (.ireturn, 1) := by decide +kernel
theorem dX11_count_96 : decode cX11_count 96 = .ok (.aload_n 0, 1) := by decide +kernel
theorem dX11_count_97 : decode cX11_count 97 = .ok (.getfield 37, 3) := by decide +kernel
theorem dX11_count_100 : decode cX11_count 100 = .ok (.getfield 213, 3) := by decide +kernel
theorem dX11_count_103 : decode cX11_count 103 = .ok (.ireturn, 1) := by decide +kernel
theorem dX11_count_104 : decode cX11_count 104 = .ok (.aload_n 0, 1) := by decide +kernel
theorem dX11_count_105 : decode cX11_count 105 = .ok (.getfield 62, 3) := by decide +kernel
theorem dX11_count_108 : decode cX11_count 108 = .ok (.getfield 273, 3) := by decide +kernel
theorem dX11_count_111 : decode cX11_count 111 = .ok (.ireturn, 1) := by decide +kernel
theorem dX11_count_112 : decode cX11_count 112 = .ok (.aload_n 0, 1) := by decide +kernel
theorem dX11_count_113 : decode cX11_count 113 = .ok (.getfield 69, 3) := by decide +kernel
theorem dX11_count_116 : decode cX11_count 116 = .ok (.getfield 283, 3) := by decide +kernel
theorem dX11_count_119 : decode cX11_count 119 = .ok (.ireturn, 1) := by decide +kernel
theorem dX11_count_120 : decode cX11_count 120 = .ok (.aload_n 0, 1) := by decide +kernel
theorem dX11_count_121 : decode cX11_count 121 = .ok (.getfield 53, 3) := by decide +kernel
theorem dX11_count_124 : decode cX11_count 124 = .ok (.getfield 266, 3) := by decide +kernel
theorem dX11_count_127 : decode cX11_count 127 = .ok (.ireturn, 1) := by decide +kernel
theorem dX11_count_128 : decode cX11_count 128 = .ok (.aload_n 0, 1) := by decide +kernel
theorem dX11_count_129 : decode cX11_count 129 = .ok (.getfield 44, 3) := by decide +kernel
theorem dX11_count_132 : decode cX11_count 132 = .ok (.getfield 259, 3) := by decide +kernel
theorem dX11_count_135 : decode cX11_count 135 = .ok (.ireturn, 1) := by decide +kernel
theorem dX11_count_136 : decode cX11_count 136 = .ok (.aload_n 0, 1) := by decide +kernel
theorem dX11_count_137 : decode cX11_count 137 = .ok (.getfield 53, 3) := by decide +kernel
theorem dX11_count_140 : decode cX11_count 140 = .ok (.getfield 267, 3) := by decide +kernel
theorem dX11_count_143 : decode cX11_count 143 = .ok (.ireturn, 1) := by decide +kernel
theorem dX11_count_144 : decode cX11_count 144 = .ok (.aload_n 0, 1) := by decide +kernel
theorem dX11_count_145 : decode cX11_count 145 = .ok (.getfield 37, 3) := by decide +kernel
theorem dX11_count_148 : decode cX11_count 148 = .ok (.invokevirtual 314, 3) := by decide +kernel
theorem dX11_count_151 : decode cX11_count 151 = .ok (.ireturn, 1) := by decide +kernel
theorem dX11_count_152 : decode cX11_count 152 = .ok (.aload_n 0, 1) := by decide +kernel
theorem dX11_count_153 : decode cX11_count 153 = .ok (.getfield 28, 3) := by decide +kernel
theorem dX11_count_156 : decode cX11_count 156 = .ok (.invokevirtual 317, 3) := by decide +kernel
theorem dX11_count_159 : decode cX11_count 159 = .ok (.ireturn, 1) := by decide +kernel
theorem dX11_count_160 : decode cX11_count 160 = .ok (.bipush (-2), 2) := by decide +kernel
theorem dX11_count_162 : decode cX11_count 162 = .ok (.ireturn, 1) := by decide +kernel
theorem dX11_sheet_0 : decode cX11_sheet 0 = .ok (.aload_n 0, 1) := by decide +kernel
theorem dX11_sheet_1 : decode cX11_sheet 1 = .ok (.getfield 92, 3) := by decide +kernel
theorem dX11_sheet_4 : decode cX11_sheet 4 = .ok (.iload_n 1, 1) := by decide +kernel
theorem dX11_sheet_5 : decode cX11_sheet 5 = .ok (.invokevirtual 320, 3) := by decide +kernel
theorem dX11_sheet_8 : decode cX11_sheet 8 = .ok (.ifCond .eq 12, 3) := by decide +kernel
theorem dX11_sheet_11 : decode cX11_sheet 11 = .ok (.iload_n 2, 1) := by decide +kernel
theorem dX11_sheet_12 : decode cX11_sheet 12 = .ok (.iconst (-1), 1) := by decide +kernel
theorem dX11_sheet_13 : decode cX11_sheet 13 = .ok (.iconst 2, 1) := by decide +kernel
theorem dX11_sheet_14 : decode cX11_sheet 14 = .ok (.invokestatic 107, 3) := by decide +kernel
theorem dX11_sheet_17 : decode cX11_sheet 17 = .ok (.ifCond .ne 6, 3) := by decide +kernel
theorem dX11_sheet_20 : decode cX11_sheet 20 = .ok (.bipush (-2), 2) := by decide +kernel
theorem dX11_sheet_22 : decode cX11_sheet 22 = .ok (.ireturn, 1) := by decide +kernel
theorem dX11_sheet_23 : decode cX11_sheet 23 = .ok (.iload_n 2, 1) := by decide +kernel
theorem dX11_sheet_24 : decode cX11_sheet 24 = .ok (.iconst (-1), 1) := by decide +kernel
theorem dX11_sheet_25 : decode cX11_sheet 25 = .ok (.if_icmp .ne 12, 3) := by decide +kernel
theorem dX11_sheet_28 : decode cX11_sheet 28 = .ok (.aload_n 0, 1) := by decide +kernel
theorem dX11_sheet_29 : decode cX11_sheet 29 = .ok (.getfield 92, 3) := by decide +kernel
theorem dX11_sheet_32 : decode cX11_sheet 32 = .ok (.iload_n 1, 1) := by decide +kernel
theorem dX11_sheet_33 : decode cX11_sheet 33 = .ok (.invokevirtual 323, 3) := by decide +kernel
theorem dX11_sheet_36 : decode cX11_sheet 36 = .ok (.ireturn, 1) := by decide +kernel
theorem dX11_sheet_37 : decode cX11_sheet 37 = .ok (.iload_n 3, 1) := by decide +kernel
theorem dX11_sheet_38 : decode cX11_sheet 38 = .ok (.bipush 40, 2) := by decide +kernel
theorem dX11_sheet_40 : decode cX11_sheet 40 = .ok (.if_icmp .le 6, 3) := by decide +kernel
theorem dX11_sheet_43 : decode cX11_sheet 43 = .ok (.bipush (-2), 2) := by decide +kernel
theorem dX11_sheet_45 : decode cX11_sheet 45 = .ok (.ireturn, 1) := by decide +kernel
theorem dX11_sheet_46 : decode cX11_sheet 46 = .ok (.iload_n 3, 1) := by decide +kernel
theorem dX11_sheet_47 : decode cX11_sheet 47 = .ok (.ifCond .ge 6, 3) := by decide +kernel
theorem dX11_sheet_50 : decode cX11_sheet 50 = .ok (.bipush (-14), 2) := by decide +kernel
theorem dX11_sheet_52 : decode cX11_sheet 52 = .ok (.ireturn, 1) := by decide +kernel
theorem dX11_sheet_53 : decode cX11_sheet 53 = .ok (.aload_n 0, 1) := by decide +kernel
theorem dX11_sheet_54 : decode cX11_sheet 54 = .ok (.getfield 92, 3) := by decide +kernel
theorem dX11_sheet_57 : decode cX11_sheet 57 = .ok (.iload_n 1, 1) := by decide +kernel
theorem dX11_sheet_58 : decode cX11_sheet 58 = .ok (.iload_n 2, 1) := by decide +kernel
theorem dX11_sheet_59 : decode cX11_sheet 59 = .ok (.iload_n 3, 1) := by decide +kernel
theorem dX11_sheet_60 : decode cX11_sheet 60 = .ok (.invokevirtual 326, 3) := by decide +kernel
theorem dX11_sheet_63 : decode cX11_sheet 63 = .ok (.ireturn, 1) := by decide +kernel
theorem dX11_cell_0 : decode cX11_cell 0 = .ok (.aload_n 0, 1) := by decide +kernel
theorem dX11_cell_1 : decode cX11_cell 1 = .ok (.getfield 92, 3) := by decide +kernel
theorem dX11_cell_4 : decode cX11_cell 4 = .ok (.iload_n 1, 1) := by decide +kernel
theorem dX11_cell_5 : decode cX11_cell 5 = .ok (.invokevirtual 320, 3) := by decide +kernel
theorem dX11_cell_8 : decode cX11_cell 8 = .ok (.ifCond .ne 6, 3) := by decide +kernel
theorem dX11_cell_11 : decode cX11_cell 11 = .ok (.bipush (-2), 2) := by decide +kernel
theorem dX11_cell_13 : decode cX11_cell 13 = .ok (.ireturn, 1) := by decide +kernel
theorem dX11_cell_14 : decode cX11_cell 14 = .ok (.aload_n 0, 1) := by decide +kernel
theorem dX11_cell_15 : decode cX11_cell 15 = .ok (.getfield 92, 3) := by decide +kernel
theorem dX11_cell_18 : decode cX11_cell 18 = .ok (.iload_n 1, 1) := by decide +kernel
theorem dX11_cell_19 : decode cX11_cell 19 = .ok (.invokevirtual 329, 3) := by decide +kernel
theorem dX11_cell_22 : decode cX11_cell 22 = .ok (.ifCond .eq 6, 3) := by decide +kernel
theorem dX11_cell_25 : decode cX11_cell 25 = .ok (.bipush (-11), 2) := by decide +kernel
theorem dX11_cell_27 : decode cX11_cell 27 = .ok (.ireturn, 1) := by decide +kernel
theorem dX11_cell_28 : decode cX11_cell 28 = .ok (.iload_n 2, 1) := by decide +kernel
theorem dX11_cell_29 : decode cX11_cell 29 = .ok (.iconst 0, 1) := by decide +kernel
theorem dX11_cell_30 : decode cX11_cell 30 = .ok (.aload_n 0, 1) := by decide +kernel
theorem dX11_cell_31 : decode cX11_cell 31 = .ok (.getfield 92, 3) := by decide +kernel
theorem dX11_cell_34 : decode cX11_cell 34 = .ok (.getfield 332, 3) := by decide +kernel
theorem dX11_cell_37 : decode cX11_cell 37 = .ok (.iload_n 1, 1) := by decide +kernel
theorem dX11_cell_38 : decode cX11_cell 38 = .ok (.iaload, 1) := by decide +kernel
theorem dX11_cell_39 : decode cX11_cell 39 = .ok (.iconst 1, 1) := by decide +kernel
theorem dX11_cell_40 : decode cX11_cell 40 = .ok (.isub, 1) := by decide +kernel
theorem dX11_cell_41 : decode cX11_cell 41 = .ok (.invokestatic 107, 3) := by decide +kernel
theorem dX11_cell_44 : decode cX11_cell 44 = .ok (.ifCond .ne 6, 3) := by decide +kernel
theorem dX11_cell_47 : decode cX11_cell 47 = .ok (.bipush (-12), 2) := by decide +kernel
theorem dX11_cell_49 : decode cX11_cell 49 = .ok (.ireturn, 1) := by decide +kernel
theorem dX11_cell_50 : decode cX11_cell 50 = .ok (.aload_n 0, 1) := by decide +kernel
theorem dX11_cell_51 : decode cX11_cell 51 = .ok (.getfield 92, 3) := by decide +kernel
theorem dX11_cell_54 : decode cX11_cell 54 = .ok (.iload_n 1, 1) := by decide +kernel
theorem dX11_cell_55 : decode cX11_cell 55 = .ok (.iload_n 2, 1) := by decide +kernel
theorem dX11_cell_56 : decode cX11_cell 56 = .ok (.iload_n 3, 1) := by decide +kernel
theorem dX11_cell_57 : decode cX11_cell 57 = .ok (.invokevirtual 335, 3) := by decide +kernel
theorem dX11_cell_60 : decode cX11_cell 60 = .ok (.ireturn, 1) := by decide +kernel
theorem dX11_copy_0 : decode cX11_copy 0 = .ok (.aload_n 0, 1) := by decide +kernel
theorem dX11_copy_1 : decode cX11_copy 1 = .ok (.getfield 92, 3) := by decide +kernel
theorem dX11_copy_4 : decode cX11_copy 4 = .ok (.iload_n 1, 1) := by decide +kernel
theorem dX11_copy_5 : decode cX11_copy 5 = .ok (.invokevirtual 320, 3) := by decide +kernel
theorem dX11_copy_8 : decode cX11_copy 8 = .ok (.ifCond .eq 14, 3) := by decide +kernel
theorem dX11_copy_11 : decode cX11_copy 11 = .ok (.aload_n 0, 1) := by decide +kernel
theorem dX11_copy_12 : decode cX11_copy 12 = .ok (.getfield 92, 3) := by decide +kernel
theorem dX11_copy_15 : decode cX11_copy 15 = .ok (.iload_n 3, 1) := by decide +kernel
theorem dX11_copy_16 : decode cX11_copy 16 = .ok (.invokevirtual 320, 3) := by decide +kernel
theorem dX11_copy_19 : decode cX11_copy 19 = .ok (.ifCond .ne 6, 3) := by decide +kernel
theorem dX11_copy_22 : decode cX11_copy 22 = .ok (.bipush (-2), 2) := by decide +kernel
theorem dX11_copy_24 : decode cX11_copy 24 = .ok (.ireturn, 1) := by decide +kernel
theorem dX11_copy_25 : decode cX11_copy 25 = .ok (.aload_n 0, 1) := by decide +kernel
theorem dX11_copy_26 : decode cX11_copy 26 = .ok (.getfield 92, 3) := by decide +kernel
theorem dX11_copy_29 : decode cX11_copy 29 = .ok (.iload_n 1, 1) := by decide +kernel
theorem dX11_copy_30 : decode cX11_copy 30 = .ok (.invokevirtual 329, 3) := by decide +kernel
theorem dX11_copy_33 : decode cX11_copy 33 = .ok (.ifCond .ne 14, 3) := by decide +kernel
theorem dX11_copy_36 : decode cX11_copy 36 = .ok (.aload_n 0, 1) := by decide +kernel
theorem dX11_copy_37 : decode cX11_copy 37 = .ok (.getfield 92, 3) := by decide +kernel
theorem dX11_copy_40 : decode cX11_copy 40 = .ok (.iload_n 3, 1) := by decide +kernel
theorem dX11_copy_41 : decode cX11_copy 41 = .ok (.invokevirtual 329, 3) := by decide +kernel
theorem dX11_copy_44 : decode cX11_copy 44 = .ok (.ifCond .eq 6, 3) := by decide +kernel
theorem dX11_copy_47 : decode cX11_copy 47 = .ok (.bipush (-11), 2) := by decide +kernel
theorem dX11_copy_49 : decode cX11_copy 49 = .ok (.ireturn, 1) := by decide +kernel
theorem dX11_copy_50 : decode cX11_copy 50 = .ok (.aload_n 0, 1) := by decide +kernel
theorem dX11_copy_51 : decode cX11_copy 51 = .ok (.getfield 92, 3) := by decide +kernel
theorem dX11_copy_54 : decode cX11_copy 54 = .ok (.getfield 338, 3) := by decide +kernel
theorem dX11_copy_57 : decode cX11_copy 57 = .ok (.iload_n 1, 1) := by decide +kernel
theorem dX11_copy_58 : decode cX11_copy 58 = .ok (.iaload, 1) := by decide +kernel
theorem dX11_copy_59 : decode cX11_copy 59 = .ok (.aload_n 0, 1) := by decide +kernel
theorem dX11_copy_60 : decode cX11_copy 60 = .ok (.getfield 92, 3) := by decide +kernel
theorem dX11_copy_63 : decode cX11_copy 63 = .ok (.getfield 338, 3) := by decide +kernel
theorem dX11_copy_66 : decode cX11_copy 66 = .ok (.iload_n 3, 1) := by decide +kernel
theorem dX11_copy_67 : decode cX11_copy 67 = .ok (.iaload, 1) := by decide +kernel
theorem dX11_copy_68 : decode cX11_copy 68 = .ok (.if_icmp .eq 6, 3) := by decide +kernel
theorem dX11_copy_71 : decode cX11_copy 71 = .ok (.bipush (-13), 2) := by decide +kernel
theorem dX11_copy_73 : decode cX11_copy 73 = .ok (.ireturn, 1) := by decide +kernel
theorem dX11_copy_74 : decode cX11_copy 74 = .ok (.aload_n 0, 1) := by decide +kernel
theorem dX11_copy_75 : decode cX11_copy 75 = .ok (.getfield 92, 3) := by decide +kernel
theorem dX11_copy_78 : decode cX11_copy 78 = .ok (.iload_n 1, 1) := by decide +kernel
theorem dX11_copy_79 : decode cX11_copy 79 = .ok (.iload_n 2, 1) := by decide +kernel
theorem dX11_copy_80 : decode cX11_copy 80 = .ok (.iload 5, 2) := by decide +kernel
theorem dX11_copy_82 : decode cX11_copy 82 = .ok (.invokevirtual 341, 3) := by decide +kernel
theorem dX11_copy_85 : decode cX11_copy 85 = .ok (.ifCond .eq 18, 3) := by decide +kernel
theorem dX11_copy_88 : decode cX11_copy 88 = .ok (.aload_n 0, 1) := by decide +kernel
theorem dX11_copy_89 : decode cX11_copy 89 = .ok (.getfield 92, 3) := by decide +kernel
theorem dX11_copy_92 : decode cX11_copy 92 = .ok (.iload_n 3, 1) := by decide +kernel
theorem dX11_copy_93 : decode cX11_copy 93 = .ok (.iload 4, 2) := by decide +kernel
theorem dX11_copy_95 : decode cX11_copy 95 = .ok (.iload 5, 2) := by decide +kernel
theorem dX11_copy_97 : decode cX11_copy 97 = .ok (.invokevirtual 341, 3) := by decide +kernel
theorem dX11_copy_100 : decode cX11_copy 100 = .ok (.ifCond .ne 6, 3) := by decide +kernel
theorem dX11_copy_103 : decode cX11_copy 103 = .ok (.bipush (-12), 2) := by decide +kernel
theorem dX11_copy_105 : decode cX11_copy 105 = .ok (.ireturn, 1) := by decide +kernel
theorem dX11_copy_106 : decode cX11_copy 106 = .ok (.aload_n 0, 1) := by decide +kernel
theorem dX11_copy_107 : decode cX11_copy 107 = .ok (.getfield 92, 3) := by decide +kernel
theorem dX11_copy_110 : decode cX11_copy 110 = .ok (.getfield 344, 3) := by decide +kernel
theorem dX11_copy_113 : decode cX11_copy 113 = .ok (.iload_n 1, 1) := by decide +kernel
theorem dX11_copy_114 : decode cX11_copy 114 = .ok (.aaload, 1) := by decide +kernel
theorem dX11_copy_115 : decode cX11_copy 115 = .ok (.iload_n 2, 1) := by decide +kernel
theorem dX11_copy_116 : decode cX11_copy 116 = .ok (.aload_n 0, 1) := by decide +kernel
theorem dX11_copy_117 : decode cX11_copy 117 = .ok (.getfield 92, 3) := by decide +kernel
theorem dX11_copy_120 : decode cX11_copy 120 = .ok (.getfield 344, 3) := by decide +kernel
theorem dX11_copy_123 : decode cX11_copy 123 = .ok (.iload_n 3, 1) := by decide +kernel
theorem dX11_copy_124 : decode cX11_copy 124 = .ok (.aaload, 1) := by decide +kernel
theorem dX11_copy_125 : decode cX11_copy 125 = .ok (.iload 4, 2) := by decide +kernel
theorem dX11_copy_127 : decode cX11_copy 127 = .ok (.iload 5, 2) := by decide +kernel
theorem dX11_copy_129 : decode cX11_copy 129 = .ok (.invokestatic 348, 3) := by decide +kernel
theorem dX11_copy_132 : decode cX11_copy 132 = .ok (.iload 5, 2) := by decide +kernel
theorem dX11_copy_134 : decode cX11_copy 134 = .ok (.ireturn, 1) := by decide +kernel
theorem dX11_costs_0 : decode cX11_costs 0 = .ok (.iload_n 1, 1) := by decide +kernel
theorem dX11_costs_1 : decode cX11_costs 1 = .ok (.invokestatic 115, 3) := by decide +kernel
theorem dX11_costs_4 : decode cX11_costs 4 = .ok (.ifCond .eq 14, 3) := by decide +kernel
theorem dX11_costs_7 : decode cX11_costs 7 = .ok (.aload_n 0, 1) := by decide +kernel
theorem dX11_costs_8 : decode cX11_costs 8 = .ok (.getfield 92, 3) := by decide +kernel
theorem dX11_costs_11 : decode cX11_costs 11 = .ok (.iload_n 2, 1) := by decide +kernel
theorem dX11_costs_12 : decode cX11_costs 12 = .ok (.invokevirtual 320, 3) := by decide +kernel
theorem dX11_costs_15 : decode cX11_costs 15 = .ok (.ifCond .ne 6, 3) := by decide +kernel
theorem dX11_costs_18 : decode cX11_costs 18 = .ok (.bipush (-2), 2) := by decide +kernel
theorem dX11_costs_20 : decode cX11_costs 20 = .ok (.ireturn, 1) := by decide +kernel
theorem dX11_costs_21 : decode cX11_costs 21 = .ok (.iload_n 3, 1) := by decide +kernel
theorem dX11_costs_22 : decode cX11_costs 22 = .ok (.iconst 0, 1) := by decide +kernel
theorem dX11_costs_23 : decode cX11_costs 23 = .ok (.iconst 2, 1) := by decide +kernel
theorem dX11_costs_24 : decode cX11_costs 24 = .ok (.invokestatic 107, 3) := by decide +kernel
theorem dX11_costs_27 : decode cX11_costs 27 = .ok (.ifCond .eq 14, 3) := by decide +kernel
theorem dX11_costs_30 : decode cX11_costs 30 = .ok (.iload 5, 2) := by decide +kernel
theorem dX11_costs_32 : decode cX11_costs 32 = .ok (.iconst 0, 1) := by decide +kernel
theorem dX11_costs_33 : decode cX11_costs 33 = .ok (.bipush 40, 2) := by decide +kernel
theorem dX11_costs_35 : decode cX11_costs 35 = .ok (.invokestatic 107, 3) := by decide +kernel
theorem dX11_costs_38 : decode cX11_costs 38 = .ok (.ifCond .ne 6, 3) := by decide +kernel
theorem dX11_costs_41 : decode cX11_costs 41 = .ok (.bipush (-2), 2) := by decide +kernel
theorem dX11_costs_43 : decode cX11_costs 43 = .ok (.ireturn, 1) := by decide +kernel
theorem dX11_costs_44 : decode cX11_costs 44 = .ok (.aload_n 0, 1) := by decide +kernel
theorem dX11_costs_45 : decode cX11_costs 45 = .ok (.getfield 92, 3) := by decide +kernel
theorem dX11_costs_48 : decode cX11_costs 48 = .ok (.iload_n 2, 1) := by decide +kernel
theorem dX11_costs_49 : decode cX11_costs 49 = .ok (.invokevirtual 329, 3) := by decide +kernel
theorem dX11_costs_52 : decode cX11_costs 52 = .ok (.ifCond .eq 6, 3) := by decide +kernel
theorem dX11_costs_55 : decode cX11_costs 55 = .ok (.bipush (-11), 2) := by decide +kernel
theorem dX11_costs_57 : decode cX11_costs 57 = .ok (.ireturn, 1) := by decide +kernel
theorem dX11_costs_58 : decode cX11_costs 58 = .ok (.aload_n 0, 1) := by decide +kernel
theorem dX11_costs_59 : decode cX11_costs 59 = .ok (.getfield 92, 3) := by decide +kernel
theorem dX11_costs_62 : decode cX11_costs 62 = .ok (.getfield 338, 3) := by decide +kernel
theorem dX11_costs_65 : decode cX11_costs 65 = .ok (.iload_n 2, 1) := by decide +kernel
theorem dX11_costs_66 : decode cX11_costs 66 = .ok (.iaload, 1) := by decide +kernel
theorem dX11_costs_67 : decode cX11_costs 67 = .ok (.iload_n 3, 1) := by decide +kernel
theorem dX11_costs_68 : decode cX11_costs 68 = .ok (.if_icmp .eq 6, 3) := by decide +kernel
theorem dX11_costs_71 : decode cX11_costs 71 = .ok (.bipush (-13), 2) := by decide +kernel
theorem dX11_costs_73 : decode cX11_costs 73 = .ok (.ireturn, 1) := by decide +kernel
theorem dX11_costs_74 : decode cX11_costs 74 = .ok (.aload_n 0, 1) := by decide +kernel
theorem dX11_costs_75 : decode cX11_costs 75 = .ok (.getfield 92, 3) := by decide +kernel
theorem dX11_costs_78 : decode cX11_costs 78 = .ok (.iload_n 1, 1) := by decide +kernel
theorem dX11_costs_79 : decode cX11_costs 79 = .ok (.iload_n 2, 1) := by decide +kernel
theorem dX11_costs_80 : decode cX11_costs 80 = .ok (.iload 4, 2) := by decide +kernel
theorem dX11_costs_82 : decode cX11_costs 82 = .ok (.iload 5, 2) := by decide +kernel
theorem dX11_costs_84 : decode cX11_costs 84 = .ok (.invokevirtual 354, 3) := by decide +kernel
theorem dX11_costs_87 : decode cX11_costs 87 = .ok (.ireturn, 1) := by decide +kernel
theorem dX11_taken_0 : decode cX11_taken 0 = .ok (.iload_n 2, 1) := by decide +kernel
theorem dX11_taken_1 : decode cX11_taken 1 = .ok (.iconst 0, 1) := by decide +kernel
theorem dX11_taken_2 : decode cX11_taken 2 = .ok (.iconst 5, 1) := by decide +kernel
theorem dX11_taken_3 : decode cX11_taken 3 = .ok (.invokestatic 107, 3) := by decide +kernel
theorem dX11_taken_6 : decode cX11_taken 6 = .ok (.ifCond .ne 6, 3) := by decide +kernel
theorem dX11_taken_9 : decode cX11_taken 9 = .ok (.bipush (-2), 2) := by decide +kernel
theorem dX11_taken_11 : decode cX11_taken 11 = .ok (.ireturn, 1) := by decide +kernel
theorem dX11_taken_12 : decode cX11_taken 12 = .ok (.aload_n 0, 1) := by decide +kernel
theorem dX11_taken_13 : decode cX11_taken 13 = .ok (.getfield 37, 3) := by decide +kernel
theorem dX11_taken_16 : decode cX11_taken 16 = .ok (.iload_n 1, 1) := by decide +kernel
theorem dX11_taken_17 : decode cX11_taken 17 = .ok (.invokevirtual 208, 3) := by decide +kernel
theorem dX11_taken_20 : decode cX11_taken 20 = .ok (.ifCond .ne 6, 3) := by decide +kernel
theorem dX11_taken_23 : decode cX11_taken 23 = .ok (.bipush (-11), 2) := by decide +kernel
theorem dX11_taken_25 : decode cX11_taken 25 = .ok (.ireturn, 1) := by decide +kernel
theorem dX11_taken_26 : decode cX11_taken 26 = .ok (.aload_n 0, 1) := by decide +kernel
theorem dX11_taken_27 : decode cX11_taken 27 = .ok (.getfield 37, 3) := by decide +kernel
theorem dX11_taken_30 : decode cX11_taken 30 = .ok (.iload_n 1, 1) := by decide +kernel
theorem dX11_taken_31 : decode cX11_taken 31 = .ok (.iload_n 2, 1) := by decide +kernel
theorem dX11_taken_32 : decode cX11_taken 32 = .ok (.invokevirtual 357, 3) := by decide +kernel
theorem dX11_taken_35 : decode cX11_taken 35 = .ok (.ifCond .eq 15, 3) := by decide +kernel
theorem dX11_taken_38 : decode cX11_taken 38 = .ok (.aload_n 0, 1) := by decide +kernel
theorem dX11_taken_39 : decode cX11_taken 39 = .ok (.getfield 37, 3) := by decide +kernel
theorem dX11_taken_42 : decode cX11_taken 42 = .ok (.getfield 211, 3) := by decide +kernel
theorem dX11_taken_45 : decode cX11_taken 45 = .ok (.iload_n 1, 1) := by decide +kernel
theorem dX11_taken_46 : decode cX11_taken 46 = .ok (.iaload, 1) := by decide +kernel
theorem dX11_taken_47 : decode cX11_taken 47 = .ok (.goto 5, 3) := by decide +kernel
theorem dX11_taken_50 : decode cX11_taken 50 = .ok (.bipush (-13), 2) := by decide +kernel
theorem dX11_taken_52 : decode cX11_taken 52 = .ok (.ireturn, 1) := by decide +kernel
