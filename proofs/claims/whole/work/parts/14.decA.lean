theorem dX0_init_0 : decode cX0_init 0 = .ok (.aload_n 0, 1) := by decide +kernel
theorem dX0_init_1 : decode cX0_init 1 = .ok (.invokespecial 3, 3) := by decide +kernel
theorem dX0_init_4 : decode cX0_init 4 = .ok (.aload_n 0, 1) := by decide +kernel
theorem dX0_init_5 : decode cX0_init 5 = .ok (.bipush 6, 2) := by decide +kernel
theorem dX0_init_7 : decode cX0_init 7 = .ok (.sipush 160, 3) := by decide +kernel
theorem dX0_init_10 : decode cX0_init 10 = .ok (.multianewarray 9 2, 4) := by decide +kernel
theorem dX0_init_14 : decode cX0_init 14 = .ok (.putfield 11, 3) := by decide +kernel
theorem dX0_init_17 : decode cX0_init 17 = .ok (.aload_n 0, 1) := by decide +kernel
theorem dX0_init_18 : decode cX0_init 18 = .ok (.bipush 6, 2) := by decide +kernel
theorem dX0_init_20 : decode cX0_init 20 = .ok (.newarray .int, 2) := by decide +kernel
theorem dX0_init_22 : decode cX0_init 22 = .ok (.putfield 16, 3) := by decide +kernel
theorem dX0_init_25 : decode cX0_init 25 = .ok (.aload_n 0, 1) := by decide +kernel
theorem dX0_init_26 : decode cX0_init 26 = .ok (.bipush 6, 2) := by decide +kernel
theorem dX0_init_28 : decode cX0_init 28 = .ok (.newarray .int, 2) := by decide +kernel
theorem dX0_init_30 : decode cX0_init 30 = .ok (.putfield 20, 3) := by decide +kernel
theorem dX0_init_33 : decode cX0_init 33 = .ok (.aload_n 0, 1) := by decide +kernel
theorem dX0_init_34 : decode cX0_init 34 = .ok (.sipush 160, 3) := by decide +kernel
theorem dX0_init_37 : decode cX0_init 37 = .ok (.newarray .int, 2) := by decide +kernel
theorem dX0_init_39 : decode cX0_init 39 = .ok (.putfield 23, 3) := by decide +kernel
theorem dX0_init_42 : decode cX0_init 42 = .ok (.aload_n 0, 1) := by decide +kernel
theorem dX0_init_43 : decode cX0_init 43 = .ok (.aload_n 1, 1) := by decide +kernel
theorem dX0_init_44 : decode cX0_init 44 = .ok (.putfield 26, 3) := by decide +kernel
theorem dX0_init_47 : decode cX0_init 47 = .ok (.aload_n 0, 1) := by decide +kernel
theorem dX0_init_48 : decode cX0_init 48 = .ok (.aload_n 2, 1) := by decide +kernel
theorem dX0_init_49 : decode cX0_init 49 = .ok (.putfield 30, 3) := by decide +kernel
theorem dX0_init_52 : decode cX0_init 52 = .ok (.return_, 1) := by decide +kernel
theorem dX0_keep_0 : decode cX0_keep 0 = .ok (.aload_n 1, 1) := by decide +kernel
theorem dX0_keep_1 : decode cX0_keep 1 = .ok (.getfield 34, 3) := by decide +kernel
theorem dX0_keep_4 : decode cX0_keep 4 = .ok (.iconst 0, 1) := by decide +kernel
theorem dX0_keep_5 : decode cX0_keep 5 = .ok (.aload_n 0, 1) := by decide +kernel
theorem dX0_keep_6 : decode cX0_keep 6 = .ok (.getfield 11, 3) := by decide +kernel
theorem dX0_keep_9 : decode cX0_keep 9 = .ok (.aload_n 0, 1) := by decide +kernel
theorem dX0_keep_10 : decode cX0_keep 10 = .ok (.getfield 39, 3) := by decide +kernel
theorem dX0_keep_13 : decode cX0_keep 13 = .ok (.aaload, 1) := by decide +kernel
theorem dX0_keep_14 : decode cX0_keep 14 = .ok (.iconst 0, 1) := by decide +kernel
theorem dX0_keep_15 : decode cX0_keep 15 = .ok (.aload_n 1, 1) := by decide +kernel
theorem dX0_keep_16 : decode cX0_keep 16 = .ok (.getfield 43, 3) := by decide +kernel
theorem dX0_keep_19 : decode cX0_keep 19 = .ok (.invokestatic 46, 3) := by decide +kernel
theorem dX0_keep_22 : decode cX0_keep 22 = .ok (.aload_n 0, 1) := by decide +kernel
theorem dX0_keep_23 : decode cX0_keep 23 = .ok (.getfield 16, 3) := by decide +kernel
theorem dX0_keep_26 : decode cX0_keep 26 = .ok (.aload_n 0, 1) := by decide +kernel
theorem dX0_keep_27 : decode cX0_keep 27 = .ok (.getfield 39, 3) := by decide +kernel
theorem dX0_keep_30 : decode cX0_keep 30 = .ok (.aload_n 1, 1) := by decide +kernel
theorem dX0_keep_31 : decode cX0_keep 31 = .ok (.getfield 52, 3) := by decide +kernel
theorem dX0_keep_34 : decode cX0_keep 34 = .ok (.iastore, 1) := by decide +kernel
theorem dX0_keep_35 : decode cX0_keep 35 = .ok (.aload_n 0, 1) := by decide +kernel
theorem dX0_keep_36 : decode cX0_keep 36 = .ok (.getfield 20, 3) := by decide +kernel
theorem dX0_keep_39 : decode cX0_keep 39 = .ok (.aload_n 0, 1) := by decide +kernel
theorem dX0_keep_40 : decode cX0_keep 40 = .ok (.getfield 39, 3) := by decide +kernel
theorem dX0_keep_43 : decode cX0_keep 43 = .ok (.aload_n 1, 1) := by decide +kernel
theorem dX0_keep_44 : decode cX0_keep 44 = .ok (.getfield 43, 3) := by decide +kernel
theorem dX0_keep_47 : decode cX0_keep 47 = .ok (.iastore, 1) := by decide +kernel
theorem dX0_keep_48 : decode cX0_keep 48 = .ok (.aload_n 0, 1) := by decide +kernel
theorem dX0_keep_49 : decode cX0_keep 49 = .ok (.dup, 1) := by decide +kernel
theorem dX0_keep_50 : decode cX0_keep 50 = .ok (.getfield 39, 3) := by decide +kernel
theorem dX0_keep_53 : decode cX0_keep 53 = .ok (.iconst 1, 1) := by decide +kernel
theorem dX0_keep_54 : decode cX0_keep 54 = .ok (.iadd, 1) := by decide +kernel
theorem dX0_keep_55 : decode cX0_keep 55 = .ok (.putfield 39, 3) := by decide +kernel
theorem dX0_keep_58 : decode cX0_keep 58 = .ok (.aload_n 0, 1) := by decide +kernel
theorem dX0_keep_59 : decode cX0_keep 59 = .ok (.getfield 39, 3) := by decide +kernel
theorem dX0_keep_62 : decode cX0_keep 62 = .ok (.iconst 1, 1) := by decide +kernel
theorem dX0_keep_63 : decode cX0_keep 63 = .ok (.isub, 1) := by decide +kernel
theorem dX0_keep_64 : decode cX0_keep 64 = .ok (.ireturn, 1) := by decide +kernel
theorem dX0_comesTo_0 : decode cX0_comesTo 0 = .ok (.iload_n 2, 1) := by decide +kernel
theorem dX0_comesTo_1 : decode cX0_comesTo 1 = .ok (.ifCond .ne 7, 3) := by decide +kernel
theorem dX0_comesTo_4 : decode cX0_comesTo 4 = .ok (.iconst 0, 1) := by decide +kernel
theorem dX0_comesTo_5 : decode cX0_comesTo 5 = .ok (.goto 12, 3) := by decide +kernel
theorem dX0_comesTo_8 : decode cX0_comesTo 8 = .ok (.aload_n 0, 1) := by decide +kernel
theorem dX0_comesTo_9 : decode cX0_comesTo 9 = .ok (.getfield 16, 3) := by decide +kernel
theorem dX0_comesTo_12 : decode cX0_comesTo 12 = .ok (.aload_n 0, 1) := by decide +kernel
theorem dX0_comesTo_13 : decode cX0_comesTo 13 = .ok (.getfield 55, 3) := by decide +kernel
theorem dX0_comesTo_16 : decode cX0_comesTo 16 = .ok (.iaload, 1) := by decide +kernel
theorem dX0_comesTo_17 : decode cX0_comesTo 17 = .ok (.istore_n 3, 1) := by decide +kernel
theorem dX0_comesTo_18 : decode cX0_comesTo 18 = .ok (.iload_n 2, 1) := by decide +kernel
theorem dX0_comesTo_19 : decode cX0_comesTo 19 = .ok (.ifCond .ne 15, 3) := by decide +kernel
theorem dX0_comesTo_22 : decode cX0_comesTo 22 = .ok (.aload_n 0, 1) := by decide +kernel
theorem dX0_comesTo_23 : decode cX0_comesTo 23 = .ok (.getfield 16, 3) := by decide +kernel
theorem dX0_comesTo_26 : decode cX0_comesTo 26 = .ok (.aload_n 0, 1) := by decide +kernel
theorem dX0_comesTo_27 : decode cX0_comesTo 27 = .ok (.getfield 55, 3) := by decide +kernel
theorem dX0_comesTo_30 : decode cX0_comesTo 30 = .ok (.iaload, 1) := by decide +kernel
theorem dX0_comesTo_31 : decode cX0_comesTo 31 = .ok (.goto 12, 3) := by decide +kernel
theorem dX0_comesTo_34 : decode cX0_comesTo 34 = .ok (.aload_n 0, 1) := by decide +kernel
theorem dX0_comesTo_35 : decode cX0_comesTo 35 = .ok (.getfield 20, 3) := by decide +kernel
theorem dX0_comesTo_38 : decode cX0_comesTo 38 = .ok (.aload_n 0, 1) := by decide +kernel
theorem dX0_comesTo_39 : decode cX0_comesTo 39 = .ok (.getfield 55, 3) := by decide +kernel
theorem dX0_comesTo_42 : decode cX0_comesTo 42 = .ok (.iaload, 1) := by decide +kernel
theorem dX0_comesTo_43 : decode cX0_comesTo 43 = .ok (.istore 4, 2) := by decide +kernel
theorem dX0_comesTo_45 : decode cX0_comesTo 45 = .ok (.aload_n 0, 1) := by decide +kernel
theorem dX0_comesTo_46 : decode cX0_comesTo 46 = .ok (.iconst 0, 1) := by decide +kernel
theorem dX0_comesTo_47 : decode cX0_comesTo 47 = .ok (.putfield 58, 3) := by decide +kernel
theorem dX0_comesTo_50 : decode cX0_comesTo 50 = .ok (.iload_n 3, 1) := by decide +kernel
theorem dX0_comesTo_51 : decode cX0_comesTo 51 = .ok (.istore 5, 2) := by decide +kernel
theorem dX0_comesTo_53 : decode cX0_comesTo 53 = .ok (.iload 5, 2) := by decide +kernel
theorem dX0_comesTo_55 : decode cX0_comesTo 55 = .ok (.iload 4, 2) := by decide +kernel
theorem dX0_comesTo_57 : decode cX0_comesTo 57 = .ok (.if_icmp .ge 124, 3) := by decide +kernel
theorem dX0_comesTo_60 : decode cX0_comesTo 60 = .ok (.aload_n 0, 1) := by decide +kernel
theorem dX0_comesTo_61 : decode cX0_comesTo 61 = .ok (.getfield 11, 3) := by decide +kernel
theorem dX0_comesTo_64 : decode cX0_comesTo 64 = .ok (.aload_n 0, 1) := by decide +kernel
theorem dX0_comesTo_65 : decode cX0_comesTo 65 = .ok (.getfield 55, 3) := by decide +kernel
theorem dX0_comesTo_68 : decode cX0_comesTo 68 = .ok (.aaload, 1) := by decide +kernel
theorem dX0_comesTo_69 : decode cX0_comesTo 69 = .ok (.iload 5, 2) := by decide +kernel
theorem dX0_comesTo_71 : decode cX0_comesTo 71 = .ok (.iaload, 1) := by decide +kernel
theorem dX0_comesTo_72 : decode cX0_comesTo 72 = .ok (.istore 6, 2) := by decide +kernel
theorem dX0_comesTo_74 : decode cX0_comesTo 74 = .ok (.iload 6, 2) := by decide +kernel
theorem dX0_comesTo_76 : decode cX0_comesTo 76 = .ok (.ifCond .lt 12, 3) := by decide +kernel
theorem dX0_comesTo_79 : decode cX0_comesTo 79 = .ok (.aload_n 0, 1) := by decide +kernel
theorem dX0_comesTo_80 : decode cX0_comesTo 80 = .ok (.iload 6, 2) := by decide +kernel
theorem dX0_comesTo_82 : decode cX0_comesTo 82 = .ok (.invokevirtual 61, 3) := by decide +kernel
theorem dX0_comesTo_85 : decode cX0_comesTo 85 = .ok (.goto 90, 3) := by decide +kernel
theorem dX0_comesTo_88 : decode cX0_comesTo 88 = .ok (.iload 6, 2) := by decide +kernel
theorem dX0_comesTo_90 : decode cX0_comesTo 90 = .ok (.ineg, 1) := by decide +kernel
theorem dX0_comesTo_91 : decode cX0_comesTo 91 = .ok (.sipush 134, 3) := by decide +kernel
theorem dX0_comesTo_94 : decode cX0_comesTo 94 = .ok (.sipush 139, 3) := by decide +kernel
theorem dX0_comesTo_97 : decode cX0_comesTo 97 = .ok (.invokestatic 65, 3) := by decide +kernel
theorem dX0_comesTo_100 : decode cX0_comesTo 100 = .ok (.ifCond .eq 18, 3) := by decide +kernel
theorem dX0_comesTo_103 : decode cX0_comesTo 103 = .ok (.aload_n 0, 1) := by decide +kernel
theorem dX0_comesTo_104 : decode cX0_comesTo 104 = .ok (.aload_n 0, 1) := by decide +kernel
theorem dX0_comesTo_105 : decode cX0_comesTo 105 = .ok (.iload 6, 2) := by decide +kernel
theorem dX0_comesTo_107 : decode cX0_comesTo 107 = .ok (.ineg, 1) := by decide +kernel
theorem dX0_comesTo_108 : decode cX0_comesTo 108 = .ok (.iload_n 1, 1) := by decide +kernel
theorem dX0_comesTo_109 : decode cX0_comesTo 109 = .ok (.invokevirtual 69, 3) := by decide +kernel
theorem dX0_comesTo_112 : decode cX0_comesTo 112 = .ok (.invokevirtual 61, 3) := by decide +kernel
theorem dX0_comesTo_115 : decode cX0_comesTo 115 = .ok (.goto 60, 3) := by decide +kernel
theorem dX0_comesTo_118 : decode cX0_comesTo 118 = .ok (.iload 6, 2) := by decide +kernel
theorem dX0_comesTo_120 : decode cX0_comesTo 120 = .ok (.sipush (-132), 3) := by decide +kernel
theorem dX0_comesTo_123 : decode cX0_comesTo 123 = .ok (.if_icmp .ne 25, 3) := by decide +kernel
theorem dX0_comesTo_126 : decode cX0_comesTo 126 = .ok (.aload_n 0, 1) := by decide +kernel
theorem dX0_comesTo_127 : decode cX0_comesTo 127 = .ok (.aload_n 0, 1) := by decide +kernel
theorem dX0_comesTo_128 : decode cX0_comesTo 128 = .ok (.invokevirtual 73, 3) := by decide +kernel
theorem dX0_comesTo_131 : decode cX0_comesTo 131 = .ok (.ifCond .ne 7, 3) := by decide +kernel
theorem dX0_comesTo_134 : decode cX0_comesTo 134 = .ok (.iconst 1, 1) := by decide +kernel
theorem dX0_comesTo_135 : decode cX0_comesTo 135 = .ok (.goto 4, 3) := by decide +kernel
theorem dX0_comesTo_138 : decode cX0_comesTo 138 = .ok (.iconst 0, 1) := by decide +kernel
theorem dX0_comesTo_139 : decode cX0_comesTo 139 = .ok (.invokestatic 77, 3) := by decide +kernel
theorem dX0_comesTo_142 : decode cX0_comesTo 142 = .ok (.invokevirtual 61, 3) := by decide +kernel
theorem dX0_comesTo_145 : decode cX0_comesTo 145 = .ok (.goto 30, 3) := by decide +kernel
theorem dX0_comesTo_148 : decode cX0_comesTo 148 = .ok (.iload 6, 2) := by decide +kernel
theorem dX0_comesTo_150 : decode cX0_comesTo 150 = .ok (.sipush (-133), 3) := by decide +kernel
theorem dX0_comesTo_153 : decode cX0_comesTo 153 = .ok (.if_icmp .ne 15, 3) := by decide +kernel
theorem dX0_comesTo_156 : decode cX0_comesTo 156 = .ok (.aload_n 0, 1) := by decide +kernel
theorem dX0_comesTo_157 : decode cX0_comesTo 157 = .ok (.aload_n 0, 1) := by decide +kernel
theorem dX0_comesTo_158 : decode cX0_comesTo 158 = .ok (.invokevirtual 73, 3) := by decide +kernel
theorem dX0_comesTo_161 : decode cX0_comesTo 161 = .ok (.ineg, 1) := by decide +kernel
theorem dX0_comesTo_162 : decode cX0_comesTo 162 = .ok (.invokevirtual 61, 3) := by decide +kernel
theorem dX0_comesTo_165 : decode cX0_comesTo 165 = .ok (.goto 10, 3) := by decide +kernel
theorem dX0_comesTo_168 : decode cX0_comesTo 168 = .ok (.aload_n 0, 1) := by decide +kernel
theorem dX0_comesTo_169 : decode cX0_comesTo 169 = .ok (.iload 6, 2) := by decide +kernel
theorem dX0_comesTo_171 : decode cX0_comesTo 171 = .ok (.ineg, 1) := by decide +kernel
theorem dX0_comesTo_172 : decode cX0_comesTo 172 = .ok (.invokevirtual 81, 3) := by decide +kernel
theorem dX0_comesTo_175 : decode cX0_comesTo 175 = .ok (.iinc 5 1, 3) := by decide +kernel
theorem dX0_comesTo_178 : decode cX0_comesTo 178 = .ok (.goto (-125), 3) := by decide +kernel
theorem dX0_comesTo_181 : decode cX0_comesTo 181 = .ok (.aload_n 0, 1) := by decide +kernel
theorem dX0_comesTo_182 : decode cX0_comesTo 182 = .ok (.getfield 23, 3) := by decide +kernel
theorem dX0_comesTo_185 : decode cX0_comesTo 185 = .ok (.iconst 0, 1) := by decide +kernel
theorem dX0_comesTo_186 : decode cX0_comesTo 186 = .ok (.iaload, 1) := by decide +kernel
theorem dX0_comesTo_187 : decode cX0_comesTo 187 = .ok (.ireturn, 1) := by decide +kernel
theorem dX0_join_0 : decode cX0_join 0 = .ok (.aload_n 0, 1) := by decide +kernel
theorem dX0_join_1 : decode cX0_join 1 = .ok (.invokevirtual 73, 3) := by decide +kernel
theorem dX0_join_4 : decode cX0_join 4 = .ok (.istore_n 2, 1) := by decide +kernel
theorem dX0_join_5 : decode cX0_join 5 = .ok (.aload_n 0, 1) := by decide +kernel
theorem dX0_join_6 : decode cX0_join 6 = .ok (.invokevirtual 73, 3) := by decide +kernel
theorem dX0_join_9 : decode cX0_join 9 = .ok (.istore_n 3, 1) := by decide +kernel
theorem dX0_join_10 : decode cX0_join 10 = .ok (.aload_n 0, 1) := by decide +kernel
theorem dX0_join_11 : decode cX0_join 11 = .ok (.iload_n 1, 1) := by decide +kernel
theorem dX0_join_12 : decode cX0_join 12 = .ok (.iload_n 3, 1) := by decide +kernel
theorem dX0_join_13 : decode cX0_join 13 = .ok (.iload_n 2, 1) := by decide +kernel
theorem dX0_join_14 : decode cX0_join 14 = .ok (.invokestatic 84, 3) := by decide +kernel
theorem dX0_join_17 : decode cX0_join 17 = .ok (.invokevirtual 61, 3) := by decide +kernel
theorem dX0_join_20 : decode cX0_join 20 = .ok (.return_, 1) := by decide +kernel
theorem dX0_push_0 : decode cX0_push 0 = .ok (.aload_n 0, 1) := by decide +kernel
theorem dX0_push_1 : decode cX0_push 1 = .ok (.getfield 58, 3) := by decide +kernel
theorem dX0_push_4 : decode cX0_push 4 = .ok (.sipush 160, 3) := by decide +kernel
theorem dX0_push_7 : decode cX0_push 7 = .ok (.if_icmp .lt 4, 3) := by decide +kernel
theorem dX0_push_10 : decode cX0_push 10 = .ok (.return_, 1) := by decide +kernel
theorem dX0_push_11 : decode cX0_push 11 = .ok (.aload_n 0, 1) := by decide +kernel
theorem dX0_push_12 : decode cX0_push 12 = .ok (.getfield 23, 3) := by decide +kernel
theorem dX0_push_15 : decode cX0_push 15 = .ok (.aload_n 0, 1) := by decide +kernel
theorem dX0_push_16 : decode cX0_push 16 = .ok (.getfield 58, 3) := by decide +kernel
theorem dX0_push_19 : decode cX0_push 19 = .ok (.iload_n 1, 1) := by decide +kernel
theorem dX0_push_20 : decode cX0_push 20 = .ok (.iastore, 1) := by decide +kernel
theorem dX0_push_21 : decode cX0_push 21 = .ok (.aload_n 0, 1) := by decide +kernel
theorem dX0_push_22 : decode cX0_push 22 = .ok (.dup, 1) := by decide +kernel
theorem dX0_push_23 : decode cX0_push 23 = .ok (.getfield 58, 3) := by decide +kernel
theorem dX0_push_26 : decode cX0_push 26 = .ok (.iconst 1, 1) := by decide +kernel
theorem dX0_push_27 : decode cX0_push 27 = .ok (.iadd, 1) := by decide +kernel
theorem dX0_push_28 : decode cX0_push 28 = .ok (.putfield 58, 3) := by decide +kernel
theorem dX0_push_31 : decode cX0_push 31 = .ok (.return_, 1) := by decide +kernel
theorem dX0_pull_0 : decode cX0_pull 0 = .ok (.aload_n 0, 1) := by decide +kernel
theorem dX0_pull_1 : decode cX0_pull 1 = .ok (.getfield 58, 3) := by decide +kernel
theorem dX0_pull_4 : decode cX0_pull 4 = .ok (.ifCond .gt 5, 3) := by decide +kernel
theorem dX0_pull_7 : decode cX0_pull 7 = .ok (.iconst 0, 1) := by decide +kernel
theorem dX0_pull_8 : decode cX0_pull 8 = .ok (.ireturn, 1) := by decide +kernel
theorem dX0_pull_9 : decode cX0_pull 9 = .ok (.aload_n 0, 1) := by decide +kernel
theorem dX0_pull_10 : decode cX0_pull 10 = .ok (.dup, 1) := by decide +kernel
theorem dX0_pull_11 : decode cX0_pull 11 = .ok (.getfield 58, 3) := by decide +kernel
theorem dX0_pull_14 : decode cX0_pull 14 = .ok (.iconst 1, 1) := by decide +kernel
theorem dX0_pull_15 : decode cX0_pull 15 = .ok (.isub, 1) := by decide +kernel
theorem dX0_pull_16 : decode cX0_pull 16 = .ok (.putfield 58, 3) := by decide +kernel
theorem dX0_pull_19 : decode cX0_pull 19 = .ok (.aload_n 0, 1) := by decide +kernel
theorem dX0_pull_20 : decode cX0_pull 20 = .ok (.getfield 23, 3) := by decide +kernel
theorem dX0_pull_23 : decode cX0_pull 23 = .ok (.aload_n 0, 1) := by decide +kernel
theorem dX0_pull_24 : decode cX0_pull 24 = .ok (.getfield 58, 3) := by decide +kernel
theorem dX0_pull_27 : decode cX0_pull 27 = .ok (.iaload, 1) := by decide +kernel
theorem dX0_pull_28 : decode cX0_pull 28 = .ok (.ireturn, 1) := by decide +kernel
theorem dX0_truth_0 : decode cX0_truth 0 = .ok (.iload_n 0, 1) := by decide +kernel
theorem dX0_truth_1 : decode cX0_truth 1 = .ok (.ifCond .eq 7, 3) := by decide +kernel
theorem dX0_truth_4 : decode cX0_truth 4 = .ok (.iconst 1, 1) := by decide +kernel
theorem dX0_truth_5 : decode cX0_truth 5 = .ok (.goto 4, 3) := by decide +kernel
theorem dX0_truth_8 : decode cX0_truth 8 = .ok (.iconst 0, 1) := by decide +kernel
theorem dX0_truth_9 : decode cX0_truth 9 = .ok (.ireturn, 1) := by decide +kernel
theorem dX0_named_0 : decode cX0_named 0 = .ok (.aload_n 0, 1) := by decide +kernel
theorem dX0_named_1 : decode cX0_named 1 = .ok (.getfield 30, 3) := by decide +kernel
theorem dX0_named_4 : decode cX0_named 4 = .ok (.getfield 88, 3) := by decide +kernel
theorem dX0_named_7 : decode cX0_named 7 = .ok (.iload_n 2, 1) := by decide +kernel
theorem dX0_named_8 : decode cX0_named 8 = .ok (.iaload, 1) := by decide +kernel
theorem dX0_named_9 : decode cX0_named 9 = .ok (.istore_n 3, 1) := by decide +kernel
theorem dX0_named_10 : decode cX0_named 10 = .ok (.iload_n 1, 1) := by decide +kernel
theorem dX0_named_11 : decode cX0_named 11 = .ok (.tableswitch 81 134 138 #[33, 41, 51, 60, 69], 33) := by decide +kernel
theorem dX0_named_44 : decode cX0_named 44 = .ok (.aload_n 0, 1) := by decide +kernel
theorem dX0_named_45 : decode cX0_named 45 = .ok (.getfield 26, 3) := by decide +kernel
theorem dX0_named_48 : decode cX0_named 48 = .ok (.getfield 93, 3) := by decide +kernel
theorem dX0_named_51 : decode cX0_named 51 = .ok (.ireturn, 1) := by decide +kernel
theorem dX0_named_52 : decode cX0_named 52 = .ok (.aload_n 0, 1) := by decide +kernel
theorem dX0_named_53 : decode cX0_named 53 = .ok (.getfield 30, 3) := by decide +kernel
theorem dX0_named_56 : decode cX0_named 56 = .ok (.getfield 98, 3) := by decide +kernel
theorem dX0_named_59 : decode cX0_named 59 = .ok (.iload_n 2, 1) := by decide +kernel
theorem dX0_named_60 : decode cX0_named 60 = .ok (.iaload, 1) := by decide +kernel
theorem dX0_named_61 : decode cX0_named 61 = .ok (.ireturn, 1) := by decide +kernel
theorem dX0_named_62 : decode cX0_named 62 = .ok (.aload_n 0, 1) := by decide +kernel
theorem dX0_named_63 : decode cX0_named 63 = .ok (.getfield 30, 3) := by decide +kernel
theorem dX0_named_66 : decode cX0_named 66 = .ok (.iload_n 2, 1) := by decide +kernel
theorem dX0_named_67 : decode cX0_named 67 = .ok (.invokevirtual 99, 3) := by decide +kernel
theorem dX0_named_70 : decode cX0_named 70 = .ok (.ireturn, 1) := by decide +kernel
theorem dX0_named_71 : decode cX0_named 71 = .ok (.aload_n 0, 1) := by decide +kernel
theorem dX0_named_72 : decode cX0_named 72 = .ok (.getfield 26, 3) := by decide +kernel
theorem dX0_named_75 : decode cX0_named 75 = .ok (.iload_n 3, 1) := by decide +kernel
theorem dX0_named_76 : decode cX0_named 76 = .ok (.invokevirtual 103, 3) := by decide +kernel
theorem dX0_named_79 : decode cX0_named 79 = .ok (.ireturn, 1) := by decide +kernel
theorem dX0_named_80 : decode cX0_named 80 = .ok (.aload_n 0, 1) := by decide +kernel
theorem dX0_named_81 : decode cX0_named 81 = .ok (.getfield 26, 3) := by decide +kernel
theorem dX0_named_84 : decode cX0_named 84 = .ok (.getfield 106, 3) := by decide +kernel
theorem dX0_named_87 : decode cX0_named 87 = .ok (.iconst 0, 1) := by decide +kernel
theorem dX0_named_88 : decode cX0_named 88 = .ok (.aaload, 1) := by decide +kernel
theorem dX0_named_89 : decode cX0_named 89 = .ok (.iload_n 3, 1) := by decide +kernel
theorem dX0_named_90 : decode cX0_named 90 = .ok (.iaload, 1) := by decide +kernel
theorem dX0_named_91 : decode cX0_named 91 = .ok (.ireturn, 1) := by decide +kernel
theorem dX0_named_92 : decode cX0_named 92 = .ok (.aload_n 0, 1) := by decide +kernel
theorem dX0_named_93 : decode cX0_named 93 = .ok (.getfield 26, 3) := by decide +kernel
theorem dX0_named_96 : decode cX0_named 96 = .ok (.getfield 106, 3) := by decide +kernel
theorem dX0_named_99 : decode cX0_named 99 = .ok (.iconst 1, 1) := by decide +kernel
theorem dX0_named_100 : decode cX0_named 100 = .ok (.aaload, 1) := by decide +kernel
theorem dX0_named_101 : decode cX0_named 101 = .ok (.iload_n 3, 1) := by decide +kernel
theorem dX0_named_102 : decode cX0_named 102 = .ok (.iaload, 1) := by decide +kernel
theorem dX0_named_103 : decode cX0_named 103 = .ok (.ireturn, 1) := by decide +kernel
theorem dX0_joined_0 : decode cX0_joined 0 = .ok (.iload_n 0, 1) := by decide +kernel
theorem dX0_joined_1 : decode cX0_joined 1 = .ok (.lookupswitch 129 #[(43, 121), (45, 125), (60, 93), (61, 107), (130, 59), (131, 76)], 59) := by decide +kernel
theorem dX0_joined_60 : decode cX0_joined 60 = .ok (.iload_n 1, 1) := by decide +kernel
theorem dX0_joined_61 : decode cX0_joined 61 = .ok (.ifCond .ne 7, 3) := by decide +kernel
theorem dX0_joined_64 : decode cX0_joined 64 = .ok (.iload_n 2, 1) := by decide +kernel
theorem dX0_joined_65 : decode cX0_joined 65 = .ok (.ifCond .eq 7, 3) := by decide +kernel
theorem dX0_joined_68 : decode cX0_joined 68 = .ok (.iconst 1, 1) := by decide +kernel
theorem dX0_joined_69 : decode cX0_joined 69 = .ok (.goto 4, 3) := by decide +kernel
theorem dX0_joined_72 : decode cX0_joined 72 = .ok (.iconst 0, 1) := by decide +kernel
theorem dX0_joined_73 : decode cX0_joined 73 = .ok (.invokestatic 77, 3) := by decide +kernel
theorem dX0_joined_76 : decode cX0_joined 76 = .ok (.ireturn, 1) := by decide +kernel
theorem dX0_joined_77 : decode cX0_joined 77 = .ok (.iload_n 1, 1) := by decide +kernel
theorem dX0_joined_78 : decode cX0_joined 78 = .ok (.ifCond .eq 11, 3) := by decide +kernel
theorem dX0_joined_81 : decode cX0_joined 81 = .ok (.iload_n 2, 1) := by decide +kernel
theorem dX0_joined_82 : decode cX0_joined 82 = .ok (.ifCond .eq 7, 3) := by decide +kernel
theorem dX0_joined_85 : decode cX0_joined 85 = .ok (.iconst 1, 1) := by decide +kernel
theorem dX0_joined_86 : decode cX0_joined 86 = .ok (.goto 4, 3) := by decide +kernel
theorem dX0_joined_89 : decode cX0_joined 89 = .ok (.iconst 0, 1) := by decide +kernel
theorem dX0_joined_90 : decode cX0_joined 90 = .ok (.invokestatic 77, 3) := by decide +kernel
theorem dX0_joined_93 : decode cX0_joined 93 = .ok (.ireturn, 1) := by decide +kernel
theorem dX0_joined_94 : decode cX0_joined 94 = .ok (.iload_n 1, 1) := by decide +kernel
theorem dX0_joined_95 : decode cX0_joined 95 = .ok (.iload_n 2, 1) := by decide +kernel
theorem dX0_joined_96 : decode cX0_joined 96 = .ok (.if_icmp .ge 7, 3) := by decide +kernel
theorem dX0_joined_99 : decode cX0_joined 99 = .ok (.iconst 1, 1) := by decide +kernel
theorem dX0_joined_100 : decode cX0_joined 100 = .ok (.goto 4, 3) := by decide +kernel
theorem dX0_joined_103 : decode cX0_joined 103 = .ok (.iconst 0, 1) := by decide +kernel
theorem dX0_joined_104 : decode cX0_joined 104 = .ok (.invokestatic 77, 3) := by decide +kernel
theorem dX0_joined_107 : decode cX0_joined 107 = .ok (.ireturn, 1) := by decide +kernel
theorem dX0_joined_108 : decode cX0_joined 108 = .ok (.iload_n 1, 1) := by decide +kernel
theorem dX0_joined_109 : decode cX0_joined 109 = .ok (.iload_n 2, 1) := by decide +kernel
theorem dX0_joined_110 : decode cX0_joined 110 = .ok (.if_icmp .ne 7, 3) := by decide +kernel
theorem dX0_joined_113 : decode cX0_joined 113 = .ok (.iconst 1, 1) := by decide +kernel
theorem dX0_joined_114 : decode cX0_joined 114 = .ok (.goto 4, 3) := by decide +kernel
theorem dX0_joined_117 : decode cX0_joined 117 = .ok (.iconst 0, 1) := by decide +kernel
theorem dX0_joined_118 : decode cX0_joined 118 = .ok (.invokestatic 77, 3) := by decide +kernel
theorem dX0_joined_121 : decode cX0_joined 121 = .ok (.ireturn, 1) := by decide +kernel
theorem dX0_joined_122 : decode cX0_joined 122 = .ok (.iload_n 1, 1) := by decide +kernel
theorem dX0_joined_123 : decode cX0_joined 123 = .ok (.iload_n 2, 1) := by decide +kernel
theorem dX0_joined_124 : decode cX0_joined 124 = .ok (.iadd, 1) := by decide +kernel
theorem dX0_joined_125 : decode cX0_joined 125 = .ok (.ireturn, 1) := by decide +kernel
theorem dX0_joined_126 : decode cX0_joined 126 = .ok (.iload_n 1, 1) := by decide +kernel
theorem dX0_joined_127 : decode cX0_joined 127 = .ok (.iload_n 2, 1) := by decide +kernel
theorem dX0_joined_128 : decode cX0_joined 128 = .ok (.isub, 1) := by decide +kernel
theorem dX0_joined_129 : decode cX0_joined 129 = .ok (.ireturn, 1) := by decide +kernel
theorem dX0_joined_130 : decode cX0_joined 130 = .ok (.iload_n 1, 1) := by decide +kernel
theorem dX0_joined_131 : decode cX0_joined 131 = .ok (.iload_n 2, 1) := by decide +kernel
theorem dX0_joined_132 : decode cX0_joined 132 = .ok (.imul, 1) := by decide +kernel
theorem dX0_joined_133 : decode cX0_joined 133 = .ok (.ireturn, 1) := by decide +kernel
theorem dX1_init_0 : decode cX1_init 0 = .ok (.aload_n 0, 1) := by decide +kernel
theorem dX1_init_1 : decode cX1_init 1 = .ok (.invokespecial 3, 3) := by decide +kernel
theorem dX1_init_4 : decode cX1_init 4 = .ok (.aload_n 0, 1) := by decide +kernel
theorem dX1_init_5 : decode cX1_init 5 = .ok (.bipush 6, 2) := by decide +kernel
theorem dX1_init_7 : decode cX1_init 7 = .ok (.newarray .int, 2) := by decide +kernel
theorem dX1_init_9 : decode cX1_init 9 = .ok (.putfield 9, 3) := by decide +kernel
theorem dX1_init_12 : decode cX1_init 12 = .ok (.aload_n 0, 1) := by decide +kernel
theorem dX1_init_13 : decode cX1_init 13 = .ok (.bipush 6, 2) := by decide +kernel
theorem dX1_init_15 : decode cX1_init 15 = .ok (.newarray .int, 2) := by decide +kernel
theorem dX1_init_17 : decode cX1_init 17 = .ok (.putfield 15, 3) := by decide +kernel
theorem dX1_init_20 : decode cX1_init 20 = .ok (.aload_n 0, 1) := by decide +kernel
theorem dX1_init_21 : decode cX1_init 21 = .ok (.bipush 64, 2) := by decide +kernel
theorem dX1_init_23 : decode cX1_init 23 = .ok (.newarray .int, 2) := by decide +kernel
theorem dX1_init_25 : decode cX1_init 25 = .ok (.putfield 18, 3) := by decide +kernel
theorem dX1_init_28 : decode cX1_init 28 = .ok (.aload_n 0, 1) := by decide +kernel
theorem dX1_init_29 : decode cX1_init 29 = .ok (.bipush 64, 2) := by decide +kernel
theorem dX1_init_31 : decode cX1_init 31 = .ok (.newarray .int, 2) := by decide +kernel
theorem dX1_init_33 : decode cX1_init 33 = .ok (.putfield 21, 3) := by decide +kernel
theorem dX1_init_36 : decode cX1_init 36 = .ok (.aload_n 0, 1) := by decide +kernel
theorem dX1_init_37 : decode cX1_init 37 = .ok (.aload_n 1, 1) := by decide +kernel
theorem dX1_init_38 : decode cX1_init 38 = .ok (.putfield 24, 3) := by decide +kernel
theorem dX1_init_41 : decode cX1_init 41 = .ok (.aload_n 0, 1) := by decide +kernel
theorem dX1_init_42 : decode cX1_init 42 = .ok (.aload_n 2, 1) := by decide +kernel
theorem dX1_init_43 : decode cX1_init 43 = .ok (.putfield 28, 3) := by decide +kernel
theorem dX1_init_46 : decode cX1_init 46 = .ok (.aload_n 0, 1) := by decide +kernel
theorem dX1_init_47 : decode cX1_init 47 = .ok (.aload_n 3, 1) := by decide +kernel
theorem dX1_init_48 : decode cX1_init 48 = .ok (.putfield 32, 3) := by decide +kernel
theorem dX1_init_51 : decode cX1_init 51 = .ok (.return_, 1) := by decide +kernel
theorem dX1_choose_0 : decode cX1_choose 0 = .ok (.aload_n 0, 1) := by decide +kernel
theorem dX1_choose_1 : decode cX1_choose 1 = .ok (.iconst 0, 1) := by decide +kernel
theorem dX1_choose_2 : decode cX1_choose 2 = .ok (.putfield 36, 3) := by decide +kernel
theorem dX1_choose_5 : decode cX1_choose 5 = .ok (.aload_n 0, 1) := by decide +kernel
theorem dX1_choose_6 : decode cX1_choose 6 = .ok (.getfield 18, 3) := by decide +kernel
theorem dX1_choose_9 : decode cX1_choose 9 = .ok (.iconst 0, 1) := by decide +kernel
theorem dX1_choose_10 : decode cX1_choose 10 = .ok (.aload_n 0, 1) := by decide +kernel
theorem dX1_choose_11 : decode cX1_choose 11 = .ok (.getfield 24, 3) := by decide +kernel
theorem dX1_choose_14 : decode cX1_choose 14 = .ok (.getfield 40, 3) := by decide +kernel
theorem dX1_choose_17 : decode cX1_choose 17 = .ok (.iastore, 1) := by decide +kernel
theorem dX1_choose_18 : decode cX1_choose 18 = .ok (.iconst 0, 1) := by decide +kernel
theorem dX1_choose_19 : decode cX1_choose 19 = .ok (.istore_n 2, 1) := by decide +kernel
theorem dX1_choose_20 : decode cX1_choose 20 = .ok (.iload_n 2, 1) := by decide +kernel
theorem dX1_choose_21 : decode cX1_choose 21 = .ok (.bipush 16, 2) := by decide +kernel
theorem dX1_choose_23 : decode cX1_choose 23 = .ok (.if_icmp .ge 114, 3) := by decide +kernel
theorem dX1_choose_26 : decode cX1_choose 26 = .ok (.aload_n 0, 1) := by decide +kernel
theorem dX1_choose_27 : decode cX1_choose 27 = .ok (.getfield 36, 3) := by decide +kernel
theorem dX1_choose_30 : decode cX1_choose 30 = .ok (.bipush 6, 2) := by decide +kernel
theorem dX1_choose_32 : decode cX1_choose 32 = .ok (.if_icmp .ge 105, 3) := by decide +kernel
theorem dX1_choose_35 : decode cX1_choose 35 = .ok (.iload_n 1, 1) := by decide +kernel
theorem dX1_choose_36 : decode cX1_choose 36 = .ok (.iload_n 2, 1) := by decide +kernel
theorem dX1_choose_37 : decode cX1_choose 37 = .ok (.ishr, 1) := by decide +kernel
theorem dX1_choose_38 : decode cX1_choose 38 = .ok (.iconst 1, 1) := by decide +kernel
theorem dX1_choose_39 : decode cX1_choose 39 = .ok (.iand, 1) := by decide +kernel
theorem dX1_choose_40 : decode cX1_choose 40 = .ok (.ifCond .ne 6, 3) := by decide +kernel
theorem dX1_choose_43 : decode cX1_choose 43 = .ok (.goto 88, 3) := by decide +kernel
theorem dX1_choose_46 : decode cX1_choose 46 = .ok (.iconst 1, 1) := by decide +kernel
theorem dX1_choose_47 : decode cX1_choose 47 = .ok (.aload_n 0, 1) := by decide +kernel
theorem dX1_choose_48 : decode cX1_choose 48 = .ok (.getfield 36, 3) := by decide +kernel
theorem dX1_choose_51 : decode cX1_choose 51 = .ok (.ishl, 1) := by decide +kernel
theorem dX1_choose_52 : decode cX1_choose 52 = .ok (.istore_n 3, 1) := by decide +kernel
theorem dX1_choose_53 : decode cX1_choose 53 = .ok (.iconst 0, 1) := by decide +kernel
theorem dX1_choose_54 : decode cX1_choose 54 = .ok (.istore 4, 2) := by decide +kernel
theorem dX1_choose_56 : decode cX1_choose 56 = .ok (.iload 4, 2) := by decide +kernel
theorem dX1_choose_58 : decode cX1_choose 58 = .ok (.iload_n 3, 1) := by decide +kernel
theorem dX1_choose_59 : decode cX1_choose 59 = .ok (.if_icmp .ge 35, 3) := by decide +kernel
theorem dX1_choose_62 : decode cX1_choose 62 = .ok (.aload_n 0, 1) := by decide +kernel
theorem dX1_choose_63 : decode cX1_choose 63 = .ok (.getfield 18, 3) := by decide +kernel
theorem dX1_choose_66 : decode cX1_choose 66 = .ok (.iload 4, 2) := by decide +kernel
theorem dX1_choose_68 : decode cX1_choose 68 = .ok (.iload_n 3, 1) := by decide +kernel
theorem dX1_choose_69 : decode cX1_choose 69 = .ok (.iadd, 1) := by decide +kernel
theorem dX1_choose_70 : decode cX1_choose 70 = .ok (.aload_n 0, 1) := by decide +kernel
theorem dX1_choose_71 : decode cX1_choose 71 = .ok (.getfield 18, 3) := by decide +kernel
theorem dX1_choose_74 : decode cX1_choose 74 = .ok (.iload 4, 2) := by decide +kernel
theorem dX1_choose_76 : decode cX1_choose 76 = .ok (.iaload, 1) := by decide +kernel
theorem dX1_choose_77 : decode cX1_choose 77 = .ok (.aload_n 0, 1) := by decide +kernel
theorem dX1_choose_78 : decode cX1_choose 78 = .ok (.getfield 28, 3) := by decide +kernel
theorem dX1_choose_81 : decode cX1_choose 81 = .ok (.getfield 45, 3) := by decide +kernel
theorem dX1_choose_84 : decode cX1_choose 84 = .ok (.iload_n 2, 1) := by decide +kernel
theorem dX1_choose_85 : decode cX1_choose 85 = .ok (.iaload, 1) := by decide +kernel
theorem dX1_choose_86 : decode cX1_choose 86 = .ok (.iadd, 1) := by decide +kernel
theorem dX1_choose_87 : decode cX1_choose 87 = .ok (.iastore, 1) := by decide +kernel
theorem dX1_choose_88 : decode cX1_choose 88 = .ok (.iinc 4 1, 3) := by decide +kernel
theorem dX1_choose_91 : decode cX1_choose 91 = .ok (.goto (-35), 3) := by decide +kernel
theorem dX1_choose_94 : decode cX1_choose 94 = .ok (.aload_n 0, 1) := by decide +kernel
theorem dX1_choose_95 : decode cX1_choose 95 = .ok (.getfield 9, 3) := by decide +kernel
theorem dX1_choose_98 : decode cX1_choose 98 = .ok (.aload_n 0, 1) := by decide +kernel
theorem dX1_choose_99 : decode cX1_choose 99 = .ok (.getfield 36, 3) := by decide +kernel
theorem dX1_choose_102 : decode cX1_choose 102 = .ok (.iload_n 2, 1) := by decide +kernel
theorem dX1_choose_103 : decode cX1_choose 103 = .ok (.iastore, 1) := by decide +kernel
theorem dX1_choose_104 : decode cX1_choose 104 = .ok (.aload_n 0, 1) := by decide +kernel
theorem dX1_choose_105 : decode cX1_choose 105 = .ok (.getfield 15, 3) := by decide +kernel
theorem dX1_choose_108 : decode cX1_choose 108 = .ok (.aload_n 0, 1) := by decide +kernel
theorem dX1_choose_109 : decode cX1_choose 109 = .ok (.getfield 36, 3) := by decide +kernel
theorem dX1_choose_112 : decode cX1_choose 112 = .ok (.aload_n 0, 1) := by decide +kernel
theorem dX1_choose_113 : decode cX1_choose 113 = .ok (.getfield 32, 3) := by decide +kernel
theorem dX1_choose_116 : decode cX1_choose 116 = .ok (.iload_n 2, 1) := by decide +kernel
theorem dX1_choose_117 : decode cX1_choose 117 = .ok (.invokevirtual 50, 3) := by decide +kernel
theorem dX1_choose_120 : decode cX1_choose 120 = .ok (.iastore, 1) := by decide +kernel
theorem dX1_choose_121 : decode cX1_choose 121 = .ok (.aload_n 0, 1) := by decide +kernel
theorem dX1_choose_122 : decode cX1_choose 122 = .ok (.dup, 1) := by decide +kernel
theorem dX1_choose_123 : decode cX1_choose 123 = .ok (.getfield 36, 3) := by decide +kernel
theorem dX1_choose_126 : decode cX1_choose 126 = .ok (.iconst 1, 1) := by decide +kernel
theorem dX1_choose_127 : decode cX1_choose 127 = .ok (.iadd, 1) := by decide +kernel
theorem dX1_choose_128 : decode cX1_choose 128 = .ok (.putfield 36, 3) := by decide +kernel
theorem dX1_choose_131 : decode cX1_choose 131 = .ok (.iinc 2 1, 3) := by decide +kernel
theorem dX1_choose_134 : decode cX1_choose 134 = .ok (.goto (-114), 3) := by decide +kernel
theorem dX1_choose_137 : decode cX1_choose 137 = .ok (.return_, 1) := by decide +kernel
theorem dX1_arrange_0 : decode cX1_arrange 0 = .ok (.iconst 1, 1) := by decide +kernel
theorem dX1_arrange_1 : decode cX1_arrange 1 = .ok (.aload_n 0, 1) := by decide +kernel
theorem dX1_arrange_2 : decode cX1_arrange 2 = .ok (.getfield 36, 3) := by decide +kernel
theorem dX1_arrange_5 : decode cX1_arrange 5 = .ok (.ishl, 1) := by decide +kernel
theorem dX1_arrange_6 : decode cX1_arrange 6 = .ok (.iconst 1, 1) := by decide +kernel
theorem dX1_arrange_7 : decode cX1_arrange 7 = .ok (.isub, 1) := by decide +kernel
theorem dX1_arrange_8 : decode cX1_arrange 8 = .ok (.istore_n 1, 1) := by decide +kernel
theorem dX1_arrange_9 : decode cX1_arrange 9 = .ok (.aload_n 0, 1) := by decide +kernel
theorem dX1_arrange_10 : decode cX1_arrange 10 = .ok (.getfield 21, 3) := by decide +kernel
theorem dX1_arrange_13 : decode cX1_arrange 13 = .ok (.iload_n 1, 1) := by decide +kernel
theorem dX1_arrange_14 : decode cX1_arrange 14 = .ok (.iconst 0, 1) := by decide +kernel
theorem dX1_arrange_15 : decode cX1_arrange 15 = .ok (.iastore, 1) := by decide +kernel
theorem dX1_arrange_16 : decode cX1_arrange 16 = .ok (.iload_n 1, 1) := by decide +kernel
theorem dX1_arrange_17 : decode cX1_arrange 17 = .ok (.iconst 1, 1) := by decide +kernel
theorem dX1_arrange_18 : decode cX1_arrange 18 = .ok (.isub, 1) := by decide +kernel
theorem dX1_arrange_19 : decode cX1_arrange 19 = .ok (.istore_n 2, 1) := by decide +kernel
theorem dX1_arrange_20 : decode cX1_arrange 20 = .ok (.iload_n 2, 1) := by decide +kernel
theorem dX1_arrange_21 : decode cX1_arrange 21 = .ok (.ifCond .lt 25, 3) := by decide +kernel
theorem dX1_arrange_24 : decode cX1_arrange 24 = .ok (.aload_n 0, 1) := by decide +kernel
theorem dX1_arrange_25 : decode cX1_arrange 25 = .ok (.getfield 21, 3) := by decide +kernel
theorem dX1_arrange_28 : decode cX1_arrange 28 = .ok (.iload_n 2, 1) := by decide +kernel
theorem dX1_arrange_29 : decode cX1_arrange 29 = .ok (.aload_n 0, 1) := by decide +kernel
theorem dX1_arrange_30 : decode cX1_arrange 30 = .ok (.iload_n 2, 1) := by decide +kernel
theorem dX1_arrange_31 : decode cX1_arrange 31 = .ok (.aload_n 0, 1) := by decide +kernel
theorem dX1_arrange_32 : decode cX1_arrange 32 = .ok (.iload_n 2, 1) := by decide +kernel
theorem dX1_arrange_33 : decode cX1_arrange 33 = .ok (.invokevirtual 55, 3) := by decide +kernel
theorem dX1_arrange_36 : decode cX1_arrange 36 = .ok (.invokevirtual 58, 3) := by decide +kernel
theorem dX1_arrange_39 : decode cX1_arrange 39 = .ok (.iastore, 1) := by decide +kernel
theorem dX1_arrange_40 : decode cX1_arrange 40 = .ok (.iinc 2 (-1), 3) := by decide +kernel
theorem dX1_arrange_43 : decode cX1_arrange 43 = .ok (.goto (-23), 3) := by decide +kernel
theorem dX1_arrange_46 : decode cX1_arrange 46 = .ok (.return_, 1) := by decide +kernel
theorem dX1_leastNext_0 : decode cX1_leastNext 0 = .ok (.iconst (-1), 1) := by decide +kernel
theorem dX1_leastNext_1 : decode cX1_leastNext 1 = .ok (.istore_n 2, 1) := by decide +kernel
theorem dX1_leastNext_2 : decode cX1_leastNext 2 = .ok (.iconst 0, 1) := by decide +kernel
theorem dX1_leastNext_3 : decode cX1_leastNext 3 = .ok (.istore_n 3, 1) := by decide +kernel
theorem dX1_leastNext_4 : decode cX1_leastNext 4 = .ok (.iload_n 3, 1) := by decide +kernel
theorem dX1_leastNext_5 : decode cX1_leastNext 5 = .ok (.aload_n 0, 1) := by decide +kernel
theorem dX1_leastNext_6 : decode cX1_leastNext 6 = .ok (.getfield 36, 3) := by decide +kernel
theorem dX1_leastNext_9 : decode cX1_leastNext 9 = .ok (.if_icmp .ge 51, 3) := by decide +kernel
theorem dX1_leastNext_12 : decode cX1_leastNext 12 = .ok (.iload_n 1, 1) := by decide +kernel
theorem dX1_leastNext_13 : decode cX1_leastNext 13 = .ok (.iload_n 3, 1) := by decide +kernel
theorem dX1_leastNext_14 : decode cX1_leastNext 14 = .ok (.ishr, 1) := by decide +kernel
theorem dX1_leastNext_15 : decode cX1_leastNext 15 = .ok (.iconst 1, 1) := by decide +kernel
theorem dX1_leastNext_16 : decode cX1_leastNext 16 = .ok (.iand, 1) := by decide +kernel
theorem dX1_leastNext_17 : decode cX1_leastNext 17 = .ok (.ifCond .ne 7, 3) := by decide +kernel
theorem dX1_leastNext_20 : decode cX1_leastNext 20 = .ok (.iconst 1, 1) := by decide +kernel
theorem dX1_leastNext_21 : decode cX1_leastNext 21 = .ok (.goto 4, 3) := by decide +kernel
theorem dX1_leastNext_24 : decode cX1_leastNext 24 = .ok (.iconst 0, 1) := by decide +kernel
theorem dX1_leastNext_25 : decode cX1_leastNext 25 = .ok (.istore 4, 2) := by decide +kernel
theorem dX1_leastNext_27 : decode cX1_leastNext 27 = .ok (.iload 4, 2) := by decide +kernel
theorem dX1_leastNext_29 : decode cX1_leastNext 29 = .ok (.ifCond .eq 25, 3) := by decide +kernel
theorem dX1_leastNext_32 : decode cX1_leastNext 32 = .ok (.iload_n 2, 1) := by decide +kernel
theorem dX1_leastNext_33 : decode cX1_leastNext 33 = .ok (.iconst (-1), 1) := by decide +kernel
theorem dX1_leastNext_34 : decode cX1_leastNext 34 = .ok (.if_icmp .eq 18, 3) := by decide +kernel
theorem dX1_leastNext_37 : decode cX1_leastNext 37 = .ok (.aload_n 0, 1) := by decide +kernel
theorem dX1_leastNext_38 : decode cX1_leastNext 38 = .ok (.iload_n 1, 1) := by decide +kernel
theorem dX1_leastNext_39 : decode cX1_leastNext 39 = .ok (.iload_n 3, 1) := by decide +kernel
theorem dX1_leastNext_40 : decode cX1_leastNext 40 = .ok (.invokevirtual 58, 3) := by decide +kernel
theorem dX1_leastNext_43 : decode cX1_leastNext 43 = .ok (.aload_n 0, 1) := by decide +kernel
theorem dX1_leastNext_44 : decode cX1_leastNext 44 = .ok (.iload_n 1, 1) := by decide +kernel
theorem dX1_leastNext_45 : decode cX1_leastNext 45 = .ok (.iload_n 2, 1) := by decide +kernel
theorem dX1_leastNext_46 : decode cX1_leastNext 46 = .ok (.invokevirtual 58, 3) := by decide +kernel
theorem dX1_leastNext_49 : decode cX1_leastNext 49 = .ok (.if_icmp .ge 5, 3) := by decide +kernel
theorem dX1_leastNext_52 : decode cX1_leastNext 52 = .ok (.iload_n 3, 1) := by decide +kernel
theorem dX1_leastNext_53 : decode cX1_leastNext 53 = .ok (.istore_n 2, 1) := by decide +kernel
theorem dX1_leastNext_54 : decode cX1_leastNext 54 = .ok (.iinc 3 1, 3) := by decide +kernel
theorem dX1_leastNext_57 : decode cX1_leastNext 57 = .ok (.goto (-53), 3) := by decide +kernel
theorem dX1_leastNext_60 : decode cX1_leastNext 60 = .ok (.iload_n 2, 1) := by decide +kernel
theorem dX1_leastNext_61 : decode cX1_leastNext 61 = .ok (.ireturn, 1) := by decide +kernel
theorem dX1_weightBehind_0 : decode cX1_weightBehind 0 = .ok (.iload_n 2, 1) := by decide +kernel
theorem dX1_weightBehind_1 : decode cX1_weightBehind 1 = .ok (.iconst (-1), 1) := by decide +kernel
theorem dX1_weightBehind_2 : decode cX1_weightBehind 2 = .ok (.if_icmp .ne 5, 3) := by decide +kernel
theorem dX1_weightBehind_5 : decode cX1_weightBehind 5 = .ok (.iconst 0, 1) := by decide +kernel
theorem dX1_weightBehind_6 : decode cX1_weightBehind 6 = .ok (.ireturn, 1) := by decide +kernel
theorem dX1_weightBehind_7 : decode cX1_weightBehind 7 = .ok (.iload_n 1, 1) := by decide +kernel
theorem dX1_weightBehind_8 : decode cX1_weightBehind 8 = .ok (.iconst 1, 1) := by decide +kernel
theorem dX1_weightBehind_9 : decode cX1_weightBehind 9 = .ok (.iload_n 2, 1) := by decide +kernel
theorem dX1_weightBehind_10 : decode cX1_weightBehind 10 = .ok (.ishl, 1) := by decide +kernel
theorem dX1_weightBehind_11 : decode cX1_weightBehind 11 = .ok (.ior, 1) := by decide +kernel
theorem dX1_weightBehind_12 : decode cX1_weightBehind 12 = .ok (.istore_n 3, 1) := by decide +kernel
theorem dX1_weightBehind_13 : decode cX1_weightBehind 13 = .ok (.aload_n 0, 1) := by decide +kernel
theorem dX1_weightBehind_14 : decode cX1_weightBehind 14 = .ok (.getfield 15, 3) := by decide +kernel
theorem dX1_weightBehind_17 : decode cX1_weightBehind 17 = .ok (.iload_n 2, 1) := by decide +kernel
theorem dX1_weightBehind_18 : decode cX1_weightBehind 18 = .ok (.iaload, 1) := by decide +kernel
theorem dX1_weightBehind_19 : decode cX1_weightBehind 19 = .ok (.iconst (-1), 1) := by decide +kernel
theorem dX1_weightBehind_20 : decode cX1_weightBehind 20 = .ok (.if_icmp .eq 22, 3) := by decide +kernel
theorem dX1_weightBehind_23 : decode cX1_weightBehind 23 = .ok (.aload_n 0, 1) := by decide +kernel
theorem dX1_weightBehind_24 : decode cX1_weightBehind 24 = .ok (.getfield 18, 3) := by decide +kernel
theorem dX1_weightBehind_27 : decode cX1_weightBehind 27 = .ok (.iload_n 3, 1) := by decide +kernel
theorem dX1_weightBehind_28 : decode cX1_weightBehind 28 = .ok (.iaload, 1) := by decide +kernel
theorem dX1_weightBehind_29 : decode cX1_weightBehind 29 = .ok (.aload_n 0, 1) := by decide +kernel
theorem dX1_weightBehind_30 : decode cX1_weightBehind 30 = .ok (.getfield 15, 3) := by decide +kernel
theorem dX1_weightBehind_33 : decode cX1_weightBehind 33 = .ok (.iload_n 2, 1) := by decide +kernel
theorem dX1_weightBehind_34 : decode cX1_weightBehind 34 = .ok (.iaload, 1) := by decide +kernel
theorem dX1_weightBehind_35 : decode cX1_weightBehind 35 = .ok (.if_icmp .le 7, 3) := by decide +kernel
theorem dX1_weightBehind_38 : decode cX1_weightBehind 38 = .ok (.iconst 1, 1) := by decide +kernel
theorem dX1_weightBehind_39 : decode cX1_weightBehind 39 = .ok (.goto 4, 3) := by decide +kernel
theorem dX1_weightBehind_42 : decode cX1_weightBehind 42 = .ok (.iconst 0, 1) := by decide +kernel
theorem dX1_weightBehind_43 : decode cX1_weightBehind 43 = .ok (.istore 4, 2) := by decide +kernel
theorem dX1_weightBehind_45 : decode cX1_weightBehind 45 = .ok (.aload_n 0, 1) := by decide +kernel
theorem dX1_weightBehind_46 : decode cX1_weightBehind 46 = .ok (.getfield 21, 3) := by decide +kernel
theorem dX1_weightBehind_49 : decode cX1_weightBehind 49 = .ok (.iload_n 3, 1) := by decide +kernel
theorem dX1_weightBehind_50 : decode cX1_weightBehind 50 = .ok (.iaload, 1) := by decide +kernel
theorem dX1_weightBehind_51 : decode cX1_weightBehind 51 = .ok (.aload_n 0, 1) := by decide +kernel
theorem dX1_weightBehind_52 : decode cX1_weightBehind 52 = .ok (.getfield 18, 3) := by decide +kernel
theorem dX1_weightBehind_55 : decode cX1_weightBehind 55 = .ok (.iload_n 3, 1) := by decide +kernel
theorem dX1_weightBehind_56 : decode cX1_weightBehind 56 = .ok (.iaload, 1) := by decide +kernel
theorem dX1_weightBehind_57 : decode cX1_weightBehind 57 = .ok (.iadd, 1) := by decide +kernel
theorem dX1_weightBehind_58 : decode cX1_weightBehind 58 = .ok (.iload 4, 2) := by decide +kernel
theorem dX1_weightBehind_60 : decode cX1_weightBehind 60 = .ok (.ifCond .eq 8, 3) := by decide +kernel
theorem dX1_weightBehind_63 : decode cX1_weightBehind 63 = .ok (.ldc 62, 2) := by decide +kernel
theorem dX1_weightBehind_65 : decode cX1_weightBehind 65 = .ok (.goto 4, 3) := by decide +kernel
theorem dX1_weightBehind_68 : decode cX1_weightBehind 68 = .ok (.iconst 0, 1) := by decide +kernel
theorem dX1_weightBehind_69 : decode cX1_weightBehind 69 = .ok (.iadd, 1) := by decide +kernel
theorem dX1_weightBehind_70 : decode cX1_weightBehind 70 = .ok (.ireturn, 1) := by decide +kernel
theorem dX1_late_0 : decode cX1_late 0 = .ok (.aload_n 0, 1) := by decide +kernel
theorem dX1_late_1 : decode cX1_late 1 = .ok (.getfield 21, 3) := by decide +kernel
theorem dX1_late_4 : decode cX1_late 4 = .ok (.iconst 0, 1) := by decide +kernel
theorem dX1_late_5 : decode cX1_late 5 = .ok (.iaload, 1) := by decide +kernel
theorem dX1_late_6 : decode cX1_late 6 = .ok (.ldc 62, 2) := by decide +kernel
theorem dX1_late_8 : decode cX1_late 8 = .ok (.idiv, 1) := by decide +kernel
theorem dX1_late_9 : decode cX1_late 9 = .ok (.ireturn, 1) := by decide +kernel
theorem dX1_spanAt_0 : decode cX1_spanAt 0 = .ok (.iload_n 1, 1) := by decide +kernel
theorem dX1_spanAt_1 : decode cX1_spanAt 1 = .ok (.iconst 0, 1) := by decide +kernel
theorem dX1_spanAt_2 : decode cX1_spanAt 2 = .ok (.aload_n 0, 1) := by decide +kernel
theorem dX1_spanAt_3 : decode cX1_spanAt 3 = .ok (.getfield 36, 3) := by decide +kernel
theorem dX1_spanAt_6 : decode cX1_spanAt 6 = .ok (.iconst 1, 1) := by decide +kernel
theorem dX1_spanAt_7 : decode cX1_spanAt 7 = .ok (.isub, 1) := by decide +kernel
theorem dX1_spanAt_8 : decode cX1_spanAt 8 = .ok (.invokestatic 63, 3) := by decide +kernel
theorem dX1_spanAt_11 : decode cX1_spanAt 11 = .ok (.ifCond .ne 5, 3) := by decide +kernel
theorem dX1_spanAt_14 : decode cX1_spanAt 14 = .ok (.iconst (-1), 1) := by decide +kernel
theorem dX1_spanAt_15 : decode cX1_spanAt 15 = .ok (.ireturn, 1) := by decide +kernel
theorem dX1_spanAt_16 : decode cX1_spanAt 16 = .ok (.iconst 0, 1) := by decide +kernel
theorem dX1_spanAt_17 : decode cX1_spanAt 17 = .ok (.istore_n 2, 1) := by decide +kernel
theorem dX1_spanAt_18 : decode cX1_spanAt 18 = .ok (.aload_n 0, 1) := by decide +kernel
theorem dX1_spanAt_19 : decode cX1_spanAt 19 = .ok (.iload_n 2, 1) := by decide +kernel
theorem dX1_spanAt_20 : decode cX1_spanAt 20 = .ok (.invokevirtual 55, 3) := by decide +kernel
theorem dX1_spanAt_23 : decode cX1_spanAt 23 = .ok (.istore_n 3, 1) := by decide +kernel
theorem dX1_spanAt_24 : decode cX1_spanAt 24 = .ok (.iconst 0, 1) := by decide +kernel
theorem dX1_spanAt_25 : decode cX1_spanAt 25 = .ok (.istore 4, 2) := by decide +kernel
theorem dX1_spanAt_27 : decode cX1_spanAt 27 = .ok (.iload 4, 2) := by decide +kernel
theorem dX1_spanAt_29 : decode cX1_spanAt 29 = .ok (.iload_n 1, 1) := by decide +kernel
theorem dX1_spanAt_30 : decode cX1_spanAt 30 = .ok (.if_icmp .ge 26, 3) := by decide +kernel
theorem dX1_spanAt_33 : decode cX1_spanAt 33 = .ok (.iload_n 3, 1) := by decide +kernel
theorem dX1_spanAt_34 : decode cX1_spanAt 34 = .ok (.iconst (-1), 1) := by decide +kernel
theorem dX1_spanAt_35 : decode cX1_spanAt 35 = .ok (.if_icmp .eq 21, 3) := by decide +kernel
theorem dX1_spanAt_38 : decode cX1_spanAt 38 = .ok (.iload_n 2, 1) := by decide +kernel
theorem dX1_spanAt_39 : decode cX1_spanAt 39 = .ok (.iconst 1, 1) := by decide +kernel
theorem dX1_spanAt_40 : decode cX1_spanAt 40 = .ok (.iload_n 3, 1) := by decide +kernel
theorem dX1_spanAt_41 : decode cX1_spanAt 41 = .ok (.ishl, 1) := by decide +kernel
theorem dX1_spanAt_42 : decode cX1_spanAt 42 = .ok (.ior, 1) := by decide +kernel
theorem dX1_spanAt_43 : decode cX1_spanAt 43 = .ok (.istore_n 2, 1) := by decide +kernel
theorem dX1_spanAt_44 : decode cX1_spanAt 44 = .ok (.aload_n 0, 1) := by decide +kernel
theorem dX1_spanAt_45 : decode cX1_spanAt 45 = .ok (.iload_n 2, 1) := by decide +kernel
theorem dX1_spanAt_46 : decode cX1_spanAt 46 = .ok (.invokevirtual 55, 3) := by decide +kernel
theorem dX1_spanAt_49 : decode cX1_spanAt 49 = .ok (.istore_n 3, 1) := by decide +kernel
theorem dX1_spanAt_50 : decode cX1_spanAt 50 = .ok (.iinc 4 1, 3) := by decide +kernel
theorem dX1_spanAt_53 : decode cX1_spanAt 53 = .ok (.goto (-26), 3) := by decide +kernel
theorem dX1_spanAt_56 : decode cX1_spanAt 56 = .ok (.iload_n 3, 1) := by decide +kernel
theorem dX1_spanAt_57 : decode cX1_spanAt 57 = .ok (.iconst (-1), 1) := by decide +kernel
theorem dX1_spanAt_58 : decode cX1_spanAt 58 = .ok (.if_icmp .ne 7, 3) := by decide +kernel
theorem dX1_spanAt_61 : decode cX1_spanAt 61 = .ok (.iconst (-1), 1) := by decide +kernel
theorem dX1_spanAt_62 : decode cX1_spanAt 62 = .ok (.goto 9, 3) := by decide +kernel
theorem dX1_spanAt_65 : decode cX1_spanAt 65 = .ok (.aload_n 0, 1) := by decide +kernel
theorem dX1_spanAt_66 : decode cX1_spanAt 66 = .ok (.getfield 9, 3) := by decide +kernel
theorem dX1_spanAt_69 : decode cX1_spanAt 69 = .ok (.iload_n 3, 1) := by decide +kernel
theorem dX1_spanAt_70 : decode cX1_spanAt 70 = .ok (.iaload, 1) := by decide +kernel
theorem dX1_spanAt_71 : decode cX1_spanAt 71 = .ok (.ireturn, 1) := by decide +kernel
theorem dX2_init_0 : decode cX2_init 0 = .ok (.aload_n 0, 1) := by decide +kernel
theorem dX2_init_1 : decode cX2_init 1 = .ok (.invokespecial 3, 3) := by decide +kernel
theorem dX2_init_4 : decode cX2_init 4 = .ok (.aload_n 0, 1) := by decide +kernel
theorem dX2_init_5 : decode cX2_init 5 = .ok (.bipush 30, 2) := by decide +kernel
theorem dX2_init_7 : decode cX2_init 7 = .ok (.newarray .int, 2) := by decide +kernel
theorem dX2_init_9 : decode cX2_init 9 = .ok (.putfield 9, 3) := by decide +kernel
theorem dX2_init_12 : decode cX2_init 12 = .ok (.aload_n 0, 1) := by decide +kernel
theorem dX2_init_13 : decode cX2_init 13 = .ok (.bipush 30, 2) := by decide +kernel
theorem dX2_init_15 : decode cX2_init 15 = .ok (.newarray .int, 2) := by decide +kernel
theorem dX2_init_17 : decode cX2_init 17 = .ok (.putfield 15, 3) := by decide +kernel
theorem dX2_init_20 : decode cX2_init 20 = .ok (.aload_n 0, 1) := by decide +kernel
theorem dX2_init_21 : decode cX2_init 21 = .ok (.bipush 30, 2) := by decide +kernel
theorem dX2_init_23 : decode cX2_init 23 = .ok (.newarray .int, 2) := by decide +kernel
theorem dX2_init_25 : decode cX2_init 25 = .ok (.putfield 18, 3) := by decide +kernel
theorem dX2_init_28 : decode cX2_init 28 = .ok (.aload_n 0, 1) := by decide +kernel
theorem dX2_init_29 : decode cX2_init 29 = .ok (.aload_n 1, 1) := by decide +kernel
theorem dX2_init_30 : decode cX2_init 30 = .ok (.putfield 21, 3) := by decide +kernel
theorem dX2_init_33 : decode cX2_init 33 = .ok (.aload_n 0, 1) := by decide +kernel
theorem dX2_init_34 : decode cX2_init 34 = .ok (.aload_n 2, 1) := by decide +kernel
theorem dX2_init_35 : decode cX2_init 35 = .ok (.putfield 25, 3) := by decide +kernel
theorem dX2_init_38 : decode cX2_init 38 = .ok (.aload_n 0, 1) := by decide +kernel
theorem dX2_init_39 : decode cX2_init 39 = .ok (.aload_n 3, 1) := by decide +kernel
theorem dX2_init_40 : decode cX2_init 40 = .ok (.putfield 29, 3) := by decide +kernel
theorem dX2_init_43 : decode cX2_init 43 = .ok (.aload_n 0, 1) := by decide +kernel
theorem dX2_init_44 : decode cX2_init 44 = .ok (.aload 4, 2) := by decide +kernel
theorem dX2_init_46 : decode cX2_init 46 = .ok (.putfield 33, 3) := by decide +kernel
theorem dX2_init_49 : decode cX2_init 49 = .ok (.return_, 1) := by decide +kernel
theorem dX2_add_0 : decode cX2_add 0 = .ok (.aload_n 0, 1) := by decide +kernel
theorem dX2_add_1 : decode cX2_add 1 = .ok (.iload_n 1, 1) := by decide +kernel
theorem dX2_add_2 : decode cX2_add 2 = .ok (.iload_n 2, 1) := by decide +kernel
theorem dX2_add_3 : decode cX2_add 3 = .ok (.invokevirtual 37, 3) := by decide +kernel
theorem dX2_add_6 : decode cX2_add 6 = .ok (.ifCond .eq 18, 3) := by decide +kernel
theorem dX2_add_9 : decode cX2_add 9 = .ok (.aload_n 0, 1) := by decide +kernel
theorem dX2_add_10 : decode cX2_add 10 = .ok (.dup, 1) := by decide +kernel
theorem dX2_add_11 : decode cX2_add 11 = .ok (.getfield 41, 3) := by decide +kernel
theorem dX2_add_14 : decode cX2_add 14 = .ok (.iconst 1, 1) := by decide +kernel
theorem dX2_add_15 : decode cX2_add 15 = .ok (.aload_n 0, 1) := by decide +kernel
theorem dX2_add_16 : decode cX2_add 16 = .ok (.getfield 45, 3) := by decide +kernel
theorem dX2_add_19 : decode cX2_add 19 = .ok (.ishl, 1) := by decide +kernel
theorem dX2_add_20 : decode cX2_add 20 = .ok (.ior, 1) := by decide +kernel
theorem dX2_add_21 : decode cX2_add 21 = .ok (.putfield 41, 3) := by decide +kernel
theorem dX2_add_24 : decode cX2_add 24 = .ok (.aload_n 0, 1) := by decide +kernel
theorem dX2_add_25 : decode cX2_add 25 = .ok (.getfield 9, 3) := by decide +kernel
theorem dX2_add_28 : decode cX2_add 28 = .ok (.aload_n 0, 1) := by decide +kernel
theorem dX2_add_29 : decode cX2_add 29 = .ok (.getfield 45, 3) := by decide +kernel
theorem dX2_add_32 : decode cX2_add 32 = .ok (.iload_n 1, 1) := by decide +kernel
theorem dX2_add_33 : decode cX2_add 33 = .ok (.iastore, 1) := by decide +kernel
theorem dX2_add_34 : decode cX2_add 34 = .ok (.aload_n 0, 1) := by decide +kernel
theorem dX2_add_35 : decode cX2_add 35 = .ok (.getfield 15, 3) := by decide +kernel
theorem dX2_add_38 : decode cX2_add 38 = .ok (.aload_n 0, 1) := by decide +kernel
theorem dX2_add_39 : decode cX2_add 39 = .ok (.getfield 45, 3) := by decide +kernel
theorem dX2_add_42 : decode cX2_add 42 = .ok (.iload_n 2, 1) := by decide +kernel
theorem dX2_add_43 : decode cX2_add 43 = .ok (.iastore, 1) := by decide +kernel
theorem dX2_add_44 : decode cX2_add 44 = .ok (.aload_n 0, 1) := by decide +kernel
theorem dX2_add_45 : decode cX2_add 45 = .ok (.getfield 18, 3) := by decide +kernel
theorem dX2_add_48 : decode cX2_add 48 = .ok (.aload_n 0, 1) := by decide +kernel
theorem dX2_add_49 : decode cX2_add 49 = .ok (.getfield 45, 3) := by decide +kernel
theorem dX2_add_52 : decode cX2_add 52 = .ok (.iload_n 3, 1) := by decide +kernel
theorem dX2_add_53 : decode cX2_add 53 = .ok (.iastore, 1) := by decide +kernel
theorem dX2_add_54 : decode cX2_add 54 = .ok (.aload_n 0, 1) := by decide +kernel
theorem dX2_add_55 : decode cX2_add 55 = .ok (.dup, 1) := by decide +kernel
theorem dX2_add_56 : decode cX2_add 56 = .ok (.getfield 45, 3) := by decide +kernel
theorem dX2_add_59 : decode cX2_add 59 = .ok (.iconst 1, 1) := by decide +kernel
theorem dX2_add_60 : decode cX2_add 60 = .ok (.iadd, 1) := by decide +kernel
theorem dX2_add_61 : decode cX2_add 61 = .ok (.putfield 45, 3) := by decide +kernel
theorem dX2_add_64 : decode cX2_add 64 = .ok (.aload_n 0, 1) := by decide +kernel
theorem dX2_add_65 : decode cX2_add 65 = .ok (.getfield 45, 3) := by decide +kernel
theorem dX2_add_68 : decode cX2_add 68 = .ok (.iconst 1, 1) := by decide +kernel
theorem dX2_add_69 : decode cX2_add 69 = .ok (.isub, 1) := by decide +kernel
theorem dX2_add_70 : decode cX2_add 70 = .ok (.ireturn, 1) := by decide +kernel
theorem dX2_wasMade_0 : decode cX2_wasMade 0 = .ok (.iconst 0, 1) := by decide +kernel
theorem dX2_wasMade_1 : decode cX2_wasMade 1 = .ok (.istore_n 3, 1) := by decide +kernel
theorem dX2_wasMade_2 : decode cX2_wasMade 2 = .ok (.iload_n 3, 1) := by decide +kernel
theorem dX2_wasMade_3 : decode cX2_wasMade 3 = .ok (.aload_n 0, 1) := by decide +kernel
theorem dX2_wasMade_4 : decode cX2_wasMade 4 = .ok (.getfield 45, 3) := by decide +kernel
theorem dX2_wasMade_7 : decode cX2_wasMade 7 = .ok (.if_icmp .ge 31, 3) := by decide +kernel
theorem dX2_wasMade_10 : decode cX2_wasMade 10 = .ok (.aload_n 0, 1) := by decide +kernel
theorem dX2_wasMade_11 : decode cX2_wasMade 11 = .ok (.getfield 9, 3) := by decide +kernel
theorem dX2_wasMade_14 : decode cX2_wasMade 14 = .ok (.iload_n 3, 1) := by decide +kernel
theorem dX2_wasMade_15 : decode cX2_wasMade 15 = .ok (.iaload, 1) := by decide +kernel
theorem dX2_wasMade_16 : decode cX2_wasMade 16 = .ok (.iload_n 1, 1) := by decide +kernel
theorem dX2_wasMade_17 : decode cX2_wasMade 17 = .ok (.if_icmp .ne 15, 3) := by decide +kernel
theorem dX2_wasMade_20 : decode cX2_wasMade 20 = .ok (.aload_n 0, 1) := by decide +kernel
theorem dX2_wasMade_21 : decode cX2_wasMade 21 = .ok (.getfield 15, 3) := by decide +kernel
theorem dX2_wasMade_24 : decode cX2_wasMade 24 = .ok (.iload_n 3, 1) := by decide +kernel
theorem dX2_wasMade_25 : decode cX2_wasMade 25 = .ok (.iaload, 1) := by decide +kernel
theorem dX2_wasMade_26 : decode cX2_wasMade 26 = .ok (.iload_n 2, 1) := by decide +kernel
theorem dX2_wasMade_27 : decode cX2_wasMade 27 = .ok (.if_icmp .ne 5, 3) := by decide +kernel
theorem dX2_wasMade_30 : decode cX2_wasMade 30 = .ok (.iconst 1, 1) := by decide +kernel
theorem dX2_wasMade_31 : decode cX2_wasMade 31 = .ok (.ireturn, 1) := by decide +kernel
theorem dX2_wasMade_32 : decode cX2_wasMade 32 = .ok (.iinc 3 1, 3) := by decide +kernel
theorem dX2_wasMade_35 : decode cX2_wasMade 35 = .ok (.goto (-33), 3) := by decide +kernel
theorem dX2_wasMade_38 : decode cX2_wasMade 38 = .ok (.iconst 0, 1) := by decide +kernel
theorem dX2_wasMade_39 : decode cX2_wasMade 39 = .ok (.ireturn, 1) := by decide +kernel
theorem dX2_dueTo_0 : decode cX2_dueTo 0 = .ok (.aload_n 0, 1) := by decide +kernel
theorem dX2_dueTo_1 : decode cX2_dueTo 1 = .ok (.getfield 33, 3) := by decide +kernel
theorem dX2_dueTo_4 : decode cX2_dueTo 4 = .ok (.invokevirtual 48, 3) := by decide +kernel
theorem dX2_dueTo_7 : decode cX2_dueTo 7 = .ok (.iconst 0, 1) := by decide +kernel
theorem dX2_dueTo_8 : decode cX2_dueTo 8 = .ok (.istore_n 2, 1) := by decide +kernel
theorem dX2_dueTo_9 : decode cX2_dueTo 9 = .ok (.iload_n 2, 1) := by decide +kernel
theorem dX2_dueTo_10 : decode cX2_dueTo 10 = .ok (.aload_n 0, 1) := by decide +kernel
theorem dX2_dueTo_11 : decode cX2_dueTo 11 = .ok (.getfield 45, 3) := by decide +kernel
theorem dX2_dueTo_14 : decode cX2_dueTo 14 = .ok (.if_icmp .ge 95, 3) := by decide +kernel
theorem dX2_dueTo_17 : decode cX2_dueTo 17 = .ok (.aload_n 0, 1) := by decide +kernel
theorem dX2_dueTo_18 : decode cX2_dueTo 18 = .ok (.getfield 41, 3) := by decide +kernel
theorem dX2_dueTo_21 : decode cX2_dueTo 21 = .ok (.iload_n 2, 1) := by decide +kernel
theorem dX2_dueTo_22 : decode cX2_dueTo 22 = .ok (.ishr, 1) := by decide +kernel
theorem dX2_dueTo_23 : decode cX2_dueTo 23 = .ok (.iconst 1, 1) := by decide +kernel
theorem dX2_dueTo_24 : decode cX2_dueTo 24 = .ok (.iand, 1) := by decide +kernel
theorem dX2_dueTo_25 : decode cX2_dueTo 25 = .ok (.ifCond .ne 31, 3) := by decide +kernel
theorem dX2_dueTo_28 : decode cX2_dueTo 28 = .ok (.aload_n 0, 1) := by decide +kernel
theorem dX2_dueTo_29 : decode cX2_dueTo 29 = .ok (.getfield 25, 3) := by decide +kernel
theorem dX2_dueTo_32 : decode cX2_dueTo 32 = .ok (.aload_n 0, 1) := by decide +kernel
theorem dX2_dueTo_33 : decode cX2_dueTo 33 = .ok (.getfield 15, 3) := by decide +kernel
theorem dX2_dueTo_36 : decode cX2_dueTo 36 = .ok (.iload_n 2, 1) := by decide +kernel
theorem dX2_dueTo_37 : decode cX2_dueTo 37 = .ok (.iaload, 1) := by decide +kernel
theorem dX2_dueTo_38 : decode cX2_dueTo 38 = .ok (.aload_n 0, 1) := by decide +kernel
theorem dX2_dueTo_39 : decode cX2_dueTo 39 = .ok (.getfield 21, 3) := by decide +kernel
theorem dX2_dueTo_42 : decode cX2_dueTo 42 = .ok (.getfield 53, 3) := by decide +kernel
theorem dX2_dueTo_45 : decode cX2_dueTo 45 = .ok (.invokevirtual 58, 3) := by decide +kernel
theorem dX2_dueTo_48 : decode cX2_dueTo 48 = .ok (.iconst 1, 1) := by decide +kernel
theorem dX2_dueTo_49 : decode cX2_dueTo 49 = .ok (.if_icmp .eq 7, 3) := by decide +kernel
theorem dX2_dueTo_52 : decode cX2_dueTo 52 = .ok (.iconst 1, 1) := by decide +kernel
theorem dX2_dueTo_53 : decode cX2_dueTo 53 = .ok (.goto 4, 3) := by decide +kernel
theorem dX2_dueTo_56 : decode cX2_dueTo 56 = .ok (.iconst 0, 1) := by decide +kernel
theorem dX2_dueTo_57 : decode cX2_dueTo 57 = .ok (.istore_n 3, 1) := by decide +kernel
theorem dX2_dueTo_58 : decode cX2_dueTo 58 = .ok (.iload_n 3, 1) := by decide +kernel
theorem dX2_dueTo_59 : decode cX2_dueTo 59 = .ok (.ifCond .eq 44, 3) := by decide +kernel
theorem dX2_dueTo_62 : decode cX2_dueTo 62 = .ok (.aload_n 0, 1) := by decide +kernel
theorem dX2_dueTo_63 : decode cX2_dueTo 63 = .ok (.getfield 33, 3) := by decide +kernel
theorem dX2_dueTo_66 : decode cX2_dueTo 66 = .ok (.aload_n 0, 1) := by decide +kernel
theorem dX2_dueTo_67 : decode cX2_dueTo 67 = .ok (.getfield 9, 3) := by decide +kernel
theorem dX2_dueTo_70 : decode cX2_dueTo 70 = .ok (.iload_n 2, 1) := by decide +kernel
theorem dX2_dueTo_71 : decode cX2_dueTo 71 = .ok (.iaload, 1) := by decide +kernel
theorem dX2_dueTo_72 : decode cX2_dueTo 72 = .ok (.iconst 0, 1) := by decide +kernel
theorem dX2_dueTo_73 : decode cX2_dueTo 73 = .ok (.aload_n 0, 1) := by decide +kernel
theorem dX2_dueTo_74 : decode cX2_dueTo 74 = .ok (.getfield 18, 3) := by decide +kernel
theorem dX2_dueTo_77 : decode cX2_dueTo 77 = .ok (.iload_n 2, 1) := by decide +kernel
theorem dX2_dueTo_78 : decode cX2_dueTo 78 = .ok (.iaload, 1) := by decide +kernel
theorem dX2_dueTo_79 : decode cX2_dueTo 79 = .ok (.aload_n 0, 1) := by decide +kernel
theorem dX2_dueTo_80 : decode cX2_dueTo 80 = .ok (.getfield 29, 3) := by decide +kernel
theorem dX2_dueTo_83 : decode cX2_dueTo 83 = .ok (.aload_n 0, 1) := by decide +kernel
theorem dX2_dueTo_84 : decode cX2_dueTo 84 = .ok (.getfield 15, 3) := by decide +kernel
theorem dX2_dueTo_87 : decode cX2_dueTo 87 = .ok (.iload_n 2, 1) := by decide +kernel
theorem dX2_dueTo_88 : decode cX2_dueTo 88 = .ok (.iaload, 1) := by decide +kernel
theorem dX2_dueTo_89 : decode cX2_dueTo 89 = .ok (.iconst 1, 1) := by decide +kernel
theorem dX2_dueTo_90 : decode cX2_dueTo 90 = .ok (.invokevirtual 64, 3) := by decide +kernel
theorem dX2_dueTo_93 : decode cX2_dueTo 93 = .ok (.invokestatic 69, 3) := by decide +kernel
theorem dX2_dueTo_96 : decode cX2_dueTo 96 = .ok (.invokestatic 74, 3) := by decide +kernel
theorem dX2_dueTo_99 : decode cX2_dueTo 99 = .ok (.i2l, 1) := by decide +kernel
theorem dX2_dueTo_100 : decode cX2_dueTo 100 = .ok (.invokevirtual 77, 3) := by decide +kernel
theorem dX2_dueTo_103 : decode cX2_dueTo 103 = .ok (.iinc 2 1, 3) := by decide +kernel
theorem dX2_dueTo_106 : decode cX2_dueTo 106 = .ok (.goto (-97), 3) := by decide +kernel
theorem dX2_dueTo_109 : decode cX2_dueTo 109 = .ok (.aload_n 0, 1) := by decide +kernel
theorem dX2_dueTo_110 : decode cX2_dueTo 110 = .ok (.getfield 33, 3) := by decide +kernel
theorem dX2_dueTo_113 : decode cX2_dueTo 113 = .ok (.iload_n 1, 1) := by decide +kernel
theorem dX2_dueTo_114 : decode cX2_dueTo 114 = .ok (.invokevirtual 81, 3) := by decide +kernel
theorem dX2_dueTo_117 : decode cX2_dueTo 117 = .ok (.lreturn, 1) := by decide +kernel
theorem dX3_init_0 : decode cX3_init 0 = .ok (.aload_n 0, 1) := by decide +kernel
theorem dX3_init_1 : decode cX3_init 1 = .ok (.invokespecial 3, 3) := by decide +kernel
theorem dX3_init_4 : decode cX3_init 4 = .ok (.aload_n 0, 1) := by decide +kernel
theorem dX3_init_5 : decode cX3_init 5 = .ok (.bipush 10, 2) := by decide +kernel
theorem dX3_init_7 : decode cX3_init 7 = .ok (.bipush 10, 2) := by decide +kernel
theorem dX3_init_9 : decode cX3_init 9 = .ok (.multianewarray 9 2, 4) := by decide +kernel
theorem dX3_init_13 : decode cX3_init 13 = .ok (.putfield 11, 3) := by decide +kernel
theorem dX3_init_16 : decode cX3_init 16 = .ok (.aload_n 0, 1) := by decide +kernel
theorem dX3_init_17 : decode cX3_init 17 = .ok (.bipush 10, 2) := by decide +kernel
theorem dX3_init_19 : decode cX3_init 19 = .ok (.newarray .long, 2) := by decide +kernel
theorem dX3_init_21 : decode cX3_init 21 = .ok (.putfield 16, 3) := by decide +kernel
theorem dX3_init_24 : decode cX3_init 24 = .ok (.return_, 1) := by decide +kernel
theorem dX3_giveShares_0 : decode cX3_giveShares 0 = .ok (.aload_n 0, 1) := by decide +kernel
theorem dX3_giveShares_1 : decode cX3_giveShares 1 = .ok (.getfield 11, 3) := by decide +kernel
theorem dX3_giveShares_4 : decode cX3_giveShares 4 = .ok (.iload_n 1, 1) := by decide +kernel
theorem dX3_giveShares_5 : decode cX3_giveShares 5 = .ok (.aaload, 1) := by decide +kernel
theorem dX3_giveShares_6 : decode cX3_giveShares 6 = .ok (.iload_n 2, 1) := by decide +kernel
theorem dX3_giveShares_7 : decode cX3_giveShares 7 = .ok (.iaload, 1) := by decide +kernel
theorem dX3_giveShares_8 : decode cX3_giveShares 8 = .ok (.istore 4, 2) := by decide +kernel
theorem dX3_giveShares_10 : decode cX3_giveShares 10 = .ok (.aload_n 0, 1) := by decide +kernel
theorem dX3_giveShares_11 : decode cX3_giveShares 11 = .ok (.getfield 11, 3) := by decide +kernel
theorem dX3_giveShares_14 : decode cX3_giveShares 14 = .ok (.iload_n 1, 1) := by decide +kernel
theorem dX3_giveShares_15 : decode cX3_giveShares 15 = .ok (.aaload, 1) := by decide +kernel
theorem dX3_giveShares_16 : decode cX3_giveShares 16 = .ok (.iload_n 2, 1) := by decide +kernel
theorem dX3_giveShares_17 : decode cX3_giveShares 17 = .ok (.iload_n 3, 1) := by decide +kernel
theorem dX3_giveShares_18 : decode cX3_giveShares 18 = .ok (.iastore, 1) := by decide +kernel
theorem dX3_giveShares_19 : decode cX3_giveShares 19 = .ok (.iload 4, 2) := by decide +kernel
theorem dX3_giveShares_21 : decode cX3_giveShares 21 = .ok (.ireturn, 1) := by decide +kernel
theorem dX3_emptyTill_0 : decode cX3_emptyTill 0 = .ok (.aload_n 0, 1) := by decide +kernel
theorem dX3_emptyTill_1 : decode cX3_emptyTill 1 = .ok (.getfield 16, 3) := by decide +kernel
theorem dX3_emptyTill_4 : decode cX3_emptyTill 4 = .ok (.lconst 0, 1) := by decide +kernel
theorem dX3_emptyTill_5 : decode cX3_emptyTill 5 = .ok (.invokestatic 20, 3) := by decide +kernel
theorem dX3_emptyTill_8 : decode cX3_emptyTill 8 = .ok (.return_, 1) := by decide +kernel
theorem dX3_pay_0 : decode cX3_pay 0 = .ok (.aload_n 0, 1) := by decide +kernel
theorem dX3_pay_1 : decode cX3_pay 1 = .ok (.getfield 16, 3) := by decide +kernel
theorem dX3_pay_4 : decode cX3_pay 4 = .ok (.iload_n 1, 1) := by decide +kernel
theorem dX3_pay_5 : decode cX3_pay 5 = .ok (.dup2, 1) := by decide +kernel
theorem dX3_pay_6 : decode cX3_pay 6 = .ok (.laload, 1) := by decide +kernel
theorem dX3_pay_7 : decode cX3_pay 7 = .ok (.lload_n 2, 1) := by decide +kernel
theorem dX3_pay_8 : decode cX3_pay 8 = .ok (.ladd, 1) := by decide +kernel
theorem dX3_pay_9 : decode cX3_pay 9 = .ok (.lastore, 1) := by decide +kernel
theorem dX3_pay_10 : decode cX3_pay 10 = .ok (.return_, 1) := by decide +kernel
theorem dX3_comesTo_0 : decode cX3_comesTo 0 = .ok (.lconst 0, 1) := by decide +kernel
theorem dX3_comesTo_1 : decode cX3_comesTo 1 = .ok (.lstore_n 2, 1) := by decide +kernel
theorem dX3_comesTo_2 : decode cX3_comesTo 2 = .ok (.iconst 0, 1) := by decide +kernel
theorem dX3_comesTo_3 : decode cX3_comesTo 3 = .ok (.istore 4, 2) := by decide +kernel
theorem dX3_comesTo_5 : decode cX3_comesTo 5 = .ok (.iload 4, 2) := by decide +kernel
theorem dX3_comesTo_7 : decode cX3_comesTo 7 = .ok (.bipush 10, 2) := by decide +kernel
theorem dX3_comesTo_9 : decode cX3_comesTo 9 = .ok (.if_icmp .ge 19, 3) := by decide +kernel
theorem dX3_comesTo_12 : decode cX3_comesTo 12 = .ok (.lload_n 2, 1) := by decide +kernel
theorem dX3_comesTo_13 : decode cX3_comesTo 13 = .ok (.aload_n 0, 1) := by decide +kernel
theorem dX3_comesTo_14 : decode cX3_comesTo 14 = .ok (.iload 4, 2) := by decide +kernel
theorem dX3_comesTo_16 : decode cX3_comesTo 16 = .ok (.iload_n 1, 1) := by decide +kernel
theorem dX3_comesTo_17 : decode cX3_comesTo 17 = .ok (.invokevirtual 26, 3) := by decide +kernel
theorem dX3_comesTo_20 : decode cX3_comesTo 20 = .ok (.ladd, 1) := by decide +kernel
theorem dX3_comesTo_21 : decode cX3_comesTo 21 = .ok (.lstore_n 2, 1) := by decide +kernel
theorem dX3_comesTo_22 : decode cX3_comesTo 22 = .ok (.iinc 4 1, 3) := by decide +kernel
theorem dX3_comesTo_25 : decode cX3_comesTo 25 = .ok (.goto (-20), 3) := by decide +kernel
theorem dX3_comesTo_28 : decode cX3_comesTo 28 = .ok (.lload_n 2, 1) := by decide +kernel
theorem dX3_comesTo_29 : decode cX3_comesTo 29 = .ok (.lreturn, 1) := by decide +kernel
theorem dX3_part_0 : decode cX3_part 0 = .ok (.iconst 0, 1) := by decide +kernel
theorem dX3_part_1 : decode cX3_part 1 = .ok (.istore_n 3, 1) := by decide +kernel
theorem dX3_part_2 : decode cX3_part 2 = .ok (.iconst 0, 1) := by decide +kernel
theorem dX3_part_3 : decode cX3_part 3 = .ok (.istore 4, 2) := by decide +kernel
theorem dX3_part_5 : decode cX3_part 5 = .ok (.iload 4, 2) := by decide +kernel
theorem dX3_part_7 : decode cX3_part 7 = .ok (.bipush 10, 2) := by decide +kernel
theorem dX3_part_9 : decode cX3_part 9 = .ok (.if_icmp .ge 21, 3) := by decide +kernel
theorem dX3_part_12 : decode cX3_part 12 = .ok (.iload_n 3, 1) := by decide +kernel
theorem dX3_part_13 : decode cX3_part 13 = .ok (.aload_n 0, 1) := by decide +kernel
theorem dX3_part_14 : decode cX3_part 14 = .ok (.getfield 11, 3) := by decide +kernel
theorem dX3_part_17 : decode cX3_part 17 = .ok (.iload_n 1, 1) := by decide +kernel
theorem dX3_part_18 : decode cX3_part 18 = .ok (.aaload, 1) := by decide +kernel
theorem dX3_part_19 : decode cX3_part 19 = .ok (.iload 4, 2) := by decide +kernel
theorem dX3_part_21 : decode cX3_part 21 = .ok (.iaload, 1) := by decide +kernel
theorem dX3_part_22 : decode cX3_part 22 = .ok (.iadd, 1) := by decide +kernel
theorem dX3_part_23 : decode cX3_part 23 = .ok (.istore_n 3, 1) := by decide +kernel
theorem dX3_part_24 : decode cX3_part 24 = .ok (.iinc 4 1, 3) := by decide +kernel
theorem dX3_part_27 : decode cX3_part 27 = .ok (.goto (-22), 3) := by decide +kernel
theorem dX3_part_30 : decode cX3_part 30 = .ok (.iload_n 3, 1) := by decide +kernel
theorem dX3_part_31 : decode cX3_part 31 = .ok (.ifCond .gt 19, 3) := by decide +kernel
theorem dX3_part_34 : decode cX3_part 34 = .ok (.iload_n 1, 1) := by decide +kernel
theorem dX3_part_35 : decode cX3_part 35 = .ok (.iload_n 2, 1) := by decide +kernel
theorem dX3_part_36 : decode cX3_part 36 = .ok (.if_icmp .ne 12, 3) := by decide +kernel
theorem dX3_part_39 : decode cX3_part 39 = .ok (.aload_n 0, 1) := by decide +kernel
theorem dX3_part_40 : decode cX3_part 40 = .ok (.getfield 16, 3) := by decide +kernel
theorem dX3_part_43 : decode cX3_part 43 = .ok (.iload_n 1, 1) := by decide +kernel
theorem dX3_part_44 : decode cX3_part 44 = .ok (.laload, 1) := by decide +kernel
theorem dX3_part_45 : decode cX3_part 45 = .ok (.goto 4, 3) := by decide +kernel
theorem dX3_part_48 : decode cX3_part 48 = .ok (.lconst 0, 1) := by decide +kernel
theorem dX3_part_49 : decode cX3_part 49 = .ok (.lreturn, 1) := by decide +kernel
theorem dX3_part_50 : decode cX3_part 50 = .ok (.lconst 0, 1) := by decide +kernel
theorem dX3_part_51 : decode cX3_part 51 = .ok (.lstore 4, 2) := by decide +kernel
theorem dX3_part_53 : decode cX3_part 53 = .ok (.iconst (-1), 1) := by decide +kernel
theorem dX3_part_54 : decode cX3_part 54 = .ok (.istore 6, 2) := by decide +kernel
theorem dX3_part_56 : decode cX3_part 56 = .ok (.iconst 0, 1) := by decide +kernel
theorem dX3_part_57 : decode cX3_part 57 = .ok (.istore 7, 2) := by decide +kernel
theorem dX3_part_59 : decode cX3_part 59 = .ok (.iload 7, 2) := by decide +kernel
theorem dX3_part_61 : decode cX3_part 61 = .ok (.bipush 10, 2) := by decide +kernel
theorem dX3_part_63 : decode cX3_part 63 = .ok (.if_icmp .ge 56, 3) := by decide +kernel
theorem dX3_part_66 : decode cX3_part 66 = .ok (.iload 6, 2) := by decide +kernel
theorem dX3_part_68 : decode cX3_part 68 = .ok (.iconst (-1), 1) := by decide +kernel
theorem dX3_part_69 : decode cX3_part 69 = .ok (.if_icmp .ne 19, 3) := by decide +kernel
theorem dX3_part_72 : decode cX3_part 72 = .ok (.aload_n 0, 1) := by decide +kernel
theorem dX3_part_73 : decode cX3_part 73 = .ok (.getfield 11, 3) := by decide +kernel
theorem dX3_part_76 : decode cX3_part 76 = .ok (.iload_n 1, 1) := by decide +kernel
theorem dX3_part_77 : decode cX3_part 77 = .ok (.aaload, 1) := by decide +kernel
theorem dX3_part_78 : decode cX3_part 78 = .ok (.iload 7, 2) := by decide +kernel
theorem dX3_part_80 : decode cX3_part 80 = .ok (.iaload, 1) := by decide +kernel
theorem dX3_part_81 : decode cX3_part 81 = .ok (.ifCond .le 7, 3) := by decide +kernel
theorem dX3_part_84 : decode cX3_part 84 = .ok (.iload 7, 2) := by decide +kernel
theorem dX3_part_86 : decode cX3_part 86 = .ok (.istore 6, 2) := by decide +kernel
theorem dX3_part_88 : decode cX3_part 88 = .ok (.lload 4, 2) := by decide +kernel
theorem dX3_part_90 : decode cX3_part 90 = .ok (.aload_n 0, 1) := by decide +kernel
theorem dX3_part_91 : decode cX3_part 91 = .ok (.getfield 16, 3) := by decide +kernel
theorem dX3_part_94 : decode cX3_part 94 = .ok (.iload_n 1, 1) := by decide +kernel
theorem dX3_part_95 : decode cX3_part 95 = .ok (.laload, 1) := by decide +kernel
theorem dX3_part_96 : decode cX3_part 96 = .ok (.aload_n 0, 1) := by decide +kernel
theorem dX3_part_97 : decode cX3_part 97 = .ok (.getfield 11, 3) := by decide +kernel
theorem dX3_part_100 : decode cX3_part 100 = .ok (.iload_n 1, 1) := by decide +kernel
theorem dX3_part_101 : decode cX3_part 101 = .ok (.aaload, 1) := by decide +kernel
theorem dX3_part_102 : decode cX3_part 102 = .ok (.iload 7, 2) := by decide +kernel
theorem dX3_part_104 : decode cX3_part 104 = .ok (.iaload, 1) := by decide +kernel
theorem dX3_part_105 : decode cX3_part 105 = .ok (.i2l, 1) := by decide +kernel
theorem dX3_part_106 : decode cX3_part 106 = .ok (.lmul, 1) := by decide +kernel
theorem dX3_part_107 : decode cX3_part 107 = .ok (.iload_n 3, 1) := by decide +kernel
theorem dX3_part_108 : decode cX3_part 108 = .ok (.i2l, 1) := by decide +kernel
theorem dX3_part_109 : decode cX3_part 109 = .ok (.ldiv, 1) := by decide +kernel
theorem dX3_part_110 : decode cX3_part 110 = .ok (.ladd, 1) := by decide +kernel
theorem dX3_part_111 : decode cX3_part 111 = .ok (.lstore 4, 2) := by decide +kernel
theorem dX3_part_113 : decode cX3_part 113 = .ok (.iinc 7 1, 3) := by decide +kernel
theorem dX3_part_116 : decode cX3_part 116 = .ok (.goto (-57), 3) := by decide +kernel
theorem dX3_part_119 : decode cX3_part 119 = .ok (.aload_n 0, 1) := by decide +kernel
theorem dX3_part_120 : decode cX3_part 120 = .ok (.getfield 16, 3) := by decide +kernel
theorem dX3_part_123 : decode cX3_part 123 = .ok (.iload_n 1, 1) := by decide +kernel
theorem dX3_part_124 : decode cX3_part 124 = .ok (.laload, 1) := by decide +kernel
theorem dX3_part_125 : decode cX3_part 125 = .ok (.aload_n 0, 1) := by decide +kernel
theorem dX3_part_126 : decode cX3_part 126 = .ok (.getfield 11, 3) := by decide +kernel
theorem dX3_part_129 : decode cX3_part 129 = .ok (.iload_n 1, 1) := by decide +kernel
theorem dX3_part_130 : decode cX3_part 130 = .ok (.aaload, 1) := by decide +kernel
theorem dX3_part_131 : decode cX3_part 131 = .ok (.iload_n 2, 1) := by decide +kernel
theorem dX3_part_132 : decode cX3_part 132 = .ok (.iaload, 1) := by decide +kernel
theorem dX3_part_133 : decode cX3_part 133 = .ok (.i2l, 1) := by decide +kernel
theorem dX3_part_134 : decode cX3_part 134 = .ok (.lmul, 1) := by decide +kernel
theorem dX3_part_135 : decode cX3_part 135 = .ok (.iload_n 3, 1) := by decide +kernel
theorem dX3_part_136 : decode cX3_part 136 = .ok (.i2l, 1) := by decide +kernel
theorem dX3_part_137 : decode cX3_part 137 = .ok (.ldiv, 1) := by decide +kernel
theorem dX3_part_138 : decode cX3_part 138 = .ok (.lstore 7, 2) := by decide +kernel
theorem dX3_part_140 : decode cX3_part 140 = .ok (.iload_n 2, 1) := by decide +kernel
theorem dX3_part_141 : decode cX3_part 141 = .ok (.iload 6, 2) := by decide +kernel
theorem dX3_part_143 : decode cX3_part 143 = .ok (.if_icmp .ne 18, 3) := by decide +kernel
theorem dX3_part_146 : decode cX3_part 146 = .ok (.lload 7, 2) := by decide +kernel
theorem dX3_part_148 : decode cX3_part 148 = .ok (.aload_n 0, 1) := by decide +kernel
theorem dX3_part_149 : decode cX3_part 149 = .ok (.getfield 16, 3) := by decide +kernel
theorem dX3_part_152 : decode cX3_part 152 = .ok (.iload_n 1, 1) := by decide +kernel
theorem dX3_part_153 : decode cX3_part 153 = .ok (.laload, 1) := by decide +kernel
theorem dX3_part_154 : decode cX3_part 154 = .ok (.ladd, 1) := by decide +kernel
theorem dX3_part_155 : decode cX3_part 155 = .ok (.lload 4, 2) := by decide +kernel
theorem dX3_part_157 : decode cX3_part 157 = .ok (.lsub, 1) := by decide +kernel
theorem dX3_part_158 : decode cX3_part 158 = .ok (.goto 5, 3) := by decide +kernel
theorem dX3_part_161 : decode cX3_part 161 = .ok (.lload 7, 2) := by decide +kernel
theorem dX3_part_163 : decode cX3_part 163 = .ok (.lreturn, 1) := by decide +kernel
theorem dX4_init_0 : decode cX4_init 0 = .ok (.aload_n 0, 1) := by decide +kernel
theorem dX4_init_1 : decode cX4_init 1 = .ok (.invokespecial 3, 3) := by decide +kernel
theorem dX4_init_4 : decode cX4_init 4 = .ok (.aload_n 0, 1) := by decide +kernel
theorem dX4_init_5 : decode cX4_init 5 = .ok (.bipush 40, 2) := by decide +kernel
theorem dX4_init_7 : decode cX4_init 7 = .ok (.newarray .int, 2) := by decide +kernel
theorem dX4_init_9 : decode cX4_init 9 = .ok (.putfield 9, 3) := by decide +kernel
theorem dX4_init_12 : decode cX4_init 12 = .ok (.aload_n 0, 1) := by decide +kernel
theorem dX4_init_13 : decode cX4_init 13 = .ok (.bipush 40, 2) := by decide +kernel
theorem dX4_init_15 : decode cX4_init 15 = .ok (.newarray .int, 2) := by decide +kernel
theorem dX4_init_17 : decode cX4_init 17 = .ok (.putfield 15, 3) := by decide +kernel
theorem dX4_init_20 : decode cX4_init 20 = .ok (.aload_n 0, 1) := by decide +kernel
theorem dX4_init_21 : decode cX4_init 21 = .ok (.bipush 40, 2) := by decide +kernel
theorem dX4_init_23 : decode cX4_init 23 = .ok (.newarray .int, 2) := by decide +kernel
theorem dX4_init_25 : decode cX4_init 25 = .ok (.putfield 18, 3) := by decide +kernel
theorem dX4_init_28 : decode cX4_init 28 = .ok (.aload_n 0, 1) := by decide +kernel
theorem dX4_init_29 : decode cX4_init 29 = .ok (.bipush 10, 2) := by decide +kernel
theorem dX4_init_31 : decode cX4_init 31 = .ok (.newarray .int, 2) := by decide +kernel
theorem dX4_init_33 : decode cX4_init 33 = .ok (.putfield 21, 3) := by decide +kernel
theorem dX4_init_36 : decode cX4_init 36 = .ok (.aload_n 0, 1) := by decide +kernel
theorem dX4_init_37 : decode cX4_init 37 = .ok (.iconst 4, 1) := by decide +kernel
theorem dX4_init_38 : decode cX4_init 38 = .ok (.bipush 48, 2) := by decide +kernel
theorem dX4_init_40 : decode cX4_init 40 = .ok (.multianewarray 24 2, 4) := by decide +kernel
theorem dX4_init_44 : decode cX4_init 44 = .ok (.putfield 26, 3) := by decide +kernel
theorem dX4_init_47 : decode cX4_init 47 = .ok (.aload_n 0, 1) := by decide +kernel
theorem dX4_init_48 : decode cX4_init 48 = .ok (.bipush 48, 2) := by decide +kernel
theorem dX4_init_50 : decode cX4_init 50 = .ok (.newarray .int, 2) := by decide +kernel
theorem dX4_init_52 : decode cX4_init 52 = .ok (.putfield 29, 3) := by decide +kernel
theorem dX4_init_55 : decode cX4_init 55 = .ok (.aload_n 0, 1) := by decide +kernel
theorem dX4_init_56 : decode cX4_init 56 = .ok (.bipush 48, 2) := by decide +kernel
theorem dX4_init_58 : decode cX4_init 58 = .ok (.newarray .int, 2) := by decide +kernel
theorem dX4_init_60 : decode cX4_init 60 = .ok (.putfield 32, 3) := by decide +kernel
theorem dX4_init_63 : decode cX4_init 63 = .ok (.aload_n 0, 1) := by decide +kernel
theorem dX4_init_64 : decode cX4_init 64 = .ok (.bipush 48, 2) := by decide +kernel
theorem dX4_init_66 : decode cX4_init 66 = .ok (.newarray .int, 2) := by decide +kernel
theorem dX4_init_68 : decode cX4_init 68 = .ok (.putfield 35, 3) := by decide +kernel
theorem dX4_init_71 : decode cX4_init 71 = .ok (.aload_n 0, 1) := by decide +kernel
theorem dX4_init_72 : decode cX4_init 72 = .ok (.getfield 26, 3) := by decide +kernel
theorem dX4_init_75 : decode cX4_init 75 = .ok (.iconst 2, 1) := by decide +kernel
theorem dX4_init_76 : decode cX4_init 76 = .ok (.aaload, 1) := by decide +kernel
theorem dX4_init_77 : decode cX4_init 77 = .ok (.bipush 10, 2) := by decide +kernel
theorem dX4_init_79 : decode cX4_init 79 = .ok (.invokestatic 38, 3) := by decide +kernel
theorem dX4_init_82 : decode cX4_init 82 = .ok (.return_, 1) := by decide +kernel
theorem dX4_isStillToCome_0 : decode cX4_isStillToCome 0 = .ok (.iload_n 1, 1) := by decide +kernel
theorem dX4_isStillToCome_1 : decode cX4_isStillToCome 1 = .ok (.aload_n 0, 1) := by decide +kernel
theorem dX4_isStillToCome_2 : decode cX4_isStillToCome 2 = .ok (.getfield 44, 3) := by decide +kernel
theorem dX4_isStillToCome_5 : decode cX4_isStillToCome 5 = .ok (.sipush 9999, 3) := by decide +kernel
theorem dX4_isStillToCome_8 : decode cX4_isStillToCome 8 = .ok (.invokestatic 48, 3) := by decide +kernel
theorem dX4_isStillToCome_11 : decode cX4_isStillToCome 11 = .ok (.ireturn, 1) := by decide +kernel
theorem dX4_addSale_0 : decode cX4_addSale 0 = .ok (.aload_n 0, 1) := by decide +kernel
theorem dX4_addSale_1 : decode cX4_addSale 1 = .ok (.getfield 9, 3) := by decide +kernel
theorem dX4_addSale_4 : decode cX4_addSale 4 = .ok (.aload_n 0, 1) := by decide +kernel
theorem dX4_addSale_5 : decode cX4_addSale 5 = .ok (.getfield 52, 3) := by decide +kernel
theorem dX4_addSale_8 : decode cX4_addSale 8 = .ok (.iload_n 1, 1) := by decide +kernel
theorem dX4_addSale_9 : decode cX4_addSale 9 = .ok (.iastore, 1) := by decide +kernel
theorem dX4_addSale_10 : decode cX4_addSale 10 = .ok (.aload_n 0, 1) := by decide +kernel
theorem dX4_addSale_11 : decode cX4_addSale 11 = .ok (.getfield 15, 3) := by decide +kernel
theorem dX4_addSale_14 : decode cX4_addSale 14 = .ok (.aload_n 0, 1) := by decide +kernel
theorem dX4_addSale_15 : decode cX4_addSale 15 = .ok (.getfield 52, 3) := by decide +kernel
theorem dX4_addSale_18 : decode cX4_addSale 18 = .ok (.iload_n 2, 1) := by decide +kernel
theorem dX4_addSale_19 : decode cX4_addSale 19 = .ok (.iastore, 1) := by decide +kernel
theorem dX4_addSale_20 : decode cX4_addSale 20 = .ok (.aload_n 0, 1) := by decide +kernel
theorem dX4_addSale_21 : decode cX4_addSale 21 = .ok (.getfield 18, 3) := by decide +kernel
theorem dX4_addSale_24 : decode cX4_addSale 24 = .ok (.aload_n 0, 1) := by decide +kernel
theorem dX4_addSale_25 : decode cX4_addSale 25 = .ok (.getfield 52, 3) := by decide +kernel
theorem dX4_addSale_28 : decode cX4_addSale 28 = .ok (.iload_n 3, 1) := by decide +kernel
theorem dX4_addSale_29 : decode cX4_addSale 29 = .ok (.iastore, 1) := by decide +kernel
theorem dX4_addSale_30 : decode cX4_addSale 30 = .ok (.aload_n 0, 1) := by decide +kernel
theorem dX4_addSale_31 : decode cX4_addSale 31 = .ok (.dup, 1) := by decide +kernel
theorem dX4_addSale_32 : decode cX4_addSale 32 = .ok (.getfield 52, 3) := by decide +kernel
theorem dX4_addSale_35 : decode cX4_addSale 35 = .ok (.iconst 1, 1) := by decide +kernel
theorem dX4_addSale_36 : decode cX4_addSale 36 = .ok (.iadd, 1) := by decide +kernel
theorem dX4_addSale_37 : decode cX4_addSale 37 = .ok (.putfield 52, 3) := by decide +kernel
theorem dX4_addSale_40 : decode cX4_addSale 40 = .ok (.aload_n 0, 1) := by decide +kernel
theorem dX4_addSale_41 : decode cX4_addSale 41 = .ok (.getfield 52, 3) := by decide +kernel
theorem dX4_addSale_44 : decode cX4_addSale 44 = .ok (.ireturn, 1) := by decide +kernel
theorem dX4_ownerOn_0 : decode cX4_ownerOn 0 = .ok (.iconst 0, 1) := by decide +kernel
theorem dX4_ownerOn_1 : decode cX4_ownerOn 1 = .ok (.istore_n 3, 1) := by decide +kernel
theorem dX4_ownerOn_2 : decode cX4_ownerOn 2 = .ok (.iconst 0, 1) := by decide +kernel
theorem dX4_ownerOn_3 : decode cX4_ownerOn 3 = .ok (.istore 4, 2) := by decide +kernel
theorem dX4_ownerOn_5 : decode cX4_ownerOn 5 = .ok (.iconst 0, 1) := by decide +kernel
theorem dX4_ownerOn_6 : decode cX4_ownerOn 6 = .ok (.istore 5, 2) := by decide +kernel
theorem dX4_ownerOn_8 : decode cX4_ownerOn 8 = .ok (.iload 5, 2) := by decide +kernel
theorem dX4_ownerOn_10 : decode cX4_ownerOn 10 = .ok (.aload_n 0, 1) := by decide +kernel
theorem dX4_ownerOn_11 : decode cX4_ownerOn 11 = .ok (.getfield 52, 3) := by decide +kernel
theorem dX4_ownerOn_14 : decode cX4_ownerOn 14 = .ok (.if_icmp .ge 60, 3) := by decide +kernel
theorem dX4_ownerOn_17 : decode cX4_ownerOn 17 = .ok (.aload_n 0, 1) := by decide +kernel
theorem dX4_ownerOn_18 : decode cX4_ownerOn 18 = .ok (.getfield 9, 3) := by decide +kernel
theorem dX4_ownerOn_21 : decode cX4_ownerOn 21 = .ok (.iload 5, 2) := by decide +kernel
theorem dX4_ownerOn_23 : decode cX4_ownerOn 23 = .ok (.iaload, 1) := by decide +kernel
theorem dX4_ownerOn_24 : decode cX4_ownerOn 24 = .ok (.iload_n 1, 1) := by decide +kernel
theorem dX4_ownerOn_25 : decode cX4_ownerOn 25 = .ok (.if_icmp .ne 43, 3) := by decide +kernel
theorem dX4_ownerOn_28 : decode cX4_ownerOn 28 = .ok (.aload_n 0, 1) := by decide +kernel
theorem dX4_ownerOn_29 : decode cX4_ownerOn 29 = .ok (.getfield 18, 3) := by decide +kernel
theorem dX4_ownerOn_32 : decode cX4_ownerOn 32 = .ok (.iload 5, 2) := by decide +kernel
theorem dX4_ownerOn_34 : decode cX4_ownerOn 34 = .ok (.iaload, 1) := by decide +kernel
theorem dX4_ownerOn_35 : decode cX4_ownerOn 35 = .ok (.iload 4, 2) := by decide +kernel
theorem dX4_ownerOn_37 : decode cX4_ownerOn 37 = .ok (.if_icmp .lt 31, 3) := by decide +kernel
theorem dX4_ownerOn_40 : decode cX4_ownerOn 40 = .ok (.aload_n 0, 1) := by decide +kernel
theorem dX4_ownerOn_41 : decode cX4_ownerOn 41 = .ok (.getfield 18, 3) := by decide +kernel
theorem dX4_ownerOn_44 : decode cX4_ownerOn 44 = .ok (.iload 5, 2) := by decide +kernel
theorem dX4_ownerOn_46 : decode cX4_ownerOn 46 = .ok (.iaload, 1) := by decide +kernel
theorem dX4_ownerOn_47 : decode cX4_ownerOn 47 = .ok (.iload_n 2, 1) := by decide +kernel
theorem dX4_ownerOn_48 : decode cX4_ownerOn 48 = .ok (.if_icmp .gt 20, 3) := by decide +kernel
theorem dX4_ownerOn_51 : decode cX4_ownerOn 51 = .ok (.aload_n 0, 1) := by decide +kernel
theorem dX4_ownerOn_52 : decode cX4_ownerOn 52 = .ok (.getfield 18, 3) := by decide +kernel
theorem dX4_ownerOn_55 : decode cX4_ownerOn 55 = .ok (.iload 5, 2) := by decide +kernel
theorem dX4_ownerOn_57 : decode cX4_ownerOn 57 = .ok (.iaload, 1) := by decide +kernel
theorem dX4_ownerOn_58 : decode cX4_ownerOn 58 = .ok (.istore 4, 2) := by decide +kernel
theorem dX4_ownerOn_60 : decode cX4_ownerOn 60 = .ok (.aload_n 0, 1) := by decide +kernel
theorem dX4_ownerOn_61 : decode cX4_ownerOn 61 = .ok (.getfield 15, 3) := by decide +kernel
theorem dX4_ownerOn_64 : decode cX4_ownerOn 64 = .ok (.iload 5, 2) := by decide +kernel
theorem dX4_ownerOn_66 : decode cX4_ownerOn 66 = .ok (.iaload, 1) := by decide +kernel
theorem dX4_ownerOn_67 : decode cX4_ownerOn 67 = .ok (.istore_n 3, 1) := by decide +kernel
theorem dX4_ownerOn_68 : decode cX4_ownerOn 68 = .ok (.iinc 5 1, 3) := by decide +kernel
theorem dX4_ownerOn_71 : decode cX4_ownerOn 71 = .ok (.goto (-63), 3) := by decide +kernel
theorem dX4_ownerOn_74 : decode cX4_ownerOn 74 = .ok (.iload_n 3, 1) := by decide +kernel
theorem dX4_ownerOn_75 : decode cX4_ownerOn 75 = .ok (.ireturn, 1) := by decide +kernel
theorem dX4_nextSale_0 : decode cX4_nextSale 0 = .ok (.sipush 10000, 3) := by decide +kernel
theorem dX4_nextSale_3 : decode cX4_nextSale 3 = .ok (.istore_n 3, 1) := by decide +kernel
theorem dX4_nextSale_4 : decode cX4_nextSale 4 = .ok (.iconst 0, 1) := by decide +kernel
theorem dX4_nextSale_5 : decode cX4_nextSale 5 = .ok (.istore 4, 2) := by decide +kernel
theorem dX4_nextSale_7 : decode cX4_nextSale 7 = .ok (.iload 4, 2) := by decide +kernel
theorem dX4_nextSale_9 : decode cX4_nextSale 9 = .ok (.aload_n 0, 1) := by decide +kernel
theorem dX4_nextSale_10 : decode cX4_nextSale 10 = .ok (.getfield 52, 3) := by decide +kernel
theorem dX4_nextSale_13 : decode cX4_nextSale 13 = .ok (.if_icmp .ge 43, 3) := by decide +kernel
theorem dX4_nextSale_16 : decode cX4_nextSale 16 = .ok (.aload_n 0, 1) := by decide +kernel
theorem dX4_nextSale_17 : decode cX4_nextSale 17 = .ok (.getfield 9, 3) := by decide +kernel
theorem dX4_nextSale_20 : decode cX4_nextSale 20 = .ok (.iload 4, 2) := by decide +kernel
theorem dX4_nextSale_22 : decode cX4_nextSale 22 = .ok (.iaload, 1) := by decide +kernel
theorem dX4_nextSale_23 : decode cX4_nextSale 23 = .ok (.iload_n 1, 1) := by decide +kernel
theorem dX4_nextSale_24 : decode cX4_nextSale 24 = .ok (.if_icmp .ne 26, 3) := by decide +kernel
theorem dX4_nextSale_27 : decode cX4_nextSale 27 = .ok (.aload_n 0, 1) := by decide +kernel
theorem dX4_nextSale_28 : decode cX4_nextSale 28 = .ok (.getfield 18, 3) := by decide +kernel
theorem dX4_nextSale_31 : decode cX4_nextSale 31 = .ok (.iload 4, 2) := by decide +kernel
theorem dX4_nextSale_33 : decode cX4_nextSale 33 = .ok (.iaload, 1) := by decide +kernel
theorem dX4_nextSale_34 : decode cX4_nextSale 34 = .ok (.iload_n 2, 1) := by decide +kernel
theorem dX4_nextSale_35 : decode cX4_nextSale 35 = .ok (.if_icmp .le 15, 3) := by decide +kernel
theorem dX4_nextSale_38 : decode cX4_nextSale 38 = .ok (.iload_n 3, 1) := by decide +kernel
theorem dX4_nextSale_39 : decode cX4_nextSale 39 = .ok (.aload_n 0, 1) := by decide +kernel
theorem dX4_nextSale_40 : decode cX4_nextSale 40 = .ok (.getfield 18, 3) := by decide +kernel
theorem dX4_nextSale_43 : decode cX4_nextSale 43 = .ok (.iload 4, 2) := by decide +kernel
theorem dX4_nextSale_45 : decode cX4_nextSale 45 = .ok (.iaload, 1) := by decide +kernel
theorem dX4_nextSale_46 : decode cX4_nextSale 46 = .ok (.invokestatic 55, 3) := by decide +kernel
theorem dX4_nextSale_49 : decode cX4_nextSale 49 = .ok (.istore_n 3, 1) := by decide +kernel
theorem dX4_nextSale_50 : decode cX4_nextSale 50 = .ok (.iinc 4 1, 3) := by decide +kernel
theorem dX4_nextSale_53 : decode cX4_nextSale 53 = .ok (.goto (-46), 3) := by decide +kernel
theorem dX4_nextSale_56 : decode cX4_nextSale 56 = .ok (.iload_n 3, 1) := by decide +kernel
theorem dX4_nextSale_57 : decode cX4_nextSale 57 = .ok (.ireturn, 1) := by decide +kernel
theorem dX4_tell_0 : decode cX4_tell 0 = .ok (.aload_n 0, 1) := by decide +kernel
theorem dX4_tell_1 : decode cX4_tell 1 = .ok (.getfield 26, 3) := by decide +kernel
theorem dX4_tell_4 : decode cX4_tell 4 = .ok (.iload_n 2, 1) := by decide +kernel
theorem dX4_tell_5 : decode cX4_tell 5 = .ok (.aaload, 1) := by decide +kernel
theorem dX4_tell_6 : decode cX4_tell 6 = .ok (.iload_n 1, 1) := by decide +kernel
theorem dX4_tell_7 : decode cX4_tell 7 = .ok (.iaload, 1) := by decide +kernel
theorem dX4_tell_8 : decode cX4_tell 8 = .ok (.istore 4, 2) := by decide +kernel
theorem dX4_tell_10 : decode cX4_tell 10 = .ok (.aload_n 0, 1) := by decide +kernel
theorem dX4_tell_11 : decode cX4_tell 11 = .ok (.getfield 26, 3) := by decide +kernel
theorem dX4_tell_14 : decode cX4_tell 14 = .ok (.iload_n 2, 1) := by decide +kernel
theorem dX4_tell_15 : decode cX4_tell 15 = .ok (.aaload, 1) := by decide +kernel
theorem dX4_tell_16 : decode cX4_tell 16 = .ok (.iload_n 1, 1) := by decide +kernel
theorem dX4_tell_17 : decode cX4_tell 17 = .ok (.iload_n 3, 1) := by decide +kernel
theorem dX4_tell_18 : decode cX4_tell 18 = .ok (.iastore, 1) := by decide +kernel
theorem dX4_tell_19 : decode cX4_tell 19 = .ok (.iload 4, 2) := by decide +kernel
theorem dX4_tell_21 : decode cX4_tell 21 = .ok (.ireturn, 1) := by decide +kernel
theorem dX4_plant_0 : decode cX4_plant 0 = .ok (.aload_n 0, 1) := by decide +kernel
theorem dX4_plant_1 : decode cX4_plant 1 = .ok (.iload_n 1, 1) := by decide +kernel
theorem dX4_plant_2 : decode cX4_plant 2 = .ok (.invokevirtual 61, 3) := by decide +kernel
theorem dX4_plant_5 : decode cX4_plant 5 = .ok (.istore 4, 2) := by decide +kernel
theorem dX4_plant_7 : decode cX4_plant 7 = .ok (.aload_n 0, 1) := by decide +kernel
theorem dX4_plant_8 : decode cX4_plant 8 = .ok (.getfield 29, 3) := by decide +kernel
theorem dX4_plant_11 : decode cX4_plant 11 = .ok (.iload_n 1, 1) := by decide +kernel
theorem dX4_plant_12 : decode cX4_plant 12 = .ok (.iload_n 2, 1) := by decide +kernel
theorem dX4_plant_13 : decode cX4_plant 13 = .ok (.iastore, 1) := by decide +kernel
theorem dX4_plant_14 : decode cX4_plant 14 = .ok (.aload_n 0, 1) := by decide +kernel
theorem dX4_plant_15 : decode cX4_plant 15 = .ok (.getfield 32, 3) := by decide +kernel
theorem dX4_plant_18 : decode cX4_plant 18 = .ok (.iload_n 1, 1) := by decide +kernel
theorem dX4_plant_19 : decode cX4_plant 19 = .ok (.iload_n 3, 1) := by decide +kernel
theorem dX4_plant_20 : decode cX4_plant 20 = .ok (.iastore, 1) := by decide +kernel
theorem dX4_plant_21 : decode cX4_plant 21 = .ok (.aload_n 0, 1) := by decide +kernel
theorem dX4_plant_22 : decode cX4_plant 22 = .ok (.getfield 35, 3) := by decide +kernel
theorem dX4_plant_25 : decode cX4_plant 25 = .ok (.iload_n 1, 1) := by decide +kernel
theorem dX4_plant_26 : decode cX4_plant 26 = .ok (.aload_n 0, 1) := by decide +kernel
theorem dX4_plant_27 : decode cX4_plant 27 = .ok (.getfield 44, 3) := by decide +kernel
theorem dX4_plant_30 : decode cX4_plant 30 = .ok (.iastore, 1) := by decide +kernel
theorem dX4_plant_31 : decode cX4_plant 31 = .ok (.iload 4, 2) := by decide +kernel
theorem dX4_plant_33 : decode cX4_plant 33 = .ok (.ireturn, 1) := by decide +kernel
theorem dX4_treesNow_0 : decode cX4_treesNow 0 = .ok (.aload_n 0, 1) := by decide +kernel
theorem dX4_treesNow_1 : decode cX4_treesNow 1 = .ok (.getfield 29, 3) := by decide +kernel
theorem dX4_treesNow_4 : decode cX4_treesNow 4 = .ok (.iload_n 1, 1) := by decide +kernel
theorem dX4_treesNow_5 : decode cX4_treesNow 5 = .ok (.iaload, 1) := by decide +kernel
theorem dX4_treesNow_6 : decode cX4_treesNow 6 = .ok (.aload_n 0, 1) := by decide +kernel
theorem dX4_treesNow_7 : decode cX4_treesNow 7 = .ok (.getfield 32, 3) := by decide +kernel
theorem dX4_treesNow_10 : decode cX4_treesNow 10 = .ok (.iload_n 1, 1) := by decide +kernel
theorem dX4_treesNow_11 : decode cX4_treesNow 11 = .ok (.iaload, 1) := by decide +kernel
theorem dX4_treesNow_12 : decode cX4_treesNow 12 = .ok (.aload_n 0, 1) := by decide +kernel
theorem dX4_treesNow_13 : decode cX4_treesNow 13 = .ok (.getfield 44, 3) := by decide +kernel
theorem dX4_treesNow_16 : decode cX4_treesNow 16 = .ok (.aload_n 0, 1) := by decide +kernel
theorem dX4_treesNow_17 : decode cX4_treesNow 17 = .ok (.getfield 35, 3) := by decide +kernel
theorem dX4_treesNow_20 : decode cX4_treesNow 20 = .ok (.iload_n 1, 1) := by decide +kernel
theorem dX4_treesNow_21 : decode cX4_treesNow 21 = .ok (.iaload, 1) := by decide +kernel
theorem dX4_treesNow_22 : decode cX4_treesNow 22 = .ok (.isub, 1) := by decide +kernel
theorem dX4_treesNow_23 : decode cX4_treesNow 23 = .ok (.sipush 365, 3) := by decide +kernel
theorem dX4_treesNow_26 : decode cX4_treesNow 26 = .ok (.idiv, 1) := by decide +kernel
theorem dX4_treesNow_27 : decode cX4_treesNow 27 = .ok (.imul, 1) := by decide +kernel
theorem dX4_treesNow_28 : decode cX4_treesNow 28 = .ok (.iadd, 1) := by decide +kernel
theorem dX4_treesNow_29 : decode cX4_treesNow 29 = .ok (.ireturn, 1) := by decide +kernel
theorem dX5_init_0 : decode cX5_init 0 = .ok (.aload_n 0, 1) := by decide +kernel
theorem dX5_init_1 : decode cX5_init 1 = .ok (.invokespecial 3, 3) := by decide +kernel
theorem dX5_init_4 : decode cX5_init 4 = .ok (.aload_n 0, 1) := by decide +kernel
theorem dX5_init_5 : decode cX5_init 5 = .ok (.bipush 24, 2) := by decide +kernel
theorem dX5_init_7 : decode cX5_init 7 = .ok (.newarray .int, 2) := by decide +kernel
theorem dX5_init_9 : decode cX5_init 9 = .ok (.putfield 9, 3) := by decide +kernel
theorem dX5_init_12 : decode cX5_init 12 = .ok (.aload_n 0, 1) := by decide +kernel
theorem dX5_init_13 : decode cX5_init 13 = .ok (.bipush 24, 2) := by decide +kernel
theorem dX5_init_15 : decode cX5_init 15 = .ok (.newarray .int, 2) := by decide +kernel
theorem dX5_init_17 : decode cX5_init 17 = .ok (.putfield 15, 3) := by decide +kernel
theorem dX5_init_20 : decode cX5_init 20 = .ok (.aload_n 0, 1) := by decide +kernel
theorem dX5_init_21 : decode cX5_init 21 = .ok (.bipush 24, 2) := by decide +kernel
theorem dX5_init_23 : decode cX5_init 23 = .ok (.newarray .int, 2) := by decide +kernel
theorem dX5_init_25 : decode cX5_init 25 = .ok (.putfield 18, 3) := by decide +kernel
theorem dX5_init_28 : decode cX5_init 28 = .ok (.aload_n 0, 1) := by decide +kernel
theorem dX5_init_29 : decode cX5_init 29 = .ok (.bipush 24, 2) := by decide +kernel
theorem dX5_init_31 : decode cX5_init 31 = .ok (.newarray .int, 2) := by decide +kernel
theorem dX5_init_33 : decode cX5_init 33 = .ok (.putfield 21, 3) := by decide +kernel
theorem dX5_init_36 : decode cX5_init 36 = .ok (.aload_n 0, 1) := by decide +kernel
theorem dX5_init_37 : decode cX5_init 37 = .ok (.bipush 24, 2) := by decide +kernel
theorem dX5_init_39 : decode cX5_init 39 = .ok (.newarray .int, 2) := by decide +kernel
theorem dX5_init_41 : decode cX5_init 41 = .ok (.putfield 24, 3) := by decide +kernel
theorem dX5_init_44 : decode cX5_init 44 = .ok (.aload_n 0, 1) := by decide +kernel
theorem dX5_init_45 : decode cX5_init 45 = .ok (.bipush 24, 2) := by decide +kernel
theorem dX5_init_47 : decode cX5_init 47 = .ok (.newarray .int, 2) := by decide +kernel
theorem dX5_init_49 : decode cX5_init 49 = .ok (.putfield 27, 3) := by decide +kernel
theorem dX5_init_52 : decode cX5_init 52 = .ok (.aload_n 0, 1) := by decide +kernel
theorem dX5_init_53 : decode cX5_init 53 = .ok (.bipush 24, 2) := by decide +kernel
theorem dX5_init_55 : decode cX5_init 55 = .ok (.newarray .int, 2) := by decide +kernel
theorem dX5_init_57 : decode cX5_init 57 = .ok (.putfield 30, 3) := by decide +kernel
theorem dX5_init_60 : decode cX5_init 60 = .ok (.aload_n 0, 1) := by decide +kernel
theorem dX5_init_61 : decode cX5_init 61 = .ok (.bipush 24, 2) := by decide +kernel
theorem dX5_init_63 : decode cX5_init 63 = .ok (.newarray .boolean, 2) := by decide +kernel
theorem dX5_init_65 : decode cX5_init 65 = .ok (.putfield 33, 3) := by decide +kernel
theorem dX5_init_68 : decode cX5_init 68 = .ok (.aload_n 0, 1) := by decide +kernel
theorem dX5_init_69 : decode cX5_init 69 = .ok (.bipush 24, 2) := by decide +kernel
theorem dX5_init_71 : decode cX5_init 71 = .ok (.newarray .boolean, 2) := by decide +kernel
theorem dX5_init_73 : decode cX5_init 73 = .ok (.putfield 37, 3) := by decide +kernel
theorem dX5_init_76 : decode cX5_init 76 = .ok (.aload_n 0, 1) := by decide +kernel
theorem dX5_init_77 : decode cX5_init 77 = .ok (.aload_n 1, 1) := by decide +kernel
theorem dX5_init_78 : decode cX5_init 78 = .ok (.putfield 40, 3) := by decide +kernel
theorem dX5_init_81 : decode cX5_init 81 = .ok (.aload_n 0, 1) := by decide +kernel
theorem dX5_init_82 : decode cX5_init 82 = .ok (.aload_n 2, 1) := by decide +kernel
theorem dX5_init_83 : decode cX5_init 83 = .ok (.putfield 44, 3) := by decide +kernel
theorem dX5_init_86 : decode cX5_init 86 = .ok (.aload_n 0, 1) := by decide +kernel
theorem dX5_init_87 : decode cX5_init 87 = .ok (.aload_n 3, 1) := by decide +kernel
theorem dX5_init_88 : decode cX5_init 88 = .ok (.putfield 48, 3) := by decide +kernel
theorem dX5_init_91 : decode cX5_init 91 = .ok (.return_, 1) := by decide +kernel
theorem dX5_isLeave_0 : decode cX5_isLeave 0 = .ok (.iload_n 1, 1) := by decide +kernel
theorem dX5_isLeave_1 : decode cX5_isLeave 1 = .ok (.iconst 0, 1) := by decide +kernel
theorem dX5_isLeave_2 : decode cX5_isLeave 2 = .ok (.aload_n 0, 1) := by decide +kernel
theorem dX5_isLeave_3 : decode cX5_isLeave 3 = .ok (.getfield 52, 3) := by decide +kernel
theorem dX5_isLeave_6 : decode cX5_isLeave 6 = .ok (.iconst 1, 1) := by decide +kernel
theorem dX5_isLeave_7 : decode cX5_isLeave 7 = .ok (.isub, 1) := by decide +kernel
theorem dX5_isLeave_8 : decode cX5_isLeave 8 = .ok (.invokestatic 56, 3) := by decide +kernel
theorem dX5_isLeave_11 : decode cX5_isLeave 11 = .ok (.ireturn, 1) := by decide +kernel
theorem dX5_add_0 : decode cX5_add 0 = .ok (.aload_n 0, 1) := by decide +kernel
theorem dX5_add_1 : decode cX5_add 1 = .ok (.getfield 9, 3) := by decide +kernel
theorem dX5_add_4 : decode cX5_add 4 = .ok (.aload_n 0, 1) := by decide +kernel
theorem dX5_add_5 : decode cX5_add 5 = .ok (.getfield 52, 3) := by decide +kernel
theorem dX5_add_8 : decode cX5_add 8 = .ok (.iload_n 1, 1) := by decide +kernel
theorem dX5_add_9 : decode cX5_add 9 = .ok (.iastore, 1) := by decide +kernel
theorem dX5_add_10 : decode cX5_add 10 = .ok (.aload_n 0, 1) := by decide +kernel
theorem dX5_add_11 : decode cX5_add 11 = .ok (.getfield 15, 3) := by decide +kernel
theorem dX5_add_14 : decode cX5_add 14 = .ok (.aload_n 0, 1) := by decide +kernel
theorem dX5_add_15 : decode cX5_add 15 = .ok (.getfield 52, 3) := by decide +kernel
theorem dX5_add_18 : decode cX5_add 18 = .ok (.iload_n 2, 1) := by decide +kernel
theorem dX5_add_19 : decode cX5_add 19 = .ok (.iastore, 1) := by decide +kernel
theorem dX5_add_20 : decode cX5_add 20 = .ok (.aload_n 0, 1) := by decide +kernel
theorem dX5_add_21 : decode cX5_add 21 = .ok (.getfield 18, 3) := by decide +kernel
theorem dX5_add_24 : decode cX5_add 24 = .ok (.aload_n 0, 1) := by decide +kernel
theorem dX5_add_25 : decode cX5_add 25 = .ok (.getfield 52, 3) := by decide +kernel
theorem dX5_add_28 : decode cX5_add 28 = .ok (.iload_n 3, 1) := by decide +kernel
theorem dX5_add_29 : decode cX5_add 29 = .ok (.iastore, 1) := by decide +kernel
theorem dX5_add_30 : decode cX5_add 30 = .ok (.aload_n 0, 1) := by decide +kernel
theorem dX5_add_31 : decode cX5_add 31 = .ok (.getfield 21, 3) := by decide +kernel
theorem dX5_add_34 : decode cX5_add 34 = .ok (.aload_n 0, 1) := by decide +kernel
theorem dX5_add_35 : decode cX5_add 35 = .ok (.getfield 52, 3) := by decide +kernel
theorem dX5_add_38 : decode cX5_add 38 = .ok (.iload 4, 2) := by decide +kernel
theorem dX5_add_40 : decode cX5_add 40 = .ok (.iastore, 1) := by decide +kernel
theorem dX5_add_41 : decode cX5_add 41 = .ok (.aload_n 0, 1) := by decide +kernel
theorem dX5_add_42 : decode cX5_add 42 = .ok (.getfield 24, 3) := by decide +kernel
theorem dX5_add_45 : decode cX5_add 45 = .ok (.aload_n 0, 1) := by decide +kernel
theorem dX5_add_46 : decode cX5_add 46 = .ok (.getfield 52, 3) := by decide +kernel
theorem dX5_add_49 : decode cX5_add 49 = .ok (.iload 5, 2) := by decide +kernel
theorem dX5_add_51 : decode cX5_add 51 = .ok (.iastore, 1) := by decide +kernel
theorem dX5_add_52 : decode cX5_add 52 = .ok (.aload_n 0, 1) := by decide +kernel
theorem dX5_add_53 : decode cX5_add 53 = .ok (.getfield 30, 3) := by decide +kernel
theorem dX5_add_56 : decode cX5_add 56 = .ok (.aload_n 0, 1) := by decide +kernel
theorem dX5_add_57 : decode cX5_add 57 = .ok (.getfield 52, 3) := by decide +kernel
theorem dX5_add_60 : decode cX5_add 60 = .ok (.iconst (-1), 1) := by decide +kernel
theorem dX5_add_61 : decode cX5_add 61 = .ok (.iastore, 1) := by decide +kernel
theorem dX5_add_62 : decode cX5_add 62 = .ok (.aload_n 0, 1) := by decide +kernel
theorem dX5_add_63 : decode cX5_add 63 = .ok (.dup, 1) := by decide +kernel
theorem dX5_add_64 : decode cX5_add 64 = .ok (.getfield 52, 3) := by decide +kernel
theorem dX5_add_67 : decode cX5_add 67 = .ok (.iconst 1, 1) := by decide +kernel
theorem dX5_add_68 : decode cX5_add 68 = .ok (.iadd, 1) := by decide +kernel
theorem dX5_add_69 : decode cX5_add 69 = .ok (.putfield 52, 3) := by decide +kernel
theorem dX5_add_72 : decode cX5_add 72 = .ok (.aload_n 0, 1) := by decide +kernel
theorem dX5_add_73 : decode cX5_add 73 = .ok (.getfield 52, 3) := by decide +kernel
theorem dX5_add_76 : decode cX5_add 76 = .ok (.iconst 1, 1) := by decide +kernel
theorem dX5_add_77 : decode cX5_add 77 = .ok (.isub, 1) := by decide +kernel
theorem dX5_add_78 : decode cX5_add 78 = .ok (.ireturn, 1) := by decide +kernel
theorem dX5_lasts_0 : decode cX5_lasts 0 = .ok (.getstatic 60, 3) := by decide +kernel
theorem dX5_lasts_3 : decode cX5_lasts 3 = .ok (.aload_n 0, 1) := by decide +kernel
theorem dX5_lasts_4 : decode cX5_lasts 4 = .ok (.getfield 9, 3) := by decide +kernel
theorem dX5_lasts_7 : decode cX5_lasts 7 = .ok (.iload_n 1, 1) := by decide +kernel
theorem dX5_lasts_8 : decode cX5_lasts 8 = .ok (.iaload, 1) := by decide +kernel
theorem dX5_lasts_9 : decode cX5_lasts 9 = .ok (.iaload, 1) := by decide +kernel
theorem dX5_lasts_10 : decode cX5_lasts 10 = .ok (.iconst 1, 1) := by decide +kernel
theorem dX5_lasts_11 : decode cX5_lasts 11 = .ok (.aload_n 0, 1) := by decide +kernel
theorem dX5_lasts_12 : decode cX5_lasts 12 = .ok (.getfield 27, 3) := by decide +kernel
theorem dX5_lasts_15 : decode cX5_lasts 15 = .ok (.iload_n 1, 1) := by decide +kernel
theorem dX5_lasts_16 : decode cX5_lasts 16 = .ok (.iaload, 1) := by decide +kernel
theorem dX5_lasts_17 : decode cX5_lasts 17 = .ok (.iadd, 1) := by decide +kernel
theorem dX5_lasts_18 : decode cX5_lasts 18 = .ok (.imul, 1) := by decide +kernel
theorem dX5_lasts_19 : decode cX5_lasts 19 = .ok (.ireturn, 1) := by decide +kernel
theorem dX5_yearlyOf_0 : decode cX5_yearlyOf 0 = .ok (.aload_n 0, 1) := by decide +kernel
theorem dX5_yearlyOf_1 : decode cX5_yearlyOf 1 = .ok (.getfield 18, 3) := by decide +kernel
theorem dX5_yearlyOf_4 : decode cX5_yearlyOf 4 = .ok (.iload_n 1, 1) := by decide +kernel
theorem dX5_yearlyOf_5 : decode cX5_yearlyOf 5 = .ok (.iaload, 1) := by decide +kernel
theorem dX5_yearlyOf_6 : decode cX5_yearlyOf 6 = .ok (.bipush 15, 2) := by decide +kernel
theorem dX5_yearlyOf_8 : decode cX5_yearlyOf 8 = .ok (.idiv, 1) := by decide +kernel
theorem dX5_yearlyOf_9 : decode cX5_yearlyOf 9 = .ok (.istore_n 2, 1) := by decide +kernel
theorem dX5_yearlyOf_10 : decode cX5_yearlyOf 10 = .ok (.aload_n 0, 1) := by decide +kernel
theorem dX5_yearlyOf_11 : decode cX5_yearlyOf 11 = .ok (.getfield 9, 3) := by decide +kernel
theorem dX5_yearlyOf_14 : decode cX5_yearlyOf 14 = .ok (.iload_n 1, 1) := by decide +kernel
theorem dX5_yearlyOf_15 : decode cX5_yearlyOf 15 = .ok (.iaload, 1) := by decide +kernel
theorem dX5_yearlyOf_16 : decode cX5_yearlyOf 16 = .ok (.tableswitch 56 1 5 #[36, 38, 42, 56, 52], 36) := by decide +kernel
theorem dX5_yearlyOf_52 : decode cX5_yearlyOf 52 = .ok (.iconst 0, 1) := by decide +kernel
theorem dX5_yearlyOf_53 : decode cX5_yearlyOf 53 = .ok (.ireturn, 1) := by decide +kernel
theorem dX5_yearlyOf_54 : decode cX5_yearlyOf 54 = .ok (.iconst 2, 1) := by decide +kernel
theorem dX5_yearlyOf_55 : decode cX5_yearlyOf 55 = .ok (.iload_n 2, 1) := by decide +kernel
theorem dX5_yearlyOf_56 : decode cX5_yearlyOf 56 = .ok (.imul, 1) := by decide +kernel
theorem dX5_yearlyOf_57 : decode cX5_yearlyOf 57 = .ok (.ireturn, 1) := by decide +kernel
theorem dX5_yearlyOf_58 : decode cX5_yearlyOf 58 = .ok (.aload_n 0, 1) := by decide +kernel
theorem dX5_yearlyOf_59 : decode cX5_yearlyOf 59 = .ok (.getfield 18, 3) := by decide +kernel
theorem dX5_yearlyOf_62 : decode cX5_yearlyOf 62 = .ok (.iload_n 1, 1) := by decide +kernel
theorem dX5_yearlyOf_63 : decode cX5_yearlyOf 63 = .ok (.iaload, 1) := by decide +kernel
theorem dX5_yearlyOf_64 : decode cX5_yearlyOf 64 = .ok (.bipush 100, 2) := by decide +kernel
theorem dX5_yearlyOf_66 : decode cX5_yearlyOf 66 = .ok (.idiv, 1) := by decide +kernel
theorem dX5_yearlyOf_67 : decode cX5_yearlyOf 67 = .ok (.ireturn, 1) := by decide +kernel
theorem dX5_yearlyOf_68 : decode cX5_yearlyOf 68 = .ok (.iconst 2, 1) := by decide +kernel
theorem dX5_yearlyOf_69 : decode cX5_yearlyOf 69 = .ok (.iload_n 2, 1) := by decide +kernel
theorem dX5_yearlyOf_70 : decode cX5_yearlyOf 70 = .ok (.imul, 1) := by decide +kernel
theorem dX5_yearlyOf_71 : decode cX5_yearlyOf 71 = .ok (.ireturn, 1) := by decide +kernel
theorem dX5_yearlyOf_72 : decode cX5_yearlyOf 72 = .ok (.iload_n 2, 1) := by decide +kernel
theorem dX5_yearlyOf_73 : decode cX5_yearlyOf 73 = .ok (.ireturn, 1) := by decide +kernel
theorem dX5_isUnder_0 : decode cX5_isUnder 0 = .ok (.aload_n 0, 1) := by decide +kernel
theorem dX5_isUnder_1 : decode cX5_isUnder 1 = .ok (.getfield 9, 3) := by decide +kernel
theorem dX5_isUnder_4 : decode cX5_isUnder 4 = .ok (.iload_n 1, 1) := by decide +kernel
theorem dX5_isUnder_5 : decode cX5_isUnder 5 = .ok (.iaload, 1) := by decide +kernel
theorem dX5_isUnder_6 : decode cX5_isUnder 6 = .ok (.istore_n 3, 1) := by decide +kernel
theorem dX5_isUnder_7 : decode cX5_isUnder 7 = .ok (.iconst 0, 1) := by decide +kernel
theorem dX5_isUnder_8 : decode cX5_isUnder 8 = .ok (.istore 4, 2) := by decide +kernel
theorem dX5_isUnder_10 : decode cX5_isUnder 10 = .ok (.iload 4, 2) := by decide +kernel
theorem dX5_isUnder_12 : decode cX5_isUnder 12 = .ok (.bipush 6, 2) := by decide +kernel
theorem dX5_isUnder_14 : decode cX5_isUnder 14 = .ok (.if_icmp .ge 20, 3) := by decide +kernel
theorem dX5_isUnder_17 : decode cX5_isUnder 17 = .ok (.iload_n 3, 1) := by decide +kernel
theorem dX5_isUnder_18 : decode cX5_isUnder 18 = .ok (.iload_n 2, 1) := by decide +kernel
theorem dX5_isUnder_19 : decode cX5_isUnder 19 = .ok (.if_icmp .le 15, 3) := by decide +kernel
theorem dX5_isUnder_22 : decode cX5_isUnder 22 = .ok (.getstatic 63, 3) := by decide +kernel
theorem dX5_isUnder_25 : decode cX5_isUnder 25 = .ok (.iload_n 3, 1) := by decide +kernel
theorem dX5_isUnder_26 : decode cX5_isUnder 26 = .ok (.iaload, 1) := by decide +kernel
theorem dX5_isUnder_27 : decode cX5_isUnder 27 = .ok (.istore_n 3, 1) := by decide +kernel
theorem dX5_isUnder_28 : decode cX5_isUnder 28 = .ok (.iinc 4 1, 3) := by decide +kernel
theorem dX5_isUnder_31 : decode cX5_isUnder 31 = .ok (.goto (-21), 3) := by decide +kernel
theorem dX5_isUnder_34 : decode cX5_isUnder 34 = .ok (.iload_n 3, 1) := by decide +kernel
theorem dX5_isUnder_35 : decode cX5_isUnder 35 = .ok (.iload_n 2, 1) := by decide +kernel
theorem dX5_isUnder_36 : decode cX5_isUnder 36 = .ok (.if_icmp .ne 7, 3) := by decide +kernel
theorem dX5_isUnder_39 : decode cX5_isUnder 39 = .ok (.iconst 1, 1) := by decide +kernel
theorem dX5_isUnder_40 : decode cX5_isUnder 40 = .ok (.goto 4, 3) := by decide +kernel
theorem dX5_isUnder_43 : decode cX5_isUnder 43 = .ok (.iconst 0, 1) := by decide +kernel
theorem dX5_isUnder_44 : decode cX5_isUnder 44 = .ok (.ireturn, 1) := by decide +kernel
theorem dX5_standsAlone_0 : decode cX5_standsAlone 0 = .ok (.aload_n 0, 1) := by decide +kernel
theorem dX5_standsAlone_1 : decode cX5_standsAlone 1 = .ok (.getfield 21, 3) := by decide +kernel
theorem dX5_standsAlone_4 : decode cX5_standsAlone 4 = .ok (.iload_n 1, 1) := by decide +kernel
theorem dX5_standsAlone_5 : decode cX5_standsAlone 5 = .ok (.iaload, 1) := by decide +kernel
theorem dX5_standsAlone_6 : decode cX5_standsAlone 6 = .ok (.istore_n 3, 1) := by decide +kernel
theorem dX5_standsAlone_7 : decode cX5_standsAlone 7 = .ok (.iload_n 2, 1) := by decide +kernel
theorem dX5_standsAlone_8 : decode cX5_standsAlone 8 = .ok (.iload_n 3, 1) := by decide +kernel
theorem dX5_standsAlone_9 : decode cX5_standsAlone 9 = .ok (.if_icmp .lt 14, 3) := by decide +kernel
theorem dX5_standsAlone_12 : decode cX5_standsAlone 12 = .ok (.iload_n 2, 1) := by decide +kernel
theorem dX5_standsAlone_13 : decode cX5_standsAlone 13 = .ok (.iload_n 3, 1) := by decide +kernel
theorem dX5_standsAlone_14 : decode cX5_standsAlone 14 = .ok (.aload_n 0, 1) := by decide +kernel
theorem dX5_standsAlone_15 : decode cX5_standsAlone 15 = .ok (.iload_n 1, 1) := by decide +kernel
theorem dX5_standsAlone_16 : decode cX5_standsAlone 16 = .ok (.invokevirtual 66, 3) := by decide +kernel
theorem dX5_standsAlone_19 : decode cX5_standsAlone 19 = .ok (.iadd, 1) := by decide +kernel
theorem dX5_standsAlone_20 : decode cX5_standsAlone 20 = .ok (.if_icmp .lt 5, 3) := by decide +kernel
theorem dX5_standsAlone_23 : decode cX5_standsAlone 23 = .ok (.iconst 0, 1) := by decide +kernel
theorem dX5_standsAlone_24 : decode cX5_standsAlone 24 = .ok (.ireturn, 1) := by decide +kernel
theorem dX5_standsAlone_25 : decode cX5_standsAlone 25 = .ok (.aload_n 0, 1) := by decide +kernel
theorem dX5_standsAlone_26 : decode cX5_standsAlone 26 = .ok (.getfield 30, 3) := by decide +kernel
theorem dX5_standsAlone_29 : decode cX5_standsAlone 29 = .ok (.iload_n 1, 1) := by decide +kernel
theorem dX5_standsAlone_30 : decode cX5_standsAlone 30 = .ok (.iaload, 1) := by decide +kernel
theorem dX5_standsAlone_31 : decode cX5_standsAlone 31 = .ok (.iconst (-1), 1) := by decide +kernel
theorem dX5_standsAlone_32 : decode cX5_standsAlone 32 = .ok (.if_icmp .eq 15, 3) := by decide +kernel
theorem dX5_standsAlone_35 : decode cX5_standsAlone 35 = .ok (.iload_n 2, 1) := by decide +kernel
theorem dX5_standsAlone_36 : decode cX5_standsAlone 36 = .ok (.aload_n 0, 1) := by decide +kernel
theorem dX5_standsAlone_37 : decode cX5_standsAlone 37 = .ok (.getfield 30, 3) := by decide +kernel
theorem dX5_standsAlone_40 : decode cX5_standsAlone 40 = .ok (.iload_n 1, 1) := by decide +kernel
theorem dX5_standsAlone_41 : decode cX5_standsAlone 41 = .ok (.iaload, 1) := by decide +kernel
theorem dX5_standsAlone_42 : decode cX5_standsAlone 42 = .ok (.if_icmp .lt 5, 3) := by decide +kernel
theorem dX5_standsAlone_45 : decode cX5_standsAlone 45 = .ok (.iconst 0, 1) := by decide +kernel
theorem dX5_standsAlone_46 : decode cX5_standsAlone 46 = .ok (.ireturn, 1) := by decide +kernel
theorem dX5_standsAlone_47 : decode cX5_standsAlone 47 = .ok (.getstatic 70, 3) := by decide +kernel
theorem dX5_standsAlone_50 : decode cX5_standsAlone 50 = .ok (.aload_n 0, 1) := by decide +kernel
theorem dX5_standsAlone_51 : decode cX5_standsAlone 51 = .ok (.getfield 9, 3) := by decide +kernel
theorem dX5_standsAlone_54 : decode cX5_standsAlone 54 = .ok (.iload_n 1, 1) := by decide +kernel
theorem dX5_standsAlone_55 : decode cX5_standsAlone 55 = .ok (.iaload, 1) := by decide +kernel
theorem dX5_standsAlone_56 : decode cX5_standsAlone 56 = .ok (.iaload, 1) := by decide +kernel
theorem dX5_standsAlone_57 : decode cX5_standsAlone 57 = .ok (.iconst 1, 1) := by decide +kernel
theorem dX5_standsAlone_58 : decode cX5_standsAlone 58 = .ok (.if_icmp .ne 5, 3) := by decide +kernel
theorem dX5_standsAlone_61 : decode cX5_standsAlone 61 = .ok (.iconst 1, 1) := by decide +kernel
theorem dX5_standsAlone_62 : decode cX5_standsAlone 62 = .ok (.ireturn, 1) := by decide +kernel
theorem dX5_standsAlone_63 : decode cX5_standsAlone 63 = .ok (.aload_n 0, 1) := by decide +kernel
theorem dX5_standsAlone_64 : decode cX5_standsAlone 64 = .ok (.getfield 44, 3) := by decide +kernel
theorem dX5_standsAlone_67 : decode cX5_standsAlone 67 = .ok (.getfield 73, 3) := by decide +kernel
theorem dX5_standsAlone_70 : decode cX5_standsAlone 70 = .ok (.aload_n 0, 1) := by decide +kernel
theorem dX5_standsAlone_71 : decode cX5_standsAlone 71 = .ok (.getfield 15, 3) := by decide +kernel
theorem dX5_standsAlone_74 : decode cX5_standsAlone 74 = .ok (.iload_n 1, 1) := by decide +kernel
theorem dX5_standsAlone_75 : decode cX5_standsAlone 75 = .ok (.iaload, 1) := by decide +kernel
theorem dX5_standsAlone_76 : decode cX5_standsAlone 76 = .ok (.iaload, 1) := by decide +kernel
theorem dX5_standsAlone_77 : decode cX5_standsAlone 77 = .ok (.istore 4, 2) := by decide +kernel
theorem dX5_standsAlone_79 : decode cX5_standsAlone 79 = .ok (.aload_n 0, 1) := by decide +kernel
theorem dX5_standsAlone_80 : decode cX5_standsAlone 80 = .ok (.getfield 40, 3) := by decide +kernel
theorem dX5_standsAlone_83 : decode cX5_standsAlone 83 = .ok (.iload 4, 2) := by decide +kernel
theorem dX5_standsAlone_85 : decode cX5_standsAlone 85 = .ok (.iload_n 2, 1) := by decide +kernel
theorem dX5_standsAlone_86 : decode cX5_standsAlone 86 = .ok (.invokevirtual 78, 3) := by decide +kernel
theorem dX5_standsAlone_89 : decode cX5_standsAlone 89 = .ok (.aload_n 0, 1) := by decide +kernel
theorem dX5_standsAlone_90 : decode cX5_standsAlone 90 = .ok (.getfield 40, 3) := by decide +kernel
theorem dX5_standsAlone_93 : decode cX5_standsAlone 93 = .ok (.iload 4, 2) := by decide +kernel
theorem dX5_standsAlone_95 : decode cX5_standsAlone 95 = .ok (.iload_n 3, 1) := by decide +kernel
theorem dX5_standsAlone_96 : decode cX5_standsAlone 96 = .ok (.invokevirtual 78, 3) := by decide +kernel
theorem dX5_standsAlone_99 : decode cX5_standsAlone 99 = .ok (.if_icmp .ne 7, 3) := by decide +kernel
theorem dX5_standsAlone_102 : decode cX5_standsAlone 102 = .ok (.iconst 1, 1) := by decide +kernel
theorem dX5_standsAlone_103 : decode cX5_standsAlone 103 = .ok (.goto 4, 3) := by decide +kernel
theorem dX5_standsAlone_106 : decode cX5_standsAlone 106 = .ok (.iconst 0, 1) := by decide +kernel
theorem dX5_standsAlone_107 : decode cX5_standsAlone 107 = .ok (.ireturn, 1) := by decide +kernel
theorem dX5_markInForce_0 : decode cX5_markInForce 0 = .ok (.iconst 0, 1) := by decide +kernel
theorem dX5_markInForce_1 : decode cX5_markInForce 1 = .ok (.istore_n 3, 1) := by decide +kernel
theorem dX5_markInForce_2 : decode cX5_markInForce 2 = .ok (.iload_n 3, 1) := by decide +kernel
theorem dX5_markInForce_3 : decode cX5_markInForce 3 = .ok (.aload_n 0, 1) := by decide +kernel
theorem dX5_markInForce_4 : decode cX5_markInForce 4 = .ok (.getfield 52, 3) := by decide +kernel
theorem dX5_markInForce_7 : decode cX5_markInForce 7 = .ok (.if_icmp .ge 92, 3) := by decide +kernel
theorem dX5_markInForce_10 : decode cX5_markInForce 10 = .ok (.iload_n 1, 1) := by decide +kernel
theorem dX5_markInForce_11 : decode cX5_markInForce 11 = .ok (.iconst (-1), 1) := by decide +kernel
theorem dX5_markInForce_12 : decode cX5_markInForce 12 = .ok (.if_icmp .eq 13, 3) := by decide +kernel
theorem dX5_markInForce_15 : decode cX5_markInForce 15 = .ok (.aload_n 0, 1) := by decide +kernel
theorem dX5_markInForce_16 : decode cX5_markInForce 16 = .ok (.getfield 15, 3) := by decide +kernel
theorem dX5_markInForce_19 : decode cX5_markInForce 19 = .ok (.iload_n 3, 1) := by decide +kernel
theorem dX5_markInForce_20 : decode cX5_markInForce 20 = .ok (.iaload, 1) := by decide +kernel
theorem dX5_markInForce_21 : decode cX5_markInForce 21 = .ok (.iload_n 1, 1) := by decide +kernel
theorem dX5_markInForce_22 : decode cX5_markInForce 22 = .ok (.if_icmp .ne 7, 3) := by decide +kernel
theorem dX5_markInForce_25 : decode cX5_markInForce 25 = .ok (.iconst 1, 1) := by decide +kernel
theorem dX5_markInForce_26 : decode cX5_markInForce 26 = .ok (.goto 4, 3) := by decide +kernel
theorem dX5_markInForce_29 : decode cX5_markInForce 29 = .ok (.iconst 0, 1) := by decide +kernel
theorem dX5_markInForce_30 : decode cX5_markInForce 30 = .ok (.istore 4, 2) := by decide +kernel
theorem dX5_markInForce_32 : decode cX5_markInForce 32 = .ok (.aload_n 0, 1) := by decide +kernel
theorem dX5_markInForce_33 : decode cX5_markInForce 33 = .ok (.getfield 24, 3) := by decide +kernel
theorem dX5_markInForce_36 : decode cX5_markInForce 36 = .ok (.iload_n 3, 1) := by decide +kernel
theorem dX5_markInForce_37 : decode cX5_markInForce 37 = .ok (.iaload, 1) := by decide +kernel
theorem dX5_markInForce_38 : decode cX5_markInForce 38 = .ok (.iconst (-1), 1) := by decide +kernel
theorem dX5_markInForce_39 : decode cX5_markInForce 39 = .ok (.if_icmp .eq 17, 3) := by decide +kernel
theorem dX5_markInForce_42 : decode cX5_markInForce 42 = .ok (.aload_n 0, 1) := by decide +kernel
theorem dX5_markInForce_43 : decode cX5_markInForce 43 = .ok (.getfield 37, 3) := by decide +kernel
theorem dX5_markInForce_46 : decode cX5_markInForce 46 = .ok (.aload_n 0, 1) := by decide +kernel
theorem dX5_markInForce_47 : decode cX5_markInForce 47 = .ok (.getfield 24, 3) := by decide +kernel
theorem dX5_markInForce_50 : decode cX5_markInForce 50 = .ok (.iload_n 3, 1) := by decide +kernel
theorem dX5_markInForce_51 : decode cX5_markInForce 51 = .ok (.iaload, 1) := by decide +kernel
theorem dX5_markInForce_52 : decode cX5_markInForce 52 = .ok (.baload, 1) := by decide +kernel
theorem dX5_markInForce_53 : decode cX5_markInForce 53 = .ok (.ifCond .eq 7, 3) := by decide +kernel
theorem dX5_markInForce_56 : decode cX5_markInForce 56 = .ok (.iconst 1, 1) := by decide +kernel
theorem dX5_markInForce_57 : decode cX5_markInForce 57 = .ok (.goto 4, 3) := by decide +kernel
theorem dX5_markInForce_60 : decode cX5_markInForce 60 = .ok (.iconst 0, 1) := by decide +kernel
theorem dX5_markInForce_61 : decode cX5_markInForce 61 = .ok (.istore 5, 2) := by decide +kernel
theorem dX5_markInForce_63 : decode cX5_markInForce 63 = .ok (.aload_n 0, 1) := by decide +kernel
theorem dX5_markInForce_64 : decode cX5_markInForce 64 = .ok (.getfield 37, 3) := by decide +kernel
theorem dX5_markInForce_67 : decode cX5_markInForce 67 = .ok (.iload_n 3, 1) := by decide +kernel
theorem dX5_markInForce_68 : decode cX5_markInForce 68 = .ok (.iload 4, 2) := by decide +kernel
theorem dX5_markInForce_70 : decode cX5_markInForce 70 = .ok (.ifCond .eq 21, 3) := by decide +kernel
theorem dX5_markInForce_73 : decode cX5_markInForce 73 = .ok (.iload 5, 2) := by decide +kernel
theorem dX5_markInForce_75 : decode cX5_markInForce 75 = .ok (.ifCond .eq 16, 3) := by decide +kernel
theorem dX5_markInForce_78 : decode cX5_markInForce 78 = .ok (.aload_n 0, 1) := by decide +kernel
theorem dX5_markInForce_79 : decode cX5_markInForce 79 = .ok (.iload_n 3, 1) := by decide +kernel
theorem dX5_markInForce_80 : decode cX5_markInForce 80 = .ok (.iload_n 2, 1) := by decide +kernel
theorem dX5_markInForce_81 : decode cX5_markInForce 81 = .ok (.invokevirtual 84, 3) := by decide +kernel
theorem dX5_markInForce_84 : decode cX5_markInForce 84 = .ok (.ifCond .eq 7, 3) := by decide +kernel
theorem dX5_markInForce_87 : decode cX5_markInForce 87 = .ok (.iconst 1, 1) := by decide +kernel
theorem dX5_markInForce_88 : decode cX5_markInForce 88 = .ok (.goto 4, 3) := by decide +kernel
theorem dX5_markInForce_91 : decode cX5_markInForce 91 = .ok (.iconst 0, 1) := by decide +kernel
theorem dX5_markInForce_92 : decode cX5_markInForce 92 = .ok (.bastore, 1) := by decide +kernel
theorem dX5_markInForce_93 : decode cX5_markInForce 93 = .ok (.iinc 3 1, 3) := by decide +kernel
theorem dX5_markInForce_96 : decode cX5_markInForce 96 = .ok (.goto (-94), 3) := by decide +kernel
theorem dX5_markInForce_99 : decode cX5_markInForce 99 = .ok (.return_, 1) := by decide +kernel
theorem dX5_isInForce_0 : decode cX5_isInForce 0 = .ok (.aload_n 0, 1) := by decide +kernel
theorem dX5_isInForce_1 : decode cX5_isInForce 1 = .ok (.aload_n 0, 1) := by decide +kernel
theorem dX5_isInForce_2 : decode cX5_isInForce 2 = .ok (.getfield 15, 3) := by decide +kernel
theorem dX5_isInForce_5 : decode cX5_isInForce 5 = .ok (.iload_n 1, 1) := by decide +kernel
theorem dX5_isInForce_6 : decode cX5_isInForce 6 = .ok (.iaload, 1) := by decide +kernel
theorem dX5_isInForce_7 : decode cX5_isInForce 7 = .ok (.iload_n 2, 1) := by decide +kernel
theorem dX5_isInForce_8 : decode cX5_isInForce 8 = .ok (.invokevirtual 88, 3) := by decide +kernel
theorem dX5_isInForce_11 : decode cX5_isInForce 11 = .ok (.aload_n 0, 1) := by decide +kernel
theorem dX5_isInForce_12 : decode cX5_isInForce 12 = .ok (.getfield 37, 3) := by decide +kernel
theorem dX5_isInForce_15 : decode cX5_isInForce 15 = .ok (.iload_n 1, 1) := by decide +kernel
theorem dX5_isInForce_16 : decode cX5_isInForce 16 = .ok (.baload, 1) := by decide +kernel
theorem dX5_isInForce_17 : decode cX5_isInForce 17 = .ok (.ireturn, 1) := by decide +kernel
theorem dX5_hasOn_0 : decode cX5_hasOn 0 = .ok (.aload_n 0, 1) := by decide +kernel
theorem dX5_hasOn_1 : decode cX5_hasOn 1 = .ok (.iload_n 1, 1) := by decide +kernel
theorem dX5_hasOn_2 : decode cX5_hasOn 2 = .ok (.iload_n 2, 1) := by decide +kernel
theorem dX5_hasOn_3 : decode cX5_hasOn 3 = .ok (.invokevirtual 88, 3) := by decide +kernel
theorem dX5_hasOn_6 : decode cX5_hasOn 6 = .ok (.iconst 0, 1) := by decide +kernel
theorem dX5_hasOn_7 : decode cX5_hasOn 7 = .ok (.istore_n 3, 1) := by decide +kernel
theorem dX5_hasOn_8 : decode cX5_hasOn 8 = .ok (.iconst 0, 1) := by decide +kernel
theorem dX5_hasOn_9 : decode cX5_hasOn 9 = .ok (.istore 4, 2) := by decide +kernel
theorem dX5_hasOn_11 : decode cX5_hasOn 11 = .ok (.iload 4, 2) := by decide +kernel
theorem dX5_hasOn_13 : decode cX5_hasOn 13 = .ok (.aload_n 0, 1) := by decide +kernel
theorem dX5_hasOn_14 : decode cX5_hasOn 14 = .ok (.getfield 52, 3) := by decide +kernel
theorem dX5_hasOn_17 : decode cX5_hasOn 17 = .ok (.if_icmp .ge 44, 3) := by decide +kernel
theorem dX5_hasOn_20 : decode cX5_hasOn 20 = .ok (.aload_n 0, 1) := by decide +kernel
theorem dX5_hasOn_21 : decode cX5_hasOn 21 = .ok (.getfield 37, 3) := by decide +kernel
theorem dX5_hasOn_24 : decode cX5_hasOn 24 = .ok (.iload 4, 2) := by decide +kernel
theorem dX5_hasOn_26 : decode cX5_hasOn 26 = .ok (.baload, 1) := by decide +kernel
theorem dX5_hasOn_27 : decode cX5_hasOn 27 = .ok (.ifCond .eq 16, 3) := by decide +kernel
theorem dX5_hasOn_30 : decode cX5_hasOn 30 = .ok (.aload_n 0, 1) := by decide +kernel
theorem dX5_hasOn_31 : decode cX5_hasOn 31 = .ok (.getfield 9, 3) := by decide +kernel
theorem dX5_hasOn_34 : decode cX5_hasOn 34 = .ok (.iload 4, 2) := by decide +kernel
theorem dX5_hasOn_36 : decode cX5_hasOn 36 = .ok (.iaload, 1) := by decide +kernel
theorem dX5_hasOn_37 : decode cX5_hasOn 37 = .ok (.iconst 4, 1) := by decide +kernel
theorem dX5_hasOn_38 : decode cX5_hasOn 38 = .ok (.if_icmp .eq 5, 3) := by decide +kernel
theorem dX5_hasOn_41 : decode cX5_hasOn 41 = .ok (.iconst 1, 1) := by decide +kernel
theorem dX5_hasOn_42 : decode cX5_hasOn 42 = .ok (.ireturn, 1) := by decide +kernel
theorem dX5_hasOn_43 : decode cX5_hasOn 43 = .ok (.aload_n 0, 1) := by decide +kernel
theorem dX5_hasOn_44 : decode cX5_hasOn 44 = .ok (.getfield 37, 3) := by decide +kernel
theorem dX5_hasOn_47 : decode cX5_hasOn 47 = .ok (.iload 4, 2) := by decide +kernel
theorem dX5_hasOn_49 : decode cX5_hasOn 49 = .ok (.baload, 1) := by decide +kernel
theorem dX5_hasOn_50 : decode cX5_hasOn 50 = .ok (.ifCond .eq 5, 3) := by decide +kernel
theorem dX5_hasOn_53 : decode cX5_hasOn 53 = .ok (.iconst 2, 1) := by decide +kernel
theorem dX5_hasOn_54 : decode cX5_hasOn 54 = .ok (.istore_n 3, 1) := by decide +kernel
theorem dX5_hasOn_55 : decode cX5_hasOn 55 = .ok (.iinc 4 1, 3) := by decide +kernel
theorem dX5_hasOn_58 : decode cX5_hasOn 58 = .ok (.goto (-47), 3) := by decide +kernel
theorem dX5_hasOn_61 : decode cX5_hasOn 61 = .ok (.iload_n 3, 1) := by decide +kernel
theorem dX5_hasOn_62 : decode cX5_hasOn 62 = .ok (.ireturn, 1) := by decide +kernel
theorem dX5_ends_0 : decode cX5_ends 0 = .ok (.aload_n 0, 1) := by decide +kernel
theorem dX5_ends_1 : decode cX5_ends 1 = .ok (.getfield 40, 3) := by decide +kernel
theorem dX5_ends_4 : decode cX5_ends 4 = .ok (.getfield 92, 3) := by decide +kernel
theorem dX5_ends_7 : decode cX5_ends 7 = .ok (.istore_n 2, 1) := by decide +kernel
theorem dX5_ends_8 : decode cX5_ends 8 = .ok (.iconst 0, 1) := by decide +kernel
theorem dX5_ends_9 : decode cX5_ends 9 = .ok (.istore_n 3, 1) := by decide +kernel
theorem dX5_ends_10 : decode cX5_ends 10 = .ok (.iload_n 3, 1) := by decide +kernel
theorem dX5_ends_11 : decode cX5_ends 11 = .ok (.bipush 88, 2) := by decide +kernel
theorem dX5_ends_13 : decode cX5_ends 13 = .ok (.if_icmp .gt 34, 3) := by decide +kernel
theorem dX5_ends_16 : decode cX5_ends 16 = .ok (.iload_n 2, 1) := by decide +kernel
theorem dX5_ends_17 : decode cX5_ends 17 = .ok (.sipush 9999, 3) := by decide +kernel
theorem dX5_ends_20 : decode cX5_ends 20 = .ok (.if_icmp .gt 27, 3) := by decide +kernel
theorem dX5_ends_23 : decode cX5_ends 23 = .ok (.aload_n 0, 1) := by decide +kernel
theorem dX5_ends_24 : decode cX5_ends 24 = .ok (.iload_n 1, 1) := by decide +kernel
theorem dX5_ends_25 : decode cX5_ends 25 = .ok (.iload_n 2, 1) := by decide +kernel
theorem dX5_ends_26 : decode cX5_ends 26 = .ok (.invokevirtual 95, 3) := by decide +kernel
theorem dX5_ends_29 : decode cX5_ends 29 = .ok (.ifCond .ne 5, 3) := by decide +kernel
theorem dX5_ends_32 : decode cX5_ends 32 = .ok (.iload_n 2, 1) := by decide +kernel
theorem dX5_ends_33 : decode cX5_ends 33 = .ok (.ireturn, 1) := by decide +kernel
theorem dX5_ends_34 : decode cX5_ends 34 = .ok (.aload_n 0, 1) := by decide +kernel
theorem dX5_ends_35 : decode cX5_ends 35 = .ok (.iload_n 1, 1) := by decide +kernel
theorem dX5_ends_36 : decode cX5_ends 36 = .ok (.iload_n 2, 1) := by decide +kernel
theorem dX5_ends_37 : decode cX5_ends 37 = .ok (.invokevirtual 98, 3) := by decide +kernel
theorem dX5_ends_40 : decode cX5_ends 40 = .ok (.istore_n 2, 1) := by decide +kernel
theorem dX5_ends_41 : decode cX5_ends 41 = .ok (.iinc 3 1, 3) := by decide +kernel
theorem dX5_ends_44 : decode cX5_ends 44 = .ok (.goto (-34), 3) := by decide +kernel
theorem dX5_ends_47 : decode cX5_ends 47 = .ok (.iconst (-1), 1) := by decide +kernel
theorem dX5_ends_48 : decode cX5_ends 48 = .ok (.ireturn, 1) := by decide +kernel
theorem dX5_nextChange_0 : decode cX5_nextChange 0 = .ok (.aload_n 0, 1) := by decide +kernel
theorem dX5_nextChange_1 : decode cX5_nextChange 1 = .ok (.getfield 40, 3) := by decide +kernel
theorem dX5_nextChange_4 : decode cX5_nextChange 4 = .ok (.aload_n 0, 1) := by decide +kernel
theorem dX5_nextChange_5 : decode cX5_nextChange 5 = .ok (.getfield 44, 3) := by decide +kernel
theorem dX5_nextChange_8 : decode cX5_nextChange 8 = .ok (.getfield 73, 3) := by decide +kernel
theorem dX5_nextChange_11 : decode cX5_nextChange 11 = .ok (.iload_n 1, 1) := by decide +kernel
theorem dX5_nextChange_12 : decode cX5_nextChange 12 = .ok (.iaload, 1) := by decide +kernel
theorem dX5_nextChange_13 : decode cX5_nextChange 13 = .ok (.iload_n 2, 1) := by decide +kernel
theorem dX5_nextChange_14 : decode cX5_nextChange 14 = .ok (.invokevirtual 101, 3) := by decide +kernel
theorem dX5_nextChange_17 : decode cX5_nextChange 17 = .ok (.istore_n 3, 1) := by decide +kernel
theorem dX5_nextChange_18 : decode cX5_nextChange 18 = .ok (.iconst 0, 1) := by decide +kernel
theorem dX5_nextChange_19 : decode cX5_nextChange 19 = .ok (.istore 4, 2) := by decide +kernel
theorem dX5_nextChange_21 : decode cX5_nextChange 21 = .ok (.iload 4, 2) := by decide +kernel
theorem dX5_nextChange_23 : decode cX5_nextChange 23 = .ok (.aload_n 0, 1) := by decide +kernel
theorem dX5_nextChange_24 : decode cX5_nextChange 24 = .ok (.getfield 52, 3) := by decide +kernel
theorem dX5_nextChange_27 : decode cX5_nextChange 27 = .ok (.if_icmp .ge 72, 3) := by decide +kernel
theorem dX5_nextChange_30 : decode cX5_nextChange 30 = .ok (.aload_n 0, 1) := by decide +kernel
theorem dX5_nextChange_31 : decode cX5_nextChange 31 = .ok (.getfield 15, 3) := by decide +kernel
theorem dX5_nextChange_34 : decode cX5_nextChange 34 = .ok (.iload 4, 2) := by decide +kernel
theorem dX5_nextChange_36 : decode cX5_nextChange 36 = .ok (.iaload, 1) := by decide +kernel
theorem dX5_nextChange_37 : decode cX5_nextChange 37 = .ok (.iload_n 1, 1) := by decide +kernel
theorem dX5_nextChange_38 : decode cX5_nextChange 38 = .ok (.if_icmp .ne 55, 3) := by decide +kernel
theorem dX5_nextChange_41 : decode cX5_nextChange 41 = .ok (.aload_n 0, 1) := by decide +kernel
theorem dX5_nextChange_42 : decode cX5_nextChange 42 = .ok (.getfield 21, 3) := by decide +kernel
theorem dX5_nextChange_45 : decode cX5_nextChange 45 = .ok (.iload 4, 2) := by decide +kernel
theorem dX5_nextChange_47 : decode cX5_nextChange 47 = .ok (.iaload, 1) := by decide +kernel
theorem dX5_nextChange_48 : decode cX5_nextChange 48 = .ok (.aload_n 0, 1) := by decide +kernel
theorem dX5_nextChange_49 : decode cX5_nextChange 49 = .ok (.iload 4, 2) := by decide +kernel
theorem dX5_nextChange_51 : decode cX5_nextChange 51 = .ok (.invokevirtual 66, 3) := by decide +kernel
theorem dX5_nextChange_54 : decode cX5_nextChange 54 = .ok (.iadd, 1) := by decide +kernel
theorem dX5_nextChange_55 : decode cX5_nextChange 55 = .ok (.istore 5, 2) := by decide +kernel
theorem dX5_nextChange_57 : decode cX5_nextChange 57 = .ok (.iload 5, 2) := by decide +kernel
theorem dX5_nextChange_59 : decode cX5_nextChange 59 = .ok (.iload_n 2, 1) := by decide +kernel
theorem dX5_nextChange_60 : decode cX5_nextChange 60 = .ok (.if_icmp .le 10, 3) := by decide +kernel
theorem dX5_nextChange_63 : decode cX5_nextChange 63 = .ok (.iload_n 3, 1) := by decide +kernel
theorem dX5_nextChange_64 : decode cX5_nextChange 64 = .ok (.iload 5, 2) := by decide +kernel
theorem dX5_nextChange_66 : decode cX5_nextChange 66 = .ok (.invokestatic 104, 3) := by decide +kernel
theorem dX5_nextChange_69 : decode cX5_nextChange 69 = .ok (.istore_n 3, 1) := by decide +kernel
theorem dX5_nextChange_70 : decode cX5_nextChange 70 = .ok (.aload_n 0, 1) := by decide +kernel
theorem dX5_nextChange_71 : decode cX5_nextChange 71 = .ok (.getfield 30, 3) := by decide +kernel
theorem dX5_nextChange_74 : decode cX5_nextChange 74 = .ok (.iload 4, 2) := by decide +kernel
theorem dX5_nextChange_76 : decode cX5_nextChange 76 = .ok (.iaload, 1) := by decide +kernel
theorem dX5_nextChange_77 : decode cX5_nextChange 77 = .ok (.iload_n 2, 1) := by decide +kernel
theorem dX5_nextChange_78 : decode cX5_nextChange 78 = .ok (.if_icmp .le 15, 3) := by decide +kernel
theorem dX5_nextChange_81 : decode cX5_nextChange 81 = .ok (.iload_n 3, 1) := by decide +kernel
theorem dX5_nextChange_82 : decode cX5_nextChange 82 = .ok (.aload_n 0, 1) := by decide +kernel
theorem dX5_nextChange_83 : decode cX5_nextChange 83 = .ok (.getfield 30, 3) := by decide +kernel
theorem dX5_nextChange_86 : decode cX5_nextChange 86 = .ok (.iload 4, 2) := by decide +kernel
theorem dX5_nextChange_88 : decode cX5_nextChange 88 = .ok (.iaload, 1) := by decide +kernel
theorem dX5_nextChange_89 : decode cX5_nextChange 89 = .ok (.invokestatic 104, 3) := by decide +kernel
theorem dX5_nextChange_92 : decode cX5_nextChange 92 = .ok (.istore_n 3, 1) := by decide +kernel
theorem dX5_nextChange_93 : decode cX5_nextChange 93 = .ok (.iinc 4 1, 3) := by decide +kernel
theorem dX5_nextChange_96 : decode cX5_nextChange 96 = .ok (.goto (-75), 3) := by decide +kernel
theorem dX5_nextChange_99 : decode cX5_nextChange 99 = .ok (.iload_n 3, 1) := by decide +kernel
theorem dX5_nextChange_100 : decode cX5_nextChange 100 = .ok (.ireturn, 1) := by decide +kernel
theorem dX5_hangingOn_0 : decode cX5_hangingOn 0 = .ok (.iconst 0, 1) := by decide +kernel
theorem dX5_hangingOn_1 : decode cX5_hangingOn 1 = .ok (.istore_n 2, 1) := by decide +kernel
theorem dX5_hangingOn_2 : decode cX5_hangingOn 2 = .ok (.iconst 0, 1) := by decide +kernel
theorem dX5_hangingOn_3 : decode cX5_hangingOn 3 = .ok (.istore_n 3, 1) := by decide +kernel
theorem dX5_hangingOn_4 : decode cX5_hangingOn 4 = .ok (.iload_n 3, 1) := by decide +kernel
theorem dX5_hangingOn_5 : decode cX5_hangingOn 5 = .ok (.aload_n 0, 1) := by decide +kernel
theorem dX5_hangingOn_6 : decode cX5_hangingOn 6 = .ok (.getfield 52, 3) := by decide +kernel
theorem dX5_hangingOn_9 : decode cX5_hangingOn 9 = .ok (.if_icmp .ge 66, 3) := by decide +kernel
theorem dX5_hangingOn_12 : decode cX5_hangingOn 12 = .ok (.aload_n 0, 1) := by decide +kernel
theorem dX5_hangingOn_13 : decode cX5_hangingOn 13 = .ok (.getfield 37, 3) := by decide +kernel
theorem dX5_hangingOn_16 : decode cX5_hangingOn 16 = .ok (.iload_n 3, 1) := by decide +kernel
theorem dX5_hangingOn_17 : decode cX5_hangingOn 17 = .ok (.aload_n 0, 1) := by decide +kernel
theorem dX5_hangingOn_18 : decode cX5_hangingOn 18 = .ok (.getfield 24, 3) := by decide +kernel
theorem dX5_hangingOn_21 : decode cX5_hangingOn 21 = .ok (.iload_n 3, 1) := by decide +kernel
theorem dX5_hangingOn_22 : decode cX5_hangingOn 22 = .ok (.iaload, 1) := by decide +kernel
theorem dX5_hangingOn_23 : decode cX5_hangingOn 23 = .ok (.iconst (-1), 1) := by decide +kernel
theorem dX5_hangingOn_24 : decode cX5_hangingOn 24 = .ok (.if_icmp .eq 31, 3) := by decide +kernel
theorem dX5_hangingOn_27 : decode cX5_hangingOn 27 = .ok (.aload_n 0, 1) := by decide +kernel
theorem dX5_hangingOn_28 : decode cX5_hangingOn 28 = .ok (.getfield 24, 3) := by decide +kernel
theorem dX5_hangingOn_31 : decode cX5_hangingOn 31 = .ok (.iload_n 3, 1) := by decide +kernel
theorem dX5_hangingOn_32 : decode cX5_hangingOn 32 = .ok (.iaload, 1) := by decide +kernel
theorem dX5_hangingOn_33 : decode cX5_hangingOn 33 = .ok (.iload_n 1, 1) := by decide +kernel
theorem dX5_hangingOn_34 : decode cX5_hangingOn 34 = .ok (.if_icmp .eq 17, 3) := by decide +kernel
theorem dX5_hangingOn_37 : decode cX5_hangingOn 37 = .ok (.aload_n 0, 1) := by decide +kernel
theorem dX5_hangingOn_38 : decode cX5_hangingOn 38 = .ok (.getfield 37, 3) := by decide +kernel
theorem dX5_hangingOn_41 : decode cX5_hangingOn 41 = .ok (.aload_n 0, 1) := by decide +kernel
theorem dX5_hangingOn_42 : decode cX5_hangingOn 42 = .ok (.getfield 24, 3) := by decide +kernel
theorem dX5_hangingOn_45 : decode cX5_hangingOn 45 = .ok (.iload_n 3, 1) := by decide +kernel
theorem dX5_hangingOn_46 : decode cX5_hangingOn 46 = .ok (.iaload, 1) := by decide +kernel
theorem dX5_hangingOn_47 : decode cX5_hangingOn 47 = .ok (.baload, 1) := by decide +kernel
theorem dX5_hangingOn_48 : decode cX5_hangingOn 48 = .ok (.ifCond .eq 7, 3) := by decide +kernel
theorem dX5_hangingOn_51 : decode cX5_hangingOn 51 = .ok (.iconst 1, 1) := by decide +kernel
theorem dX5_hangingOn_52 : decode cX5_hangingOn 52 = .ok (.goto 4, 3) := by decide +kernel
theorem dX5_hangingOn_55 : decode cX5_hangingOn 55 = .ok (.iconst 0, 1) := by decide +kernel
theorem dX5_hangingOn_56 : decode cX5_hangingOn 56 = .ok (.bastore, 1) := by decide +kernel
theorem dX5_hangingOn_57 : decode cX5_hangingOn 57 = .ok (.aload_n 0, 1) := by decide +kernel
theorem dX5_hangingOn_58 : decode cX5_hangingOn 58 = .ok (.getfield 37, 3) := by decide +kernel
theorem dX5_hangingOn_61 : decode cX5_hangingOn 61 = .ok (.iload_n 3, 1) := by decide +kernel
theorem dX5_hangingOn_62 : decode cX5_hangingOn 62 = .ok (.baload, 1) := by decide +kernel
theorem dX5_hangingOn_63 : decode cX5_hangingOn 63 = .ok (.ifCond .eq 6, 3) := by decide +kernel
theorem dX5_hangingOn_66 : decode cX5_hangingOn 66 = .ok (.iinc 2 1, 3) := by decide +kernel
theorem dX5_hangingOn_69 : decode cX5_hangingOn 69 = .ok (.iinc 3 1, 3) := by decide +kernel
theorem dX5_hangingOn_72 : decode cX5_hangingOn 72 = .ok (.goto (-68), 3) := by decide +kernel
theorem dX5_hangingOn_75 : decode cX5_hangingOn 75 = .ok (.iload_n 2, 1) := by decide +kernel
theorem dX5_hangingOn_76 : decode cX5_hangingOn 76 = .ok (.ireturn, 1) := by decide +kernel
theorem dX5_yearlyTo_0 : decode cX5_yearlyTo 0 = .ok (.aload_n 0, 1) := by decide +kernel
theorem dX5_yearlyTo_1 : decode cX5_yearlyTo 1 = .ok (.iconst (-1), 1) := by decide +kernel
theorem dX5_yearlyTo_2 : decode cX5_yearlyTo 2 = .ok (.iload_n 2, 1) := by decide +kernel
theorem dX5_yearlyTo_3 : decode cX5_yearlyTo 3 = .ok (.invokevirtual 88, 3) := by decide +kernel
theorem dX5_yearlyTo_6 : decode cX5_yearlyTo 6 = .ok (.aload_n 0, 1) := by decide +kernel
theorem dX5_yearlyTo_7 : decode cX5_yearlyTo 7 = .ok (.getfield 48, 3) := by decide +kernel
theorem dX5_yearlyTo_10 : decode cX5_yearlyTo 10 = .ok (.invokevirtual 109, 3) := by decide +kernel
theorem dX5_yearlyTo_13 : decode cX5_yearlyTo 13 = .ok (.iconst 0, 1) := by decide +kernel
theorem dX5_yearlyTo_14 : decode cX5_yearlyTo 14 = .ok (.istore_n 3, 1) := by decide +kernel
theorem dX5_yearlyTo_15 : decode cX5_yearlyTo 15 = .ok (.iload_n 3, 1) := by decide +kernel
theorem dX5_yearlyTo_16 : decode cX5_yearlyTo 16 = .ok (.aload_n 0, 1) := by decide +kernel
theorem dX5_yearlyTo_17 : decode cX5_yearlyTo 17 = .ok (.getfield 52, 3) := by decide +kernel
theorem dX5_yearlyTo_20 : decode cX5_yearlyTo 20 = .ok (.if_icmp .ge 53, 3) := by decide +kernel
theorem dX5_yearlyTo_23 : decode cX5_yearlyTo 23 = .ok (.aload_n 0, 1) := by decide +kernel
theorem dX5_yearlyTo_24 : decode cX5_yearlyTo 24 = .ok (.getfield 37, 3) := by decide +kernel
theorem dX5_yearlyTo_27 : decode cX5_yearlyTo 27 = .ok (.iload_n 3, 1) := by decide +kernel
theorem dX5_yearlyTo_28 : decode cX5_yearlyTo 28 = .ok (.baload, 1) := by decide +kernel
theorem dX5_yearlyTo_29 : decode cX5_yearlyTo 29 = .ok (.ifCond .eq 38, 3) := by decide +kernel
theorem dX5_yearlyTo_32 : decode cX5_yearlyTo 32 = .ok (.aload_n 0, 1) := by decide +kernel
theorem dX5_yearlyTo_33 : decode cX5_yearlyTo 33 = .ok (.getfield 48, 3) := by decide +kernel
theorem dX5_yearlyTo_36 : decode cX5_yearlyTo 36 = .ok (.aload_n 0, 1) := by decide +kernel
theorem dX5_yearlyTo_37 : decode cX5_yearlyTo 37 = .ok (.getfield 40, 3) := by decide +kernel
theorem dX5_yearlyTo_40 : decode cX5_yearlyTo 40 = .ok (.aload_n 0, 1) := by decide +kernel
theorem dX5_yearlyTo_41 : decode cX5_yearlyTo 41 = .ok (.getfield 44, 3) := by decide +kernel
theorem dX5_yearlyTo_44 : decode cX5_yearlyTo 44 = .ok (.getfield 73, 3) := by decide +kernel
theorem dX5_yearlyTo_47 : decode cX5_yearlyTo 47 = .ok (.aload_n 0, 1) := by decide +kernel
theorem dX5_yearlyTo_48 : decode cX5_yearlyTo 48 = .ok (.getfield 15, 3) := by decide +kernel
theorem dX5_yearlyTo_51 : decode cX5_yearlyTo 51 = .ok (.iload_n 3, 1) := by decide +kernel
theorem dX5_yearlyTo_52 : decode cX5_yearlyTo 52 = .ok (.iaload, 1) := by decide +kernel
theorem dX5_yearlyTo_53 : decode cX5_yearlyTo 53 = .ok (.iaload, 1) := by decide +kernel
theorem dX5_yearlyTo_54 : decode cX5_yearlyTo 54 = .ok (.iload_n 2, 1) := by decide +kernel
theorem dX5_yearlyTo_55 : decode cX5_yearlyTo 55 = .ok (.invokevirtual 78, 3) := by decide +kernel
theorem dX5_yearlyTo_58 : decode cX5_yearlyTo 58 = .ok (.aload_n 0, 1) := by decide +kernel
theorem dX5_yearlyTo_59 : decode cX5_yearlyTo 59 = .ok (.iload_n 3, 1) := by decide +kernel
theorem dX5_yearlyTo_60 : decode cX5_yearlyTo 60 = .ok (.invokevirtual 114, 3) := by decide +kernel
theorem dX5_yearlyTo_63 : decode cX5_yearlyTo 63 = .ok (.i2l, 1) := by decide +kernel
theorem dX5_yearlyTo_64 : decode cX5_yearlyTo 64 = .ok (.invokevirtual 117, 3) := by decide +kernel
theorem dX5_yearlyTo_67 : decode cX5_yearlyTo 67 = .ok (.iinc 3 1, 3) := by decide +kernel
theorem dX5_yearlyTo_70 : decode cX5_yearlyTo 70 = .ok (.goto (-55), 3) := by decide +kernel
theorem dX5_yearlyTo_73 : decode cX5_yearlyTo 73 = .ok (.aload_n 0, 1) := by decide +kernel
theorem dX5_yearlyTo_74 : decode cX5_yearlyTo 74 = .ok (.getfield 48, 3) := by decide +kernel
theorem dX5_yearlyTo_77 : decode cX5_yearlyTo 77 = .ok (.iload_n 1, 1) := by decide +kernel
theorem dX5_yearlyTo_78 : decode cX5_yearlyTo 78 = .ok (.invokevirtual 121, 3) := by decide +kernel
theorem dX5_yearlyTo_81 : decode cX5_yearlyTo 81 = .ok (.lreturn, 1) := by decide +kernel
theorem dX5_bareSpans_0 : decode cX5_bareSpans 0 = .ok (.iconst 0, 1) := by decide +kernel
theorem dX5_bareSpans_1 : decode cX5_bareSpans 1 = .ok (.istore_n 1, 1) := by decide +kernel
theorem dX5_bareSpans_2 : decode cX5_bareSpans 2 = .ok (.iconst 0, 1) := by decide +kernel
theorem dX5_bareSpans_3 : decode cX5_bareSpans 3 = .ok (.istore_n 2, 1) := by decide +kernel
theorem dX5_bareSpans_4 : decode cX5_bareSpans 4 = .ok (.iload_n 2, 1) := by decide +kernel
theorem dX5_bareSpans_5 : decode cX5_bareSpans 5 = .ok (.aload_n 0, 1) := by decide +kernel
theorem dX5_bareSpans_6 : decode cX5_bareSpans 6 = .ok (.getfield 44, 3) := by decide +kernel
theorem dX5_bareSpans_9 : decode cX5_bareSpans 9 = .ok (.getfield 125, 3) := by decide +kernel
theorem dX5_bareSpans_12 : decode cX5_bareSpans 12 = .ok (.if_icmp .ge 27, 3) := by decide +kernel
theorem dX5_bareSpans_15 : decode cX5_bareSpans 15 = .ok (.aload_n 0, 1) := by decide +kernel
theorem dX5_bareSpans_16 : decode cX5_bareSpans 16 = .ok (.iload_n 2, 1) := by decide +kernel
theorem dX5_bareSpans_17 : decode cX5_bareSpans 17 = .ok (.aload_n 0, 1) := by decide +kernel
theorem dX5_bareSpans_18 : decode cX5_bareSpans 18 = .ok (.getfield 40, 3) := by decide +kernel
theorem dX5_bareSpans_21 : decode cX5_bareSpans 21 = .ok (.getfield 92, 3) := by decide +kernel
theorem dX5_bareSpans_24 : decode cX5_bareSpans 24 = .ok (.invokevirtual 95, 3) := by decide +kernel
theorem dX5_bareSpans_27 : decode cX5_bareSpans 27 = .ok (.ifCond .ne 6, 3) := by decide +kernel
theorem dX5_bareSpans_30 : decode cX5_bareSpans 30 = .ok (.iinc 1 1, 3) := by decide +kernel
theorem dX5_bareSpans_33 : decode cX5_bareSpans 33 = .ok (.iinc 2 1, 3) := by decide +kernel
theorem dX5_bareSpans_36 : decode cX5_bareSpans 36 = .ok (.goto (-32), 3) := by decide +kernel
theorem dX5_bareSpans_39 : decode cX5_bareSpans 39 = .ok (.iload_n 1, 1) := by decide +kernel
theorem dX5_bareSpans_40 : decode cX5_bareSpans 40 = .ok (.ireturn, 1) := by decide +kernel
theorem dX6_init_0 : decode cX6_init 0 = .ok (.aload_n 0, 1) := by decide +kernel
theorem dX6_init_1 : decode cX6_init 1 = .ok (.invokespecial 3, 3) := by decide +kernel
theorem dX6_init_4 : decode cX6_init 4 = .ok (.aload_n 0, 1) := by decide +kernel
theorem dX6_init_5 : decode cX6_init 5 = .ok (.bipush 16, 2) := by decide +kernel
theorem dX6_init_7 : decode cX6_init 7 = .ok (.newarray .int, 2) := by decide +kernel
theorem dX6_init_9 : decode cX6_init 9 = .ok (.putfield 9, 3) := by decide +kernel
theorem dX6_init_12 : decode cX6_init 12 = .ok (.aload_n 0, 1) := by decide +kernel
theorem dX6_init_13 : decode cX6_init 13 = .ok (.bipush 16, 2) := by decide +kernel
theorem dX6_init_15 : decode cX6_init 15 = .ok (.newarray .int, 2) := by decide +kernel
theorem dX6_init_17 : decode cX6_init 17 = .ok (.putfield 15, 3) := by decide +kernel
theorem dX6_init_20 : decode cX6_init 20 = .ok (.aload_n 0, 1) := by decide +kernel
theorem dX6_init_21 : decode cX6_init 21 = .ok (.bipush 16, 2) := by decide +kernel
theorem dX6_init_23 : decode cX6_init 23 = .ok (.newarray .int, 2) := by decide +kernel
theorem dX6_init_25 : decode cX6_init 25 = .ok (.putfield 18, 3) := by decide +kernel
theorem dX6_init_28 : decode cX6_init 28 = .ok (.aload_n 0, 1) := by decide +kernel
theorem dX6_init_29 : decode cX6_init 29 = .ok (.bipush 16, 2) := by decide +kernel
theorem dX6_init_31 : decode cX6_init 31 = .ok (.newarray .int, 2) := by decide +kernel
theorem dX6_init_33 : decode cX6_init 33 = .ok (.putfield 21, 3) := by decide +kernel
theorem dX6_init_36 : decode cX6_init 36 = .ok (.aload_n 0, 1) := by decide +kernel
theorem dX6_init_37 : decode cX6_init 37 = .ok (.bipush 16, 2) := by decide +kernel
theorem dX6_init_39 : decode cX6_init 39 = .ok (.newarray .int, 2) := by decide +kernel
theorem dX6_init_41 : decode cX6_init 41 = .ok (.putfield 24, 3) := by decide +kernel
theorem dX6_init_44 : decode cX6_init 44 = .ok (.aload_n 0, 1) := by decide +kernel
theorem dX6_init_45 : decode cX6_init 45 = .ok (.bipush 16, 2) := by decide +kernel
theorem dX6_init_47 : decode cX6_init 47 = .ok (.newarray .int, 2) := by decide +kernel
theorem dX6_init_49 : decode cX6_init 49 = .ok (.putfield 27, 3) := by decide +kernel
theorem dX6_init_52 : decode cX6_init 52 = .ok (.aload_n 0, 1) := by decide +kernel
theorem dX6_init_53 : decode cX6_init 53 = .ok (.aload_n 1, 1) := by decide +kernel
theorem dX6_init_54 : decode cX6_init 54 = .ok (.putfield 30, 3) := by decide +kernel
theorem dX6_init_57 : decode cX6_init 57 = .ok (.return_, 1) := by decide +kernel
theorem dX6_isTower_0 : decode cX6_isTower 0 = .ok (.iload_n 1, 1) := by decide +kernel
theorem dX6_isTower_1 : decode cX6_isTower 1 = .ok (.iconst 0, 1) := by decide +kernel
theorem dX6_isTower_2 : decode cX6_isTower 2 = .ok (.aload_n 0, 1) := by decide +kernel
theorem dX6_isTower_3 : decode cX6_isTower 3 = .ok (.getfield 34, 3) := by decide +kernel
theorem dX6_isTower_6 : decode cX6_isTower 6 = .ok (.iconst 1, 1) := by decide +kernel
theorem dX6_isTower_7 : decode cX6_isTower 7 = .ok (.isub, 1) := by decide +kernel
theorem dX6_isTower_8 : decode cX6_isTower 8 = .ok (.invokestatic 38, 3) := by decide +kernel
theorem dX6_isTower_11 : decode cX6_isTower 11 = .ok (.ireturn, 1) := by decide +kernel
theorem dX6_isSpan_0 : decode cX6_isSpan 0 = .ok (.iload_n 1, 1) := by decide +kernel
theorem dX6_isSpan_1 : decode cX6_isSpan 1 = .ok (.iconst 0, 1) := by decide +kernel
theorem dX6_isSpan_2 : decode cX6_isSpan 2 = .ok (.aload_n 0, 1) := by decide +kernel
theorem dX6_isSpan_3 : decode cX6_isSpan 3 = .ok (.getfield 42, 3) := by decide +kernel
theorem dX6_isSpan_6 : decode cX6_isSpan 6 = .ok (.iconst 1, 1) := by decide +kernel
theorem dX6_isSpan_7 : decode cX6_isSpan 7 = .ok (.isub, 1) := by decide +kernel
theorem dX6_isSpan_8 : decode cX6_isSpan 8 = .ok (.invokestatic 38, 3) := by decide +kernel
theorem dX6_isSpan_11 : decode cX6_isSpan 11 = .ok (.ireturn, 1) := by decide +kernel
theorem dX6_addTower_0 : decode cX6_addTower 0 = .ok (.aload_n 0, 1) := by decide +kernel
theorem dX6_addTower_1 : decode cX6_addTower 1 = .ok (.getfield 9, 3) := by decide +kernel
theorem dX6_addTower_4 : decode cX6_addTower 4 = .ok (.aload_n 0, 1) := by decide +kernel
theorem dX6_addTower_5 : decode cX6_addTower 5 = .ok (.getfield 34, 3) := by decide +kernel
theorem dX6_addTower_8 : decode cX6_addTower 8 = .ok (.iload_n 1, 1) := by decide +kernel
theorem dX6_addTower_9 : decode cX6_addTower 9 = .ok (.iastore, 1) := by decide +kernel
theorem dX6_addTower_10 : decode cX6_addTower 10 = .ok (.aload_n 0, 1) := by decide +kernel
theorem dX6_addTower_11 : decode cX6_addTower 11 = .ok (.dup, 1) := by decide +kernel
theorem dX6_addTower_12 : decode cX6_addTower 12 = .ok (.getfield 34, 3) := by decide +kernel
theorem dX6_addTower_15 : decode cX6_addTower 15 = .ok (.iconst 1, 1) := by decide +kernel
theorem dX6_addTower_16 : decode cX6_addTower 16 = .ok (.iadd, 1) := by decide +kernel
theorem dX6_addTower_17 : decode cX6_addTower 17 = .ok (.putfield 34, 3) := by decide +kernel
theorem dX6_addTower_20 : decode cX6_addTower 20 = .ok (.aload_n 0, 1) := by decide +kernel
theorem dX6_addTower_21 : decode cX6_addTower 21 = .ok (.getfield 34, 3) := by decide +kernel
theorem dX6_addTower_24 : decode cX6_addTower 24 = .ok (.iconst 1, 1) := by decide +kernel
theorem dX6_addTower_25 : decode cX6_addTower 25 = .ok (.isub, 1) := by decide +kernel
theorem dX6_addTower_26 : decode cX6_addTower 26 = .ok (.ireturn, 1) := by decide +kernel
theorem dX6_addSpan_0 : decode cX6_addSpan 0 = .ok (.aload_n 0, 1) := by decide +kernel
theorem dX6_addSpan_1 : decode cX6_addSpan 1 = .ok (.getfield 15, 3) := by decide +kernel
theorem dX6_addSpan_4 : decode cX6_addSpan 4 = .ok (.aload_n 0, 1) := by decide +kernel
theorem dX6_addSpan_5 : decode cX6_addSpan 5 = .ok (.getfield 42, 3) := by decide +kernel
theorem dX6_addSpan_8 : decode cX6_addSpan 8 = .ok (.iload_n 3, 1) := by decide +kernel
theorem dX6_addSpan_9 : decode cX6_addSpan 9 = .ok (.iastore, 1) := by decide +kernel
theorem dX6_addSpan_10 : decode cX6_addSpan 10 = .ok (.aload_n 0, 1) := by decide +kernel
theorem dX6_addSpan_11 : decode cX6_addSpan 11 = .ok (.getfield 18, 3) := by decide +kernel
theorem dX6_addSpan_14 : decode cX6_addSpan 14 = .ok (.aload_n 0, 1) := by decide +kernel
theorem dX6_addSpan_15 : decode cX6_addSpan 15 = .ok (.getfield 42, 3) := by decide +kernel
theorem dX6_addSpan_18 : decode cX6_addSpan 18 = .ok (.iload 4, 2) := by decide +kernel
theorem dX6_addSpan_20 : decode cX6_addSpan 20 = .ok (.iastore, 1) := by decide +kernel
theorem dX6_addSpan_21 : decode cX6_addSpan 21 = .ok (.aload_n 0, 1) := by decide +kernel
theorem dX6_addSpan_22 : decode cX6_addSpan 22 = .ok (.getfield 21, 3) := by decide +kernel
theorem dX6_addSpan_25 : decode cX6_addSpan 25 = .ok (.aload_n 0, 1) := by decide +kernel
theorem dX6_addSpan_26 : decode cX6_addSpan 26 = .ok (.getfield 42, 3) := by decide +kernel
theorem dX6_addSpan_29 : decode cX6_addSpan 29 = .ok (.aload_n 0, 1) := by decide +kernel
theorem dX6_addSpan_30 : decode cX6_addSpan 30 = .ok (.getfield 9, 3) := by decide +kernel
theorem dX6_addSpan_33 : decode cX6_addSpan 33 = .ok (.iload_n 1, 1) := by decide +kernel
theorem dX6_addSpan_34 : decode cX6_addSpan 34 = .ok (.iaload, 1) := by decide +kernel
theorem dX6_addSpan_35 : decode cX6_addSpan 35 = .ok (.aload_n 0, 1) := by decide +kernel
theorem dX6_addSpan_36 : decode cX6_addSpan 36 = .ok (.getfield 9, 3) := by decide +kernel
theorem dX6_addSpan_39 : decode cX6_addSpan 39 = .ok (.iload_n 2, 1) := by decide +kernel
theorem dX6_addSpan_40 : decode cX6_addSpan 40 = .ok (.iaload, 1) := by decide +kernel
theorem dX6_addSpan_41 : decode cX6_addSpan 41 = .ok (.invokestatic 45, 3) := by decide +kernel
theorem dX6_addSpan_44 : decode cX6_addSpan 44 = .ok (.iastore, 1) := by decide +kernel
theorem dX6_addSpan_45 : decode cX6_addSpan 45 = .ok (.aload_n 0, 1) := by decide +kernel
theorem dX6_addSpan_46 : decode cX6_addSpan 46 = .ok (.getfield 24, 3) := by decide +kernel
theorem dX6_addSpan_49 : decode cX6_addSpan 49 = .ok (.aload_n 0, 1) := by decide +kernel
theorem dX6_addSpan_50 : decode cX6_addSpan 50 = .ok (.getfield 42, 3) := by decide +kernel
theorem dX6_addSpan_53 : decode cX6_addSpan 53 = .ok (.bipush 20, 2) := by decide +kernel
theorem dX6_addSpan_55 : decode cX6_addSpan 55 = .ok (.iastore, 1) := by decide +kernel
theorem dX6_addSpan_56 : decode cX6_addSpan 56 = .ok (.aload_n 0, 1) := by decide +kernel
theorem dX6_addSpan_57 : decode cX6_addSpan 57 = .ok (.getfield 27, 3) := by decide +kernel
theorem dX6_addSpan_60 : decode cX6_addSpan 60 = .ok (.aload_n 0, 1) := by decide +kernel
theorem dX6_addSpan_61 : decode cX6_addSpan 61 = .ok (.getfield 42, 3) := by decide +kernel
theorem dX6_addSpan_64 : decode cX6_addSpan 64 = .ok (.iconst 1, 1) := by decide +kernel
theorem dX6_addSpan_65 : decode cX6_addSpan 65 = .ok (.iastore, 1) := by decide +kernel
theorem dX6_addSpan_66 : decode cX6_addSpan 66 = .ok (.aload_n 0, 1) := by decide +kernel
theorem dX6_addSpan_67 : decode cX6_addSpan 67 = .ok (.dup, 1) := by decide +kernel
theorem dX6_addSpan_68 : decode cX6_addSpan 68 = .ok (.getfield 42, 3) := by decide +kernel
theorem dX6_addSpan_71 : decode cX6_addSpan 71 = .ok (.iconst 1, 1) := by decide +kernel
theorem dX6_addSpan_72 : decode cX6_addSpan 72 = .ok (.iadd, 1) := by decide +kernel
theorem dX6_addSpan_73 : decode cX6_addSpan 73 = .ok (.putfield 42, 3) := by decide +kernel
theorem dX6_addSpan_76 : decode cX6_addSpan 76 = .ok (.aload_n 0, 1) := by decide +kernel
theorem dX6_addSpan_77 : decode cX6_addSpan 77 = .ok (.getfield 42, 3) := by decide +kernel
theorem dX6_addSpan_80 : decode cX6_addSpan 80 = .ok (.iconst 1, 1) := by decide +kernel
theorem dX6_addSpan_81 : decode cX6_addSpan 81 = .ok (.isub, 1) := by decide +kernel
theorem dX6_addSpan_82 : decode cX6_addSpan 82 = .ok (.ireturn, 1) := by decide +kernel
theorem dX6_changeHeat_0 : decode cX6_changeHeat 0 = .ok (.aload_n 0, 1) := by decide +kernel
theorem dX6_changeHeat_1 : decode cX6_changeHeat 1 = .ok (.getfield 24, 3) := by decide +kernel
theorem dX6_changeHeat_4 : decode cX6_changeHeat 4 = .ok (.iload_n 1, 1) := by decide +kernel
theorem dX6_changeHeat_5 : decode cX6_changeHeat 5 = .ok (.iaload, 1) := by decide +kernel
theorem dX6_changeHeat_6 : decode cX6_changeHeat 6 = .ok (.istore_n 3, 1) := by decide +kernel
theorem dX6_changeHeat_7 : decode cX6_changeHeat 7 = .ok (.aload_n 0, 1) := by decide +kernel
theorem dX6_changeHeat_8 : decode cX6_changeHeat 8 = .ok (.getfield 24, 3) := by decide +kernel
theorem dX6_changeHeat_11 : decode cX6_changeHeat 11 = .ok (.iload_n 1, 1) := by decide +kernel
theorem dX6_changeHeat_12 : decode cX6_changeHeat 12 = .ok (.iload_n 2, 1) := by decide +kernel
theorem dX6_changeHeat_13 : decode cX6_changeHeat 13 = .ok (.iastore, 1) := by decide +kernel
theorem dX6_changeHeat_14 : decode cX6_changeHeat 14 = .ok (.iload_n 3, 1) := by decide +kernel
theorem dX6_changeHeat_15 : decode cX6_changeHeat 15 = .ok (.ireturn, 1) := by decide +kernel
theorem dX6_sag_0 : decode cX6_sag 0 = .ok (.aload_n 0, 1) := by decide +kernel
theorem dX6_sag_1 : decode cX6_sag 1 = .ok (.getfield 18, 3) := by decide +kernel
theorem dX6_sag_4 : decode cX6_sag 4 = .ok (.iload_n 1, 1) := by decide +kernel
theorem dX6_sag_5 : decode cX6_sag 5 = .ok (.iaload, 1) := by decide +kernel
theorem dX6_sag_6 : decode cX6_sag 6 = .ok (.istore_n 2, 1) := by decide +kernel
theorem dX6_sag_7 : decode cX6_sag 7 = .ok (.iload_n 2, 1) := by decide +kernel
theorem dX6_sag_8 : decode cX6_sag 8 = .ok (.iload_n 2, 1) := by decide +kernel
theorem dX6_sag_9 : decode cX6_sag 9 = .ok (.imul, 1) := by decide +kernel
theorem dX6_sag_10 : decode cX6_sag 10 = .ok (.sipush 10000, 3) := by decide +kernel
theorem dX6_sag_13 : decode cX6_sag 13 = .ok (.idiv, 1) := by decide +kernel
theorem dX6_sag_14 : decode cX6_sag 14 = .ok (.iload_n 2, 1) := by decide +kernel
theorem dX6_sag_15 : decode cX6_sag 15 = .ok (.aload_n 0, 1) := by decide +kernel
theorem dX6_sag_16 : decode cX6_sag 16 = .ok (.getfield 24, 3) := by decide +kernel
theorem dX6_sag_19 : decode cX6_sag 19 = .ok (.iload_n 1, 1) := by decide +kernel
theorem dX6_sag_20 : decode cX6_sag 20 = .ok (.iaload, 1) := by decide +kernel
theorem dX6_sag_21 : decode cX6_sag 21 = .ok (.bipush 20, 2) := by decide +kernel
theorem dX6_sag_23 : decode cX6_sag 23 = .ok (.isub, 1) := by decide +kernel
theorem dX6_sag_24 : decode cX6_sag 24 = .ok (.imul, 1) := by decide +kernel
theorem dX6_sag_25 : decode cX6_sag 25 = .ok (.sipush 1000, 3) := by decide +kernel
theorem dX6_sag_28 : decode cX6_sag 28 = .ok (.idiv, 1) := by decide +kernel
theorem dX6_sag_29 : decode cX6_sag 29 = .ok (.iadd, 1) := by decide +kernel
theorem dX6_sag_30 : decode cX6_sag 30 = .ok (.istore_n 3, 1) := by decide +kernel
theorem dX6_sag_31 : decode cX6_sag 31 = .ok (.iload_n 3, 1) := by decide +kernel
theorem dX6_sag_32 : decode cX6_sag 32 = .ok (.ifCond .ge 7, 3) := by decide +kernel
theorem dX6_sag_35 : decode cX6_sag 35 = .ok (.iconst 0, 1) := by decide +kernel
theorem dX6_sag_36 : decode cX6_sag 36 = .ok (.goto 4, 3) := by decide +kernel
theorem dX6_sag_39 : decode cX6_sag 39 = .ok (.iload_n 3, 1) := by decide +kernel
theorem dX6_sag_40 : decode cX6_sag 40 = .ok (.ireturn, 1) := by decide +kernel
theorem dX6_low_0 : decode cX6_low 0 = .ok (.aload_n 0, 1) := by decide +kernel
theorem dX6_low_1 : decode cX6_low 1 = .ok (.getfield 21, 3) := by decide +kernel
theorem dX6_low_4 : decode cX6_low 4 = .ok (.iload_n 1, 1) := by decide +kernel
theorem dX6_low_5 : decode cX6_low 5 = .ok (.iaload, 1) := by decide +kernel
theorem dX6_low_6 : decode cX6_low 6 = .ok (.aload_n 0, 1) := by decide +kernel
theorem dX6_low_7 : decode cX6_low 7 = .ok (.iload_n 1, 1) := by decide +kernel
theorem dX6_low_8 : decode cX6_low 8 = .ok (.invokevirtual 51, 3) := by decide +kernel
theorem dX6_low_11 : decode cX6_low 11 = .ok (.isub, 1) := by decide +kernel
theorem dX6_low_12 : decode cX6_low 12 = .ok (.ireturn, 1) := by decide +kernel
theorem dX6_near_0 : decode cX6_near 0 = .ok (.aload_n 0, 1) := by decide +kernel
theorem dX6_near_1 : decode cX6_near 1 = .ok (.getfield 15, 3) := by decide +kernel
theorem dX6_near_4 : decode cX6_near 4 = .ok (.iload_n 1, 1) := by decide +kernel
theorem dX6_near_5 : decode cX6_near 5 = .ok (.iaload, 1) := by decide +kernel
theorem dX6_near_6 : decode cX6_near 6 = .ok (.istore_n 2, 1) := by decide +kernel
theorem dX6_near_7 : decode cX6_near 7 = .ok (.aload_n 0, 1) := by decide +kernel
theorem dX6_near_8 : decode cX6_near 8 = .ok (.iload_n 1, 1) := by decide +kernel
theorem dX6_near_9 : decode cX6_near 9 = .ok (.invokevirtual 55, 3) := by decide +kernel
theorem dX6_near_12 : decode cX6_near 12 = .ok (.aload_n 0, 1) := by decide +kernel
theorem dX6_near_13 : decode cX6_near 13 = .ok (.getfield 30, 3) := by decide +kernel
theorem dX6_near_16 : decode cX6_near 16 = .ok (.getfield 58, 3) := by decide +kernel
theorem dX6_near_19 : decode cX6_near 19 = .ok (.iconst 0, 1) := by decide +kernel
theorem dX6_near_20 : decode cX6_near 20 = .ok (.aaload, 1) := by decide +kernel
theorem dX6_near_21 : decode cX6_near 21 = .ok (.iload_n 2, 1) := by decide +kernel
theorem dX6_near_22 : decode cX6_near 22 = .ok (.iaload, 1) := by decide +kernel
theorem dX6_near_23 : decode cX6_near 23 = .ok (.aload_n 0, 1) := by decide +kernel
theorem dX6_near_24 : decode cX6_near 24 = .ok (.getfield 30, 3) := by decide +kernel
theorem dX6_near_27 : decode cX6_near 27 = .ok (.iload_n 2, 1) := by decide +kernel
theorem dX6_near_28 : decode cX6_near 28 = .ok (.invokevirtual 64, 3) := by decide +kernel
theorem dX6_near_31 : decode cX6_near 31 = .ok (.invokestatic 67, 3) := by decide +kernel
theorem dX6_near_34 : decode cX6_near 34 = .ok (.isub, 1) := by decide +kernel
theorem dX6_near_35 : decode cX6_near 35 = .ok (.ireturn, 1) := by decide +kernel
theorem dX6_isTooNear_0 : decode cX6_isTooNear 0 = .ok (.aload_n 0, 1) := by decide +kernel
theorem dX6_isTooNear_1 : decode cX6_isTooNear 1 = .ok (.iload_n 1, 1) := by decide +kernel
theorem dX6_isTooNear_2 : decode cX6_isTooNear 2 = .ok (.invokevirtual 70, 3) := by decide +kernel
theorem dX6_isTooNear_5 : decode cX6_isTooNear 5 = .ok (.bipush 6, 2) := by decide +kernel
theorem dX6_isTooNear_7 : decode cX6_isTooNear 7 = .ok (.if_icmp .ge 7, 3) := by decide +kernel
theorem dX6_isTooNear_10 : decode cX6_isTooNear 10 = .ok (.iconst 1, 1) := by decide +kernel
theorem dX6_isTooNear_11 : decode cX6_isTooNear 11 = .ok (.goto 4, 3) := by decide +kernel
theorem dX6_isTooNear_14 : decode cX6_isTooNear 14 = .ok (.iconst 0, 1) := by decide +kernel
theorem dX6_isTooNear_15 : decode cX6_isTooNear 15 = .ok (.ireturn, 1) := by decide +kernel
theorem dX6_tooNearSpans_0 : decode cX6_tooNearSpans 0 = .ok (.iconst 0, 1) := by decide +kernel
theorem dX6_tooNearSpans_1 : decode cX6_tooNearSpans 1 = .ok (.istore_n 1, 1) := by decide +kernel
theorem dX6_tooNearSpans_2 : decode cX6_tooNearSpans 2 = .ok (.iconst 0, 1) := by decide +kernel
theorem dX6_tooNearSpans_3 : decode cX6_tooNearSpans 3 = .ok (.istore_n 2, 1) := by decide +kernel
theorem dX6_tooNearSpans_4 : decode cX6_tooNearSpans 4 = .ok (.iload_n 2, 1) := by decide +kernel
theorem dX6_tooNearSpans_5 : decode cX6_tooNearSpans 5 = .ok (.aload_n 0, 1) := by decide +kernel
theorem dX6_tooNearSpans_6 : decode cX6_tooNearSpans 6 = .ok (.getfield 42, 3) := by decide +kernel
theorem dX6_tooNearSpans_9 : decode cX6_tooNearSpans 9 = .ok (.if_icmp .ge 20, 3) := by decide +kernel
theorem dX6_tooNearSpans_12 : decode cX6_tooNearSpans 12 = .ok (.aload_n 0, 1) := by decide +kernel
theorem dX6_tooNearSpans_13 : decode cX6_tooNearSpans 13 = .ok (.iload_n 2, 1) := by decide +kernel
theorem dX6_tooNearSpans_14 : decode cX6_tooNearSpans 14 = .ok (.invokevirtual 73, 3) := by decide +kernel
theorem dX6_tooNearSpans_17 : decode cX6_tooNearSpans 17 = .ok (.ifCond .eq 6, 3) := by decide +kernel
theorem dX6_tooNearSpans_20 : decode cX6_tooNearSpans 20 = .ok (.iinc 1 1, 3) := by decide +kernel
theorem dX6_tooNearSpans_23 : decode cX6_tooNearSpans 23 = .ok (.iinc 2 1, 3) := by decide +kernel
theorem dX6_tooNearSpans_26 : decode cX6_tooNearSpans 26 = .ok (.goto (-22), 3) := by decide +kernel
theorem dX6_tooNearSpans_29 : decode cX6_tooNearSpans 29 = .ok (.iload_n 1, 1) := by decide +kernel
theorem dX6_tooNearSpans_30 : decode cX6_tooNearSpans 30 = .ok (.ireturn, 1) := by decide +kernel
theorem dX7_init_0 : decode cX7_init 0 = .ok (.aload_n 0, 1) := by decide +kernel
theorem dX7_init_1 : decode cX7_init 1 = .ok (.invokespecial 3, 3) := by decide +kernel
theorem dX7_init_4 : decode cX7_init 4 = .ok (.aload_n 0, 1) := by decide +kernel
theorem dX7_init_5 : decode cX7_init 5 = .ok (.bipush 20, 2) := by decide +kernel
theorem dX7_init_7 : decode cX7_init 7 = .ok (.newarray .int, 2) := by decide +kernel
theorem dX7_init_9 : decode cX7_init 9 = .ok (.putfield 9, 3) := by decide +kernel
theorem dX7_init_12 : decode cX7_init 12 = .ok (.aload_n 0, 1) := by decide +kernel
theorem dX7_init_13 : decode cX7_init 13 = .ok (.bipush 20, 2) := by decide +kernel
theorem dX7_init_15 : decode cX7_init 15 = .ok (.newarray .int, 2) := by decide +kernel
theorem dX7_init_17 : decode cX7_init 17 = .ok (.putfield 15, 3) := by decide +kernel
theorem dX7_init_20 : decode cX7_init 20 = .ok (.aload_n 0, 1) := by decide +kernel
theorem dX7_init_21 : decode cX7_init 21 = .ok (.bipush 20, 2) := by decide +kernel
theorem dX7_init_23 : decode cX7_init 23 = .ok (.newarray .int, 2) := by decide +kernel
theorem dX7_init_25 : decode cX7_init 25 = .ok (.putfield 18, 3) := by decide +kernel
theorem dX7_init_28 : decode cX7_init 28 = .ok (.return_, 1) := by decide +kernel
theorem dX7_add_0 : decode cX7_add 0 = .ok (.iload_n 2, 1) := by decide +kernel
theorem dX7_add_1 : decode cX7_add 1 = .ok (.iload_n 3, 1) := by decide +kernel
theorem dX7_add_2 : decode cX7_add 2 = .ok (.imul, 1) := by decide +kernel
theorem dX7_add_3 : decode cX7_add 3 = .ok (.bipush 100, 2) := by decide +kernel
theorem dX7_add_5 : decode cX7_add 5 = .ok (.idiv, 1) := by decide +kernel
theorem dX7_add_6 : decode cX7_add 6 = .ok (.istore 4, 2) := by decide +kernel
theorem dX7_add_8 : decode cX7_add 8 = .ok (.aload_n 0, 1) := by decide +kernel
theorem dX7_add_9 : decode cX7_add 9 = .ok (.getfield 9, 3) := by decide +kernel
theorem dX7_add_12 : decode cX7_add 12 = .ok (.aload_n 0, 1) := by decide +kernel
theorem dX7_add_13 : decode cX7_add 13 = .ok (.getfield 21, 3) := by decide +kernel
theorem dX7_add_16 : decode cX7_add 16 = .ok (.iload_n 1, 1) := by decide +kernel
theorem dX7_add_17 : decode cX7_add 17 = .ok (.iastore, 1) := by decide +kernel
theorem dX7_add_18 : decode cX7_add 18 = .ok (.aload_n 0, 1) := by decide +kernel
theorem dX7_add_19 : decode cX7_add 19 = .ok (.getfield 15, 3) := by decide +kernel
theorem dX7_add_22 : decode cX7_add 22 = .ok (.aload_n 0, 1) := by decide +kernel
theorem dX7_add_23 : decode cX7_add 23 = .ok (.getfield 21, 3) := by decide +kernel
theorem dX7_add_26 : decode cX7_add 26 = .ok (.iload_n 2, 1) := by decide +kernel
theorem dX7_add_27 : decode cX7_add 27 = .ok (.iload 4, 2) := by decide +kernel
theorem dX7_add_29 : decode cX7_add 29 = .ok (.isub, 1) := by decide +kernel
theorem dX7_add_30 : decode cX7_add 30 = .ok (.iastore, 1) := by decide +kernel
theorem dX7_add_31 : decode cX7_add 31 = .ok (.aload_n 0, 1) := by decide +kernel
theorem dX7_add_32 : decode cX7_add 32 = .ok (.getfield 18, 3) := by decide +kernel
theorem dX7_add_35 : decode cX7_add 35 = .ok (.aload_n 0, 1) := by decide +kernel
theorem dX7_add_36 : decode cX7_add 36 = .ok (.getfield 21, 3) := by decide +kernel
theorem dX7_add_39 : decode cX7_add 39 = .ok (.iload_n 2, 1) := by decide +kernel
theorem dX7_add_40 : decode cX7_add 40 = .ok (.iload 4, 2) := by decide +kernel
theorem dX7_add_42 : decode cX7_add 42 = .ok (.iadd, 1) := by decide +kernel
theorem dX7_add_43 : decode cX7_add 43 = .ok (.iastore, 1) := by decide +kernel
theorem dX7_add_44 : decode cX7_add 44 = .ok (.aload_n 0, 1) := by decide +kernel
theorem dX7_add_45 : decode cX7_add 45 = .ok (.dup, 1) := by decide +kernel
theorem dX7_add_46 : decode cX7_add 46 = .ok (.getfield 21, 3) := by decide +kernel
theorem dX7_add_49 : decode cX7_add 49 = .ok (.iconst 1, 1) := by decide +kernel
theorem dX7_add_50 : decode cX7_add 50 = .ok (.iadd, 1) := by decide +kernel
theorem dX7_add_51 : decode cX7_add 51 = .ok (.putfield 21, 3) := by decide +kernel
theorem dX7_add_54 : decode cX7_add 54 = .ok (.aload_n 0, 1) := by decide +kernel
theorem dX7_add_55 : decode cX7_add 55 = .ok (.getfield 21, 3) := by decide +kernel
theorem dX7_add_58 : decode cX7_add 58 = .ok (.ireturn, 1) := by decide +kernel
theorem dX7_boundOf_0 : decode cX7_boundOf 0 = .ok (.iconst (-1), 1) := by decide +kernel
theorem dX7_boundOf_1 : decode cX7_boundOf 1 = .ok (.istore_n 3, 1) := by decide +kernel
theorem dX7_boundOf_2 : decode cX7_boundOf 2 = .ok (.ldc 25, 2) := by decide +kernel
theorem dX7_boundOf_4 : decode cX7_boundOf 4 = .ok (.istore 4, 2) := by decide +kernel
theorem dX7_boundOf_6 : decode cX7_boundOf 6 = .ok (.iconst 0, 1) := by decide +kernel
theorem dX7_boundOf_7 : decode cX7_boundOf 7 = .ok (.istore 5, 2) := by decide +kernel
theorem dX7_boundOf_9 : decode cX7_boundOf 9 = .ok (.iload 5, 2) := by decide +kernel
theorem dX7_boundOf_11 : decode cX7_boundOf 11 = .ok (.aload_n 0, 1) := by decide +kernel
theorem dX7_boundOf_12 : decode cX7_boundOf 12 = .ok (.getfield 21, 3) := by decide +kernel
theorem dX7_boundOf_15 : decode cX7_boundOf 15 = .ok (.if_icmp .ge 46, 3) := by decide +kernel
theorem dX7_boundOf_18 : decode cX7_boundOf 18 = .ok (.aload_n 0, 1) := by decide +kernel
theorem dX7_boundOf_19 : decode cX7_boundOf 19 = .ok (.getfield 9, 3) := by decide +kernel
theorem dX7_boundOf_22 : decode cX7_boundOf 22 = .ok (.iload 5, 2) := by decide +kernel
theorem dX7_boundOf_24 : decode cX7_boundOf 24 = .ok (.iaload, 1) := by decide +kernel
theorem dX7_boundOf_25 : decode cX7_boundOf 25 = .ok (.iload_n 1, 1) := by decide +kernel
theorem dX7_boundOf_26 : decode cX7_boundOf 26 = .ok (.if_icmp .ne 29, 3) := by decide +kernel
theorem dX7_boundOf_29 : decode cX7_boundOf 29 = .ok (.iload_n 3, 1) := by decide +kernel
theorem dX7_boundOf_30 : decode cX7_boundOf 30 = .ok (.aload_n 0, 1) := by decide +kernel
theorem dX7_boundOf_31 : decode cX7_boundOf 31 = .ok (.getfield 15, 3) := by decide +kernel
theorem dX7_boundOf_34 : decode cX7_boundOf 34 = .ok (.iload 5, 2) := by decide +kernel
theorem dX7_boundOf_36 : decode cX7_boundOf 36 = .ok (.iaload, 1) := by decide +kernel
theorem dX7_boundOf_37 : decode cX7_boundOf 37 = .ok (.invokestatic 26, 3) := by decide +kernel
theorem dX7_boundOf_40 : decode cX7_boundOf 40 = .ok (.istore_n 3, 1) := by decide +kernel
theorem dX7_boundOf_41 : decode cX7_boundOf 41 = .ok (.iload 4, 2) := by decide +kernel
theorem dX7_boundOf_43 : decode cX7_boundOf 43 = .ok (.aload_n 0, 1) := by decide +kernel
theorem dX7_boundOf_44 : decode cX7_boundOf 44 = .ok (.getfield 18, 3) := by decide +kernel
theorem dX7_boundOf_47 : decode cX7_boundOf 47 = .ok (.iload 5, 2) := by decide +kernel
theorem dX7_boundOf_49 : decode cX7_boundOf 49 = .ok (.iaload, 1) := by decide +kernel
theorem dX7_boundOf_50 : decode cX7_boundOf 50 = .ok (.invokestatic 32, 3) := by decide +kernel
theorem dX7_boundOf_53 : decode cX7_boundOf 53 = .ok (.istore 4, 2) := by decide +kernel
theorem dX7_boundOf_55 : decode cX7_boundOf 55 = .ok (.iinc 5 1, 3) := by decide +kernel
theorem dX7_boundOf_58 : decode cX7_boundOf 58 = .ok (.goto (-49), 3) := by decide +kernel
theorem dX7_boundOf_61 : decode cX7_boundOf 61 = .ok (.iload_n 3, 1) := by decide +kernel
theorem dX7_boundOf_62 : decode cX7_boundOf 62 = .ok (.iconst (-1), 1) := by decide +kernel
theorem dX7_boundOf_63 : decode cX7_boundOf 63 = .ok (.if_icmp .ne 5, 3) := by decide +kernel
theorem dX7_boundOf_66 : decode cX7_boundOf 66 = .ok (.iconst (-1), 1) := by decide +kernel
theorem dX7_boundOf_67 : decode cX7_boundOf 67 = .ok (.ireturn, 1) := by decide +kernel
theorem dX7_boundOf_68 : decode cX7_boundOf 68 = .ok (.iload_n 3, 1) := by decide +kernel
theorem dX7_boundOf_69 : decode cX7_boundOf 69 = .ok (.iload 4, 2) := by decide +kernel
theorem dX7_boundOf_71 : decode cX7_boundOf 71 = .ok (.if_icmp .le 6, 3) := by decide +kernel
theorem dX7_boundOf_74 : decode cX7_boundOf 74 = .ok (.bipush (-2), 2) := by decide +kernel
theorem dX7_boundOf_76 : decode cX7_boundOf 76 = .ok (.ireturn, 1) := by decide +kernel
theorem dX7_boundOf_77 : decode cX7_boundOf 77 = .ok (.iload_n 2, 1) := by decide +kernel
theorem dX7_boundOf_78 : decode cX7_boundOf 78 = .ok (.ifCond .ne 7, 3) := by decide +kernel
theorem dX7_boundOf_81 : decode cX7_boundOf 81 = .ok (.iload_n 3, 1) := by decide +kernel
theorem dX7_boundOf_82 : decode cX7_boundOf 82 = .ok (.goto 5, 3) := by decide +kernel
theorem dX7_boundOf_85 : decode cX7_boundOf 85 = .ok (.iload 4, 2) := by decide +kernel
theorem dX7_boundOf_87 : decode cX7_boundOf 87 = .ok (.ireturn, 1) := by decide +kernel
theorem dJ6_bitCount_0f7a4_0 : decode cJ6_bitCount_0f7a4 0 = .ok (.iload_n 0, 1) := by decide +kernel
theorem dJ6_bitCount_0f7a4_1 : decode cJ6_bitCount_0f7a4 1 = .ok (.iload_n 0, 1) := by decide +kernel
theorem dJ6_bitCount_0f7a4_2 : decode cJ6_bitCount_0f7a4 2 = .ok (.iconst 1, 1) := by decide +kernel
theorem dJ6_bitCount_0f7a4_3 : decode cJ6_bitCount_0f7a4 3 = .ok (.iushr, 1) := by decide +kernel
theorem dJ6_bitCount_0f7a4_4 : decode cJ6_bitCount_0f7a4 4 = .ok (.ldc_w 265, 3) := by decide +kernel
theorem dJ6_bitCount_0f7a4_7 : decode cJ6_bitCount_0f7a4 7 = .ok (.iand, 1) := by decide +kernel
theorem dJ6_bitCount_0f7a4_8 : decode cJ6_bitCount_0f7a4 8 = .ok (.isub, 1) := by decide +kernel
theorem dJ6_bitCount_0f7a4_9 : decode cJ6_bitCount_0f7a4 9 = .ok (.istore_n 0, 1) := by decide +kernel
theorem dJ6_bitCount_0f7a4_10 : decode cJ6_bitCount_0f7a4 10 = .ok (.iload_n 0, 1) := by decide +kernel
theorem dJ6_bitCount_0f7a4_11 : decode cJ6_bitCount_0f7a4 11 = .ok (.ldc_w 266, 3) := by decide +kernel
theorem dJ6_bitCount_0f7a4_14 : decode cJ6_bitCount_0f7a4 14 = .ok (.iand, 1) := by decide +kernel
theorem dJ6_bitCount_0f7a4_15 : decode cJ6_bitCount_0f7a4 15 = .ok (.iload_n 0, 1) := by decide +kernel
theorem dJ6_bitCount_0f7a4_16 : decode cJ6_bitCount_0f7a4 16 = .ok (.iconst 2, 1) := by decide +kernel
theorem dJ6_bitCount_0f7a4_17 : decode cJ6_bitCount_0f7a4 17 = .ok (.iushr, 1) := by decide +kernel
theorem dJ6_bitCount_0f7a4_18 : decode cJ6_bitCount_0f7a4 18 = .ok (.ldc_w 266, 3) := by decide +kernel
theorem dJ6_bitCount_0f7a4_21 : decode cJ6_bitCount_0f7a4 21 = .ok (.iand, 1) := by decide +kernel
theorem dJ6_bitCount_0f7a4_22 : decode cJ6_bitCount_0f7a4 22 = .ok (.iadd, 1) := by decide +kernel
theorem dJ6_bitCount_0f7a4_23 : decode cJ6_bitCount_0f7a4 23 = .ok (.istore_n 0, 1) := by decide +kernel
theorem dJ6_bitCount_0f7a4_24 : decode cJ6_bitCount_0f7a4 24 = .ok (.iload_n 0, 1) := by decide +kernel
theorem dJ6_bitCount_0f7a4_25 : decode cJ6_bitCount_0f7a4 25 = .ok (.iload_n 0, 1) := by decide +kernel
theorem dJ6_bitCount_0f7a4_26 : decode cJ6_bitCount_0f7a4 26 = .ok (.iconst 4, 1) := by decide +kernel
theorem dJ6_bitCount_0f7a4_27 : decode cJ6_bitCount_0f7a4 27 = .ok (.iushr, 1) := by decide +kernel
theorem dJ6_bitCount_0f7a4_28 : decode cJ6_bitCount_0f7a4 28 = .ok (.iadd, 1) := by decide +kernel
theorem dJ6_bitCount_0f7a4_29 : decode cJ6_bitCount_0f7a4 29 = .ok (.ldc_w 267, 3) := by decide +kernel
theorem dJ6_bitCount_0f7a4_32 : decode cJ6_bitCount_0f7a4 32 = .ok (.iand, 1) := by decide +kernel
theorem dJ6_bitCount_0f7a4_33 : decode cJ6_bitCount_0f7a4 33 = .ok (.istore_n 0, 1) := by decide +kernel
theorem dJ6_bitCount_0f7a4_34 : decode cJ6_bitCount_0f7a4 34 = .ok (.iload_n 0, 1) := by decide +kernel
theorem dJ6_bitCount_0f7a4_35 : decode cJ6_bitCount_0f7a4 35 = .ok (.iload_n 0, 1) := by decide +kernel
theorem dJ6_bitCount_0f7a4_36 : decode cJ6_bitCount_0f7a4 36 = .ok (.bipush 8, 2) := by decide +kernel
theorem dJ6_bitCount_0f7a4_38 : decode cJ6_bitCount_0f7a4 38 = .ok (.iushr, 1) := by decide +kernel
theorem dJ6_bitCount_0f7a4_39 : decode cJ6_bitCount_0f7a4 39 = .ok (.iadd, 1) := by decide +kernel
theorem dJ6_bitCount_0f7a4_40 : decode cJ6_bitCount_0f7a4 40 = .ok (.istore_n 0, 1) := by decide +kernel
theorem dJ6_bitCount_0f7a4_41 : decode cJ6_bitCount_0f7a4 41 = .ok (.iload_n 0, 1) := by decide +kernel
theorem dJ6_bitCount_0f7a4_42 : decode cJ6_bitCount_0f7a4 42 = .ok (.iload_n 0, 1) := by decide +kernel
theorem dJ6_bitCount_0f7a4_43 : decode cJ6_bitCount_0f7a4 43 = .ok (.bipush 16, 2) := by decide +kernel
theorem dJ6_bitCount_0f7a4_45 : decode cJ6_bitCount_0f7a4 45 = .ok (.iushr, 1) := by decide +kernel
theorem dJ6_bitCount_0f7a4_46 : decode cJ6_bitCount_0f7a4 46 = .ok (.iadd, 1) := by decide +kernel
theorem dJ6_bitCount_0f7a4_47 : decode cJ6_bitCount_0f7a4 47 = .ok (.istore_n 0, 1) := by decide +kernel
theorem dJ6_bitCount_0f7a4_48 : decode cJ6_bitCount_0f7a4 48 = .ok (.iload_n 0, 1) := by decide +kernel
theorem dJ6_bitCount_0f7a4_49 : decode cJ6_bitCount_0f7a4 49 = .ok (.bipush 63, 2) := by decide +kernel
theorem dJ6_bitCount_0f7a4_51 : decode cJ6_bitCount_0f7a4 51 = .ok (.iand, 1) := by decide +kernel
theorem dJ6_bitCount_0f7a4_52 : decode cJ6_bitCount_0f7a4 52 = .ok (.ireturn, 1) := by decide +kernel
theorem dJ9_max_7cf53_0 : decode cJ9_max_7cf53 0 = .ok (.iload_n 0, 1) := by decide +kernel
theorem dJ9_max_7cf53_1 : decode cJ9_max_7cf53 1 = .ok (.iload_n 1, 1) := by decide +kernel
theorem dJ9_max_7cf53_2 : decode cJ9_max_7cf53 2 = .ok (.if_icmp .lt 7, 3) := by decide +kernel
theorem dJ9_max_7cf53_5 : decode cJ9_max_7cf53 5 = .ok (.iload_n 0, 1) := by decide +kernel
theorem dJ9_max_7cf53_6 : decode cJ9_max_7cf53 6 = .ok (.goto 4, 3) := by decide +kernel
theorem dJ9_max_7cf53_9 : decode cJ9_max_7cf53 9 = .ok (.iload_n 1, 1) := by decide +kernel
theorem dJ9_max_7cf53_10 : decode cJ9_max_7cf53 10 = .ok (.ireturn, 1) := by decide +kernel
theorem dJ9_min_7cf53_0 : decode cJ9_min_7cf53 0 = .ok (.iload_n 0, 1) := by decide +kernel
theorem dJ9_min_7cf53_1 : decode cJ9_min_7cf53 1 = .ok (.iload_n 1, 1) := by decide +kernel
theorem dJ9_min_7cf53_2 : decode cJ9_min_7cf53 2 = .ok (.if_icmp .gt 7, 3) := by decide +kernel
theorem dJ9_min_7cf53_5 : decode cJ9_min_7cf53 5 = .ok (.iload_n 0, 1) := by decide +kernel
theorem dJ9_min_7cf53_6 : decode cJ9_min_7cf53 6 = .ok (.goto 4, 3) := by decide +kernel
theorem dJ9_min_7cf53_9 : decode cJ9_min_7cf53 9 = .ok (.iload_n 1, 1) := by decide +kernel
theorem dJ9_min_7cf53_10 : decode cJ9_min_7cf53 10 = .ok (.ireturn, 1) := by decide +kernel
theorem dJ0_length_8abf5_0 : decode cJ0_length_8abf5 0 = .ok (.aload_n 0, 1) := by decide +kernel
theorem dJ0_length_8abf5_1 : decode cJ0_length_8abf5 1 = .ok (.getfield 9, 3) := by decide +kernel
theorem dJ0_length_8abf5_4 : decode cJ0_length_8abf5 4 = .ok (.arraylength, 1) := by decide +kernel
theorem dJ0_length_8abf5_5 : decode cJ0_length_8abf5 5 = .ok (.aload_n 0, 1) := by decide +kernel
theorem dJ0_length_8abf5_6 : decode cJ0_length_8abf5 6 = .ok (.invokevirtual 335, 3) := by decide +kernel
theorem dJ0_length_8abf5_9 : decode cJ0_length_8abf5 9 = .ok (.ishr, 1) := by decide +kernel
theorem dJ0_length_8abf5_10 : decode cJ0_length_8abf5 10 = .ok (.ireturn, 1) := by decide +kernel
theorem dJ0_charAt_5068e_0 : decode cJ0_charAt_5068e 0 = .ok (.aload_n 0, 1) := by decide +kernel
theorem dJ0_charAt_5068e_1 : decode cJ0_charAt_5068e 1 = .ok (.invokevirtual 492, 3) := by decide +kernel
theorem dJ0_charAt_5068e_4 : decode cJ0_charAt_5068e 4 = .ok (.ifCond .eq 12, 3) := by decide +kernel
theorem dJ0_charAt_5068e_7 : decode cJ0_charAt_5068e 7 = .ok (.aload_n 0, 1) := by decide +kernel
theorem dJ0_charAt_5068e_8 : decode cJ0_charAt_5068e 8 = .ok (.getfield 9, 3) := by decide +kernel
theorem dJ0_charAt_5068e_11 : decode cJ0_charAt_5068e 11 = .ok (.iload_n 1, 1) := by decide +kernel
theorem dJ0_charAt_5068e_12 : decode cJ0_charAt_5068e 12 = .ok (.invokestatic 495, 3) := by decide +kernel
theorem dJ0_charAt_5068e_15 : decode cJ0_charAt_5068e 15 = .ok (.ireturn, 1) := by decide +kernel
theorem dJ0_charAt_5068e_16 : decode cJ0_charAt_5068e 16 = .ok (.aload_n 0, 1) := by decide +kernel
theorem dJ0_charAt_5068e_17 : decode cJ0_charAt_5068e 17 = .ok (.getfield 9, 3) := by decide +kernel
theorem dJ0_charAt_5068e_20 : decode cJ0_charAt_5068e 20 = .ok (.iload_n 1, 1) := by decide +kernel
theorem dJ0_charAt_5068e_21 : decode cJ0_charAt_5068e 21 = .ok (.invokestatic 498, 3) := by decide +kernel
theorem dJ0_charAt_5068e_24 : decode cJ0_charAt_5068e 24 = .ok (.ireturn, 1) := by decide +kernel
theorem dJ0_coder_7d493_0 : decode cJ0_coder_7d493 0 = .ok (.getstatic 38, 3) := by decide +kernel
theorem dJ0_coder_7d493_3 : decode cJ0_coder_7d493 3 = .ok (.ifCond .eq 10, 3) := by decide +kernel
theorem dJ0_coder_7d493_6 : decode cJ0_coder_7d493 6 = .ok (.aload_n 0, 1) := by decide +kernel
theorem dJ0_coder_7d493_7 : decode cJ0_coder_7d493 7 = .ok (.getfield 15, 3) := by decide +kernel
theorem dJ0_coder_7d493_10 : decode cJ0_coder_7d493 10 = .ok (.goto 4, 3) := by decide +kernel
theorem dJ0_coder_7d493_13 : decode cJ0_coder_7d493 13 = .ok (.iconst 1, 1) := by decide +kernel
theorem dJ0_coder_7d493_14 : decode cJ0_coder_7d493 14 = .ok (.ireturn, 1) := by decide +kernel
theorem dJ0_isLatin1_aae02_0 : decode cJ0_isLatin1_aae02 0 = .ok (.getstatic 38, 3) := by decide +kernel
theorem dJ0_isLatin1_aae02_3 : decode cJ0_isLatin1_aae02 3 = .ok (.ifCond .eq 14, 3) := by decide +kernel
theorem dJ0_isLatin1_aae02_6 : decode cJ0_isLatin1_aae02 6 = .ok (.aload_n 0, 1) := by decide +kernel
theorem dJ0_isLatin1_aae02_7 : decode cJ0_isLatin1_aae02 7 = .ok (.getfield 15, 3) := by decide +kernel
theorem dJ0_isLatin1_aae02_10 : decode cJ0_isLatin1_aae02 10 = .ok (.ifCond .ne 7, 3) := by decide +kernel
theorem dJ0_isLatin1_aae02_13 : decode cJ0_isLatin1_aae02 13 = .ok (.iconst 1, 1) := by decide +kernel
theorem dJ0_isLatin1_aae02_14 : decode cJ0_isLatin1_aae02 14 = .ok (.goto 4, 3) := by decide +kernel
theorem dJ0_isLatin1_aae02_17 : decode cJ0_isLatin1_aae02 17 = .ok (.iconst 0, 1) := by decide +kernel
theorem dJ0_isLatin1_aae02_18 : decode cJ0_isLatin1_aae02 18 = .ok (.ireturn, 1) := by decide +kernel
theorem dJ0_checkIndex_df160_0 : decode cJ0_checkIndex_df160 0 = .ok (.iload_n 0, 1) := by decide +kernel
theorem dJ0_checkIndex_df160_1 : decode cJ0_checkIndex_df160 1 = .ok (.iload_n 1, 1) := by decide +kernel
theorem dJ0_checkIndex_df160_2 : decode cJ0_checkIndex_df160 2 = .ok (.getstatic 1053, 3) := by decide +kernel
theorem dJ0_checkIndex_df160_5 : decode cJ0_checkIndex_df160 5 = .ok (.invokestatic 1059, 3) := by decide +kernel
theorem dJ0_checkIndex_df160_8 : decode cJ0_checkIndex_df160 8 = .ok (.pop, 1) := by decide +kernel
theorem dJ0_checkIndex_df160_9 : decode cJ0_checkIndex_df160 9 = .ok (.return_, 1) := by decide +kernel
theorem dJ1_charAt_3b067_0 : decode cJ1_charAt_3b067 0 = .ok (.iload_n 1, 1) := by decide +kernel
theorem dJ1_charAt_3b067_1 : decode cJ1_charAt_3b067 1 = .ok (.aload_n 0, 1) := by decide +kernel
theorem dJ1_charAt_3b067_2 : decode cJ1_charAt_3b067 2 = .ok (.arraylength, 1) := by decide +kernel
theorem dJ1_charAt_3b067_3 : decode cJ1_charAt_3b067 3 = .ok (.invokestatic 9, 3) := by decide +kernel
theorem dJ1_charAt_3b067_6 : decode cJ1_charAt_3b067 6 = .ok (.aload_n 0, 1) := by decide +kernel
theorem dJ1_charAt_3b067_7 : decode cJ1_charAt_3b067 7 = .ok (.iload_n 1, 1) := by decide +kernel
theorem dJ1_charAt_3b067_8 : decode cJ1_charAt_3b067 8 = .ok (.baload, 1) := by decide +kernel
theorem dJ1_charAt_3b067_9 : decode cJ1_charAt_3b067 9 = .ok (.sipush 255, 3) := by decide +kernel
theorem dJ1_charAt_3b067_12 : decode cJ1_charAt_3b067 12 = .ok (.iand, 1) := by decide +kernel
theorem dJ1_charAt_3b067_13 : decode cJ1_charAt_3b067 13 = .ok (.i2c, 1) := by decide +kernel
theorem dJ1_charAt_3b067_14 : decode cJ1_charAt_3b067 14 = .ok (.ireturn, 1) := by decide +kernel
theorem dJ2_getChar_3b067_0 : decode cJ2_getChar_3b067 0 = .ok (.getstatic 44, 3) := by decide +kernel
theorem dJ2_getChar_3b067_3 : decode cJ2_getChar_3b067 3 = .ok (.ifCond .ne 25, 3) := by decide +kernel
theorem dJ2_getChar_3b067_6 : decode cJ2_getChar_3b067 6 = .ok (.iload_n 1, 1) := by decide +kernel
theorem dJ2_getChar_3b067_7 : decode cJ2_getChar_3b067 7 = .ok (.ifCond .lt 11, 3) := by decide +kernel
theorem dJ2_getChar_3b067_10 : decode cJ2_getChar_3b067 10 = .ok (.iload_n 1, 1) := by decide +kernel
theorem dJ2_getChar_3b067_11 : decode cJ2_getChar_3b067 11 = .ok (.aload_n 0, 1) := by decide +kernel
theorem dJ2_getChar_3b067_12 : decode cJ2_getChar_3b067 12 = .ok (.invokestatic 48, 3) := by decide +kernel
theorem dJ2_getChar_3b067_15 : decode cJ2_getChar_3b067 15 = .ok (.if_icmp .lt 13, 3) := by decide +kernel
theorem dJ2_getChar_3b067_18 : decode cJ2_getChar_3b067 18 = .ok (.new 52, 3) := by decide +kernel
theorem dJ2_getChar_3b067_21 : decode cJ2_getChar_3b067 21 = .ok (.dup, 1) := by decide +kernel
theorem dJ2_getChar_3b067_22 : decode cJ2_getChar_3b067 22 = .ok (.ldc 54, 2) := by decide +kernel
theorem dJ2_getChar_3b067_24 : decode cJ2_getChar_3b067 24 = .ok (.invokespecial 56, 3) := by decide +kernel
theorem dJ2_getChar_3b067_27 : decode cJ2_getChar_3b067 27 = .ok (.athrow, 1) := by decide +kernel
theorem dJ2_getChar_3b067_28 : decode cJ2_getChar_3b067 28 = .ok (.iload_n 1, 1) := by decide +kernel
theorem dJ2_getChar_3b067_29 : decode cJ2_getChar_3b067 29 = .ok (.iconst 1, 1) := by decide +kernel
theorem dJ2_getChar_3b067_30 : decode cJ2_getChar_3b067 30 = .ok (.ishl, 1) := by decide +kernel
theorem dJ2_getChar_3b067_31 : decode cJ2_getChar_3b067 31 = .ok (.istore_n 1, 1) := by decide +kernel
theorem dJ2_getChar_3b067_32 : decode cJ2_getChar_3b067 32 = .ok (.aload_n 0, 1) := by decide +kernel
theorem dJ2_getChar_3b067_33 : decode cJ2_getChar_3b067 33 = .ok (.iload_n 1, 1) := by decide +kernel
theorem dJ2_getChar_3b067_34 : decode cJ2_getChar_3b067 34 = .ok (.iinc 1 1, 3) := by decide +kernel
theorem dJ2_getChar_3b067_37 : decode cJ2_getChar_3b067 37 = .ok (.baload, 1) := by decide +kernel
theorem dJ2_getChar_3b067_38 : decode cJ2_getChar_3b067 38 = .ok (.sipush 255, 3) := by decide +kernel
theorem dJ2_getChar_3b067_41 : decode cJ2_getChar_3b067 41 = .ok (.iand, 1) := by decide +kernel
theorem dJ2_getChar_3b067_42 : decode cJ2_getChar_3b067 42 = .ok (.getstatic 59, 3) := by decide +kernel
theorem dJ2_getChar_3b067_45 : decode cJ2_getChar_3b067 45 = .ok (.ishl, 1) := by decide +kernel
theorem dJ2_getChar_3b067_46 : decode cJ2_getChar_3b067 46 = .ok (.aload_n 0, 1) := by decide +kernel
theorem dJ2_getChar_3b067_47 : decode cJ2_getChar_3b067 47 = .ok (.iload_n 1, 1) := by decide +kernel
theorem dJ2_getChar_3b067_48 : decode cJ2_getChar_3b067 48 = .ok (.baload, 1) := by decide +kernel
theorem dJ2_getChar_3b067_49 : decode cJ2_getChar_3b067 49 = .ok (.sipush 255, 3) := by decide +kernel
theorem dJ2_getChar_3b067_52 : decode cJ2_getChar_3b067 52 = .ok (.iand, 1) := by decide +kernel
theorem dJ2_getChar_3b067_53 : decode cJ2_getChar_3b067 53 = .ok (.getstatic 63, 3) := by decide +kernel
theorem dJ2_getChar_3b067_56 : decode cJ2_getChar_3b067 56 = .ok (.ishl, 1) := by decide +kernel
theorem dJ2_getChar_3b067_57 : decode cJ2_getChar_3b067 57 = .ok (.ior, 1) := by decide +kernel
theorem dJ2_getChar_3b067_58 : decode cJ2_getChar_3b067 58 = .ok (.i2c, 1) := by decide +kernel
theorem dJ2_getChar_3b067_59 : decode cJ2_getChar_3b067 59 = .ok (.ireturn, 1) := by decide +kernel
theorem dJ2_length_9d52b_0 : decode cJ2_length_9d52b 0 = .ok (.aload_n 0, 1) := by decide +kernel
theorem dJ2_length_9d52b_1 : decode cJ2_length_9d52b 1 = .ok (.arraylength, 1) := by decide +kernel
theorem dJ2_length_9d52b_2 : decode cJ2_length_9d52b 2 = .ok (.iconst 1, 1) := by decide +kernel
theorem dJ2_length_9d52b_3 : decode cJ2_length_9d52b 3 = .ok (.ishr, 1) := by decide +kernel
theorem dJ2_length_9d52b_4 : decode cJ2_length_9d52b 4 = .ok (.ireturn, 1) := by decide +kernel
theorem dJ2_charAt_3b067_0 : decode cJ2_charAt_3b067 0 = .ok (.iload_n 1, 1) := by decide +kernel
theorem dJ2_charAt_3b067_1 : decode cJ2_charAt_3b067 1 = .ok (.aload_n 0, 1) := by decide +kernel
theorem dJ2_charAt_3b067_2 : decode cJ2_charAt_3b067 2 = .ok (.invokestatic 67, 3) := by decide +kernel
theorem dJ2_charAt_3b067_5 : decode cJ2_charAt_3b067 5 = .ok (.aload_n 0, 1) := by decide +kernel
theorem dJ2_charAt_3b067_6 : decode cJ2_charAt_3b067 6 = .ok (.iload_n 1, 1) := by decide +kernel
theorem dJ2_charAt_3b067_7 : decode cJ2_charAt_3b067 7 = .ok (.invokestatic 71, 3) := by decide +kernel
theorem dJ2_charAt_3b067_10 : decode cJ2_charAt_3b067 10 = .ok (.ireturn, 1) := by decide +kernel
theorem dJ2_checkIndex_2214a_0 : decode cJ2_checkIndex_2214a 0 = .ok (.iload_n 0, 1) := by decide +kernel
theorem dJ2_checkIndex_2214a_1 : decode cJ2_checkIndex_2214a 1 = .ok (.aload_n 1, 1) := by decide +kernel
theorem dJ2_checkIndex_2214a_2 : decode cJ2_checkIndex_2214a 2 = .ok (.invokestatic 48, 3) := by decide +kernel
theorem dJ2_checkIndex_2214a_5 : decode cJ2_checkIndex_2214a 5 = .ok (.invokestatic 414, 3) := by decide +kernel
theorem dJ2_checkIndex_2214a_8 : decode cJ2_checkIndex_2214a 8 = .ok (.return_, 1) := by decide +kernel
theorem dJ7_fill_d0a16_0 : decode cJ7_fill_d0a16 0 = .ok (.iconst 0, 1) := by decide +kernel
theorem dJ7_fill_d0a16_1 : decode cJ7_fill_d0a16 1 = .ok (.istore_n 3, 1) := by decide +kernel
theorem dJ7_fill_d0a16_2 : decode cJ7_fill_d0a16 2 = .ok (.aload_n 0, 1) := by decide +kernel
theorem dJ7_fill_d0a16_3 : decode cJ7_fill_d0a16 3 = .ok (.arraylength, 1) := by decide +kernel
theorem dJ7_fill_d0a16_4 : decode cJ7_fill_d0a16 4 = .ok (.istore 4, 2) := by decide +kernel
theorem dJ7_fill_d0a16_6 : decode cJ7_fill_d0a16 6 = .ok (.iload_n 3, 1) := by decide +kernel
theorem dJ7_fill_d0a16_7 : decode cJ7_fill_d0a16 7 = .ok (.iload 4, 2) := by decide +kernel
theorem dJ7_fill_d0a16_9 : decode cJ7_fill_d0a16 9 = .ok (.if_icmp .ge 13, 3) := by decide +kernel
theorem dJ7_fill_d0a16_12 : decode cJ7_fill_d0a16 12 = .ok (.aload_n 0, 1) := by decide +kernel
theorem dJ7_fill_d0a16_13 : decode cJ7_fill_d0a16 13 = .ok (.iload_n 3, 1) := by decide +kernel
theorem dJ7_fill_d0a16_14 : decode cJ7_fill_d0a16 14 = .ok (.lload_n 1, 1) := by decide +kernel
theorem dJ7_fill_d0a16_15 : decode cJ7_fill_d0a16 15 = .ok (.lastore, 1) := by decide +kernel
theorem dJ7_fill_d0a16_16 : decode cJ7_fill_d0a16 16 = .ok (.iinc 3 1, 3) := by decide +kernel
theorem dJ7_fill_d0a16_19 : decode cJ7_fill_d0a16 19 = .ok (.goto (-13), 3) := by decide +kernel
theorem dJ7_fill_d0a16_22 : decode cJ7_fill_d0a16 22 = .ok (.return_, 1) := by decide +kernel
theorem dJ7_fill_53178_0 : decode cJ7_fill_53178 0 = .ok (.iconst 0, 1) := by decide +kernel
theorem dJ7_fill_53178_1 : decode cJ7_fill_53178 1 = .ok (.istore_n 2, 1) := by decide +kernel
theorem dJ7_fill_53178_2 : decode cJ7_fill_53178 2 = .ok (.aload_n 0, 1) := by decide +kernel
theorem dJ7_fill_53178_3 : decode cJ7_fill_53178 3 = .ok (.arraylength, 1) := by decide +kernel
theorem dJ7_fill_53178_4 : decode cJ7_fill_53178 4 = .ok (.istore_n 3, 1) := by decide +kernel
theorem dJ7_fill_53178_5 : decode cJ7_fill_53178 5 = .ok (.iload_n 2, 1) := by decide +kernel
theorem dJ7_fill_53178_6 : decode cJ7_fill_53178 6 = .ok (.iload_n 3, 1) := by decide +kernel
theorem dJ7_fill_53178_7 : decode cJ7_fill_53178 7 = .ok (.if_icmp .ge 13, 3) := by decide +kernel
theorem dJ7_fill_53178_10 : decode cJ7_fill_53178 10 = .ok (.aload_n 0, 1) := by decide +kernel
theorem dJ7_fill_53178_11 : decode cJ7_fill_53178 11 = .ok (.iload_n 2, 1) := by decide +kernel
theorem dJ7_fill_53178_12 : decode cJ7_fill_53178 12 = .ok (.iload_n 1, 1) := by decide +kernel
theorem dJ7_fill_53178_13 : decode cJ7_fill_53178 13 = .ok (.iastore, 1) := by decide +kernel
theorem dJ7_fill_53178_14 : decode cJ7_fill_53178 14 = .ok (.iinc 2 1, 3) := by decide +kernel
theorem dJ7_fill_53178_17 : decode cJ7_fill_53178 17 = .ok (.goto (-12), 3) := by decide +kernel
theorem dJ7_fill_53178_20 : decode cJ7_fill_53178 20 = .ok (.return_, 1) := by decide +kernel
theorem dJ3_checkIndex_8e157_0 : decode cJ3_checkIndex_8e157 0 = .ok (.iload_n 0, 1) := by decide +kernel
theorem dJ3_checkIndex_8e157_1 : decode cJ3_checkIndex_8e157 1 = .ok (.ifCond .lt 8, 3) := by decide +kernel
theorem dJ3_checkIndex_8e157_4 : decode cJ3_checkIndex_8e157 4 = .ok (.iload_n 0, 1) := by decide +kernel
theorem dJ3_checkIndex_8e157_5 : decode cJ3_checkIndex_8e157 5 = .ok (.iload_n 1, 1) := by decide +kernel
theorem dJ3_checkIndex_8e157_6 : decode cJ3_checkIndex_8e157 6 = .ok (.if_icmp .lt 10, 3) := by decide +kernel
theorem dJ3_checkIndex_8e157_9 : decode cJ3_checkIndex_8e157 9 = .ok (.aload_n 2, 1) := by decide +kernel
theorem dJ3_checkIndex_8e157_10 : decode cJ3_checkIndex_8e157 10 = .ok (.iload_n 0, 1) := by decide +kernel
theorem dJ3_checkIndex_8e157_11 : decode cJ3_checkIndex_8e157 11 = .ok (.iload_n 1, 1) := by decide +kernel
theorem dJ3_checkIndex_8e157_12 : decode cJ3_checkIndex_8e157 12 = .ok (.invokestatic 95, 3) := by decide +kernel
theorem dJ3_checkIndex_8e157_15 : decode cJ3_checkIndex_8e157 15 = .ok (.athrow, 1) := by decide +kernel
theorem dJ3_checkIndex_8e157_16 : decode cJ3_checkIndex_8e157 16 = .ok (.iload_n 0, 1) := by decide +kernel
theorem dJ3_checkIndex_8e157_17 : decode cJ3_checkIndex_8e157 17 = .ok (.ireturn, 1) := by decide +kernel
