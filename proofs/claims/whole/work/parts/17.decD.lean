theorem dX12_done_72 : decode cX12_done 72 = .ok (.iconst 0, 1) := by decide +kernel
theorem dX12_done_73 : decode cX12_done 73 = .ok (.ireturn, 1) := by decide +kernel
theorem dX12_done_74 : decode cX12_done 74 = .ok (.iload_n 1, 1) := by decide +kernel
theorem dX12_done_75 : decode cX12_done 75 = .ok (.ifCond .eq 11, 3) := by decide +kernel
theorem dX12_done_78 : decode cX12_done 78 = .ok (.iload_n 2, 1) := by decide +kernel
theorem dX12_done_79 : decode cX12_done 79 = .ok (.ifCond .eq 7, 3) := by decide +kernel
theorem dX12_done_82 : decode cX12_done 82 = .ok (.iconst 1, 1) := by decide +kernel
theorem dX12_done_83 : decode cX12_done 83 = .ok (.goto 4, 3) := by decide +kernel
theorem dX12_done_86 : decode cX12_done 86 = .ok (.iconst 0, 1) := by decide +kernel
theorem dX12_done_87 : decode cX12_done 87 = .ok (.ireturn, 1) := by decide +kernel
theorem dX12_done_88 : decode cX12_done 88 = .ok (.iload_n 1, 1) := by decide +kernel
theorem dX12_done_89 : decode cX12_done 89 = .ok (.ifCond .ne 7, 3) := by decide +kernel
theorem dX12_done_92 : decode cX12_done 92 = .ok (.iload_n 2, 1) := by decide +kernel
theorem dX12_done_93 : decode cX12_done 93 = .ok (.ifCond .eq 7, 3) := by decide +kernel
theorem dX12_done_96 : decode cX12_done 96 = .ok (.iconst 1, 1) := by decide +kernel
theorem dX12_done_97 : decode cX12_done 97 = .ok (.goto 4, 3) := by decide +kernel
theorem dX12_done_100 : decode cX12_done 100 = .ok (.iconst 0, 1) := by decide +kernel
theorem dX12_done_101 : decode cX12_done 101 = .ok (.ireturn, 1) := by decide +kernel
theorem dX12_partOf_0 : decode cX12_partOf 0 = .ok (.iconst 2, 1) := by decide +kernel
theorem dX12_partOf_1 : decode cX12_partOf 1 = .ok (.aload_n 0, 1) := by decide +kernel
theorem dX12_partOf_2 : decode cX12_partOf 2 = .ok (.getfield 335, 3) := by decide +kernel
theorem dX12_partOf_5 : decode cX12_partOf 5 = .ok (.imul, 1) := by decide +kernel
theorem dX12_partOf_6 : decode cX12_partOf 6 = .ok (.iload_n 1, 1) := by decide +kernel
theorem dX12_partOf_7 : decode cX12_partOf 7 = .ok (.iadd, 1) := by decide +kernel
theorem dX12_partOf_8 : decode cX12_partOf 8 = .ok (.istore_n 3, 1) := by decide +kernel
theorem dX12_partOf_9 : decode cX12_partOf 9 = .ok (.iconst 0, 1) := by decide +kernel
theorem dX12_partOf_10 : decode cX12_partOf 10 = .ok (.istore 4, 2) := by decide +kernel
theorem dX12_partOf_12 : decode cX12_partOf 12 = .ok (.iconst 0, 1) := by decide +kernel
theorem dX12_partOf_13 : decode cX12_partOf 13 = .ok (.istore 5, 2) := by decide +kernel
theorem dX12_partOf_15 : decode cX12_partOf 15 = .ok (.iload 5, 2) := by decide +kernel
theorem dX12_partOf_17 : decode cX12_partOf 17 = .ok (.aload_n 0, 1) := by decide +kernel
theorem dX12_partOf_18 : decode cX12_partOf 18 = .ok (.getfield 313, 3) := by decide +kernel
theorem dX12_partOf_21 : decode cX12_partOf 21 = .ok (.iload_n 3, 1) := by decide +kernel
theorem dX12_partOf_22 : decode cX12_partOf 22 = .ok (.iaload, 1) := by decide +kernel
theorem dX12_partOf_23 : decode cX12_partOf 23 = .ok (.if_icmp .ge 171, 3) := by decide +kernel
theorem dX12_partOf_26 : decode cX12_partOf 26 = .ok (.aload_n 0, 1) := by decide +kernel
theorem dX12_partOf_27 : decode cX12_partOf 27 = .ok (.getfield 266, 3) := by decide +kernel
theorem dX12_partOf_30 : decode cX12_partOf 30 = .ok (.sipush 160, 3) := by decide +kernel
theorem dX12_partOf_33 : decode cX12_partOf 33 = .ok (.iload_n 3, 1) := by decide +kernel
theorem dX12_partOf_34 : decode cX12_partOf 34 = .ok (.imul, 1) := by decide +kernel
theorem dX12_partOf_35 : decode cX12_partOf 35 = .ok (.iload 5, 2) := by decide +kernel
theorem dX12_partOf_37 : decode cX12_partOf 37 = .ok (.iadd, 1) := by decide +kernel
theorem dX12_partOf_38 : decode cX12_partOf 38 = .ok (.iaload, 1) := by decide +kernel
theorem dX12_partOf_39 : decode cX12_partOf 39 = .ok (.istore 6, 2) := by decide +kernel
theorem dX12_partOf_41 : decode cX12_partOf 41 = .ok (.iload 6, 2) := by decide +kernel
theorem dX12_partOf_43 : decode cX12_partOf 43 = .ok (.ifCond .ge 20, 3) := by decide +kernel
theorem dX12_partOf_46 : decode cX12_partOf 46 = .ok (.aload_n 0, 1) := by decide +kernel
theorem dX12_partOf_47 : decode cX12_partOf 47 = .ok (.getfield 338, 3) := by decide +kernel
theorem dX12_partOf_50 : decode cX12_partOf 50 = .ok (.iload 4, 2) := by decide +kernel
theorem dX12_partOf_52 : decode cX12_partOf 52 = .ok (.iconst (-1), 1) := by decide +kernel
theorem dX12_partOf_53 : decode cX12_partOf 53 = .ok (.iload 6, 2) := by decide +kernel
theorem dX12_partOf_55 : decode cX12_partOf 55 = .ok (.isub, 1) := by decide +kernel
theorem dX12_partOf_56 : decode cX12_partOf 56 = .ok (.iastore, 1) := by decide +kernel
theorem dX12_partOf_57 : decode cX12_partOf 57 = .ok (.iinc 4 1, 3) := by decide +kernel
theorem dX12_partOf_60 : decode cX12_partOf 60 = .ok (.goto 128, 3) := by decide +kernel
theorem dX12_partOf_63 : decode cX12_partOf 63 = .ok (.iload 6, 2) := by decide +kernel
theorem dX12_partOf_65 : decode cX12_partOf 65 = .ok (.bipush 6, 2) := by decide +kernel
theorem dX12_partOf_67 : decode cX12_partOf 67 = .ok (.if_icmp .ge 23, 3) := by decide +kernel
theorem dX12_partOf_70 : decode cX12_partOf 70 = .ok (.aload_n 0, 1) := by decide +kernel
theorem dX12_partOf_71 : decode cX12_partOf 71 = .ok (.getfield 338, 3) := by decide +kernel
theorem dX12_partOf_74 : decode cX12_partOf 74 = .ok (.iload 4, 2) := by decide +kernel
theorem dX12_partOf_76 : decode cX12_partOf 76 = .ok (.aload_n 0, 1) := by decide +kernel
theorem dX12_partOf_77 : decode cX12_partOf 77 = .ok (.iload 6, 2) := by decide +kernel
theorem dX12_partOf_79 : decode cX12_partOf 79 = .ok (.iload_n 2, 1) := by decide +kernel
theorem dX12_partOf_80 : decode cX12_partOf 80 = .ok (.invokevirtual 341, 3) := by decide +kernel
theorem dX12_partOf_83 : decode cX12_partOf 83 = .ok (.iastore, 1) := by decide +kernel
theorem dX12_partOf_84 : decode cX12_partOf 84 = .ok (.iinc 4 1, 3) := by decide +kernel
theorem dX12_partOf_87 : decode cX12_partOf 87 = .ok (.goto 101, 3) := by decide +kernel
theorem dX12_partOf_90 : decode cX12_partOf 90 = .ok (.iload 6, 2) := by decide +kernel
theorem dX12_partOf_92 : decode cX12_partOf 92 = .ok (.bipush 13, 2) := by decide +kernel
theorem dX12_partOf_94 : decode cX12_partOf 94 = .ok (.if_icmp .ne 32, 3) := by decide +kernel
theorem dX12_partOf_97 : decode cX12_partOf 97 = .ok (.aload_n 0, 1) := by decide +kernel
theorem dX12_partOf_98 : decode cX12_partOf 98 = .ok (.getfield 338, 3) := by decide +kernel
theorem dX12_partOf_101 : decode cX12_partOf 101 = .ok (.iload 4, 2) := by decide +kernel
theorem dX12_partOf_103 : decode cX12_partOf 103 = .ok (.iconst 1, 1) := by decide +kernel
theorem dX12_partOf_104 : decode cX12_partOf 104 = .ok (.isub, 1) := by decide +kernel
theorem dX12_partOf_105 : decode cX12_partOf 105 = .ok (.aload_n 0, 1) := by decide +kernel
theorem dX12_partOf_106 : decode cX12_partOf 106 = .ok (.getfield 338, 3) := by decide +kernel
theorem dX12_partOf_109 : decode cX12_partOf 109 = .ok (.iload 4, 2) := by decide +kernel
theorem dX12_partOf_111 : decode cX12_partOf 111 = .ok (.iconst 1, 1) := by decide +kernel
theorem dX12_partOf_112 : decode cX12_partOf 112 = .ok (.isub, 1) := by decide +kernel
theorem dX12_partOf_113 : decode cX12_partOf 113 = .ok (.iaload, 1) := by decide +kernel
theorem dX12_partOf_114 : decode cX12_partOf 114 = .ok (.ifCond .ne 7, 3) := by decide +kernel
theorem dX12_partOf_117 : decode cX12_partOf 117 = .ok (.iconst 1, 1) := by decide +kernel
theorem dX12_partOf_118 : decode cX12_partOf 118 = .ok (.goto 4, 3) := by decide +kernel
theorem dX12_partOf_121 : decode cX12_partOf 121 = .ok (.iconst 0, 1) := by decide +kernel
theorem dX12_partOf_122 : decode cX12_partOf 122 = .ok (.iastore, 1) := by decide +kernel
theorem dX12_partOf_123 : decode cX12_partOf 123 = .ok (.goto 65, 3) := by decide +kernel
theorem dX12_partOf_126 : decode cX12_partOf 126 = .ok (.iload 6, 2) := by decide +kernel
theorem dX12_partOf_128 : decode cX12_partOf 128 = .ok (.bipush 14, 2) := by decide +kernel
theorem dX12_partOf_130 : decode cX12_partOf 130 = .ok (.if_icmp .ne 25, 3) := by decide +kernel
theorem dX12_partOf_133 : decode cX12_partOf 133 = .ok (.aload_n 0, 1) := by decide +kernel
theorem dX12_partOf_134 : decode cX12_partOf 134 = .ok (.getfield 338, 3) := by decide +kernel
theorem dX12_partOf_137 : decode cX12_partOf 137 = .ok (.iload 4, 2) := by decide +kernel
theorem dX12_partOf_139 : decode cX12_partOf 139 = .ok (.iconst 1, 1) := by decide +kernel
theorem dX12_partOf_140 : decode cX12_partOf 140 = .ok (.isub, 1) := by decide +kernel
theorem dX12_partOf_141 : decode cX12_partOf 141 = .ok (.aload_n 0, 1) := by decide +kernel
theorem dX12_partOf_142 : decode cX12_partOf 142 = .ok (.getfield 338, 3) := by decide +kernel
theorem dX12_partOf_145 : decode cX12_partOf 145 = .ok (.iload 4, 2) := by decide +kernel
theorem dX12_partOf_147 : decode cX12_partOf 147 = .ok (.iconst 1, 1) := by decide +kernel
theorem dX12_partOf_148 : decode cX12_partOf 148 = .ok (.isub, 1) := by decide +kernel
theorem dX12_partOf_149 : decode cX12_partOf 149 = .ok (.iaload, 1) := by decide +kernel
theorem dX12_partOf_150 : decode cX12_partOf 150 = .ok (.ineg, 1) := by decide +kernel
theorem dX12_partOf_151 : decode cX12_partOf 151 = .ok (.iastore, 1) := by decide +kernel
theorem dX12_partOf_152 : decode cX12_partOf 152 = .ok (.goto 36, 3) := by decide +kernel
theorem dX12_partOf_155 : decode cX12_partOf 155 = .ok (.iinc 4 (-1), 3) := by decide +kernel
theorem dX12_partOf_158 : decode cX12_partOf 158 = .ok (.aload_n 0, 1) := by decide +kernel
theorem dX12_partOf_159 : decode cX12_partOf 159 = .ok (.getfield 338, 3) := by decide +kernel
theorem dX12_partOf_162 : decode cX12_partOf 162 = .ok (.iload 4, 2) := by decide +kernel
theorem dX12_partOf_164 : decode cX12_partOf 164 = .ok (.iconst 1, 1) := by decide +kernel
theorem dX12_partOf_165 : decode cX12_partOf 165 = .ok (.isub, 1) := by decide +kernel
theorem dX12_partOf_166 : decode cX12_partOf 166 = .ok (.iload 6, 2) := by decide +kernel
theorem dX12_partOf_168 : decode cX12_partOf 168 = .ok (.aload_n 0, 1) := by decide +kernel
theorem dX12_partOf_169 : decode cX12_partOf 169 = .ok (.getfield 338, 3) := by decide +kernel
theorem dX12_partOf_172 : decode cX12_partOf 172 = .ok (.iload 4, 2) := by decide +kernel
theorem dX12_partOf_174 : decode cX12_partOf 174 = .ok (.iconst 1, 1) := by decide +kernel
theorem dX12_partOf_175 : decode cX12_partOf 175 = .ok (.isub, 1) := by decide +kernel
theorem dX12_partOf_176 : decode cX12_partOf 176 = .ok (.iaload, 1) := by decide +kernel
theorem dX12_partOf_177 : decode cX12_partOf 177 = .ok (.aload_n 0, 1) := by decide +kernel
theorem dX12_partOf_178 : decode cX12_partOf 178 = .ok (.getfield 338, 3) := by decide +kernel
theorem dX12_partOf_181 : decode cX12_partOf 181 = .ok (.iload 4, 2) := by decide +kernel
theorem dX12_partOf_183 : decode cX12_partOf 183 = .ok (.iaload, 1) := by decide +kernel
theorem dX12_partOf_184 : decode cX12_partOf 184 = .ok (.invokestatic 344, 3) := by decide +kernel
theorem dX12_partOf_187 : decode cX12_partOf 187 = .ok (.iastore, 1) := by decide +kernel
theorem dX12_partOf_188 : decode cX12_partOf 188 = .ok (.iinc 5 1, 3) := by decide +kernel
theorem dX12_partOf_191 : decode cX12_partOf 191 = .ok (.goto (-176), 3) := by decide +kernel
theorem dX12_partOf_194 : decode cX12_partOf 194 = .ok (.aload_n 0, 1) := by decide +kernel
theorem dX12_partOf_195 : decode cX12_partOf 195 = .ok (.getfield 338, 3) := by decide +kernel
theorem dX12_partOf_198 : decode cX12_partOf 198 = .ok (.iconst 0, 1) := by decide +kernel
theorem dX12_partOf_199 : decode cX12_partOf 199 = .ok (.iaload, 1) := by decide +kernel
theorem dX12_partOf_200 : decode cX12_partOf 200 = .ok (.ireturn, 1) := by decide +kernel
theorem dX12_init_0 : decode cX12_init 0 = .ok (.aload_n 0, 1) := by decide +kernel
theorem dX12_init_1 : decode cX12_init 1 = .ok (.invokespecial 347, 3) := by decide +kernel
theorem dX12_init_4 : decode cX12_init 4 = .ok (.aload_n 0, 1) := by decide +kernel
theorem dX12_init_5 : decode cX12_init 5 = .ok (.bipush 40, 2) := by decide +kernel
theorem dX12_init_7 : decode cX12_init 7 = .ok (.newarray .int, 2) := by decide +kernel
theorem dX12_init_9 : decode cX12_init 9 = .ok (.putfield 29, 3) := by decide +kernel
theorem dX12_init_12 : decode cX12_init 12 = .ok (.aload_n 0, 1) := by decide +kernel
theorem dX12_init_13 : decode cX12_init 13 = .ok (.bipush 40, 2) := by decide +kernel
theorem dX12_init_15 : decode cX12_init 15 = .ok (.newarray .int, 2) := by decide +kernel
theorem dX12_init_17 : decode cX12_init 17 = .ok (.putfield 33, 3) := by decide +kernel
theorem dX12_init_20 : decode cX12_init 20 = .ok (.aload_n 0, 1) := by decide +kernel
theorem dX12_init_21 : decode cX12_init 21 = .ok (.bipush 40, 2) := by decide +kernel
theorem dX12_init_23 : decode cX12_init 23 = .ok (.newarray .int, 2) := by decide +kernel
theorem dX12_init_25 : decode cX12_init 25 = .ok (.putfield 36, 3) := by decide +kernel
theorem dX12_init_28 : decode cX12_init 28 = .ok (.aload_n 0, 1) := by decide +kernel
theorem dX12_init_29 : decode cX12_init 29 = .ok (.bipush 100, 2) := by decide +kernel
theorem dX12_init_31 : decode cX12_init 31 = .ok (.newarray .int, 2) := by decide +kernel
theorem dX12_init_33 : decode cX12_init 33 = .ok (.putfield 48, 3) := by decide +kernel
theorem dX12_init_36 : decode cX12_init 36 = .ok (.aload_n 0, 1) := by decide +kernel
theorem dX12_init_37 : decode cX12_init 37 = .ok (.bipush 48, 2) := by decide +kernel
theorem dX12_init_39 : decode cX12_init 39 = .ok (.newarray .int, 2) := by decide +kernel
theorem dX12_init_41 : decode cX12_init 41 = .ok (.putfield 53, 3) := by decide +kernel
theorem dX12_init_44 : decode cX12_init 44 = .ok (.aload_n 0, 1) := by decide +kernel
theorem dX12_init_45 : decode cX12_init 45 = .ok (.bipush 48, 2) := by decide +kernel
theorem dX12_init_47 : decode cX12_init 47 = .ok (.newarray .int, 2) := by decide +kernel
theorem dX12_init_49 : decode cX12_init 49 = .ok (.putfield 56, 3) := by decide +kernel
theorem dX12_init_52 : decode cX12_init 52 = .ok (.aload_n 0, 1) := by decide +kernel
theorem dX12_init_53 : decode cX12_init 53 = .ok (.bipush 48, 2) := by decide +kernel
theorem dX12_init_55 : decode cX12_init 55 = .ok (.newarray .int, 2) := by decide +kernel
theorem dX12_init_57 : decode cX12_init 57 = .ok (.dup, 1) := by decide +kernel
theorem dX12_init_58 : decode cX12_init 58 = .ok (.iconst 0, 1) := by decide +kernel
theorem dX12_init_59 : decode cX12_init 59 = .ok (.bipush 10, 2) := by decide +kernel
theorem dX12_init_61 : decode cX12_init 61 = .ok (.iastore, 1) := by decide +kernel
theorem dX12_init_62 : decode cX12_init 62 = .ok (.dup, 1) := by decide +kernel
theorem dX12_init_63 : decode cX12_init 63 = .ok (.iconst 1, 1) := by decide +kernel
theorem dX12_init_64 : decode cX12_init 64 = .ok (.bipush 10, 2) := by decide +kernel
theorem dX12_init_66 : decode cX12_init 66 = .ok (.iastore, 1) := by decide +kernel
theorem dX12_init_67 : decode cX12_init 67 = .ok (.dup, 1) := by decide +kernel
theorem dX12_init_68 : decode cX12_init 68 = .ok (.iconst 2, 1) := by decide +kernel
theorem dX12_init_69 : decode cX12_init 69 = .ok (.bipush 10, 2) := by decide +kernel
theorem dX12_init_71 : decode cX12_init 71 = .ok (.iastore, 1) := by decide +kernel
theorem dX12_init_72 : decode cX12_init 72 = .ok (.dup, 1) := by decide +kernel
theorem dX12_init_73 : decode cX12_init 73 = .ok (.iconst 3, 1) := by decide +kernel
theorem dX12_init_74 : decode cX12_init 74 = .ok (.bipush 10, 2) := by decide +kernel
theorem dX12_init_76 : decode cX12_init 76 = .ok (.iastore, 1) := by decide +kernel
theorem dX12_init_77 : decode cX12_init 77 = .ok (.dup, 1) := by decide +kernel
theorem dX12_init_78 : decode cX12_init 78 = .ok (.iconst 4, 1) := by decide +kernel
theorem dX12_init_79 : decode cX12_init 79 = .ok (.bipush 10, 2) := by decide +kernel
theorem dX12_init_81 : decode cX12_init 81 = .ok (.iastore, 1) := by decide +kernel
theorem dX12_init_82 : decode cX12_init 82 = .ok (.dup, 1) := by decide +kernel
theorem dX12_init_83 : decode cX12_init 83 = .ok (.iconst 5, 1) := by decide +kernel
theorem dX12_init_84 : decode cX12_init 84 = .ok (.bipush 10, 2) := by decide +kernel
theorem dX12_init_86 : decode cX12_init 86 = .ok (.iastore, 1) := by decide +kernel
theorem dX12_init_87 : decode cX12_init 87 = .ok (.dup, 1) := by decide +kernel
theorem dX12_init_88 : decode cX12_init 88 = .ok (.bipush 6, 2) := by decide +kernel
theorem dX12_init_90 : decode cX12_init 90 = .ok (.bipush 10, 2) := by decide +kernel
theorem dX12_init_92 : decode cX12_init 92 = .ok (.iastore, 1) := by decide +kernel
theorem dX12_init_93 : decode cX12_init 93 = .ok (.dup, 1) := by decide +kernel
theorem dX12_init_94 : decode cX12_init 94 = .ok (.bipush 7, 2) := by decide +kernel
theorem dX12_init_96 : decode cX12_init 96 = .ok (.bipush 10, 2) := by decide +kernel
theorem dX12_init_98 : decode cX12_init 98 = .ok (.iastore, 1) := by decide +kernel
theorem dX12_init_99 : decode cX12_init 99 = .ok (.dup, 1) := by decide +kernel
theorem dX12_init_100 : decode cX12_init 100 = .ok (.bipush 8, 2) := by decide +kernel
theorem dX12_init_102 : decode cX12_init 102 = .ok (.bipush 10, 2) := by decide +kernel
theorem dX12_init_104 : decode cX12_init 104 = .ok (.iastore, 1) := by decide +kernel
theorem dX12_init_105 : decode cX12_init 105 = .ok (.dup, 1) := by decide +kernel
theorem dX12_init_106 : decode cX12_init 106 = .ok (.bipush 9, 2) := by decide +kernel
theorem dX12_init_108 : decode cX12_init 108 = .ok (.bipush 10, 2) := by decide +kernel
theorem dX12_init_110 : decode cX12_init 110 = .ok (.iastore, 1) := by decide +kernel
theorem dX12_init_111 : decode cX12_init 111 = .ok (.dup, 1) := by decide +kernel
theorem dX12_init_112 : decode cX12_init 112 = .ok (.bipush 10, 2) := by decide +kernel
theorem dX12_init_114 : decode cX12_init 114 = .ok (.bipush 10, 2) := by decide +kernel
theorem dX12_init_116 : decode cX12_init 116 = .ok (.iastore, 1) := by decide +kernel
theorem dX12_init_117 : decode cX12_init 117 = .ok (.dup, 1) := by decide +kernel
theorem dX12_init_118 : decode cX12_init 118 = .ok (.bipush 11, 2) := by decide +kernel
theorem dX12_init_120 : decode cX12_init 120 = .ok (.bipush 10, 2) := by decide +kernel
theorem dX12_init_122 : decode cX12_init 122 = .ok (.iastore, 1) := by decide +kernel
theorem dX12_init_123 : decode cX12_init 123 = .ok (.dup, 1) := by decide +kernel
theorem dX12_init_124 : decode cX12_init 124 = .ok (.bipush 12, 2) := by decide +kernel
theorem dX12_init_126 : decode cX12_init 126 = .ok (.bipush 10, 2) := by decide +kernel
theorem dX12_init_128 : decode cX12_init 128 = .ok (.iastore, 1) := by decide +kernel
theorem dX12_init_129 : decode cX12_init 129 = .ok (.dup, 1) := by decide +kernel
theorem dX12_init_130 : decode cX12_init 130 = .ok (.bipush 13, 2) := by decide +kernel
theorem dX12_init_132 : decode cX12_init 132 = .ok (.bipush 10, 2) := by decide +kernel
theorem dX12_init_134 : decode cX12_init 134 = .ok (.iastore, 1) := by decide +kernel
theorem dX12_init_135 : decode cX12_init 135 = .ok (.dup, 1) := by decide +kernel
theorem dX12_init_136 : decode cX12_init 136 = .ok (.bipush 14, 2) := by decide +kernel
theorem dX12_init_138 : decode cX12_init 138 = .ok (.bipush 10, 2) := by decide +kernel
theorem dX12_init_140 : decode cX12_init 140 = .ok (.iastore, 1) := by decide +kernel
theorem dX12_init_141 : decode cX12_init 141 = .ok (.dup, 1) := by decide +kernel
theorem dX12_init_142 : decode cX12_init 142 = .ok (.bipush 15, 2) := by decide +kernel
theorem dX12_init_144 : decode cX12_init 144 = .ok (.bipush 10, 2) := by decide +kernel
theorem dX12_init_146 : decode cX12_init 146 = .ok (.iastore, 1) := by decide +kernel
theorem dX12_init_147 : decode cX12_init 147 = .ok (.dup, 1) := by decide +kernel
theorem dX12_init_148 : decode cX12_init 148 = .ok (.bipush 16, 2) := by decide +kernel
theorem dX12_init_150 : decode cX12_init 150 = .ok (.bipush 10, 2) := by decide +kernel
theorem dX12_init_152 : decode cX12_init 152 = .ok (.iastore, 1) := by decide +kernel
theorem dX12_init_153 : decode cX12_init 153 = .ok (.dup, 1) := by decide +kernel
theorem dX12_init_154 : decode cX12_init 154 = .ok (.bipush 17, 2) := by decide +kernel
theorem dX12_init_156 : decode cX12_init 156 = .ok (.bipush 10, 2) := by decide +kernel
theorem dX12_init_158 : decode cX12_init 158 = .ok (.iastore, 1) := by decide +kernel
theorem dX12_init_159 : decode cX12_init 159 = .ok (.dup, 1) := by decide +kernel
theorem dX12_init_160 : decode cX12_init 160 = .ok (.bipush 18, 2) := by decide +kernel
theorem dX12_init_162 : decode cX12_init 162 = .ok (.bipush 10, 2) := by decide +kernel
theorem dX12_init_164 : decode cX12_init 164 = .ok (.iastore, 1) := by decide +kernel
theorem dX12_init_165 : decode cX12_init 165 = .ok (.dup, 1) := by decide +kernel
theorem dX12_init_166 : decode cX12_init 166 = .ok (.bipush 19, 2) := by decide +kernel
theorem dX12_init_168 : decode cX12_init 168 = .ok (.bipush 10, 2) := by decide +kernel
theorem dX12_init_170 : decode cX12_init 170 = .ok (.iastore, 1) := by decide +kernel
theorem dX12_init_171 : decode cX12_init 171 = .ok (.dup, 1) := by decide +kernel
theorem dX12_init_172 : decode cX12_init 172 = .ok (.bipush 20, 2) := by decide +kernel
theorem dX12_init_174 : decode cX12_init 174 = .ok (.bipush 10, 2) := by decide +kernel
theorem dX12_init_176 : decode cX12_init 176 = .ok (.iastore, 1) := by decide +kernel
theorem dX12_init_177 : decode cX12_init 177 = .ok (.dup, 1) := by decide +kernel
theorem dX12_init_178 : decode cX12_init 178 = .ok (.bipush 21, 2) := by decide +kernel
theorem dX12_init_180 : decode cX12_init 180 = .ok (.bipush 10, 2) := by decide +kernel
theorem dX12_init_182 : decode cX12_init 182 = .ok (.iastore, 1) := by decide +kernel
theorem dX12_init_183 : decode cX12_init 183 = .ok (.dup, 1) := by decide +kernel
theorem dX12_init_184 : decode cX12_init 184 = .ok (.bipush 22, 2) := by decide +kernel
theorem dX12_init_186 : decode cX12_init 186 = .ok (.bipush 10, 2) := by decide +kernel
theorem dX12_init_188 : decode cX12_init 188 = .ok (.iastore, 1) := by decide +kernel
theorem dX12_init_189 : decode cX12_init 189 = .ok (.dup, 1) := by decide +kernel
theorem dX12_init_190 : decode cX12_init 190 = .ok (.bipush 23, 2) := by decide +kernel
theorem dX12_init_192 : decode cX12_init 192 = .ok (.bipush 10, 2) := by decide +kernel
theorem dX12_init_194 : decode cX12_init 194 = .ok (.iastore, 1) := by decide +kernel
theorem dX12_init_195 : decode cX12_init 195 = .ok (.dup, 1) := by decide +kernel
theorem dX12_init_196 : decode cX12_init 196 = .ok (.bipush 24, 2) := by decide +kernel
theorem dX12_init_198 : decode cX12_init 198 = .ok (.bipush 10, 2) := by decide +kernel
theorem dX12_init_200 : decode cX12_init 200 = .ok (.iastore, 1) := by decide +kernel
theorem dX12_init_201 : decode cX12_init 201 = .ok (.dup, 1) := by decide +kernel
theorem dX12_init_202 : decode cX12_init 202 = .ok (.bipush 25, 2) := by decide +kernel
theorem dX12_init_204 : decode cX12_init 204 = .ok (.bipush 10, 2) := by decide +kernel
theorem dX12_init_206 : decode cX12_init 206 = .ok (.iastore, 1) := by decide +kernel
theorem dX12_init_207 : decode cX12_init 207 = .ok (.dup, 1) := by decide +kernel
theorem dX12_init_208 : decode cX12_init 208 = .ok (.bipush 26, 2) := by decide +kernel
theorem dX12_init_210 : decode cX12_init 210 = .ok (.bipush 10, 2) := by decide +kernel
theorem dX12_init_212 : decode cX12_init 212 = .ok (.iastore, 1) := by decide +kernel
theorem dX12_init_213 : decode cX12_init 213 = .ok (.dup, 1) := by decide +kernel
theorem dX12_init_214 : decode cX12_init 214 = .ok (.bipush 27, 2) := by decide +kernel
theorem dX12_init_216 : decode cX12_init 216 = .ok (.bipush 10, 2) := by decide +kernel
theorem dX12_init_218 : decode cX12_init 218 = .ok (.iastore, 1) := by decide +kernel
theorem dX12_init_219 : decode cX12_init 219 = .ok (.dup, 1) := by decide +kernel
theorem dX12_init_220 : decode cX12_init 220 = .ok (.bipush 28, 2) := by decide +kernel
theorem dX12_init_222 : decode cX12_init 222 = .ok (.bipush 10, 2) := by decide +kernel
theorem dX12_init_224 : decode cX12_init 224 = .ok (.iastore, 1) := by decide +kernel
theorem dX12_init_225 : decode cX12_init 225 = .ok (.dup, 1) := by decide +kernel
theorem dX12_init_226 : decode cX12_init 226 = .ok (.bipush 29, 2) := by decide +kernel
theorem dX12_init_228 : decode cX12_init 228 = .ok (.bipush 10, 2) := by decide +kernel
theorem dX12_init_230 : decode cX12_init 230 = .ok (.iastore, 1) := by decide +kernel
theorem dX12_init_231 : decode cX12_init 231 = .ok (.dup, 1) := by decide +kernel
theorem dX12_init_232 : decode cX12_init 232 = .ok (.bipush 30, 2) := by decide +kernel
theorem dX12_init_234 : decode cX12_init 234 = .ok (.bipush 10, 2) := by decide +kernel
theorem dX12_init_236 : decode cX12_init 236 = .ok (.iastore, 1) := by decide +kernel
theorem dX12_init_237 : decode cX12_init 237 = .ok (.dup, 1) := by decide +kernel
theorem dX12_init_238 : decode cX12_init 238 = .ok (.bipush 31, 2) := by decide +kernel
theorem dX12_init_240 : decode cX12_init 240 = .ok (.bipush 10, 2) := by decide +kernel
theorem dX12_init_242 : decode cX12_init 242 = .ok (.iastore, 1) := by decide +kernel
theorem dX12_init_243 : decode cX12_init 243 = .ok (.dup, 1) := by decide +kernel
theorem dX12_init_244 : decode cX12_init 244 = .ok (.bipush 32, 2) := by decide +kernel
theorem dX12_init_246 : decode cX12_init 246 = .ok (.bipush 10, 2) := by decide +kernel
theorem dX12_init_248 : decode cX12_init 248 = .ok (.iastore, 1) := by decide +kernel
theorem dX12_init_249 : decode cX12_init 249 = .ok (.dup, 1) := by decide +kernel
theorem dX12_init_250 : decode cX12_init 250 = .ok (.bipush 33, 2) := by decide +kernel
theorem dX12_init_252 : decode cX12_init 252 = .ok (.bipush 10, 2) := by decide +kernel
theorem dX12_init_254 : decode cX12_init 254 = .ok (.iastore, 1) := by decide +kernel
theorem dX12_init_255 : decode cX12_init 255 = .ok (.dup, 1) := by decide +kernel
theorem dX12_init_256 : decode cX12_init 256 = .ok (.bipush 34, 2) := by decide +kernel
theorem dX12_init_258 : decode cX12_init 258 = .ok (.bipush 10, 2) := by decide +kernel
theorem dX12_init_260 : decode cX12_init 260 = .ok (.iastore, 1) := by decide +kernel
theorem dX12_init_261 : decode cX12_init 261 = .ok (.dup, 1) := by decide +kernel
theorem dX12_init_262 : decode cX12_init 262 = .ok (.bipush 35, 2) := by decide +kernel
theorem dX12_init_264 : decode cX12_init 264 = .ok (.bipush 10, 2) := by decide +kernel
theorem dX12_init_266 : decode cX12_init 266 = .ok (.iastore, 1) := by decide +kernel
theorem dX12_init_267 : decode cX12_init 267 = .ok (.dup, 1) := by decide +kernel
theorem dX12_init_268 : decode cX12_init 268 = .ok (.bipush 36, 2) := by decide +kernel
theorem dX12_init_270 : decode cX12_init 270 = .ok (.bipush 10, 2) := by decide +kernel
theorem dX12_init_272 : decode cX12_init 272 = .ok (.iastore, 1) := by decide +kernel
theorem dX12_init_273 : decode cX12_init 273 = .ok (.dup, 1) := by decide +kernel
theorem dX12_init_274 : decode cX12_init 274 = .ok (.bipush 37, 2) := by decide +kernel
theorem dX12_init_276 : decode cX12_init 276 = .ok (.bipush 10, 2) := by decide +kernel
theorem dX12_init_278 : decode cX12_init 278 = .ok (.iastore, 1) := by decide +kernel
theorem dX12_init_279 : decode cX12_init 279 = .ok (.dup, 1) := by decide +kernel
theorem dX12_init_280 : decode cX12_init 280 = .ok (.bipush 38, 2) := by decide +kernel
theorem dX12_init_282 : decode cX12_init 282 = .ok (.bipush 10, 2) := by decide +kernel
theorem dX12_init_284 : decode cX12_init 284 = .ok (.iastore, 1) := by decide +kernel
theorem dX12_init_285 : decode cX12_init 285 = .ok (.dup, 1) := by decide +kernel
theorem dX12_init_286 : decode cX12_init 286 = .ok (.bipush 39, 2) := by decide +kernel
theorem dX12_init_288 : decode cX12_init 288 = .ok (.bipush 10, 2) := by decide +kernel
theorem dX12_init_290 : decode cX12_init 290 = .ok (.iastore, 1) := by decide +kernel
theorem dX12_init_291 : decode cX12_init 291 = .ok (.dup, 1) := by decide +kernel
theorem dX12_init_292 : decode cX12_init 292 = .ok (.bipush 40, 2) := by decide +kernel
theorem dX12_init_294 : decode cX12_init 294 = .ok (.bipush 10, 2) := by decide +kernel
theorem dX12_init_296 : decode cX12_init 296 = .ok (.iastore, 1) := by decide +kernel
theorem dX12_init_297 : decode cX12_init 297 = .ok (.dup, 1) := by decide +kernel
theorem dX12_init_298 : decode cX12_init 298 = .ok (.bipush 41, 2) := by decide +kernel
theorem dX12_init_300 : decode cX12_init 300 = .ok (.bipush 10, 2) := by decide +kernel
theorem dX12_init_302 : decode cX12_init 302 = .ok (.iastore, 1) := by decide +kernel
theorem dX12_init_303 : decode cX12_init 303 = .ok (.dup, 1) := by decide +kernel
theorem dX12_init_304 : decode cX12_init 304 = .ok (.bipush 42, 2) := by decide +kernel
theorem dX12_init_306 : decode cX12_init 306 = .ok (.bipush 10, 2) := by decide +kernel
theorem dX12_init_308 : decode cX12_init 308 = .ok (.iastore, 1) := by decide +kernel
theorem dX12_init_309 : decode cX12_init 309 = .ok (.dup, 1) := by decide +kernel
theorem dX12_init_310 : decode cX12_init 310 = .ok (.bipush 43, 2) := by decide +kernel
theorem dX12_init_312 : decode cX12_init 312 = .ok (.bipush 10, 2) := by decide +kernel
theorem dX12_init_314 : decode cX12_init 314 = .ok (.iastore, 1) := by decide +kernel
theorem dX12_init_315 : decode cX12_init 315 = .ok (.dup, 1) := by decide +kernel
theorem dX12_init_316 : decode cX12_init 316 = .ok (.bipush 44, 2) := by decide +kernel
theorem dX12_init_318 : decode cX12_init 318 = .ok (.bipush 10, 2) := by decide +kernel
theorem dX12_init_320 : decode cX12_init 320 = .ok (.iastore, 1) := by decide +kernel
theorem dX12_init_321 : decode cX12_init 321 = .ok (.dup, 1) := by decide +kernel
theorem dX12_init_322 : decode cX12_init 322 = .ok (.bipush 45, 2) := by decide +kernel
theorem dX12_init_324 : decode cX12_init 324 = .ok (.bipush 10, 2) := by decide +kernel
theorem dX12_init_326 : decode cX12_init 326 = .ok (.iastore, 1) := by decide +kernel
theorem dX12_init_327 : decode cX12_init 327 = .ok (.dup, 1) := by decide +kernel
theorem dX12_init_328 : decode cX12_init 328 = .ok (.bipush 46, 2) := by decide +kernel
theorem dX12_init_330 : decode cX12_init 330 = .ok (.bipush 10, 2) := by decide +kernel
theorem dX12_init_332 : decode cX12_init 332 = .ok (.iastore, 1) := by decide +kernel
theorem dX12_init_333 : decode cX12_init 333 = .ok (.dup, 1) := by decide +kernel
theorem dX12_init_334 : decode cX12_init 334 = .ok (.bipush 47, 2) := by decide +kernel
theorem dX12_init_336 : decode cX12_init 336 = .ok (.bipush 10, 2) := by decide +kernel
theorem dX12_init_338 : decode cX12_init 338 = .ok (.iastore, 1) := by decide +kernel
theorem dX12_init_339 : decode cX12_init 339 = .ok (.putfield 61, 3) := by decide +kernel
theorem dX12_init_342 : decode cX12_init 342 = .ok (.aload_n 0, 1) := by decide +kernel
theorem dX12_init_343 : decode cX12_init 343 = .ok (.bipush 48, 2) := by decide +kernel
theorem dX12_init_345 : decode cX12_init 345 = .ok (.newarray .int, 2) := by decide +kernel
theorem dX12_init_347 : decode cX12_init 347 = .ok (.putfield 64, 3) := by decide +kernel
theorem dX12_init_350 : decode cX12_init 350 = .ok (.aload_n 0, 1) := by decide +kernel
theorem dX12_init_351 : decode cX12_init 351 = .ok (.bipush 48, 2) := by decide +kernel
theorem dX12_init_353 : decode cX12_init 353 = .ok (.newarray .int, 2) := by decide +kernel
theorem dX12_init_355 : decode cX12_init 355 = .ok (.putfield 67, 3) := by decide +kernel
theorem dX12_init_358 : decode cX12_init 358 = .ok (.aload_n 0, 1) := by decide +kernel
theorem dX12_init_359 : decode cX12_init 359 = .ok (.bipush 48, 2) := by decide +kernel
theorem dX12_init_361 : decode cX12_init 361 = .ok (.newarray .int, 2) := by decide +kernel
theorem dX12_init_363 : decode cX12_init 363 = .ok (.putfield 70, 3) := by decide +kernel
theorem dX12_init_366 : decode cX12_init 366 = .ok (.aload_n 0, 1) := by decide +kernel
theorem dX12_init_367 : decode cX12_init 367 = .ok (.bipush 48, 2) := by decide +kernel
theorem dX12_init_369 : decode cX12_init 369 = .ok (.newarray .int, 2) := by decide +kernel
theorem dX12_init_371 : decode cX12_init 371 = .ok (.putfield 73, 3) := by decide +kernel
theorem dX12_init_374 : decode cX12_init 374 = .ok (.aload_n 0, 1) := by decide +kernel
theorem dX12_init_375 : decode cX12_init 375 = .ok (.bipush 16, 2) := by decide +kernel
theorem dX12_init_377 : decode cX12_init 377 = .ok (.newarray .int, 2) := by decide +kernel
theorem dX12_init_379 : decode cX12_init 379 = .ok (.putfield 92, 3) := by decide +kernel
theorem dX12_init_382 : decode cX12_init 382 = .ok (.aload_n 0, 1) := by decide +kernel
theorem dX12_init_383 : decode cX12_init 383 = .ok (.bipush 16, 2) := by decide +kernel
theorem dX12_init_385 : decode cX12_init 385 = .ok (.newarray .int, 2) := by decide +kernel
theorem dX12_init_387 : decode cX12_init 387 = .ok (.putfield 95, 3) := by decide +kernel
theorem dX12_init_390 : decode cX12_init 390 = .ok (.aload_n 0, 1) := by decide +kernel
theorem dX12_init_391 : decode cX12_init 391 = .ok (.bipush 16, 2) := by decide +kernel
theorem dX12_init_393 : decode cX12_init 393 = .ok (.newarray .int, 2) := by decide +kernel
theorem dX12_init_395 : decode cX12_init 395 = .ok (.putfield 105, 3) := by decide +kernel
theorem dX12_init_398 : decode cX12_init 398 = .ok (.aload_n 0, 1) := by decide +kernel
theorem dX12_init_399 : decode cX12_init 399 = .ok (.bipush 16, 2) := by decide +kernel
theorem dX12_init_401 : decode cX12_init 401 = .ok (.newarray .int, 2) := by decide +kernel
theorem dX12_init_403 : decode cX12_init 403 = .ok (.putfield 108, 3) := by decide +kernel
theorem dX12_init_406 : decode cX12_init 406 = .ok (.aload_n 0, 1) := by decide +kernel
theorem dX12_init_407 : decode cX12_init 407 = .ok (.bipush 16, 2) := by decide +kernel
theorem dX12_init_409 : decode cX12_init 409 = .ok (.newarray .int, 2) := by decide +kernel
theorem dX12_init_411 : decode cX12_init 411 = .ok (.putfield 111, 3) := by decide +kernel
theorem dX12_init_414 : decode cX12_init 414 = .ok (.aload_n 0, 1) := by decide +kernel
theorem dX12_init_415 : decode cX12_init 415 = .ok (.bipush 16, 2) := by decide +kernel
theorem dX12_init_417 : decode cX12_init 417 = .ok (.newarray .int, 2) := by decide +kernel
theorem dX12_init_419 : decode cX12_init 419 = .ok (.putfield 114, 3) := by decide +kernel
theorem dX12_init_422 : decode cX12_init 422 = .ok (.aload_n 0, 1) := by decide +kernel
theorem dX12_init_423 : decode cX12_init 423 = .ok (.bipush 16, 2) := by decide +kernel
theorem dX12_init_425 : decode cX12_init 425 = .ok (.newarray .int, 2) := by decide +kernel
theorem dX12_init_427 : decode cX12_init 427 = .ok (.putfield 117, 3) := by decide +kernel
theorem dX12_init_430 : decode cX12_init 430 = .ok (.aload_n 0, 1) := by decide +kernel
theorem dX12_init_431 : decode cX12_init 431 = .ok (.bipush 16, 2) := by decide +kernel
theorem dX12_init_433 : decode cX12_init 433 = .ok (.newarray .int, 2) := by decide +kernel
theorem dX12_init_435 : decode cX12_init 435 = .ok (.putfield 120, 3) := by decide +kernel
theorem dX12_init_438 : decode cX12_init 438 = .ok (.aload_n 0, 1) := by decide +kernel
theorem dX12_init_439 : decode cX12_init 439 = .ok (.bipush 6, 2) := by decide +kernel
theorem dX12_init_441 : decode cX12_init 441 = .ok (.newarray .int, 2) := by decide +kernel
theorem dX12_init_443 : decode cX12_init 443 = .ok (.dup, 1) := by decide +kernel
theorem dX12_init_444 : decode cX12_init 444 = .ok (.iconst 0, 1) := by decide +kernel
theorem dX12_init_445 : decode cX12_init 445 = .ok (.sipush 365, 3) := by decide +kernel
theorem dX12_init_448 : decode cX12_init 448 = .ok (.iastore, 1) := by decide +kernel
theorem dX12_init_449 : decode cX12_init 449 = .ok (.dup, 1) := by decide +kernel
theorem dX12_init_450 : decode cX12_init 450 = .ok (.iconst 1, 1) := by decide +kernel
theorem dX12_init_451 : decode cX12_init 451 = .ok (.sipush 9999, 3) := by decide +kernel
theorem dX12_init_454 : decode cX12_init 454 = .ok (.iastore, 1) := by decide +kernel
theorem dX12_init_455 : decode cX12_init 455 = .ok (.dup, 1) := by decide +kernel
theorem dX12_init_456 : decode cX12_init 456 = .ok (.iconst 2, 1) := by decide +kernel
theorem dX12_init_457 : decode cX12_init 457 = .ok (.sipush 5475, 3) := by decide +kernel
theorem dX12_init_460 : decode cX12_init 460 = .ok (.iastore, 1) := by decide +kernel
theorem dX12_init_461 : decode cX12_init 461 = .ok (.dup, 1) := by decide +kernel
theorem dX12_init_462 : decode cX12_init 462 = .ok (.iconst 3, 1) := by decide +kernel
theorem dX12_init_463 : decode cX12_init 463 = .ok (.sipush 9999, 3) := by decide +kernel
theorem dX12_init_466 : decode cX12_init 466 = .ok (.iastore, 1) := by decide +kernel
theorem dX12_init_467 : decode cX12_init 467 = .ok (.dup, 1) := by decide +kernel
theorem dX12_init_468 : decode cX12_init 468 = .ok (.iconst 4, 1) := by decide +kernel
theorem dX12_init_469 : decode cX12_init 469 = .ok (.sipush 1825, 3) := by decide +kernel
theorem dX12_init_472 : decode cX12_init 472 = .ok (.iastore, 1) := by decide +kernel
theorem dX12_init_473 : decode cX12_init 473 = .ok (.dup, 1) := by decide +kernel
theorem dX12_init_474 : decode cX12_init 474 = .ok (.iconst 5, 1) := by decide +kernel
theorem dX12_init_475 : decode cX12_init 475 = .ok (.sipush 1825, 3) := by decide +kernel
theorem dX12_init_478 : decode cX12_init 478 = .ok (.iastore, 1) := by decide +kernel
theorem dX12_init_479 : decode cX12_init 479 = .ok (.putfield 178, 3) := by decide +kernel
theorem dX12_init_482 : decode cX12_init 482 = .ok (.aload_n 0, 1) := by decide +kernel
theorem dX12_init_483 : decode cX12_init 483 = .ok (.bipush 6, 2) := by decide +kernel
theorem dX12_init_485 : decode cX12_init 485 = .ok (.newarray .int, 2) := by decide +kernel
theorem dX12_init_487 : decode cX12_init 487 = .ok (.dup, 1) := by decide +kernel
theorem dX12_init_488 : decode cX12_init 488 = .ok (.iconst 0, 1) := by decide +kernel
theorem dX12_init_489 : decode cX12_init 489 = .ok (.iconst 0, 1) := by decide +kernel
theorem dX12_init_490 : decode cX12_init 490 = .ok (.iastore, 1) := by decide +kernel
theorem dX12_init_491 : decode cX12_init 491 = .ok (.dup, 1) := by decide +kernel
theorem dX12_init_492 : decode cX12_init 492 = .ok (.iconst 1, 1) := by decide +kernel
theorem dX12_init_493 : decode cX12_init 493 = .ok (.iconst 1, 1) := by decide +kernel
theorem dX12_init_494 : decode cX12_init 494 = .ok (.iastore, 1) := by decide +kernel
theorem dX12_init_495 : decode cX12_init 495 = .ok (.dup, 1) := by decide +kernel
theorem dX12_init_496 : decode cX12_init 496 = .ok (.iconst 2, 1) := by decide +kernel
theorem dX12_init_497 : decode cX12_init 497 = .ok (.iconst 0, 1) := by decide +kernel
theorem dX12_init_498 : decode cX12_init 498 = .ok (.iastore, 1) := by decide +kernel
theorem dX12_init_499 : decode cX12_init 499 = .ok (.dup, 1) := by decide +kernel
theorem dX12_init_500 : decode cX12_init 500 = .ok (.iconst 3, 1) := by decide +kernel
theorem dX12_init_501 : decode cX12_init 501 = .ok (.iconst 1, 1) := by decide +kernel
theorem dX12_init_502 : decode cX12_init 502 = .ok (.iastore, 1) := by decide +kernel
theorem dX12_init_503 : decode cX12_init 503 = .ok (.dup, 1) := by decide +kernel
theorem dX12_init_504 : decode cX12_init 504 = .ok (.iconst 4, 1) := by decide +kernel
theorem dX12_init_505 : decode cX12_init 505 = .ok (.iconst 1, 1) := by decide +kernel
theorem dX12_init_506 : decode cX12_init 506 = .ok (.iastore, 1) := by decide +kernel
theorem dX12_init_507 : decode cX12_init 507 = .ok (.dup, 1) := by decide +kernel
theorem dX12_init_508 : decode cX12_init 508 = .ok (.iconst 5, 1) := by decide +kernel
theorem dX12_init_509 : decode cX12_init 509 = .ok (.iconst 0, 1) := by decide +kernel
theorem dX12_init_510 : decode cX12_init 510 = .ok (.iastore, 1) := by decide +kernel
theorem dX12_init_511 : decode cX12_init 511 = .ok (.putfield 187, 3) := by decide +kernel
theorem dX12_init_514 : decode cX12_init 514 = .ok (.aload_n 0, 1) := by decide +kernel
theorem dX12_init_515 : decode cX12_init 515 = .ok (.bipush 24, 2) := by decide +kernel
theorem dX12_init_517 : decode cX12_init 517 = .ok (.newarray .int, 2) := by decide +kernel
theorem dX12_init_519 : decode cX12_init 519 = .ok (.putfield 163, 3) := by decide +kernel
theorem dX12_init_522 : decode cX12_init 522 = .ok (.aload_n 0, 1) := by decide +kernel
theorem dX12_init_523 : decode cX12_init 523 = .ok (.bipush 24, 2) := by decide +kernel
theorem dX12_init_525 : decode cX12_init 525 = .ok (.newarray .int, 2) := by decide +kernel
theorem dX12_init_527 : decode cX12_init 527 = .ok (.putfield 160, 3) := by decide +kernel
theorem dX12_init_530 : decode cX12_init 530 = .ok (.aload_n 0, 1) := by decide +kernel
theorem dX12_init_531 : decode cX12_init 531 = .ok (.bipush 24, 2) := by decide +kernel
theorem dX12_init_533 : decode cX12_init 533 = .ok (.newarray .int, 2) := by decide +kernel
theorem dX12_init_535 : decode cX12_init 535 = .ok (.putfield 166, 3) := by decide +kernel
theorem dX12_init_538 : decode cX12_init 538 = .ok (.aload_n 0, 1) := by decide +kernel
theorem dX12_init_539 : decode cX12_init 539 = .ok (.bipush 24, 2) := by decide +kernel
theorem dX12_init_541 : decode cX12_init 541 = .ok (.newarray .int, 2) := by decide +kernel
theorem dX12_init_543 : decode cX12_init 543 = .ok (.putfield 169, 3) := by decide +kernel
theorem dX12_init_546 : decode cX12_init 546 = .ok (.aload_n 0, 1) := by decide +kernel
theorem dX12_init_547 : decode cX12_init 547 = .ok (.bipush 24, 2) := by decide +kernel
theorem dX12_init_549 : decode cX12_init 549 = .ok (.newarray .int, 2) := by decide +kernel
theorem dX12_init_551 : decode cX12_init 551 = .ok (.putfield 172, 3) := by decide +kernel
theorem dX12_init_554 : decode cX12_init 554 = .ok (.aload_n 0, 1) := by decide +kernel
theorem dX12_init_555 : decode cX12_init 555 = .ok (.bipush 24, 2) := by decide +kernel
theorem dX12_init_557 : decode cX12_init 557 = .ok (.newarray .int, 2) := by decide +kernel
theorem dX12_init_559 : decode cX12_init 559 = .ok (.putfield 181, 3) := by decide +kernel
theorem dX12_init_562 : decode cX12_init 562 = .ok (.aload_n 0, 1) := by decide +kernel
theorem dX12_init_563 : decode cX12_init 563 = .ok (.bipush 24, 2) := by decide +kernel
theorem dX12_init_565 : decode cX12_init 565 = .ok (.newarray .boolean, 2) := by decide +kernel
theorem dX12_init_567 : decode cX12_init 567 = .ok (.putfield 200, 3) := by decide +kernel
theorem dX12_init_570 : decode cX12_init 570 = .ok (.aload_n 0, 1) := by decide +kernel
theorem dX12_init_571 : decode cX12_init 571 = .ok (.bipush 24, 2) := by decide +kernel
theorem dX12_init_573 : decode cX12_init 573 = .ok (.newarray .int, 2) := by decide +kernel
theorem dX12_init_575 : decode cX12_init 575 = .ok (.putfield 175, 3) := by decide +kernel
theorem dX12_init_578 : decode cX12_init 578 = .ok (.aload_n 0, 1) := by decide +kernel
theorem dX12_init_579 : decode cX12_init 579 = .ok (.bipush 10, 2) := by decide +kernel
theorem dX12_init_581 : decode cX12_init 581 = .ok (.newarray .long, 2) := by decide +kernel
theorem dX12_init_583 : decode cX12_init 583 = .ok (.putfield 214, 3) := by decide +kernel
theorem dX12_init_586 : decode cX12_init 586 = .ok (.aload_n 0, 1) := by decide +kernel
theorem dX12_init_587 : decode cX12_init 587 = .ok (.sipush 160, 3) := by decide +kernel
theorem dX12_init_590 : decode cX12_init 590 = .ok (.newarray .byte, 2) := by decide +kernel
theorem dX12_init_592 : decode cX12_init 592 = .ok (.putfield 231, 3) := by decide +kernel
theorem dX12_init_595 : decode cX12_init 595 = .ok (.aload_n 0, 1) := by decide +kernel
theorem dX12_init_596 : decode cX12_init 596 = .ok (.sipush 1920, 3) := by decide +kernel
theorem dX12_init_599 : decode cX12_init 599 = .ok (.newarray .int, 2) := by decide +kernel
theorem dX12_init_601 : decode cX12_init 601 = .ok (.putfield 266, 3) := by decide +kernel
theorem dX12_init_604 : decode cX12_init 604 = .ok (.aload_n 0, 1) := by decide +kernel
theorem dX12_init_605 : decode cX12_init 605 = .ok (.bipush 12, 2) := by decide +kernel
theorem dX12_init_607 : decode cX12_init 607 = .ok (.newarray .int, 2) := by decide +kernel
theorem dX12_init_609 : decode cX12_init 609 = .ok (.putfield 313, 3) := by decide +kernel
theorem dX12_init_612 : decode cX12_init 612 = .ok (.aload_n 0, 1) := by decide +kernel
theorem dX12_init_613 : decode cX12_init 613 = .ok (.bipush 41, 2) := by decide +kernel
theorem dX12_init_615 : decode cX12_init 615 = .ok (.newarray .char, 2) := by decide +kernel
theorem dX12_init_617 : decode cX12_init 617 = .ok (.dup, 1) := by decide +kernel
theorem dX12_init_618 : decode cX12_init 618 = .ok (.iconst 0, 1) := by decide +kernel
theorem dX12_init_619 : decode cX12_init 619 = .ok (.bipush 100, 2) := by decide +kernel
theorem dX12_init_621 : decode cX12_init 621 = .ok (.castore, 1) := by decide +kernel
theorem dX12_init_622 : decode cX12_init 622 = .ok (.dup, 1) := by decide +kernel
theorem dX12_init_623 : decode cX12_init 623 = .ok (.iconst 1, 1) := by decide +kernel
theorem dX12_init_624 : decode cX12_init 624 = .ok (.bipush 97, 2) := by decide +kernel
theorem dX12_init_626 : decode cX12_init 626 = .ok (.castore, 1) := by decide +kernel
theorem dX12_init_627 : decode cX12_init 627 = .ok (.dup, 1) := by decide +kernel
theorem dX12_init_628 : decode cX12_init 628 = .ok (.iconst 2, 1) := by decide +kernel
theorem dX12_init_629 : decode cX12_init 629 = .ok (.bipush 121, 2) := by decide +kernel
theorem dX12_init_631 : decode cX12_init 631 = .ok (.castore, 1) := by decide +kernel
theorem dX12_init_632 : decode cX12_init 632 = .ok (.dup, 1) := by decide +kernel
theorem dX12_init_633 : decode cX12_init 633 = .ok (.iconst 3, 1) := by decide +kernel
theorem dX12_init_634 : decode cX12_init 634 = .ok (.bipush 115, 2) := by decide +kernel
theorem dX12_init_636 : decode cX12_init 636 = .ok (.castore, 1) := by decide +kernel
theorem dX12_init_637 : decode cX12_init 637 = .ok (.dup, 1) := by decide +kernel
theorem dX12_init_638 : decode cX12_init 638 = .ok (.iconst 4, 1) := by decide +kernel
theorem dX12_init_639 : decode cX12_init 639 = .ok (.bipush 112, 2) := by decide +kernel
theorem dX12_init_641 : decode cX12_init 641 = .ok (.castore, 1) := by decide +kernel
theorem dX12_init_642 : decode cX12_init 642 = .ok (.dup, 1) := by decide +kernel
theorem dX12_init_643 : decode cX12_init 643 = .ok (.iconst 5, 1) := by decide +kernel
theorem dX12_init_644 : decode cX12_init 644 = .ok (.bipush 97, 2) := by decide +kernel
theorem dX12_init_646 : decode cX12_init 646 = .ok (.castore, 1) := by decide +kernel
theorem dX12_init_647 : decode cX12_init 647 = .ok (.dup, 1) := by decide +kernel
theorem dX12_init_648 : decode cX12_init 648 = .ok (.bipush 6, 2) := by decide +kernel
theorem dX12_init_650 : decode cX12_init 650 = .ok (.bipush 110, 2) := by decide +kernel
theorem dX12_init_652 : decode cX12_init 652 = .ok (.castore, 1) := by decide +kernel
theorem dX12_init_653 : decode cX12_init 653 = .ok (.dup, 1) := by decide +kernel
theorem dX12_init_654 : decode cX12_init 654 = .ok (.bipush 7, 2) := by decide +kernel
theorem dX12_init_656 : decode cX12_init 656 = .ok (.bipush 110, 2) := by decide +kernel
theorem dX12_init_658 : decode cX12_init 658 = .ok (.castore, 1) := by decide +kernel
theorem dX12_init_659 : decode cX12_init 659 = .ok (.dup, 1) := by decide +kernel
theorem dX12_init_660 : decode cX12_init 660 = .ok (.bipush 8, 2) := by decide +kernel
theorem dX12_init_662 : decode cX12_init 662 = .ok (.bipush 101, 2) := by decide +kernel
theorem dX12_init_664 : decode cX12_init 664 = .ok (.castore, 1) := by decide +kernel
theorem dX12_init_665 : decode cX12_init 665 = .ok (.dup, 1) := by decide +kernel
theorem dX12_init_666 : decode cX12_init 666 = .ok (.bipush 9, 2) := by decide +kernel
theorem dX12_init_668 : decode cX12_init 668 = .ok (.bipush 97, 2) := by decide +kernel
theorem dX12_init_670 : decode cX12_init 670 = .ok (.castore, 1) := by decide +kernel
theorem dX12_init_671 : decode cX12_init 671 = .ok (.dup, 1) := by decide +kernel
theorem dX12_init_672 : decode cX12_init 672 = .ok (.bipush 10, 2) := by decide +kernel
theorem dX12_init_674 : decode cX12_init 674 = .ok (.bipush 114, 2) := by decide +kernel
theorem dX12_init_676 : decode cX12_init 676 = .ok (.castore, 1) := by decide +kernel
theorem dX12_init_677 : decode cX12_init 677 = .ok (.dup, 1) := by decide +kernel
theorem dX12_init_678 : decode cX12_init 678 = .ok (.bipush 11, 2) := by decide +kernel
theorem dX12_init_680 : decode cX12_init 680 = .ok (.bipush 116, 2) := by decide +kernel
theorem dX12_init_682 : decode cX12_init 682 = .ok (.castore, 1) := by decide +kernel
theorem dX12_init_683 : decode cX12_init 683 = .ok (.dup, 1) := by decide +kernel
theorem dX12_init_684 : decode cX12_init 684 = .ok (.bipush 12, 2) := by decide +kernel
theorem dX12_init_686 : decode cX12_init 686 = .ok (.bipush 114, 2) := by decide +kernel
theorem dX12_init_688 : decode cX12_init 688 = .ok (.castore, 1) := by decide +kernel
theorem dX12_init_689 : decode cX12_init 689 = .ok (.dup, 1) := by decide +kernel
theorem dX12_init_690 : decode cX12_init 690 = .ok (.bipush 13, 2) := by decide +kernel
theorem dX12_init_692 : decode cX12_init 692 = .ok (.bipush 101, 2) := by decide +kernel
theorem dX12_init_694 : decode cX12_init 694 = .ok (.castore, 1) := by decide +kernel
theorem dX12_init_695 : decode cX12_init 695 = .ok (.dup, 1) := by decide +kernel
theorem dX12_init_696 : decode cX12_init 696 = .ok (.bipush 14, 2) := by decide +kernel
theorem dX12_init_698 : decode cX12_init 698 = .ok (.bipush 101, 2) := by decide +kernel
theorem dX12_init_700 : decode cX12_init 700 = .ok (.castore, 1) := by decide +kernel
theorem dX12_init_701 : decode cX12_init 701 = .ok (.dup, 1) := by decide +kernel
theorem dX12_init_702 : decode cX12_init 702 = .ok (.bipush 15, 2) := by decide +kernel
theorem dX12_init_704 : decode cX12_init 704 = .ok (.bipush 115, 2) := by decide +kernel
theorem dX12_init_706 : decode cX12_init 706 = .ok (.castore, 1) := by decide +kernel
theorem dX12_init_707 : decode cX12_init 707 = .ok (.dup, 1) := by decide +kernel
theorem dX12_init_708 : decode cX12_init 708 = .ok (.bipush 16, 2) := by decide +kernel
theorem dX12_init_710 : decode cX12_init 710 = .ok (.bipush 104, 2) := by decide +kernel
theorem dX12_init_712 : decode cX12_init 712 = .ok (.castore, 1) := by decide +kernel
theorem dX12_init_713 : decode cX12_init 713 = .ok (.dup, 1) := by decide +kernel
theorem dX12_init_714 : decode cX12_init 714 = .ok (.bipush 17, 2) := by decide +kernel
theorem dX12_init_716 : decode cX12_init 716 = .ok (.bipush 111, 2) := by decide +kernel
theorem dX12_init_718 : decode cX12_init 718 = .ok (.castore, 1) := by decide +kernel
theorem dX12_init_719 : decode cX12_init 719 = .ok (.dup, 1) := by decide +kernel
theorem dX12_init_720 : decode cX12_init 720 = .ok (.bipush 18, 2) := by decide +kernel
theorem dX12_init_722 : decode cX12_init 722 = .ok (.bipush 117, 2) := by decide +kernel
theorem dX12_init_724 : decode cX12_init 724 = .ok (.castore, 1) := by decide +kernel
theorem dX12_init_725 : decode cX12_init 725 = .ok (.dup, 1) := by decide +kernel
theorem dX12_init_726 : decode cX12_init 726 = .ok (.bipush 19, 2) := by decide +kernel
theorem dX12_init_728 : decode cX12_init 728 = .ok (.bipush 115, 2) := by decide +kernel
theorem dX12_init_730 : decode cX12_init 730 = .ok (.castore, 1) := by decide +kernel
theorem dX12_init_731 : decode cX12_init 731 = .ok (.dup, 1) := by decide +kernel
theorem dX12_init_732 : decode cX12_init 732 = .ok (.bipush 20, 2) := by decide +kernel
theorem dX12_init_734 : decode cX12_init 734 = .ok (.bipush 101, 2) := by decide +kernel
theorem dX12_init_736 : decode cX12_init 736 = .ok (.castore, 1) := by decide +kernel
theorem dX12_init_737 : decode cX12_init 737 = .ok (.dup, 1) := by decide +kernel
theorem dX12_init_738 : decode cX12_init 738 = .ok (.bipush 21, 2) := by decide +kernel
theorem dX12_init_740 : decode cX12_init 740 = .ok (.bipush 119, 2) := by decide +kernel
theorem dX12_init_742 : decode cX12_init 742 = .ok (.castore, 1) := by decide +kernel
theorem dX12_init_743 : decode cX12_init 743 = .ok (.dup, 1) := by decide +kernel
theorem dX12_init_744 : decode cX12_init 744 = .ok (.bipush 22, 2) := by decide +kernel
theorem dX12_init_746 : decode cX12_init 746 = .ok (.bipush 111, 2) := by decide +kernel
theorem dX12_init_748 : decode cX12_init 748 = .ok (.castore, 1) := by decide +kernel
theorem dX12_init_749 : decode cX12_init 749 = .ok (.dup, 1) := by decide +kernel
theorem dX12_init_750 : decode cX12_init 750 = .ok (.bipush 23, 2) := by decide +kernel
theorem dX12_init_752 : decode cX12_init 752 = .ok (.bipush 114, 2) := by decide +kernel
theorem dX12_init_754 : decode cX12_init 754 = .ok (.castore, 1) := by decide +kernel
theorem dX12_init_755 : decode cX12_init 755 = .ok (.dup, 1) := by decide +kernel
theorem dX12_init_756 : decode cX12_init 756 = .ok (.bipush 24, 2) := by decide +kernel
theorem dX12_init_758 : decode cX12_init 758 = .ok (.bipush 116, 2) := by decide +kernel
theorem dX12_init_760 : decode cX12_init 760 = .ok (.castore, 1) := by decide +kernel
theorem dX12_init_761 : decode cX12_init 761 = .ok (.dup, 1) := by decide +kernel
theorem dX12_init_762 : decode cX12_init 762 = .ok (.bipush 25, 2) := by decide +kernel
theorem dX12_init_764 : decode cX12_init 764 = .ok (.bipush 104, 2) := by decide +kernel
theorem dX12_init_766 : decode cX12_init 766 = .ok (.castore, 1) := by decide +kernel
theorem dX12_init_767 : decode cX12_init 767 = .ok (.dup, 1) := by decide +kernel
theorem dX12_init_768 : decode cX12_init 768 = .ok (.bipush 26, 2) := by decide +kernel
theorem dX12_init_770 : decode cX12_init 770 = .ok (.bipush 112, 2) := by decide +kernel
theorem dX12_init_772 : decode cX12_init 772 = .ok (.castore, 1) := by decide +kernel
theorem dX12_init_773 : decode cX12_init 773 = .ok (.dup, 1) := by decide +kernel
theorem dX12_init_774 : decode cX12_init 774 = .ok (.bipush 27, 2) := by decide +kernel
theorem dX12_init_776 : decode cX12_init 776 = .ok (.bipush 97, 2) := by decide +kernel
theorem dX12_init_778 : decode cX12_init 778 = .ok (.castore, 1) := by decide +kernel
theorem dX12_init_779 : decode cX12_init 779 = .ok (.dup, 1) := by decide +kernel
theorem dX12_init_780 : decode cX12_init 780 = .ok (.bipush 28, 2) := by decide +kernel
theorem dX12_init_782 : decode cX12_init 782 = .ok (.bipush 121, 2) := by decide +kernel
theorem dX12_init_784 : decode cX12_init 784 = .ok (.castore, 1) := by decide +kernel
theorem dX12_init_785 : decode cX12_init 785 = .ok (.dup, 1) := by decide +kernel
theorem dX12_init_786 : decode cX12_init 786 = .ok (.bipush 29, 2) := by decide +kernel
theorem dX12_init_788 : decode cX12_init 788 = .ok (.bipush 115, 2) := by decide +kernel
theorem dX12_init_790 : decode cX12_init 790 = .ok (.castore, 1) := by decide +kernel
theorem dX12_init_791 : decode cX12_init 791 = .ok (.dup, 1) := by decide +kernel
theorem dX12_init_792 : decode cX12_init 792 = .ok (.bipush 30, 2) := by decide +kernel
theorem dX12_init_794 : decode cX12_init 794 = .ok (.bipush 115, 2) := by decide +kernel
theorem dX12_init_796 : decode cX12_init 796 = .ok (.castore, 1) := by decide +kernel
theorem dX12_init_797 : decode cX12_init 797 = .ok (.dup, 1) := by decide +kernel
theorem dX12_init_798 : decode cX12_init 798 = .ok (.bipush 31, 2) := by decide +kernel
theorem dX12_init_800 : decode cX12_init 800 = .ok (.bipush 117, 2) := by decide +kernel
theorem dX12_init_802 : decode cX12_init 802 = .ok (.castore, 1) := by decide +kernel
theorem dX12_init_803 : decode cX12_init 803 = .ok (.dup, 1) := by decide +kernel
theorem dX12_init_804 : decode cX12_init 804 = .ok (.bipush 32, 2) := by decide +kernel
theorem dX12_init_806 : decode cX12_init 806 = .ok (.bipush 109, 2) := by decide +kernel
theorem dX12_init_808 : decode cX12_init 808 = .ok (.castore, 1) := by decide +kernel
theorem dX12_init_809 : decode cX12_init 809 = .ok (.dup, 1) := by decide +kernel
theorem dX12_init_810 : decode cX12_init 810 = .ok (.bipush 33, 2) := by decide +kernel
theorem dX12_init_812 : decode cX12_init 812 = .ok (.bipush 111, 2) := by decide +kernel
theorem dX12_init_814 : decode cX12_init 814 = .ok (.castore, 1) := by decide +kernel
theorem dX12_init_815 : decode cX12_init 815 = .ok (.dup, 1) := by decide +kernel
theorem dX12_init_816 : decode cX12_init 816 = .ok (.bipush 34, 2) := by decide +kernel
theorem dX12_init_818 : decode cX12_init 818 = .ok (.bipush 114, 2) := by decide +kernel
theorem dX12_init_820 : decode cX12_init 820 = .ok (.castore, 1) := by decide +kernel
theorem dX12_init_821 : decode cX12_init 821 = .ok (.dup, 1) := by decide +kernel
theorem dX12_init_822 : decode cX12_init 822 = .ok (.bipush 35, 2) := by decide +kernel
theorem dX12_init_824 : decode cX12_init 824 = .ok (.bipush 97, 2) := by decide +kernel
theorem dX12_init_826 : decode cX12_init 826 = .ok (.castore, 1) := by decide +kernel
theorem dX12_init_827 : decode cX12_init 827 = .ok (.dup, 1) := by decide +kernel
theorem dX12_init_828 : decode cX12_init 828 = .ok (.bipush 36, 2) := by decide +kernel
theorem dX12_init_830 : decode cX12_init 830 = .ok (.bipush 110, 2) := by decide +kernel
theorem dX12_init_832 : decode cX12_init 832 = .ok (.castore, 1) := by decide +kernel
theorem dX12_init_833 : decode cX12_init 833 = .ok (.dup, 1) := by decide +kernel
theorem dX12_init_834 : decode cX12_init 834 = .ok (.bipush 37, 2) := by decide +kernel
theorem dX12_init_836 : decode cX12_init 836 = .ok (.bipush 100, 2) := by decide +kernel
theorem dX12_init_838 : decode cX12_init 838 = .ok (.castore, 1) := by decide +kernel
theorem dX12_init_839 : decode cX12_init 839 = .ok (.dup, 1) := by decide +kernel
theorem dX12_init_840 : decode cX12_init 840 = .ok (.bipush 38, 2) := by decide +kernel
theorem dX12_init_842 : decode cX12_init 842 = .ok (.bipush 110, 2) := by decide +kernel
theorem dX12_init_844 : decode cX12_init 844 = .ok (.castore, 1) := by decide +kernel
theorem dX12_init_845 : decode cX12_init 845 = .ok (.dup, 1) := by decide +kernel
theorem dX12_init_846 : decode cX12_init 846 = .ok (.bipush 39, 2) := by decide +kernel
theorem dX12_init_848 : decode cX12_init 848 = .ok (.bipush 111, 2) := by decide +kernel
theorem dX12_init_850 : decode cX12_init 850 = .ok (.castore, 1) := by decide +kernel
theorem dX12_init_851 : decode cX12_init 851 = .ok (.dup, 1) := by decide +kernel
theorem dX12_init_852 : decode cX12_init 852 = .ok (.bipush 40, 2) := by decide +kernel
theorem dX12_init_854 : decode cX12_init 854 = .ok (.bipush 116, 2) := by decide +kernel
theorem dX12_init_856 : decode cX12_init 856 = .ok (.castore, 1) := by decide +kernel
theorem dX12_init_857 : decode cX12_init 857 = .ok (.putfield 250, 3) := by decide +kernel
theorem dX12_init_860 : decode cX12_init 860 = .ok (.aload_n 0, 1) := by decide +kernel
theorem dX12_init_861 : decode cX12_init 861 = .ok (.bipush 12, 2) := by decide +kernel
theorem dX12_init_863 : decode cX12_init 863 = .ok (.newarray .int, 2) := by decide +kernel
theorem dX12_init_865 : decode cX12_init 865 = .ok (.dup, 1) := by decide +kernel
theorem dX12_init_866 : decode cX12_init 866 = .ok (.iconst 0, 1) := by decide +kernel
theorem dX12_init_867 : decode cX12_init 867 = .ok (.iconst 0, 1) := by decide +kernel
theorem dX12_init_868 : decode cX12_init 868 = .ok (.iastore, 1) := by decide +kernel
theorem dX12_init_869 : decode cX12_init 869 = .ok (.dup, 1) := by decide +kernel
theorem dX12_init_870 : decode cX12_init 870 = .ok (.iconst 1, 1) := by decide +kernel
theorem dX12_init_871 : decode cX12_init 871 = .ok (.iconst 3, 1) := by decide +kernel
theorem dX12_init_872 : decode cX12_init 872 = .ok (.iastore, 1) := by decide +kernel
theorem dX12_init_873 : decode cX12_init 873 = .ok (.dup, 1) := by decide +kernel
theorem dX12_init_874 : decode cX12_init 874 = .ok (.iconst 2, 1) := by decide +kernel
theorem dX12_init_875 : decode cX12_init 875 = .ok (.bipush 7, 2) := by decide +kernel
theorem dX12_init_877 : decode cX12_init 877 = .ok (.iastore, 1) := by decide +kernel
theorem dX12_init_878 : decode cX12_init 878 = .ok (.dup, 1) := by decide +kernel
theorem dX12_init_879 : decode cX12_init 879 = .ok (.iconst 3, 1) := by decide +kernel
theorem dX12_init_880 : decode cX12_init 880 = .ok (.bipush 11, 2) := by decide +kernel
theorem dX12_init_882 : decode cX12_init 882 = .ok (.iastore, 1) := by decide +kernel
theorem dX12_init_883 : decode cX12_init 883 = .ok (.dup, 1) := by decide +kernel
theorem dX12_init_884 : decode cX12_init 884 = .ok (.iconst 4, 1) := by decide +kernel
theorem dX12_init_885 : decode cX12_init 885 = .ok (.bipush 16, 2) := by decide +kernel
theorem dX12_init_887 : decode cX12_init 887 = .ok (.iastore, 1) := by decide +kernel
theorem dX12_init_888 : decode cX12_init 888 = .ok (.dup, 1) := by decide +kernel
theorem dX12_init_889 : decode cX12_init 889 = .ok (.iconst 5, 1) := by decide +kernel
theorem dX12_init_890 : decode cX12_init 890 = .ok (.bipush 21, 2) := by decide +kernel
theorem dX12_init_892 : decode cX12_init 892 = .ok (.iastore, 1) := by decide +kernel
theorem dX12_init_893 : decode cX12_init 893 = .ok (.dup, 1) := by decide +kernel
theorem dX12_init_894 : decode cX12_init 894 = .ok (.bipush 6, 2) := by decide +kernel
theorem dX12_init_896 : decode cX12_init 896 = .ok (.bipush 26, 2) := by decide +kernel
theorem dX12_init_898 : decode cX12_init 898 = .ok (.iastore, 1) := by decide +kernel
theorem dX12_init_899 : decode cX12_init 899 = .ok (.dup, 1) := by decide +kernel
theorem dX12_init_900 : decode cX12_init 900 = .ok (.bipush 7, 2) := by decide +kernel
theorem dX12_init_902 : decode cX12_init 902 = .ok (.bipush 30, 2) := by decide +kernel
theorem dX12_init_904 : decode cX12_init 904 = .ok (.iastore, 1) := by decide +kernel
theorem dX12_init_905 : decode cX12_init 905 = .ok (.dup, 1) := by decide +kernel
theorem dX12_init_906 : decode cX12_init 906 = .ok (.bipush 8, 2) := by decide +kernel
theorem dX12_init_908 : decode cX12_init 908 = .ok (.bipush 33, 2) := by decide +kernel
theorem dX12_init_910 : decode cX12_init 910 = .ok (.iastore, 1) := by decide +kernel
theorem dX12_init_911 : decode cX12_init 911 = .ok (.dup, 1) := by decide +kernel
theorem dX12_init_912 : decode cX12_init 912 = .ok (.bipush 9, 2) := by decide +kernel
theorem dX12_init_914 : decode cX12_init 914 = .ok (.bipush 35, 2) := by decide +kernel
theorem dX12_init_916 : decode cX12_init 916 = .ok (.iastore, 1) := by decide +kernel
theorem dX12_init_917 : decode cX12_init 917 = .ok (.dup, 1) := by decide +kernel
theorem dX12_init_918 : decode cX12_init 918 = .ok (.bipush 10, 2) := by decide +kernel
theorem dX12_init_920 : decode cX12_init 920 = .ok (.bipush 38, 2) := by decide +kernel
theorem dX12_init_922 : decode cX12_init 922 = .ok (.iastore, 1) := by decide +kernel
theorem dX12_init_923 : decode cX12_init 923 = .ok (.dup, 1) := by decide +kernel
theorem dX12_init_924 : decode cX12_init 924 = .ok (.bipush 11, 2) := by decide +kernel
theorem dX12_init_926 : decode cX12_init 926 = .ok (.bipush 41, 2) := by decide +kernel
theorem dX12_init_928 : decode cX12_init 928 = .ok (.iastore, 1) := by decide +kernel
theorem dX12_init_929 : decode cX12_init 929 = .ok (.putfield 244, 3) := by decide +kernel
theorem dX12_init_932 : decode cX12_init 932 = .ok (.aload_n 0, 1) := by decide +kernel
theorem dX12_init_933 : decode cX12_init 933 = .ok (.sipush 170, 3) := by decide +kernel
theorem dX12_init_936 : decode cX12_init 936 = .ok (.newarray .int, 2) := by decide +kernel
theorem dX12_init_938 : decode cX12_init 938 = .ok (.putfield 278, 3) := by decide +kernel
theorem dX12_init_941 : decode cX12_init 941 = .ok (.aload_n 0, 1) := by decide +kernel
theorem dX12_init_942 : decode cX12_init 942 = .ok (.bipush 8, 2) := by decide +kernel
theorem dX12_init_944 : decode cX12_init 944 = .ok (.newarray .boolean, 2) := by decide +kernel
theorem dX12_init_946 : decode cX12_init 946 = .ok (.putfield 297, 3) := by decide +kernel
theorem dX12_init_949 : decode cX12_init 949 = .ok (.aload_n 0, 1) := by decide +kernel
theorem dX12_init_950 : decode cX12_init 950 = .ok (.sipush 170, 3) := by decide +kernel
theorem dX12_init_953 : decode cX12_init 953 = .ok (.newarray .int, 2) := by decide +kernel
theorem dX12_init_955 : decode cX12_init 955 = .ok (.putfield 338, 3) := by decide +kernel
theorem dX12_init_958 : decode cX12_init 958 = .ok (.aload_n 0, 1) := by decide +kernel
theorem dX12_init_959 : decode cX12_init 959 = .ok (.bipush 30, 2) := by decide +kernel
theorem dX12_init_961 : decode cX12_init 961 = .ok (.newarray .int, 2) := by decide +kernel
theorem dX12_init_963 : decode cX12_init 963 = .ok (.putfield 352, 3) := by decide +kernel
theorem dX12_init_966 : decode cX12_init 966 = .ok (.aload_n 0, 1) := by decide +kernel
theorem dX12_init_967 : decode cX12_init 967 = .ok (.bipush 30, 2) := by decide +kernel
theorem dX12_init_969 : decode cX12_init 969 = .ok (.newarray .int, 2) := by decide +kernel
theorem dX12_init_971 : decode cX12_init 971 = .ok (.putfield 355, 3) := by decide +kernel
theorem dX12_init_974 : decode cX12_init 974 = .ok (.aload_n 0, 1) := by decide +kernel
theorem dX12_init_975 : decode cX12_init 975 = .ok (.bipush 30, 2) := by decide +kernel
theorem dX12_init_977 : decode cX12_init 977 = .ok (.newarray .int, 2) := by decide +kernel
theorem dX12_init_979 : decode cX12_init 979 = .ok (.putfield 358, 3) := by decide +kernel
theorem dX12_init_982 : decode cX12_init 982 = .ok (.aload_n 0, 1) := by decide +kernel
theorem dX12_init_983 : decode cX12_init 983 = .ok (.bipush 20, 2) := by decide +kernel
theorem dX12_init_985 : decode cX12_init 985 = .ok (.newarray .int, 2) := by decide +kernel
theorem dX12_init_987 : decode cX12_init 987 = .ok (.putfield 361, 3) := by decide +kernel
theorem dX12_init_990 : decode cX12_init 990 = .ok (.aload_n 0, 1) := by decide +kernel
theorem dX12_init_991 : decode cX12_init 991 = .ok (.bipush 20, 2) := by decide +kernel
theorem dX12_init_993 : decode cX12_init 993 = .ok (.newarray .int, 2) := by decide +kernel
theorem dX12_init_995 : decode cX12_init 995 = .ok (.putfield 364, 3) := by decide +kernel
theorem dX12_init_998 : decode cX12_init 998 = .ok (.aload_n 0, 1) := by decide +kernel
theorem dX12_init_999 : decode cX12_init 999 = .ok (.bipush 20, 2) := by decide +kernel
theorem dX12_init_1001 : decode cX12_init 1001 = .ok (.newarray .int, 2) := by decide +kernel
theorem dX12_init_1003 : decode cX12_init 1003 = .ok (.putfield 367, 3) := by decide +kernel
theorem dX12_init_1006 : decode cX12_init 1006 = .ok (.aload_n 0, 1) := by decide +kernel
theorem dX12_init_1007 : decode cX12_init 1007 = .ok (.bipush 10, 2) := by decide +kernel
theorem dX12_init_1009 : decode cX12_init 1009 = .ok (.newarray .int, 2) := by decide +kernel
theorem dX12_init_1011 : decode cX12_init 1011 = .ok (.putfield 370, 3) := by decide +kernel
theorem dX12_init_1014 : decode cX12_init 1014 = .ok (.aload_n 0, 1) := by decide +kernel
theorem dX12_init_1015 : decode cX12_init 1015 = .ok (.bipush 48, 2) := by decide +kernel
theorem dX12_init_1017 : decode cX12_init 1017 = .ok (.newarray .int, 2) := by decide +kernel
theorem dX12_init_1019 : decode cX12_init 1019 = .ok (.putfield 373, 3) := by decide +kernel
theorem dX12_init_1022 : decode cX12_init 1022 = .ok (.aload_n 0, 1) := by decide +kernel
theorem dX12_init_1023 : decode cX12_init 1023 = .ok (.bipush 48, 2) := by decide +kernel
theorem dX12_init_1025 : decode cX12_init 1025 = .ok (.newarray .int, 2) := by decide +kernel
theorem dX12_init_1027 : decode cX12_init 1027 = .ok (.putfield 376, 3) := by decide +kernel
theorem dX12_init_1030 : decode cX12_init 1030 = .ok (.aload_n 0, 1) := by decide +kernel
theorem dX12_init_1031 : decode cX12_init 1031 = .ok (.bipush 6, 2) := by decide +kernel
theorem dX12_init_1033 : decode cX12_init 1033 = .ok (.newarray .int, 2) := by decide +kernel
theorem dX12_init_1035 : decode cX12_init 1035 = .ok (.putfield 379, 3) := by decide +kernel
theorem dX12_init_1038 : decode cX12_init 1038 = .ok (.aload_n 0, 1) := by decide +kernel
theorem dX12_init_1039 : decode cX12_init 1039 = .ok (.bipush 6, 2) := by decide +kernel
theorem dX12_init_1041 : decode cX12_init 1041 = .ok (.newarray .int, 2) := by decide +kernel
theorem dX12_init_1043 : decode cX12_init 1043 = .ok (.putfield 382, 3) := by decide +kernel
theorem dX12_init_1046 : decode cX12_init 1046 = .ok (.aload_n 0, 1) := by decide +kernel
theorem dX12_init_1047 : decode cX12_init 1047 = .ok (.bipush 6, 2) := by decide +kernel
theorem dX12_init_1049 : decode cX12_init 1049 = .ok (.newarray .int, 2) := by decide +kernel
theorem dX12_init_1051 : decode cX12_init 1051 = .ok (.putfield 385, 3) := by decide +kernel
theorem dX12_init_1054 : decode cX12_init 1054 = .ok (.aload_n 0, 1) := by decide +kernel
theorem dX12_init_1055 : decode cX12_init 1055 = .ok (.bipush 6, 2) := by decide +kernel
theorem dX12_init_1057 : decode cX12_init 1057 = .ok (.newarray .int, 2) := by decide +kernel
theorem dX12_init_1059 : decode cX12_init 1059 = .ok (.putfield 388, 3) := by decide +kernel
theorem dX12_init_1062 : decode cX12_init 1062 = .ok (.aload_n 0, 1) := by decide +kernel
theorem dX12_init_1063 : decode cX12_init 1063 = .ok (.iconst 4, 1) := by decide +kernel
theorem dX12_init_1064 : decode cX12_init 1064 = .ok (.newarray .int, 2) := by decide +kernel
theorem dX12_init_1066 : decode cX12_init 1066 = .ok (.dup, 1) := by decide +kernel
theorem dX12_init_1067 : decode cX12_init 1067 = .ok (.iconst 0, 1) := by decide +kernel
theorem dX12_init_1068 : decode cX12_init 1068 = .ok (.iconst (-1), 1) := by decide +kernel
theorem dX12_init_1069 : decode cX12_init 1069 = .ok (.iastore, 1) := by decide +kernel
theorem dX12_init_1070 : decode cX12_init 1070 = .ok (.dup, 1) := by decide +kernel
theorem dX12_init_1071 : decode cX12_init 1071 = .ok (.iconst 1, 1) := by decide +kernel
theorem dX12_init_1072 : decode cX12_init 1072 = .ok (.iconst (-1), 1) := by decide +kernel
theorem dX12_init_1073 : decode cX12_init 1073 = .ok (.iastore, 1) := by decide +kernel
theorem dX12_init_1074 : decode cX12_init 1074 = .ok (.dup, 1) := by decide +kernel
theorem dX12_init_1075 : decode cX12_init 1075 = .ok (.iconst 2, 1) := by decide +kernel
theorem dX12_init_1076 : decode cX12_init 1076 = .ok (.iconst (-1), 1) := by decide +kernel
theorem dX12_init_1077 : decode cX12_init 1077 = .ok (.iastore, 1) := by decide +kernel
theorem dX12_init_1078 : decode cX12_init 1078 = .ok (.dup, 1) := by decide +kernel
theorem dX12_init_1079 : decode cX12_init 1079 = .ok (.iconst 3, 1) := by decide +kernel
theorem dX12_init_1080 : decode cX12_init 1080 = .ok (.iconst (-1), 1) := by decide +kernel
theorem dX12_init_1081 : decode cX12_init 1081 = .ok (.iastore, 1) := by decide +kernel
theorem dX12_init_1082 : decode cX12_init 1082 = .ok (.putfield 391, 3) := by decide +kernel
theorem dX12_init_1085 : decode cX12_init 1085 = .ok (.aload_n 0, 1) := by decide +kernel
theorem dX12_init_1086 : decode cX12_init 1086 = .ok (.iconst 4, 1) := by decide +kernel
theorem dX12_init_1087 : decode cX12_init 1087 = .ok (.newarray .int, 2) := by decide +kernel
theorem dX12_init_1089 : decode cX12_init 1089 = .ok (.putfield 394, 3) := by decide +kernel
theorem dX12_init_1092 : decode cX12_init 1092 = .ok (.aload_n 0, 1) := by decide +kernel
theorem dX12_init_1093 : decode cX12_init 1093 = .ok (.sipush 160, 3) := by decide +kernel
theorem dX12_init_1096 : decode cX12_init 1096 = .ok (.newarray .int, 2) := by decide +kernel
theorem dX12_init_1098 : decode cX12_init 1098 = .ok (.putfield 397, 3) := by decide +kernel
theorem dX12_init_1101 : decode cX12_init 1101 = .ok (.aload_n 0, 1) := by decide +kernel
theorem dX12_init_1102 : decode cX12_init 1102 = .ok (.bipush 40, 2) := by decide +kernel
theorem dX12_init_1104 : decode cX12_init 1104 = .ok (.newarray .int, 2) := by decide +kernel
theorem dX12_init_1106 : decode cX12_init 1106 = .ok (.putfield 400, 3) := by decide +kernel
theorem dX12_init_1109 : decode cX12_init 1109 = .ok (.aload_n 0, 1) := by decide +kernel
theorem dX12_init_1110 : decode cX12_init 1110 = .ok (.getfield 266, 3) := by decide +kernel
theorem dX12_init_1113 : decode cX12_init 1113 = .ok (.iconst 0, 1) := by decide +kernel
theorem dX12_init_1114 : decode cX12_init 1114 = .ok (.iconst 2, 1) := by decide +kernel
theorem dX12_init_1115 : decode cX12_init 1115 = .ok (.iastore, 1) := by decide +kernel
theorem dX12_init_1116 : decode cX12_init 1116 = .ok (.aload_n 0, 1) := by decide +kernel
theorem dX12_init_1117 : decode cX12_init 1117 = .ok (.getfield 266, 3) := by decide +kernel
theorem dX12_init_1120 : decode cX12_init 1120 = .ok (.iconst 1, 1) := by decide +kernel
theorem dX12_init_1121 : decode cX12_init 1121 = .ok (.bipush (-7), 2) := by decide +kernel
theorem dX12_init_1123 : decode cX12_init 1123 = .ok (.iastore, 1) := by decide +kernel
theorem dX12_init_1124 : decode cX12_init 1124 = .ok (.aload_n 0, 1) := by decide +kernel
theorem dX12_init_1125 : decode cX12_init 1125 = .ok (.getfield 266, 3) := by decide +kernel
theorem dX12_init_1128 : decode cX12_init 1128 = .ok (.iconst 2, 1) := by decide +kernel
theorem dX12_init_1129 : decode cX12_init 1129 = .ok (.bipush 9, 2) := by decide +kernel
theorem dX12_init_1131 : decode cX12_init 1131 = .ok (.iastore, 1) := by decide +kernel
theorem dX12_init_1132 : decode cX12_init 1132 = .ok (.aload_n 0, 1) := by decide +kernel
theorem dX12_init_1133 : decode cX12_init 1133 = .ok (.getfield 313, 3) := by decide +kernel
theorem dX12_init_1136 : decode cX12_init 1136 = .ok (.iconst 0, 1) := by decide +kernel
theorem dX12_init_1137 : decode cX12_init 1137 = .ok (.iconst 3, 1) := by decide +kernel
theorem dX12_init_1138 : decode cX12_init 1138 = .ok (.iastore, 1) := by decide +kernel
theorem dX12_init_1139 : decode cX12_init 1139 = .ok (.aload_n 0, 1) := by decide +kernel
theorem dX12_init_1140 : decode cX12_init 1140 = .ok (.getfield 266, 3) := by decide +kernel
theorem dX12_init_1143 : decode cX12_init 1143 = .ok (.sipush 160, 3) := by decide +kernel
theorem dX12_init_1146 : decode cX12_init 1146 = .ok (.bipush (-11), 2) := by decide +kernel
theorem dX12_init_1148 : decode cX12_init 1148 = .ok (.iastore, 1) := by decide +kernel
theorem dX12_init_1149 : decode cX12_init 1149 = .ok (.aload_n 0, 1) := by decide +kernel
theorem dX12_init_1150 : decode cX12_init 1150 = .ok (.getfield 266, 3) := by decide +kernel
theorem dX12_init_1153 : decode cX12_init 1153 = .ok (.sipush 161, 3) := by decide +kernel
theorem dX12_init_1156 : decode cX12_init 1156 = .ok (.iconst 1, 1) := by decide +kernel
theorem dX12_init_1157 : decode cX12_init 1157 = .ok (.iastore, 1) := by decide +kernel
theorem dX12_init_1158 : decode cX12_init 1158 = .ok (.aload_n 0, 1) := by decide +kernel
theorem dX12_init_1159 : decode cX12_init 1159 = .ok (.getfield 266, 3) := by decide +kernel
theorem dX12_init_1162 : decode cX12_init 1162 = .ok (.sipush 162, 3) := by decide +kernel
theorem dX12_init_1165 : decode cX12_init 1165 = .ok (.bipush 8, 2) := by decide +kernel
theorem dX12_init_1167 : decode cX12_init 1167 = .ok (.iastore, 1) := by decide +kernel
theorem dX12_init_1168 : decode cX12_init 1168 = .ok (.aload_n 0, 1) := by decide +kernel
theorem dX12_init_1169 : decode cX12_init 1169 = .ok (.getfield 266, 3) := by decide +kernel
theorem dX12_init_1172 : decode cX12_init 1172 = .ok (.sipush 163, 3) := by decide +kernel
theorem dX12_init_1175 : decode cX12_init 1175 = .ok (.iconst 5, 1) := by decide +kernel
theorem dX12_init_1176 : decode cX12_init 1176 = .ok (.iastore, 1) := by decide +kernel
theorem dX12_init_1177 : decode cX12_init 1177 = .ok (.aload_n 0, 1) := by decide +kernel
theorem dX12_init_1178 : decode cX12_init 1178 = .ok (.getfield 266, 3) := by decide +kernel
theorem dX12_init_1181 : decode cX12_init 1181 = .ok (.sipush 164, 3) := by decide +kernel
theorem dX12_init_1184 : decode cX12_init 1184 = .ok (.bipush 6, 2) := by decide +kernel
theorem dX12_init_1186 : decode cX12_init 1186 = .ok (.iastore, 1) := by decide +kernel
theorem dX12_init_1187 : decode cX12_init 1187 = .ok (.aload_n 0, 1) := by decide +kernel
theorem dX12_init_1188 : decode cX12_init 1188 = .ok (.getfield 313, 3) := by decide +kernel
theorem dX12_init_1191 : decode cX12_init 1191 = .ok (.iconst 1, 1) := by decide +kernel
theorem dX12_init_1192 : decode cX12_init 1192 = .ok (.iconst 5, 1) := by decide +kernel
theorem dX12_init_1193 : decode cX12_init 1193 = .ok (.iastore, 1) := by decide +kernel
theorem dX12_init_1194 : decode cX12_init 1194 = .ok (.aload_n 0, 1) := by decide +kernel
theorem dX12_init_1195 : decode cX12_init 1195 = .ok (.iconst 1, 1) := by decide +kernel
theorem dX12_init_1196 : decode cX12_init 1196 = .ok (.putfield 329, 3) := by decide +kernel
theorem dX12_init_1199 : decode cX12_init 1199 = .ok (.return_, 1) := by decide +kernel
theorem dX12_says_0 : decode cX12_says 0 = .ok (.aload_n 0, 1) := by decide +kernel
theorem dX12_says_1 : decode cX12_says 1 = .ok (.iload_n 1, 1) := by decide +kernel
theorem dX12_says_2 : decode cX12_says 2 = .ok (.invokevirtual 123, 3) := by decide +kernel
theorem dX12_says_5 : decode cX12_says 5 = .ok (.ifCond .eq 23, 3) := by decide +kernel
theorem dX12_says_8 : decode cX12_says 8 = .ok (.iload_n 2, 1) := by decide +kernel
theorem dX12_says_9 : decode cX12_says 9 = .ok (.i2l, 1) := by decide +kernel
theorem dX12_says_10 : decode cX12_says 10 = .ok (.lconst 0, 1) := by decide +kernel
theorem dX12_says_11 : decode cX12_says 11 = .ok (.lconst 1, 1) := by decide +kernel
theorem dX12_says_12 : decode cX12_says 12 = .ok (.invokestatic 5, 3) := by decide +kernel
theorem dX12_says_15 : decode cX12_says 15 = .ok (.ifCond .eq 13, 3) := by decide +kernel
theorem dX12_says_18 : decode cX12_says 18 = .ok (.aload_n 0, 1) := by decide +kernel
theorem dX12_says_19 : decode cX12_says 19 = .ok (.iload_n 2, 1) := by decide +kernel
theorem dX12_says_20 : decode cX12_says 20 = .ok (.iload_n 1, 1) := by decide +kernel
theorem dX12_says_21 : decode cX12_says 21 = .ok (.invokevirtual 403, 3) := by decide +kernel
theorem dX12_says_24 : decode cX12_says 24 = .ok (.i2l, 1) := by decide +kernel
theorem dX12_says_25 : decode cX12_says 25 = .ok (.goto 6, 3) := by decide +kernel
theorem dX12_says_28 : decode cX12_says 28 = .ok (.ldc2_w 142, 3) := by decide +kernel
theorem dX12_says_31 : decode cX12_says 31 = .ok (.lreturn, 1) := by decide +kernel
theorem dX12_claim_0 : decode cX12_claim 0 = .ok (.iload_n 1, 1) := by decide +kernel
theorem dX12_claim_1 : decode cX12_claim 1 = .ok (.invokestatic 23, 3) := by decide +kernel
theorem dX12_claim_4 : decode cX12_claim 4 = .ok (.ifCond .eq 23, 3) := by decide +kernel
theorem dX12_claim_7 : decode cX12_claim 7 = .ok (.aload_n 0, 1) := by decide +kernel
theorem dX12_claim_8 : decode cX12_claim 8 = .ok (.iload_n 2, 1) := by decide +kernel
theorem dX12_claim_9 : decode cX12_claim 9 = .ok (.invokevirtual 123, 3) := by decide +kernel
theorem dX12_claim_12 : decode cX12_claim 12 = .ok (.ifCond .eq 15, 3) := by decide +kernel
theorem dX12_claim_15 : decode cX12_claim 15 = .ok (.iload_n 3, 1) := by decide +kernel
theorem dX12_claim_16 : decode cX12_claim 16 = .ok (.i2l, 1) := by decide +kernel
theorem dX12_claim_17 : decode cX12_claim 17 = .ok (.lconst 0, 1) := by decide +kernel
theorem dX12_claim_18 : decode cX12_claim 18 = .ok (.ldc2_w 155, 3) := by decide +kernel
theorem dX12_claim_21 : decode cX12_claim 21 = .ok (.invokestatic 5, 3) := by decide +kernel
theorem dX12_claim_24 : decode cX12_claim 24 = .ok (.ifCond .ne 6, 3) := by decide +kernel
theorem dX12_claim_27 : decode cX12_claim 27 = .ok (.bipush (-2), 2) := by decide +kernel
theorem dX12_claim_29 : decode cX12_claim 29 = .ok (.ireturn, 1) := by decide +kernel
theorem dX12_claim_30 : decode cX12_claim 30 = .ok (.aload_n 0, 1) := by decide +kernel
theorem dX12_claim_31 : decode cX12_claim 31 = .ok (.getfield 406, 3) := by decide +kernel
theorem dX12_claim_34 : decode cX12_claim 34 = .ok (.bipush 30, 2) := by decide +kernel
theorem dX12_claim_36 : decode cX12_claim 36 = .ok (.if_icmp .ne 6, 3) := by decide +kernel
theorem dX12_claim_39 : decode cX12_claim 39 = .ok (.bipush (-4), 2) := by decide +kernel
theorem dX12_claim_41 : decode cX12_claim 41 = .ok (.ireturn, 1) := by decide +kernel
theorem dX12_claim_42 : decode cX12_claim 42 = .ok (.aload_n 0, 1) := by decide +kernel
theorem dX12_claim_43 : decode cX12_claim 43 = .ok (.getfield 352, 3) := by decide +kernel
theorem dX12_claim_46 : decode cX12_claim 46 = .ok (.aload_n 0, 1) := by decide +kernel
theorem dX12_claim_47 : decode cX12_claim 47 = .ok (.getfield 406, 3) := by decide +kernel
theorem dX12_claim_50 : decode cX12_claim 50 = .ok (.iload_n 1, 1) := by decide +kernel
theorem dX12_claim_51 : decode cX12_claim 51 = .ok (.iastore, 1) := by decide +kernel
theorem dX12_claim_52 : decode cX12_claim 52 = .ok (.aload_n 0, 1) := by decide +kernel
theorem dX12_claim_53 : decode cX12_claim 53 = .ok (.getfield 355, 3) := by decide +kernel
theorem dX12_claim_56 : decode cX12_claim 56 = .ok (.aload_n 0, 1) := by decide +kernel
theorem dX12_claim_57 : decode cX12_claim 57 = .ok (.getfield 406, 3) := by decide +kernel
theorem dX12_claim_60 : decode cX12_claim 60 = .ok (.iload_n 2, 1) := by decide +kernel
theorem dX12_claim_61 : decode cX12_claim 61 = .ok (.iastore, 1) := by decide +kernel
theorem dX12_claim_62 : decode cX12_claim 62 = .ok (.aload_n 0, 1) := by decide +kernel
theorem dX12_claim_63 : decode cX12_claim 63 = .ok (.getfield 358, 3) := by decide +kernel
theorem dX12_claim_66 : decode cX12_claim 66 = .ok (.aload_n 0, 1) := by decide +kernel
theorem dX12_claim_67 : decode cX12_claim 67 = .ok (.getfield 406, 3) := by decide +kernel
theorem dX12_claim_70 : decode cX12_claim 70 = .ok (.iload_n 3, 1) := by decide +kernel
theorem dX12_claim_71 : decode cX12_claim 71 = .ok (.iastore, 1) := by decide +kernel
theorem dX12_claim_72 : decode cX12_claim 72 = .ok (.aload_n 0, 1) := by decide +kernel
theorem dX12_claim_73 : decode cX12_claim 73 = .ok (.dup, 1) := by decide +kernel
theorem dX12_claim_74 : decode cX12_claim 74 = .ok (.getfield 406, 3) := by decide +kernel
theorem dX12_claim_77 : decode cX12_claim 77 = .ok (.iconst 1, 1) := by decide +kernel
theorem dX12_claim_78 : decode cX12_claim 78 = .ok (.iadd, 1) := by decide +kernel
theorem dX12_claim_79 : decode cX12_claim 79 = .ok (.putfield 406, 3) := by decide +kernel
theorem dX12_claim_82 : decode cX12_claim 82 = .ok (.aload_n 0, 1) := by decide +kernel
theorem dX12_claim_83 : decode cX12_claim 83 = .ok (.getfield 406, 3) := by decide +kernel
theorem dX12_claim_86 : decode cX12_claim 86 = .ok (.iconst 1, 1) := by decide +kernel
theorem dX12_claim_87 : decode cX12_claim 87 = .ok (.isub, 1) := by decide +kernel
theorem dX12_claim_88 : decode cX12_claim 88 = .ok (.ireturn, 1) := by decide +kernel
theorem dX12_isDoubled_0 : decode cX12_isDoubled 0 = .ok (.iconst 0, 1) := by decide +kernel
theorem dX12_isDoubled_1 : decode cX12_isDoubled 1 = .ok (.istore_n 2, 1) := by decide +kernel
theorem dX12_isDoubled_2 : decode cX12_isDoubled 2 = .ok (.iconst 0, 1) := by decide +kernel
theorem dX12_isDoubled_3 : decode cX12_isDoubled 3 = .ok (.istore_n 3, 1) := by decide +kernel
theorem dX12_isDoubled_4 : decode cX12_isDoubled 4 = .ok (.iload_n 3, 1) := by decide +kernel
theorem dX12_isDoubled_5 : decode cX12_isDoubled 5 = .ok (.iload_n 1, 1) := by decide +kernel
theorem dX12_isDoubled_6 : decode cX12_isDoubled 6 = .ok (.if_icmp .ge 49, 3) := by decide +kernel
theorem dX12_isDoubled_9 : decode cX12_isDoubled 9 = .ok (.iload_n 2, 1) := by decide +kernel
theorem dX12_isDoubled_10 : decode cX12_isDoubled 10 = .ok (.ifCond .ne 33, 3) := by decide +kernel
theorem dX12_isDoubled_13 : decode cX12_isDoubled 13 = .ok (.aload_n 0, 1) := by decide +kernel
theorem dX12_isDoubled_14 : decode cX12_isDoubled 14 = .ok (.getfield 352, 3) := by decide +kernel
theorem dX12_isDoubled_17 : decode cX12_isDoubled 17 = .ok (.iload_n 3, 1) := by decide +kernel
theorem dX12_isDoubled_18 : decode cX12_isDoubled 18 = .ok (.iaload, 1) := by decide +kernel
theorem dX12_isDoubled_19 : decode cX12_isDoubled 19 = .ok (.aload_n 0, 1) := by decide +kernel
theorem dX12_isDoubled_20 : decode cX12_isDoubled 20 = .ok (.getfield 352, 3) := by decide +kernel
theorem dX12_isDoubled_23 : decode cX12_isDoubled 23 = .ok (.iload_n 1, 1) := by decide +kernel
theorem dX12_isDoubled_24 : decode cX12_isDoubled 24 = .ok (.iaload, 1) := by decide +kernel
theorem dX12_isDoubled_25 : decode cX12_isDoubled 25 = .ok (.if_icmp .ne 22, 3) := by decide +kernel
theorem dX12_isDoubled_28 : decode cX12_isDoubled 28 = .ok (.aload_n 0, 1) := by decide +kernel
theorem dX12_isDoubled_29 : decode cX12_isDoubled 29 = .ok (.getfield 355, 3) := by decide +kernel
theorem dX12_isDoubled_32 : decode cX12_isDoubled 32 = .ok (.iload_n 3, 1) := by decide +kernel
theorem dX12_isDoubled_33 : decode cX12_isDoubled 33 = .ok (.iaload, 1) := by decide +kernel
theorem dX12_isDoubled_34 : decode cX12_isDoubled 34 = .ok (.aload_n 0, 1) := by decide +kernel
theorem dX12_isDoubled_35 : decode cX12_isDoubled 35 = .ok (.getfield 355, 3) := by decide +kernel
theorem dX12_isDoubled_38 : decode cX12_isDoubled 38 = .ok (.iload_n 1, 1) := by decide +kernel
theorem dX12_isDoubled_39 : decode cX12_isDoubled 39 = .ok (.iaload, 1) := by decide +kernel
theorem dX12_isDoubled_40 : decode cX12_isDoubled 40 = .ok (.if_icmp .ne 7, 3) := by decide +kernel
theorem dX12_isDoubled_43 : decode cX12_isDoubled 43 = .ok (.iconst 1, 1) := by decide +kernel
theorem dX12_isDoubled_44 : decode cX12_isDoubled 44 = .ok (.goto 4, 3) := by decide +kernel
theorem dX12_isDoubled_47 : decode cX12_isDoubled 47 = .ok (.iconst 0, 1) := by decide +kernel
theorem dX12_isDoubled_48 : decode cX12_isDoubled 48 = .ok (.istore_n 2, 1) := by decide +kernel
theorem dX12_isDoubled_49 : decode cX12_isDoubled 49 = .ok (.iinc 3 1, 3) := by decide +kernel
theorem dX12_isDoubled_52 : decode cX12_isDoubled 52 = .ok (.goto (-48), 3) := by decide +kernel
theorem dX12_isDoubled_55 : decode cX12_isDoubled 55 = .ok (.iload_n 2, 1) := by decide +kernel
theorem dX12_isDoubled_56 : decode cX12_isDoubled 56 = .ok (.ireturn, 1) := by decide +kernel
theorem dX12_doubled_0 : decode cX12_doubled 0 = .ok (.iconst 0, 1) := by decide +kernel
theorem dX12_doubled_1 : decode cX12_doubled 1 = .ok (.istore_n 1, 1) := by decide +kernel
theorem dX12_doubled_2 : decode cX12_doubled 2 = .ok (.iconst 0, 1) := by decide +kernel
theorem dX12_doubled_3 : decode cX12_doubled 3 = .ok (.istore_n 2, 1) := by decide +kernel
theorem dX12_doubled_4 : decode cX12_doubled 4 = .ok (.iload_n 2, 1) := by decide +kernel
theorem dX12_doubled_5 : decode cX12_doubled 5 = .ok (.aload_n 0, 1) := by decide +kernel
theorem dX12_doubled_6 : decode cX12_doubled 6 = .ok (.getfield 406, 3) := by decide +kernel
theorem dX12_doubled_9 : decode cX12_doubled 9 = .ok (.if_icmp .ge 27, 3) := by decide +kernel
theorem dX12_doubled_12 : decode cX12_doubled 12 = .ok (.iload_n 1, 1) := by decide +kernel
theorem dX12_doubled_13 : decode cX12_doubled 13 = .ok (.aload_n 0, 1) := by decide +kernel
theorem dX12_doubled_14 : decode cX12_doubled 14 = .ok (.iload_n 2, 1) := by decide +kernel
theorem dX12_doubled_15 : decode cX12_doubled 15 = .ok (.invokevirtual 409, 3) := by decide +kernel
theorem dX12_doubled_18 : decode cX12_doubled 18 = .ok (.ifCond .eq 9, 3) := by decide +kernel
theorem dX12_doubled_21 : decode cX12_doubled 21 = .ok (.iconst 1, 1) := by decide +kernel
theorem dX12_doubled_22 : decode cX12_doubled 22 = .ok (.iload_n 2, 1) := by decide +kernel
theorem dX12_doubled_23 : decode cX12_doubled 23 = .ok (.ishl, 1) := by decide +kernel
theorem dX12_doubled_24 : decode cX12_doubled 24 = .ok (.goto 4, 3) := by decide +kernel
theorem dX12_doubled_27 : decode cX12_doubled 27 = .ok (.iconst 0, 1) := by decide +kernel
theorem dX12_doubled_28 : decode cX12_doubled 28 = .ok (.ior, 1) := by decide +kernel
theorem dX12_doubled_29 : decode cX12_doubled 29 = .ok (.istore_n 1, 1) := by decide +kernel
theorem dX12_doubled_30 : decode cX12_doubled 30 = .ok (.iinc 2 1, 3) := by decide +kernel
theorem dX12_doubled_33 : decode cX12_doubled 33 = .ok (.goto (-29), 3) := by decide +kernel
theorem dX12_doubled_36 : decode cX12_doubled 36 = .ok (.iload_n 1, 1) := by decide +kernel
theorem dX12_doubled_37 : decode cX12_doubled 37 = .ok (.ireturn, 1) := by decide +kernel
theorem dX12_due_0 : decode cX12_due 0 = .ok (.iload_n 1, 1) := by decide +kernel
theorem dX12_due_1 : decode cX12_due 1 = .ok (.invokestatic 23, 3) := by decide +kernel
theorem dX12_due_4 : decode cX12_due 4 = .ok (.ifCond .ne 7, 3) := by decide +kernel
theorem dX12_due_7 : decode cX12_due 7 = .ok (.ldc2_w 142, 3) := by decide +kernel
theorem dX12_due_10 : decode cX12_due 10 = .ok (.lreturn, 1) := by decide +kernel
theorem dX12_due_11 : decode cX12_due 11 = .ok (.aload_n 0, 1) := by decide +kernel
theorem dX12_due_12 : decode cX12_due 12 = .ok (.invokevirtual 218, 3) := by decide +kernel
theorem dX12_due_15 : decode cX12_due 15 = .ok (.iconst 0, 1) := by decide +kernel
theorem dX12_due_16 : decode cX12_due 16 = .ok (.istore_n 2, 1) := by decide +kernel
theorem dX12_due_17 : decode cX12_due 17 = .ok (.iload_n 2, 1) := by decide +kernel
theorem dX12_due_18 : decode cX12_due 18 = .ok (.aload_n 0, 1) := by decide +kernel
theorem dX12_due_19 : decode cX12_due 19 = .ok (.getfield 406, 3) := by decide +kernel
theorem dX12_due_22 : decode cX12_due 22 = .ok (.if_icmp .ge 74, 3) := by decide +kernel
theorem dX12_due_25 : decode cX12_due 25 = .ok (.aload_n 0, 1) := by decide +kernel
theorem dX12_due_26 : decode cX12_due 26 = .ok (.iload_n 2, 1) := by decide +kernel
theorem dX12_due_27 : decode cX12_due 27 = .ok (.invokevirtual 409, 3) := by decide +kernel
theorem dX12_due_30 : decode cX12_due 30 = .ok (.ifCond .ne 60, 3) := by decide +kernel
theorem dX12_due_33 : decode cX12_due 33 = .ok (.aload_n 0, 1) := by decide +kernel
theorem dX12_due_34 : decode cX12_due 34 = .ok (.aload_n 0, 1) := by decide +kernel
theorem dX12_due_35 : decode cX12_due 35 = .ok (.getfield 355, 3) := by decide +kernel
theorem dX12_due_38 : decode cX12_due 38 = .ok (.iload_n 2, 1) := by decide +kernel
theorem dX12_due_39 : decode cX12_due 39 = .ok (.iaload, 1) := by decide +kernel
theorem dX12_due_40 : decode cX12_due 40 = .ok (.aload_n 0, 1) := by decide +kernel
theorem dX12_due_41 : decode cX12_due 41 = .ok (.getfield 15, 3) := by decide +kernel
theorem dX12_due_44 : decode cX12_due 44 = .ok (.invokevirtual 207, 3) := by decide +kernel
theorem dX12_due_47 : decode cX12_due 47 = .ok (.iconst 1, 1) := by decide +kernel
theorem dX12_due_48 : decode cX12_due 48 = .ok (.if_icmp .eq 42, 3) := by decide +kernel
theorem dX12_due_51 : decode cX12_due 51 = .ok (.aload_n 0, 1) := by decide +kernel
theorem dX12_due_52 : decode cX12_due 52 = .ok (.getfield 214, 3) := by decide +kernel
theorem dX12_due_55 : decode cX12_due 55 = .ok (.aload_n 0, 1) := by decide +kernel
theorem dX12_due_56 : decode cX12_due 56 = .ok (.getfield 352, 3) := by decide +kernel
theorem dX12_due_59 : decode cX12_due 59 = .ok (.iload_n 2, 1) := by decide +kernel
theorem dX12_due_60 : decode cX12_due 60 = .ok (.iaload, 1) := by decide +kernel
theorem dX12_due_61 : decode cX12_due 61 = .ok (.dup2, 1) := by decide +kernel
theorem dX12_due_62 : decode cX12_due 62 = .ok (.laload, 1) := by decide +kernel
theorem dX12_due_63 : decode cX12_due 63 = .ok (.aload_n 0, 1) := by decide +kernel
theorem dX12_due_64 : decode cX12_due 64 = .ok (.getfield 358, 3) := by decide +kernel
theorem dX12_due_67 : decode cX12_due 67 = .ok (.iload_n 2, 1) := by decide +kernel
theorem dX12_due_68 : decode cX12_due 68 = .ok (.iaload, 1) := by decide +kernel
theorem dX12_due_69 : decode cX12_due 69 = .ok (.iconst 0, 1) := by decide +kernel
theorem dX12_due_70 : decode cX12_due 70 = .ok (.aload_n 0, 1) := by decide +kernel
theorem dX12_due_71 : decode cX12_due 71 = .ok (.iconst 1, 1) := by decide +kernel
theorem dX12_due_72 : decode cX12_due 72 = .ok (.aload_n 0, 1) := by decide +kernel
theorem dX12_due_73 : decode cX12_due 73 = .ok (.getfield 355, 3) := by decide +kernel
theorem dX12_due_76 : decode cX12_due 76 = .ok (.iload_n 2, 1) := by decide +kernel
theorem dX12_due_77 : decode cX12_due 77 = .ok (.iaload, 1) := by decide +kernel
theorem dX12_due_78 : decode cX12_due 78 = .ok (.invokevirtual 403, 3) := by decide +kernel
theorem dX12_due_81 : decode cX12_due 81 = .ok (.invokestatic 128, 3) := by decide +kernel
theorem dX12_due_84 : decode cX12_due 84 = .ok (.invokestatic 133, 3) := by decide +kernel
theorem dX12_due_87 : decode cX12_due 87 = .ok (.i2l, 1) := by decide +kernel
theorem dX12_due_88 : decode cX12_due 88 = .ok (.ladd, 1) := by decide +kernel
theorem dX12_due_89 : decode cX12_due 89 = .ok (.lastore, 1) := by decide +kernel
theorem dX12_due_90 : decode cX12_due 90 = .ok (.iinc 2 1, 3) := by decide +kernel
theorem dX12_due_93 : decode cX12_due 93 = .ok (.goto (-76), 3) := by decide +kernel
theorem dX12_due_96 : decode cX12_due 96 = .ok (.aload_n 0, 1) := by decide +kernel
theorem dX12_due_97 : decode cX12_due 97 = .ok (.iload_n 1, 1) := by decide +kernel
theorem dX12_due_98 : decode cX12_due 98 = .ok (.invokevirtual 222, 3) := by decide +kernel
theorem dX12_due_101 : decode cX12_due 101 = .ok (.lreturn, 1) := by decide +kernel
theorem dX12_look_0 : decode cX12_look 0 = .ok (.iload_n 1, 1) := by decide +kernel
theorem dX12_look_1 : decode cX12_look 1 = .ok (.invokestatic 19, 3) := by decide +kernel
theorem dX12_look_4 : decode cX12_look 4 = .ok (.ifCond .eq 27, 3) := by decide +kernel
theorem dX12_look_7 : decode cX12_look 7 = .ok (.iload_n 2, 1) := by decide +kernel
theorem dX12_look_8 : decode cX12_look 8 = .ok (.i2l, 1) := by decide +kernel
theorem dX12_look_9 : decode cX12_look 9 = .ok (.lconst 0, 1) := by decide +kernel
theorem dX12_look_10 : decode cX12_look 10 = .ok (.ldc2_w 155, 3) := by decide +kernel
theorem dX12_look_13 : decode cX12_look 13 = .ok (.invokestatic 5, 3) := by decide +kernel
theorem dX12_look_16 : decode cX12_look 16 = .ok (.ifCond .eq 15, 3) := by decide +kernel
theorem dX12_look_19 : decode cX12_look 19 = .ok (.iload_n 3, 1) := by decide +kernel
theorem dX12_look_20 : decode cX12_look 20 = .ok (.i2l, 1) := by decide +kernel
theorem dX12_look_21 : decode cX12_look 21 = .ok (.lconst 0, 1) := by decide +kernel
theorem dX12_look_22 : decode cX12_look 22 = .ok (.ldc2_w 101, 3) := by decide +kernel
theorem dX12_look_25 : decode cX12_look 25 = .ok (.invokestatic 5, 3) := by decide +kernel
theorem dX12_look_28 : decode cX12_look 28 = .ok (.ifCond .ne 6, 3) := by decide +kernel
theorem dX12_look_31 : decode cX12_look 31 = .ok (.bipush (-2), 2) := by decide +kernel
theorem dX12_look_33 : decode cX12_look 33 = .ok (.ireturn, 1) := by decide +kernel
theorem dX12_look_34 : decode cX12_look 34 = .ok (.aload_n 0, 1) := by decide +kernel
theorem dX12_look_35 : decode cX12_look 35 = .ok (.getfield 412, 3) := by decide +kernel
theorem dX12_look_38 : decode cX12_look 38 = .ok (.bipush 20, 2) := by decide +kernel
theorem dX12_look_40 : decode cX12_look 40 = .ok (.if_icmp .ne 6, 3) := by decide +kernel
theorem dX12_look_43 : decode cX12_look 43 = .ok (.bipush (-4), 2) := by decide +kernel
theorem dX12_look_45 : decode cX12_look 45 = .ok (.ireturn, 1) := by decide +kernel
theorem dX12_look_46 : decode cX12_look 46 = .ok (.aload_n 0, 1) := by decide +kernel
theorem dX12_look_47 : decode cX12_look 47 = .ok (.getfield 361, 3) := by decide +kernel
theorem dX12_look_50 : decode cX12_look 50 = .ok (.aload_n 0, 1) := by decide +kernel
theorem dX12_look_51 : decode cX12_look 51 = .ok (.getfield 412, 3) := by decide +kernel
theorem dX12_look_54 : decode cX12_look 54 = .ok (.iload_n 1, 1) := by decide +kernel
theorem dX12_look_55 : decode cX12_look 55 = .ok (.iastore, 1) := by decide +kernel
theorem dX12_look_56 : decode cX12_look 56 = .ok (.aload_n 0, 1) := by decide +kernel
theorem dX12_look_57 : decode cX12_look 57 = .ok (.getfield 364, 3) := by decide +kernel
theorem dX12_look_60 : decode cX12_look 60 = .ok (.aload_n 0, 1) := by decide +kernel
theorem dX12_look_61 : decode cX12_look 61 = .ok (.getfield 412, 3) := by decide +kernel
theorem dX12_look_64 : decode cX12_look 64 = .ok (.iload_n 2, 1) := by decide +kernel
theorem dX12_look_65 : decode cX12_look 65 = .ok (.iastore, 1) := by decide +kernel
theorem dX12_look_66 : decode cX12_look 66 = .ok (.aload_n 0, 1) := by decide +kernel
theorem dX12_look_67 : decode cX12_look 67 = .ok (.getfield 367, 3) := by decide +kernel
theorem dX12_look_70 : decode cX12_look 70 = .ok (.aload_n 0, 1) := by decide +kernel
theorem dX12_look_71 : decode cX12_look 71 = .ok (.getfield 412, 3) := by decide +kernel
theorem dX12_look_74 : decode cX12_look 74 = .ok (.iload_n 3, 1) := by decide +kernel
theorem dX12_look_75 : decode cX12_look 75 = .ok (.iastore, 1) := by decide +kernel
theorem dX12_look_76 : decode cX12_look 76 = .ok (.aload_n 0, 1) := by decide +kernel
theorem dX12_look_77 : decode cX12_look 77 = .ok (.dup, 1) := by decide +kernel
theorem dX12_look_78 : decode cX12_look 78 = .ok (.getfield 412, 3) := by decide +kernel
theorem dX12_look_81 : decode cX12_look 81 = .ok (.iconst 1, 1) := by decide +kernel
theorem dX12_look_82 : decode cX12_look 82 = .ok (.iadd, 1) := by decide +kernel
theorem dX12_look_83 : decode cX12_look 83 = .ok (.putfield 412, 3) := by decide +kernel
theorem dX12_look_86 : decode cX12_look 86 = .ok (.aload_n 0, 1) := by decide +kernel
theorem dX12_look_87 : decode cX12_look 87 = .ok (.getfield 412, 3) := by decide +kernel
theorem dX12_look_90 : decode cX12_look 90 = .ok (.ireturn, 1) := by decide +kernel
theorem dX12_bounds_0 : decode cX12_bounds 0 = .ok (.iload_n 1, 1) := by decide +kernel
theorem dX12_bounds_1 : decode cX12_bounds 1 = .ok (.invokestatic 19, 3) := by decide +kernel
theorem dX12_bounds_4 : decode cX12_bounds 4 = .ok (.ifCond .eq 13, 3) := by decide +kernel
theorem dX12_bounds_7 : decode cX12_bounds 7 = .ok (.iload_n 2, 1) := by decide +kernel
theorem dX12_bounds_8 : decode cX12_bounds 8 = .ok (.i2l, 1) := by decide +kernel
theorem dX12_bounds_9 : decode cX12_bounds 9 = .ok (.lconst 0, 1) := by decide +kernel
theorem dX12_bounds_10 : decode cX12_bounds 10 = .ok (.lconst 1, 1) := by decide +kernel
theorem dX12_bounds_11 : decode cX12_bounds 11 = .ok (.invokestatic 5, 3) := by decide +kernel
theorem dX12_bounds_14 : decode cX12_bounds 14 = .ok (.ifCond .ne 6, 3) := by decide +kernel
theorem dX12_bounds_17 : decode cX12_bounds 17 = .ok (.bipush (-5), 2) := by decide +kernel
theorem dX12_bounds_19 : decode cX12_bounds 19 = .ok (.ireturn, 1) := by decide +kernel
theorem dX12_bounds_20 : decode cX12_bounds 20 = .ok (.iconst (-1), 1) := by decide +kernel
theorem dX12_bounds_21 : decode cX12_bounds 21 = .ok (.istore_n 3, 1) := by decide +kernel
theorem dX12_bounds_22 : decode cX12_bounds 22 = .ok (.iconst (-1), 1) := by decide +kernel
theorem dX12_bounds_23 : decode cX12_bounds 23 = .ok (.istore 4, 2) := by decide +kernel
theorem dX12_bounds_25 : decode cX12_bounds 25 = .ok (.iconst 0, 1) := by decide +kernel
theorem dX12_bounds_26 : decode cX12_bounds 26 = .ok (.istore 5, 2) := by decide +kernel
theorem dX12_bounds_28 : decode cX12_bounds 28 = .ok (.iload 5, 2) := by decide +kernel
theorem dX12_bounds_30 : decode cX12_bounds 30 = .ok (.aload_n 0, 1) := by decide +kernel
theorem dX12_bounds_31 : decode cX12_bounds 31 = .ok (.getfield 412, 3) := by decide +kernel
theorem dX12_bounds_34 : decode cX12_bounds 34 = .ok (.if_icmp .ge 91, 3) := by decide +kernel
theorem dX12_bounds_37 : decode cX12_bounds 37 = .ok (.aload_n 0, 1) := by decide +kernel
theorem dX12_bounds_38 : decode cX12_bounds 38 = .ok (.getfield 361, 3) := by decide +kernel
theorem dX12_bounds_41 : decode cX12_bounds 41 = .ok (.iload 5, 2) := by decide +kernel
theorem dX12_bounds_43 : decode cX12_bounds 43 = .ok (.iaload, 1) := by decide +kernel
theorem dX12_bounds_44 : decode cX12_bounds 44 = .ok (.iload_n 1, 1) := by decide +kernel
theorem dX12_bounds_45 : decode cX12_bounds 45 = .ok (.if_icmp .ne 74, 3) := by decide +kernel
theorem dX12_bounds_48 : decode cX12_bounds 48 = .ok (.aload_n 0, 1) := by decide +kernel
theorem dX12_bounds_49 : decode cX12_bounds 49 = .ok (.getfield 364, 3) := by decide +kernel
theorem dX12_bounds_52 : decode cX12_bounds 52 = .ok (.iload 5, 2) := by decide +kernel
theorem dX12_bounds_54 : decode cX12_bounds 54 = .ok (.iaload, 1) := by decide +kernel
theorem dX12_bounds_55 : decode cX12_bounds 55 = .ok (.aload_n 0, 1) := by decide +kernel
theorem dX12_bounds_56 : decode cX12_bounds 56 = .ok (.getfield 367, 3) := by decide +kernel
theorem dX12_bounds_59 : decode cX12_bounds 59 = .ok (.iload 5, 2) := by decide +kernel
theorem dX12_bounds_61 : decode cX12_bounds 61 = .ok (.iaload, 1) := by decide +kernel
theorem dX12_bounds_62 : decode cX12_bounds 62 = .ok (.imul, 1) := by decide +kernel
theorem dX12_bounds_63 : decode cX12_bounds 63 = .ok (.bipush 100, 2) := by decide +kernel
theorem dX12_bounds_65 : decode cX12_bounds 65 = .ok (.idiv, 1) := by decide +kernel
theorem dX12_bounds_66 : decode cX12_bounds 66 = .ok (.istore 6, 2) := by decide +kernel
theorem dX12_bounds_68 : decode cX12_bounds 68 = .ok (.iload_n 3, 1) := by decide +kernel
theorem dX12_bounds_69 : decode cX12_bounds 69 = .ok (.aload_n 0, 1) := by decide +kernel
theorem dX12_bounds_70 : decode cX12_bounds 70 = .ok (.getfield 364, 3) := by decide +kernel
theorem dX12_bounds_73 : decode cX12_bounds 73 = .ok (.iload 5, 2) := by decide +kernel
theorem dX12_bounds_75 : decode cX12_bounds 75 = .ok (.iaload, 1) := by decide +kernel
theorem dX12_bounds_76 : decode cX12_bounds 76 = .ok (.iload 6, 2) := by decide +kernel
theorem dX12_bounds_78 : decode cX12_bounds 78 = .ok (.isub, 1) := by decide +kernel
theorem dX12_bounds_79 : decode cX12_bounds 79 = .ok (.invokestatic 128, 3) := by decide +kernel
theorem dX12_bounds_82 : decode cX12_bounds 82 = .ok (.istore_n 3, 1) := by decide +kernel
theorem dX12_bounds_83 : decode cX12_bounds 83 = .ok (.iload 4, 2) := by decide +kernel
theorem dX12_bounds_85 : decode cX12_bounds 85 = .ok (.iconst (-1), 1) := by decide +kernel
theorem dX12_bounds_86 : decode cX12_bounds 86 = .ok (.if_icmp .ne 16, 3) := by decide +kernel
theorem dX12_bounds_89 : decode cX12_bounds 89 = .ok (.aload_n 0, 1) := by decide +kernel
theorem dX12_bounds_90 : decode cX12_bounds 90 = .ok (.getfield 364, 3) := by decide +kernel
theorem dX12_bounds_93 : decode cX12_bounds 93 = .ok (.iload 5, 2) := by decide +kernel
theorem dX12_bounds_95 : decode cX12_bounds 95 = .ok (.iaload, 1) := by decide +kernel
theorem dX12_bounds_96 : decode cX12_bounds 96 = .ok (.iload 6, 2) := by decide +kernel
theorem dX12_bounds_98 : decode cX12_bounds 98 = .ok (.iadd, 1) := by decide +kernel
theorem dX12_bounds_99 : decode cX12_bounds 99 = .ok (.goto 18, 3) := by decide +kernel
theorem dX12_bounds_102 : decode cX12_bounds 102 = .ok (.iload 4, 2) := by decide +kernel
theorem dX12_bounds_104 : decode cX12_bounds 104 = .ok (.aload_n 0, 1) := by decide +kernel
theorem dX12_bounds_105 : decode cX12_bounds 105 = .ok (.getfield 364, 3) := by decide +kernel
theorem dX12_bounds_108 : decode cX12_bounds 108 = .ok (.iload 5, 2) := by decide +kernel
theorem dX12_bounds_110 : decode cX12_bounds 110 = .ok (.iaload, 1) := by decide +kernel
theorem dX12_bounds_111 : decode cX12_bounds 111 = .ok (.iload 6, 2) := by decide +kernel
theorem dX12_bounds_113 : decode cX12_bounds 113 = .ok (.iadd, 1) := by decide +kernel
theorem dX12_bounds_114 : decode cX12_bounds 114 = .ok (.invokestatic 133, 3) := by decide +kernel
theorem dX12_bounds_117 : decode cX12_bounds 117 = .ok (.istore 4, 2) := by decide +kernel
theorem dX12_bounds_119 : decode cX12_bounds 119 = .ok (.iinc 5 1, 3) := by decide +kernel
theorem dX12_bounds_122 : decode cX12_bounds 122 = .ok (.goto (-94), 3) := by decide +kernel
theorem dX12_bounds_125 : decode cX12_bounds 125 = .ok (.iload_n 3, 1) := by decide +kernel
theorem dX12_bounds_126 : decode cX12_bounds 126 = .ok (.iload 4, 2) := by decide +kernel
theorem dX12_bounds_128 : decode cX12_bounds 128 = .ok (.if_icmp .le 8, 3) := by decide +kernel
theorem dX12_bounds_131 : decode cX12_bounds 131 = .ok (.bipush (-2), 2) := by decide +kernel
theorem dX12_bounds_133 : decode cX12_bounds 133 = .ok (.goto 13, 3) := by decide +kernel
theorem dX12_bounds_136 : decode cX12_bounds 136 = .ok (.iload_n 2, 1) := by decide +kernel
theorem dX12_bounds_137 : decode cX12_bounds 137 = .ok (.ifCond .ne 7, 3) := by decide +kernel
theorem dX12_bounds_140 : decode cX12_bounds 140 = .ok (.iload_n 3, 1) := by decide +kernel
theorem dX12_bounds_141 : decode cX12_bounds 141 = .ok (.goto 5, 3) := by decide +kernel
theorem dX12_bounds_144 : decode cX12_bounds 144 = .ok (.iload 4, 2) := by decide +kernel
theorem dX12_bounds_146 : decode cX12_bounds 146 = .ok (.ireturn, 1) := by decide +kernel
theorem dX12_hold_0 : decode cX12_hold 0 = .ok (.iload_n 1, 1) := by decide +kernel
theorem dX12_hold_1 : decode cX12_hold 1 = .ok (.invokestatic 23, 3) := by decide +kernel
theorem dX12_hold_4 : decode cX12_hold 4 = .ok (.ifCond .eq 15, 3) := by decide +kernel
theorem dX12_hold_7 : decode cX12_hold 7 = .ok (.iload_n 2, 1) := by decide +kernel
theorem dX12_hold_8 : decode cX12_hold 8 = .ok (.i2l, 1) := by decide +kernel
theorem dX12_hold_9 : decode cX12_hold 9 = .ok (.lconst 0, 1) := by decide +kernel
theorem dX12_hold_10 : decode cX12_hold 10 = .ok (.ldc2_w 3, 3) := by decide +kernel
theorem dX12_hold_13 : decode cX12_hold 13 = .ok (.invokestatic 5, 3) := by decide +kernel
theorem dX12_hold_16 : decode cX12_hold 16 = .ok (.ifCond .ne 6, 3) := by decide +kernel
theorem dX12_hold_19 : decode cX12_hold 19 = .ok (.bipush (-2), 2) := by decide +kernel
theorem dX12_hold_21 : decode cX12_hold 21 = .ok (.ireturn, 1) := by decide +kernel
theorem dX12_hold_22 : decode cX12_hold 22 = .ok (.aload_n 0, 1) := by decide +kernel
theorem dX12_hold_23 : decode cX12_hold 23 = .ok (.getfield 370, 3) := by decide +kernel
theorem dX12_hold_26 : decode cX12_hold 26 = .ok (.iload_n 1, 1) := by decide +kernel
theorem dX12_hold_27 : decode cX12_hold 27 = .ok (.iaload, 1) := by decide +kernel
theorem dX12_hold_28 : decode cX12_hold 28 = .ok (.istore_n 3, 1) := by decide +kernel
theorem dX12_hold_29 : decode cX12_hold 29 = .ok (.aload_n 0, 1) := by decide +kernel
theorem dX12_hold_30 : decode cX12_hold 30 = .ok (.getfield 370, 3) := by decide +kernel
theorem dX12_hold_33 : decode cX12_hold 33 = .ok (.iload_n 1, 1) := by decide +kernel
theorem dX12_hold_34 : decode cX12_hold 34 = .ok (.iload_n 2, 1) := by decide +kernel
theorem dX12_hold_35 : decode cX12_hold 35 = .ok (.iastore, 1) := by decide +kernel
theorem dX12_hold_36 : decode cX12_hold 36 = .ok (.iload_n 3, 1) := by decide +kernel
theorem dX12_hold_37 : decode cX12_hold 37 = .ok (.ireturn, 1) := by decide +kernel
theorem dX12_beside_0 : decode cX12_beside 0 = .ok (.iload_n 1, 1) := by decide +kernel
theorem dX12_beside_1 : decode cX12_beside 1 = .ok (.tableswitch 64 0 2 #[27, 32, 47], 27) := by decide +kernel
theorem dX12_beside_28 : decode cX12_beside 28 = .ok (.iload_n 0, 1) := by decide +kernel
theorem dX12_beside_29 : decode cX12_beside 29 = .ok (.bipush 8, 2) := by decide +kernel
theorem dX12_beside_31 : decode cX12_beside 31 = .ok (.isub, 1) := by decide +kernel
theorem dX12_beside_32 : decode cX12_beside 32 = .ok (.ireturn, 1) := by decide +kernel
theorem dX12_beside_33 : decode cX12_beside 33 = .ok (.iload_n 0, 1) := by decide +kernel
theorem dX12_beside_34 : decode cX12_beside 34 = .ok (.bipush 8, 2) := by decide +kernel
theorem dX12_beside_36 : decode cX12_beside 36 = .ok (.irem, 1) := by decide +kernel
theorem dX12_beside_37 : decode cX12_beside 37 = .ok (.ifCond .ne 7, 3) := by decide +kernel
theorem dX12_beside_40 : decode cX12_beside 40 = .ok (.iconst (-1), 1) := by decide +kernel
theorem dX12_beside_41 : decode cX12_beside 41 = .ok (.goto 6, 3) := by decide +kernel
theorem dX12_beside_44 : decode cX12_beside 44 = .ok (.iload_n 0, 1) := by decide +kernel
theorem dX12_beside_45 : decode cX12_beside 45 = .ok (.iconst 1, 1) := by decide +kernel
theorem dX12_beside_46 : decode cX12_beside 46 = .ok (.isub, 1) := by decide +kernel
theorem dX12_beside_47 : decode cX12_beside 47 = .ok (.ireturn, 1) := by decide +kernel
theorem dX12_beside_48 : decode cX12_beside 48 = .ok (.iload_n 0, 1) := by decide +kernel
theorem dX12_beside_49 : decode cX12_beside 49 = .ok (.bipush 8, 2) := by decide +kernel
theorem dX12_beside_51 : decode cX12_beside 51 = .ok (.irem, 1) := by decide +kernel
theorem dX12_beside_52 : decode cX12_beside 52 = .ok (.bipush 7, 2) := by decide +kernel
theorem dX12_beside_54 : decode cX12_beside 54 = .ok (.if_icmp .ne 7, 3) := by decide +kernel
theorem dX12_beside_57 : decode cX12_beside 57 = .ok (.iconst (-1), 1) := by decide +kernel
theorem dX12_beside_58 : decode cX12_beside 58 = .ok (.goto 6, 3) := by decide +kernel
theorem dX12_beside_61 : decode cX12_beside 61 = .ok (.iload_n 0, 1) := by decide +kernel
theorem dX12_beside_62 : decode cX12_beside 62 = .ok (.iconst 1, 1) := by decide +kernel
theorem dX12_beside_63 : decode cX12_beside 63 = .ok (.iadd, 1) := by decide +kernel
theorem dX12_beside_64 : decode cX12_beside 64 = .ok (.ireturn, 1) := by decide +kernel
theorem dX12_beside_65 : decode cX12_beside 65 = .ok (.iload_n 0, 1) := by decide +kernel
theorem dX12_beside_66 : decode cX12_beside 66 = .ok (.bipush 8, 2) := by decide +kernel
theorem dX12_beside_68 : decode cX12_beside 68 = .ok (.iadd, 1) := by decide +kernel
theorem dX12_beside_69 : decode cX12_beside 69 = .ok (.bipush 48, 2) := by decide +kernel
theorem dX12_beside_71 : decode cX12_beside 71 = .ok (.if_icmp .ge 10, 3) := by decide +kernel
theorem dX12_beside_74 : decode cX12_beside 74 = .ok (.iload_n 0, 1) := by decide +kernel
theorem dX12_beside_75 : decode cX12_beside 75 = .ok (.bipush 8, 2) := by decide +kernel
theorem dX12_beside_77 : decode cX12_beside 77 = .ok (.iadd, 1) := by decide +kernel
theorem dX12_beside_78 : decode cX12_beside 78 = .ok (.goto 4, 3) := by decide +kernel
theorem dX12_beside_81 : decode cX12_beside 81 = .ok (.iconst (-1), 1) := by decide +kernel
theorem dX12_beside_82 : decode cX12_beside 82 = .ok (.ireturn, 1) := by decide +kernel
theorem dX12_costOf_0 : decode cX12_costOf 0 = .ok (.aload_n 0, 1) := by decide +kernel
theorem dX12_costOf_1 : decode cX12_costOf 1 = .ok (.iload_n 1, 1) := by decide +kernel
theorem dX12_costOf_2 : decode cX12_costOf 2 = .ok (.aload_n 0, 1) := by decide +kernel
theorem dX12_costOf_3 : decode cX12_costOf 3 = .ok (.getfield 15, 3) := by decide +kernel
theorem dX12_costOf_6 : decode cX12_costOf 6 = .ok (.invokevirtual 42, 3) := by decide +kernel
theorem dX12_costOf_9 : decode cX12_costOf 9 = .ok (.istore 4, 2) := by decide +kernel
theorem dX12_costOf_11 : decode cX12_costOf 11 = .ok (.aload_n 0, 1) := by decide +kernel
theorem dX12_costOf_12 : decode cX12_costOf 12 = .ok (.getfield 64, 3) := by decide +kernel
theorem dX12_costOf_15 : decode cX12_costOf 15 = .ok (.iload_n 1, 1) := by decide +kernel
theorem dX12_costOf_16 : decode cX12_costOf 16 = .ok (.iaload, 1) := by decide +kernel
theorem dX12_costOf_17 : decode cX12_costOf 17 = .ok (.iconst 1, 1) := by decide +kernel
theorem dX12_costOf_18 : decode cX12_costOf 18 = .ok (.if_icmp .eq 9, 3) := by decide +kernel
theorem dX12_costOf_21 : decode cX12_costOf 21 = .ok (.iload 4, 2) := by decide +kernel
theorem dX12_costOf_23 : decode cX12_costOf 23 = .ok (.iload_n 2, 1) := by decide +kernel
theorem dX12_costOf_24 : decode cX12_costOf 24 = .ok (.if_icmp .ne 7, 3) := by decide +kernel
theorem dX12_costOf_27 : decode cX12_costOf 27 = .ok (.iconst (-1), 1) := by decide +kernel
theorem dX12_costOf_28 : decode cX12_costOf 28 = .ok (.goto 27, 3) := by decide +kernel
theorem dX12_costOf_31 : decode cX12_costOf 31 = .ok (.aload_n 0, 1) := by decide +kernel
theorem dX12_costOf_32 : decode cX12_costOf 32 = .ok (.getfield 61, 3) := by decide +kernel
theorem dX12_costOf_35 : decode cX12_costOf 35 = .ok (.iload_n 1, 1) := by decide +kernel
theorem dX12_costOf_36 : decode cX12_costOf 36 = .ok (.iaload, 1) := by decide +kernel
theorem dX12_costOf_37 : decode cX12_costOf 37 = .ok (.iload 4, 2) := by decide +kernel
theorem dX12_costOf_39 : decode cX12_costOf 39 = .ok (.iload_n 3, 1) := by decide +kernel
theorem dX12_costOf_40 : decode cX12_costOf 40 = .ok (.if_icmp .ne 7, 3) := by decide +kernel
theorem dX12_costOf_43 : decode cX12_costOf 43 = .ok (.iconst 0, 1) := by decide +kernel
theorem dX12_costOf_44 : decode cX12_costOf 44 = .ok (.goto 10, 3) := by decide +kernel
theorem dX12_costOf_47 : decode cX12_costOf 47 = .ok (.aload_n 0, 1) := by decide +kernel
theorem dX12_costOf_48 : decode cX12_costOf 48 = .ok (.getfield 370, 3) := by decide +kernel
theorem dX12_costOf_51 : decode cX12_costOf 51 = .ok (.iload 4, 2) := by decide +kernel
theorem dX12_costOf_53 : decode cX12_costOf 53 = .ok (.iaload, 1) := by decide +kernel
theorem dX12_costOf_54 : decode cX12_costOf 54 = .ok (.iadd, 1) := by decide +kernel
theorem dX12_costOf_55 : decode cX12_costOf 55 = .ok (.ireturn, 1) := by decide +kernel
theorem dX12_isShorter_0 : decode cX12_isShorter 0 = .ok (.aload_n 0, 1) := by decide +kernel
theorem dX12_isShorter_1 : decode cX12_isShorter 1 = .ok (.getfield 373, 3) := by decide +kernel
theorem dX12_isShorter_4 : decode cX12_isShorter 4 = .ok (.iload_n 3, 1) := by decide +kernel
theorem dX12_isShorter_5 : decode cX12_isShorter 5 = .ok (.iaload, 1) := by decide +kernel
theorem dX12_isShorter_6 : decode cX12_isShorter 6 = .ok (.iconst (-1), 1) := by decide +kernel
theorem dX12_isShorter_7 : decode cX12_isShorter 7 = .ok (.if_icmp .eq 33, 3) := by decide +kernel
theorem dX12_isShorter_10 : decode cX12_isShorter 10 = .ok (.iload_n 1, 1) := by decide +kernel
theorem dX12_isShorter_11 : decode cX12_isShorter 11 = .ok (.aload_n 0, 1) := by decide +kernel
theorem dX12_isShorter_12 : decode cX12_isShorter 12 = .ok (.getfield 373, 3) := by decide +kernel
theorem dX12_isShorter_15 : decode cX12_isShorter 15 = .ok (.iload_n 3, 1) := by decide +kernel
theorem dX12_isShorter_16 : decode cX12_isShorter 16 = .ok (.iaload, 1) := by decide +kernel
theorem dX12_isShorter_17 : decode cX12_isShorter 17 = .ok (.if_icmp .lt 23, 3) := by decide +kernel
theorem dX12_isShorter_20 : decode cX12_isShorter 20 = .ok (.iload_n 1, 1) := by decide +kernel
theorem dX12_isShorter_21 : decode cX12_isShorter 21 = .ok (.aload_n 0, 1) := by decide +kernel
theorem dX12_isShorter_22 : decode cX12_isShorter 22 = .ok (.getfield 373, 3) := by decide +kernel
theorem dX12_isShorter_25 : decode cX12_isShorter 25 = .ok (.iload_n 3, 1) := by decide +kernel
theorem dX12_isShorter_26 : decode cX12_isShorter 26 = .ok (.iaload, 1) := by decide +kernel
theorem dX12_isShorter_27 : decode cX12_isShorter 27 = .ok (.if_icmp .ne 17, 3) := by decide +kernel
theorem dX12_isShorter_30 : decode cX12_isShorter 30 = .ok (.iload_n 2, 1) := by decide +kernel
theorem dX12_isShorter_31 : decode cX12_isShorter 31 = .ok (.aload_n 0, 1) := by decide +kernel
theorem dX12_isShorter_32 : decode cX12_isShorter 32 = .ok (.getfield 376, 3) := by decide +kernel
theorem dX12_isShorter_35 : decode cX12_isShorter 35 = .ok (.iload_n 3, 1) := by decide +kernel
theorem dX12_isShorter_36 : decode cX12_isShorter 36 = .ok (.iaload, 1) := by decide +kernel
theorem dX12_isShorter_37 : decode cX12_isShorter 37 = .ok (.if_icmp .ge 7, 3) := by decide +kernel
theorem dX12_isShorter_40 : decode cX12_isShorter 40 = .ok (.iconst 1, 1) := by decide +kernel
theorem dX12_isShorter_41 : decode cX12_isShorter 41 = .ok (.goto 4, 3) := by decide +kernel
theorem dX12_isShorter_44 : decode cX12_isShorter 44 = .ok (.iconst 0, 1) := by decide +kernel
theorem dX12_isShorter_45 : decode cX12_isShorter 45 = .ok (.ireturn, 1) := by decide +kernel
theorem dX12_findWays_0 : decode cX12_findWays 0 = .ok (.iconst 0, 1) := by decide +kernel
theorem dX12_findWays_1 : decode cX12_findWays 1 = .ok (.istore 4, 2) := by decide +kernel
theorem dX12_findWays_3 : decode cX12_findWays 3 = .ok (.iload 4, 2) := by decide +kernel
theorem dX12_findWays_5 : decode cX12_findWays 5 = .ok (.bipush 48, 2) := by decide +kernel
theorem dX12_findWays_7 : decode cX12_findWays 7 = .ok (.if_icmp .ge 17, 3) := by decide +kernel
theorem dX12_findWays_10 : decode cX12_findWays 10 = .ok (.aload_n 0, 1) := by decide +kernel
theorem dX12_findWays_11 : decode cX12_findWays 11 = .ok (.getfield 373, 3) := by decide +kernel
theorem dX12_findWays_14 : decode cX12_findWays 14 = .ok (.iload 4, 2) := by decide +kernel
theorem dX12_findWays_16 : decode cX12_findWays 16 = .ok (.iconst (-1), 1) := by decide +kernel
theorem dX12_findWays_17 : decode cX12_findWays 17 = .ok (.iastore, 1) := by decide +kernel
theorem dX12_findWays_18 : decode cX12_findWays 18 = .ok (.iinc 4 1, 3) := by decide +kernel
theorem dX12_findWays_21 : decode cX12_findWays 21 = .ok (.goto (-18), 3) := by decide +kernel
theorem dX12_findWays_24 : decode cX12_findWays 24 = .ok (.aload_n 0, 1) := by decide +kernel
theorem dX12_findWays_25 : decode cX12_findWays 25 = .ok (.getfield 373, 3) := by decide +kernel
theorem dX12_findWays_28 : decode cX12_findWays 28 = .ok (.iload_n 1, 1) := by decide +kernel
theorem dX12_findWays_29 : decode cX12_findWays 29 = .ok (.aload_n 0, 1) := by decide +kernel
theorem dX12_findWays_30 : decode cX12_findWays 30 = .ok (.iload_n 1, 1) := by decide +kernel
theorem dX12_findWays_31 : decode cX12_findWays 31 = .ok (.iload_n 2, 1) := by decide +kernel
theorem dX12_findWays_32 : decode cX12_findWays 32 = .ok (.iload_n 3, 1) := by decide +kernel
theorem dX12_findWays_33 : decode cX12_findWays 33 = .ok (.invokevirtual 415, 3) := by decide +kernel
theorem dX12_findWays_36 : decode cX12_findWays 36 = .ok (.iastore, 1) := by decide +kernel
theorem dX12_findWays_37 : decode cX12_findWays 37 = .ok (.aload_n 0, 1) := by decide +kernel
theorem dX12_findWays_38 : decode cX12_findWays 38 = .ok (.getfield 376, 3) := by decide +kernel
theorem dX12_findWays_41 : decode cX12_findWays 41 = .ok (.iload_n 1, 1) := by decide +kernel
theorem dX12_findWays_42 : decode cX12_findWays 42 = .ok (.iconst 1, 1) := by decide +kernel
theorem dX12_findWays_43 : decode cX12_findWays 43 = .ok (.iastore, 1) := by decide +kernel
theorem dX12_findWays_44 : decode cX12_findWays 44 = .ok (.iconst 1, 1) := by decide +kernel
theorem dX12_findWays_45 : decode cX12_findWays 45 = .ok (.istore 4, 2) := by decide +kernel
theorem dX12_findWays_47 : decode cX12_findWays 47 = .ok (.iload 4, 2) := by decide +kernel
theorem dX12_findWays_49 : decode cX12_findWays 49 = .ok (.ifCond .eq 145, 3) := by decide +kernel
theorem dX12_findWays_52 : decode cX12_findWays 52 = .ok (.iconst 0, 1) := by decide +kernel
theorem dX12_findWays_53 : decode cX12_findWays 53 = .ok (.istore 4, 2) := by decide +kernel
theorem dX12_findWays_55 : decode cX12_findWays 55 = .ok (.iconst 0, 1) := by decide +kernel
theorem dX12_findWays_56 : decode cX12_findWays 56 = .ok (.istore 5, 2) := by decide +kernel
theorem dX12_findWays_58 : decode cX12_findWays 58 = .ok (.iload 5, 2) := by decide +kernel
theorem dX12_findWays_60 : decode cX12_findWays 60 = .ok (.bipush 48, 2) := by decide +kernel
theorem dX12_findWays_62 : decode cX12_findWays 62 = .ok (.if_icmp .ge 129, 3) := by decide +kernel
theorem dX12_findWays_65 : decode cX12_findWays 65 = .ok (.aload_n 0, 1) := by decide +kernel
theorem dX12_findWays_66 : decode cX12_findWays 66 = .ok (.iload 5, 2) := by decide +kernel
theorem dX12_findWays_68 : decode cX12_findWays 68 = .ok (.iload_n 2, 1) := by decide +kernel
theorem dX12_findWays_69 : decode cX12_findWays 69 = .ok (.iload_n 3, 1) := by decide +kernel
theorem dX12_findWays_70 : decode cX12_findWays 70 = .ok (.invokevirtual 415, 3) := by decide +kernel
theorem dX12_findWays_73 : decode cX12_findWays 73 = .ok (.istore 6, 2) := by decide +kernel
theorem dX12_findWays_75 : decode cX12_findWays 75 = .ok (.iconst 0, 1) := by decide +kernel
theorem dX12_findWays_76 : decode cX12_findWays 76 = .ok (.istore 7, 2) := by decide +kernel
theorem dX12_findWays_78 : decode cX12_findWays 78 = .ok (.iload 7, 2) := by decide +kernel
theorem dX12_findWays_80 : decode cX12_findWays 80 = .ok (.iconst 4, 1) := by decide +kernel
theorem dX12_findWays_81 : decode cX12_findWays 81 = .ok (.if_icmp .ge 104, 3) := by decide +kernel
theorem dX12_findWays_84 : decode cX12_findWays 84 = .ok (.iload 6, 2) := by decide +kernel
theorem dX12_findWays_86 : decode cX12_findWays 86 = .ok (.iconst (-1), 1) := by decide +kernel
theorem dX12_findWays_87 : decode cX12_findWays 87 = .ok (.if_icmp .eq 98, 3) := by decide +kernel
theorem dX12_findWays_90 : decode cX12_findWays 90 = .ok (.iload 5, 2) := by decide +kernel
theorem dX12_findWays_92 : decode cX12_findWays 92 = .ok (.iload 7, 2) := by decide +kernel
theorem dX12_findWays_94 : decode cX12_findWays 94 = .ok (.invokestatic 418, 3) := by decide +kernel
theorem dX12_findWays_97 : decode cX12_findWays 97 = .ok (.istore 8, 2) := by decide +kernel
theorem dX12_findWays_99 : decode cX12_findWays 99 = .ok (.iload 8, 2) := by decide +kernel
theorem dX12_findWays_101 : decode cX12_findWays 101 = .ok (.ifCond .lt 78, 3) := by decide +kernel
theorem dX12_findWays_104 : decode cX12_findWays 104 = .ok (.aload_n 0, 1) := by decide +kernel
theorem dX12_findWays_105 : decode cX12_findWays 105 = .ok (.getfield 373, 3) := by decide +kernel
theorem dX12_findWays_108 : decode cX12_findWays 108 = .ok (.iload 8, 2) := by decide +kernel
theorem dX12_findWays_110 : decode cX12_findWays 110 = .ok (.iaload, 1) := by decide +kernel
theorem dX12_findWays_111 : decode cX12_findWays 111 = .ok (.iconst (-1), 1) := by decide +kernel
theorem dX12_findWays_112 : decode cX12_findWays 112 = .ok (.if_icmp .eq 67, 3) := by decide +kernel
theorem dX12_findWays_115 : decode cX12_findWays 115 = .ok (.aload_n 0, 1) := by decide +kernel
theorem dX12_findWays_116 : decode cX12_findWays 116 = .ok (.aload_n 0, 1) := by decide +kernel
theorem dX12_findWays_117 : decode cX12_findWays 117 = .ok (.getfield 373, 3) := by decide +kernel
theorem dX12_findWays_120 : decode cX12_findWays 120 = .ok (.iload 8, 2) := by decide +kernel
theorem dX12_findWays_122 : decode cX12_findWays 122 = .ok (.iaload, 1) := by decide +kernel
theorem dX12_findWays_123 : decode cX12_findWays 123 = .ok (.iload 6, 2) := by decide +kernel
theorem dX12_findWays_125 : decode cX12_findWays 125 = .ok (.iadd, 1) := by decide +kernel
theorem dX12_findWays_126 : decode cX12_findWays 126 = .ok (.aload_n 0, 1) := by decide +kernel
theorem dX12_findWays_127 : decode cX12_findWays 127 = .ok (.getfield 376, 3) := by decide +kernel
theorem dX12_findWays_130 : decode cX12_findWays 130 = .ok (.iload 8, 2) := by decide +kernel
theorem dX12_findWays_132 : decode cX12_findWays 132 = .ok (.iaload, 1) := by decide +kernel
theorem dX12_findWays_133 : decode cX12_findWays 133 = .ok (.iconst 1, 1) := by decide +kernel
theorem dX12_findWays_134 : decode cX12_findWays 134 = .ok (.iadd, 1) := by decide +kernel
theorem dX12_findWays_135 : decode cX12_findWays 135 = .ok (.iload 5, 2) := by decide +kernel
theorem dX12_findWays_137 : decode cX12_findWays 137 = .ok (.invokevirtual 421, 3) := by decide +kernel
theorem dX12_findWays_140 : decode cX12_findWays 140 = .ok (.ifCond .eq 39, 3) := by decide +kernel
theorem dX12_findWays_143 : decode cX12_findWays 143 = .ok (.aload_n 0, 1) := by decide +kernel
theorem dX12_findWays_144 : decode cX12_findWays 144 = .ok (.getfield 373, 3) := by decide +kernel
theorem dX12_findWays_147 : decode cX12_findWays 147 = .ok (.iload 5, 2) := by decide +kernel
theorem dX12_findWays_149 : decode cX12_findWays 149 = .ok (.aload_n 0, 1) := by decide +kernel
theorem dX12_findWays_150 : decode cX12_findWays 150 = .ok (.getfield 373, 3) := by decide +kernel
theorem dX12_findWays_153 : decode cX12_findWays 153 = .ok (.iload 8, 2) := by decide +kernel
theorem dX12_findWays_155 : decode cX12_findWays 155 = .ok (.iaload, 1) := by decide +kernel
theorem dX12_findWays_156 : decode cX12_findWays 156 = .ok (.iload 6, 2) := by decide +kernel
theorem dX12_findWays_158 : decode cX12_findWays 158 = .ok (.iadd, 1) := by decide +kernel
theorem dX12_findWays_159 : decode cX12_findWays 159 = .ok (.iastore, 1) := by decide +kernel
theorem dX12_findWays_160 : decode cX12_findWays 160 = .ok (.aload_n 0, 1) := by decide +kernel
theorem dX12_findWays_161 : decode cX12_findWays 161 = .ok (.getfield 376, 3) := by decide +kernel
theorem dX12_findWays_164 : decode cX12_findWays 164 = .ok (.iload 5, 2) := by decide +kernel
theorem dX12_findWays_166 : decode cX12_findWays 166 = .ok (.aload_n 0, 1) := by decide +kernel
theorem dX12_findWays_167 : decode cX12_findWays 167 = .ok (.getfield 376, 3) := by decide +kernel
theorem dX12_findWays_170 : decode cX12_findWays 170 = .ok (.iload 8, 2) := by decide +kernel
theorem dX12_findWays_172 : decode cX12_findWays 172 = .ok (.iaload, 1) := by decide +kernel
theorem dX12_findWays_173 : decode cX12_findWays 173 = .ok (.iconst 1, 1) := by decide +kernel
theorem dX12_findWays_174 : decode cX12_findWays 174 = .ok (.iadd, 1) := by decide +kernel
theorem dX12_findWays_175 : decode cX12_findWays 175 = .ok (.iastore, 1) := by decide +kernel
theorem dX12_findWays_176 : decode cX12_findWays 176 = .ok (.iconst 1, 1) := by decide +kernel
theorem dX12_findWays_177 : decode cX12_findWays 177 = .ok (.istore 4, 2) := by decide +kernel
theorem dX12_findWays_179 : decode cX12_findWays 179 = .ok (.iinc 7 1, 3) := by decide +kernel
theorem dX12_findWays_182 : decode cX12_findWays 182 = .ok (.goto (-104), 3) := by decide +kernel
theorem dX12_findWays_185 : decode cX12_findWays 185 = .ok (.iinc 5 1, 3) := by decide +kernel
theorem dX12_findWays_188 : decode cX12_findWays 188 = .ok (.goto (-130), 3) := by decide +kernel
theorem dX12_findWays_191 : decode cX12_findWays 191 = .ok (.goto (-144), 3) := by decide +kernel
theorem dX12_findWays_194 : decode cX12_findWays 194 = .ok (.return_, 1) := by decide +kernel
theorem dX12_nextOf_0 : decode cX12_nextOf 0 = .ok (.aload_n 0, 1) := by decide +kernel
theorem dX12_nextOf_1 : decode cX12_nextOf 1 = .ok (.iload_n 1, 1) := by decide +kernel
theorem dX12_nextOf_2 : decode cX12_nextOf 2 = .ok (.iconst (-1), 1) := by decide +kernel
theorem dX12_nextOf_3 : decode cX12_nextOf 3 = .ok (.iconst (-1), 1) := by decide +kernel
theorem dX12_nextOf_4 : decode cX12_nextOf 4 = .ok (.invokevirtual 415, 3) := by decide +kernel
theorem dX12_nextOf_7 : decode cX12_nextOf 7 = .ok (.istore_n 2, 1) := by decide +kernel
theorem dX12_nextOf_8 : decode cX12_nextOf 8 = .ok (.iconst 0, 1) := by decide +kernel
theorem dX12_nextOf_9 : decode cX12_nextOf 9 = .ok (.istore_n 3, 1) := by decide +kernel
theorem dX12_nextOf_10 : decode cX12_nextOf 10 = .ok (.iload_n 3, 1) := by decide +kernel
theorem dX12_nextOf_11 : decode cX12_nextOf 11 = .ok (.iconst 4, 1) := by decide +kernel
theorem dX12_nextOf_12 : decode cX12_nextOf 12 = .ok (.if_icmp .ge 71, 3) := by decide +kernel
theorem dX12_nextOf_15 : decode cX12_nextOf 15 = .ok (.iload_n 1, 1) := by decide +kernel
theorem dX12_nextOf_16 : decode cX12_nextOf 16 = .ok (.iload_n 3, 1) := by decide +kernel
theorem dX12_nextOf_17 : decode cX12_nextOf 17 = .ok (.invokestatic 418, 3) := by decide +kernel
theorem dX12_nextOf_20 : decode cX12_nextOf 20 = .ok (.istore 4, 2) := by decide +kernel
theorem dX12_nextOf_22 : decode cX12_nextOf 22 = .ok (.iload 4, 2) := by decide +kernel
theorem dX12_nextOf_24 : decode cX12_nextOf 24 = .ok (.ifCond .lt 53, 3) := by decide +kernel
theorem dX12_nextOf_27 : decode cX12_nextOf 27 = .ok (.aload_n 0, 1) := by decide +kernel
theorem dX12_nextOf_28 : decode cX12_nextOf 28 = .ok (.getfield 373, 3) := by decide +kernel
theorem dX12_nextOf_31 : decode cX12_nextOf 31 = .ok (.iload 4, 2) := by decide +kernel
theorem dX12_nextOf_33 : decode cX12_nextOf 33 = .ok (.iaload, 1) := by decide +kernel
theorem dX12_nextOf_34 : decode cX12_nextOf 34 = .ok (.iconst (-1), 1) := by decide +kernel
theorem dX12_nextOf_35 : decode cX12_nextOf 35 = .ok (.if_icmp .eq 42, 3) := by decide +kernel
theorem dX12_nextOf_38 : decode cX12_nextOf 38 = .ok (.aload_n 0, 1) := by decide +kernel
theorem dX12_nextOf_39 : decode cX12_nextOf 39 = .ok (.getfield 373, 3) := by decide +kernel
theorem dX12_nextOf_42 : decode cX12_nextOf 42 = .ok (.iload 4, 2) := by decide +kernel
theorem dX12_nextOf_44 : decode cX12_nextOf 44 = .ok (.iaload, 1) := by decide +kernel
theorem dX12_nextOf_45 : decode cX12_nextOf 45 = .ok (.iload_n 2, 1) := by decide +kernel
theorem dX12_nextOf_46 : decode cX12_nextOf 46 = .ok (.iadd, 1) := by decide +kernel
theorem dX12_nextOf_47 : decode cX12_nextOf 47 = .ok (.aload_n 0, 1) := by decide +kernel
theorem dX12_nextOf_48 : decode cX12_nextOf 48 = .ok (.getfield 373, 3) := by decide +kernel
theorem dX12_nextOf_51 : decode cX12_nextOf 51 = .ok (.iload_n 1, 1) := by decide +kernel
theorem dX12_nextOf_52 : decode cX12_nextOf 52 = .ok (.iaload, 1) := by decide +kernel
theorem dX12_nextOf_53 : decode cX12_nextOf 53 = .ok (.if_icmp .ne 24, 3) := by decide +kernel
theorem dX12_nextOf_56 : decode cX12_nextOf 56 = .ok (.aload_n 0, 1) := by decide +kernel
theorem dX12_nextOf_57 : decode cX12_nextOf 57 = .ok (.getfield 376, 3) := by decide +kernel
theorem dX12_nextOf_60 : decode cX12_nextOf 60 = .ok (.iload 4, 2) := by decide +kernel
theorem dX12_nextOf_62 : decode cX12_nextOf 62 = .ok (.iaload, 1) := by decide +kernel
theorem dX12_nextOf_63 : decode cX12_nextOf 63 = .ok (.iconst 1, 1) := by decide +kernel
theorem dX12_nextOf_64 : decode cX12_nextOf 64 = .ok (.iadd, 1) := by decide +kernel
theorem dX12_nextOf_65 : decode cX12_nextOf 65 = .ok (.aload_n 0, 1) := by decide +kernel
theorem dX12_nextOf_66 : decode cX12_nextOf 66 = .ok (.getfield 376, 3) := by decide +kernel
theorem dX12_nextOf_69 : decode cX12_nextOf 69 = .ok (.iload_n 1, 1) := by decide +kernel
theorem dX12_nextOf_70 : decode cX12_nextOf 70 = .ok (.iaload, 1) := by decide +kernel
theorem dX12_nextOf_71 : decode cX12_nextOf 71 = .ok (.if_icmp .ne 6, 3) := by decide +kernel
theorem dX12_nextOf_74 : decode cX12_nextOf 74 = .ok (.iload 4, 2) := by decide +kernel
theorem dX12_nextOf_76 : decode cX12_nextOf 76 = .ok (.ireturn, 1) := by decide +kernel
theorem dX12_nextOf_77 : decode cX12_nextOf 77 = .ok (.iinc 3 1, 3) := by decide +kernel
theorem dX12_nextOf_80 : decode cX12_nextOf 80 = .ok (.goto (-70), 3) := by decide +kernel
theorem dX12_nextOf_83 : decode cX12_nextOf 83 = .ok (.iconst (-1), 1) := by decide +kernel
theorem dX12_nextOf_84 : decode cX12_nextOf 84 = .ok (.ireturn, 1) := by decide +kernel
theorem dX12_way_0 : decode cX12_way 0 = .ok (.iload_n 1, 1) := by decide +kernel
theorem dX12_way_1 : decode cX12_way 1 = .ok (.invokestatic 19, 3) := by decide +kernel
theorem dX12_way_4 : decode cX12_way 4 = .ok (.ifCond .eq 10, 3) := by decide +kernel
theorem dX12_way_7 : decode cX12_way 7 = .ok (.iload_n 2, 1) := by decide +kernel
theorem dX12_way_8 : decode cX12_way 8 = .ok (.invokestatic 19, 3) := by decide +kernel
theorem dX12_way_11 : decode cX12_way 11 = .ok (.ifCond .ne 6, 3) := by decide +kernel
theorem dX12_way_14 : decode cX12_way 14 = .ok (.bipush (-2), 2) := by decide +kernel
theorem dX12_way_16 : decode cX12_way 16 = .ok (.ireturn, 1) := by decide +kernel
theorem dX12_way_17 : decode cX12_way 17 = .ok (.aload_n 0, 1) := by decide +kernel
theorem dX12_way_18 : decode cX12_way 18 = .ok (.iload_n 2, 1) := by decide +kernel
theorem dX12_way_19 : decode cX12_way 19 = .ok (.iconst (-1), 1) := by decide +kernel
theorem dX12_way_20 : decode cX12_way 20 = .ok (.iconst (-1), 1) := by decide +kernel
theorem dX12_way_21 : decode cX12_way 21 = .ok (.invokevirtual 425, 3) := by decide +kernel
theorem dX12_way_24 : decode cX12_way 24 = .ok (.aload_n 0, 1) := by decide +kernel
theorem dX12_way_25 : decode cX12_way 25 = .ok (.getfield 373, 3) := by decide +kernel
theorem dX12_way_28 : decode cX12_way 28 = .ok (.iload_n 1, 1) := by decide +kernel
theorem dX12_way_29 : decode cX12_way 29 = .ok (.iaload, 1) := by decide +kernel
theorem dX12_way_30 : decode cX12_way 30 = .ok (.iconst (-1), 1) := by decide +kernel
theorem dX12_way_31 : decode cX12_way 31 = .ok (.if_icmp .eq 18, 3) := by decide +kernel
theorem dX12_way_34 : decode cX12_way 34 = .ok (.iload_n 3, 1) := by decide +kernel
theorem dX12_way_35 : decode cX12_way 35 = .ok (.iconst (-1), 1) := by decide +kernel
theorem dX12_way_36 : decode cX12_way 36 = .ok (.if_icmp .lt 13, 3) := by decide +kernel
theorem dX12_way_39 : decode cX12_way 39 = .ok (.iload_n 3, 1) := by decide +kernel
theorem dX12_way_40 : decode cX12_way 40 = .ok (.aload_n 0, 1) := by decide +kernel
theorem dX12_way_41 : decode cX12_way 41 = .ok (.getfield 376, 3) := by decide +kernel
theorem dX12_way_44 : decode cX12_way 44 = .ok (.iload_n 1, 1) := by decide +kernel
theorem dX12_way_45 : decode cX12_way 45 = .ok (.iaload, 1) := by decide +kernel
theorem dX12_way_46 : decode cX12_way 46 = .ok (.if_icmp .lt 5, 3) := by decide +kernel
theorem dX12_way_49 : decode cX12_way 49 = .ok (.iconst (-1), 1) := by decide +kernel
theorem dX12_way_50 : decode cX12_way 50 = .ok (.ireturn, 1) := by decide +kernel
theorem dX12_way_51 : decode cX12_way 51 = .ok (.iload_n 3, 1) := by decide +kernel
theorem dX12_way_52 : decode cX12_way 52 = .ok (.iconst (-1), 1) := by decide +kernel
theorem dX12_way_53 : decode cX12_way 53 = .ok (.if_icmp .ne 10, 3) := by decide +kernel
theorem dX12_way_56 : decode cX12_way 56 = .ok (.aload_n 0, 1) := by decide +kernel
theorem dX12_way_57 : decode cX12_way 57 = .ok (.getfield 373, 3) := by decide +kernel
theorem dX12_way_60 : decode cX12_way 60 = .ok (.iload_n 1, 1) := by decide +kernel
theorem dX12_way_61 : decode cX12_way 61 = .ok (.iaload, 1) := by decide +kernel
theorem dX12_way_62 : decode cX12_way 62 = .ok (.ireturn, 1) := by decide +kernel
theorem dX12_way_63 : decode cX12_way 63 = .ok (.iload_n 1, 1) := by decide +kernel
theorem dX12_way_64 : decode cX12_way 64 = .ok (.istore 4, 2) := by decide +kernel
theorem dX12_way_66 : decode cX12_way 66 = .ok (.iconst 0, 1) := by decide +kernel
theorem dX12_way_67 : decode cX12_way 67 = .ok (.istore 5, 2) := by decide +kernel
theorem dX12_way_69 : decode cX12_way 69 = .ok (.iload 5, 2) := by decide +kernel
theorem dX12_way_71 : decode cX12_way 71 = .ok (.iload_n 3, 1) := by decide +kernel
theorem dX12_way_72 : decode cX12_way 72 = .ok (.if_icmp .ge 17, 3) := by decide +kernel
theorem dX12_way_75 : decode cX12_way 75 = .ok (.aload_n 0, 1) := by decide +kernel
theorem dX12_way_76 : decode cX12_way 76 = .ok (.iload 4, 2) := by decide +kernel
theorem dX12_way_78 : decode cX12_way 78 = .ok (.invokevirtual 429, 3) := by decide +kernel
theorem dX12_way_81 : decode cX12_way 81 = .ok (.istore 4, 2) := by decide +kernel
theorem dX12_way_83 : decode cX12_way 83 = .ok (.iinc 5 1, 3) := by decide +kernel
theorem dX12_way_86 : decode cX12_way 86 = .ok (.goto (-17), 3) := by decide +kernel
theorem dX12_way_89 : decode cX12_way 89 = .ok (.iload 4, 2) := by decide +kernel
theorem dX12_way_91 : decode cX12_way 91 = .ok (.ireturn, 1) := by decide +kernel
theorem dX12_couldAsk_0 : decode cX12_couldAsk 0 = .ok (.iload_n 1, 1) := by decide +kernel
theorem dX12_couldAsk_1 : decode cX12_couldAsk 1 = .ok (.invokestatic 23, 3) := by decide +kernel
theorem dX12_couldAsk_4 : decode cX12_couldAsk 4 = .ok (.ifCond .eq 17, 3) := by decide +kernel
theorem dX12_couldAsk_7 : decode cX12_couldAsk 7 = .ok (.iload_n 2, 1) := by decide +kernel
theorem dX12_couldAsk_8 : decode cX12_couldAsk 8 = .ok (.invokestatic 19, 3) := by decide +kernel
theorem dX12_couldAsk_11 : decode cX12_couldAsk 11 = .ok (.ifCond .eq 10, 3) := by decide +kernel
theorem dX12_couldAsk_14 : decode cX12_couldAsk 14 = .ok (.iload_n 3, 1) := by decide +kernel
theorem dX12_couldAsk_15 : decode cX12_couldAsk 15 = .ok (.invokestatic 19, 3) := by decide +kernel
theorem dX12_couldAsk_18 : decode cX12_couldAsk 18 = .ok (.ifCond .ne 6, 3) := by decide +kernel
theorem dX12_couldAsk_21 : decode cX12_couldAsk 21 = .ok (.bipush (-2), 2) := by decide +kernel
theorem dX12_couldAsk_23 : decode cX12_couldAsk 23 = .ok (.ireturn, 1) := by decide +kernel
theorem dX12_couldAsk_24 : decode cX12_couldAsk 24 = .ok (.aload_n 0, 1) := by decide +kernel
theorem dX12_couldAsk_25 : decode cX12_couldAsk 25 = .ok (.iload_n 3, 1) := by decide +kernel
theorem dX12_couldAsk_26 : decode cX12_couldAsk 26 = .ok (.iload_n 1, 1) := by decide +kernel
theorem dX12_couldAsk_27 : decode cX12_couldAsk 27 = .ok (.iconst (-1), 1) := by decide +kernel
theorem dX12_couldAsk_28 : decode cX12_couldAsk 28 = .ok (.invokevirtual 425, 3) := by decide +kernel
theorem dX12_couldAsk_31 : decode cX12_couldAsk 31 = .ok (.aload_n 0, 1) := by decide +kernel
theorem dX12_couldAsk_32 : decode cX12_couldAsk 32 = .ok (.getfield 373, 3) := by decide +kernel
theorem dX12_couldAsk_35 : decode cX12_couldAsk 35 = .ok (.iload_n 2, 1) := by decide +kernel
theorem dX12_couldAsk_36 : decode cX12_couldAsk 36 = .ok (.iaload, 1) := by decide +kernel
theorem dX12_couldAsk_37 : decode cX12_couldAsk 37 = .ok (.istore 4, 2) := by decide +kernel
theorem dX12_couldAsk_39 : decode cX12_couldAsk 39 = .ok (.iload 4, 2) := by decide +kernel
theorem dX12_couldAsk_41 : decode cX12_couldAsk 41 = .ok (.iconst (-1), 1) := by decide +kernel
theorem dX12_couldAsk_42 : decode cX12_couldAsk 42 = .ok (.if_icmp .ne 5, 3) := by decide +kernel
theorem dX12_couldAsk_45 : decode cX12_couldAsk 45 = .ok (.iconst (-1), 1) := by decide +kernel
theorem dX12_couldAsk_46 : decode cX12_couldAsk 46 = .ok (.ireturn, 1) := by decide +kernel
theorem dX12_couldAsk_47 : decode cX12_couldAsk 47 = .ok (.aload_n 0, 1) := by decide +kernel
theorem dX12_couldAsk_48 : decode cX12_couldAsk 48 = .ok (.iload_n 3, 1) := by decide +kernel
theorem dX12_couldAsk_49 : decode cX12_couldAsk 49 = .ok (.iconst (-1), 1) := by decide +kernel
theorem dX12_couldAsk_50 : decode cX12_couldAsk 50 = .ok (.iload_n 1, 1) := by decide +kernel
theorem dX12_couldAsk_51 : decode cX12_couldAsk 51 = .ok (.invokevirtual 425, 3) := by decide +kernel
theorem dX12_couldAsk_54 : decode cX12_couldAsk 54 = .ok (.iload 4, 2) := by decide +kernel
theorem dX12_couldAsk_56 : decode cX12_couldAsk 56 = .ok (.aload_n 0, 1) := by decide +kernel
theorem dX12_couldAsk_57 : decode cX12_couldAsk 57 = .ok (.getfield 373, 3) := by decide +kernel
theorem dX12_couldAsk_60 : decode cX12_couldAsk 60 = .ok (.iload_n 2, 1) := by decide +kernel
theorem dX12_couldAsk_61 : decode cX12_couldAsk 61 = .ok (.iaload, 1) := by decide +kernel
theorem dX12_couldAsk_62 : decode cX12_couldAsk 62 = .ok (.isub, 1) := by decide +kernel
theorem dX12_couldAsk_63 : decode cX12_couldAsk 63 = .ok (.ireturn, 1) := by decide +kernel
theorem dX12_asking_0 : decode cX12_asking 0 = .ok (.aload_n 0, 1) := by decide +kernel
theorem dX12_asking_1 : decode cX12_asking 1 = .ok (.iload_n 1, 1) := by decide +kernel
theorem dX12_asking_2 : decode cX12_asking 2 = .ok (.invokevirtual 123, 3) := by decide +kernel
theorem dX12_asking_5 : decode cX12_asking 5 = .ok (.ifCond .eq 15, 3) := by decide +kernel
theorem dX12_asking_8 : decode cX12_asking 8 = .ok (.iload_n 2, 1) := by decide +kernel
theorem dX12_asking_9 : decode cX12_asking 9 = .ok (.i2l, 1) := by decide +kernel
theorem dX12_asking_10 : decode cX12_asking 10 = .ok (.lconst 1, 1) := by decide +kernel
theorem dX12_asking_11 : decode cX12_asking 11 = .ok (.ldc2_w 51, 3) := by decide +kernel
theorem dX12_asking_14 : decode cX12_asking 14 = .ok (.invokestatic 5, 3) := by decide +kernel
theorem dX12_asking_17 : decode cX12_asking 17 = .ok (.ifCond .ne 6, 3) := by decide +kernel
theorem dX12_asking_20 : decode cX12_asking 20 = .ok (.bipush (-2), 2) := by decide +kernel
theorem dX12_asking_22 : decode cX12_asking 22 = .ok (.ireturn, 1) := by decide +kernel
theorem dX12_asking_23 : decode cX12_asking 23 = .ok (.aload_n 0, 1) := by decide +kernel
theorem dX12_asking_24 : decode cX12_asking 24 = .ok (.getfield 120, 3) := by decide +kernel
theorem dX12_asking_27 : decode cX12_asking 27 = .ok (.iload_n 1, 1) := by decide +kernel
theorem dX12_asking_28 : decode cX12_asking 28 = .ok (.iaload, 1) := by decide +kernel
theorem dX12_asking_29 : decode cX12_asking 29 = .ok (.istore_n 3, 1) := by decide +kernel
theorem dX12_asking_30 : decode cX12_asking 30 = .ok (.aload_n 0, 1) := by decide +kernel
theorem dX12_asking_31 : decode cX12_asking 31 = .ok (.getfield 120, 3) := by decide +kernel
theorem dX12_asking_34 : decode cX12_asking 34 = .ok (.iload_n 1, 1) := by decide +kernel
theorem dX12_asking_35 : decode cX12_asking 35 = .ok (.iload_n 2, 1) := by decide +kernel
theorem dX12_asking_36 : decode cX12_asking 36 = .ok (.iastore, 1) := by decide +kernel
theorem dX12_asking_37 : decode cX12_asking 37 = .ok (.iload_n 3, 1) := by decide +kernel
theorem dX12_asking_38 : decode cX12_asking 38 = .ok (.ireturn, 1) := by decide +kernel
theorem dX12_orderOf_0 : decode cX12_orderOf 0 = .ok (.iconst 0, 1) := by decide +kernel
theorem dX12_orderOf_1 : decode cX12_orderOf 1 = .ok (.istore_n 3, 1) := by decide +kernel
theorem dX12_orderOf_2 : decode cX12_orderOf 2 = .ok (.iload_n 2, 1) := by decide +kernel
theorem dX12_orderOf_3 : decode cX12_orderOf 3 = .ok (.istore 4, 2) := by decide +kernel
theorem dX12_orderOf_5 : decode cX12_orderOf 5 = .ok (.iconst 1, 1) := by decide +kernel
theorem dX12_orderOf_6 : decode cX12_orderOf 6 = .ok (.istore 5, 2) := by decide +kernel
theorem dX12_orderOf_8 : decode cX12_orderOf 8 = .ok (.iconst 2, 1) := by decide +kernel
theorem dX12_orderOf_9 : decode cX12_orderOf 9 = .ok (.istore 6, 2) := by decide +kernel
theorem dX12_orderOf_11 : decode cX12_orderOf 11 = .ok (.iload 6, 2) := by decide +kernel
theorem dX12_orderOf_13 : decode cX12_orderOf 13 = .ok (.iload_n 1, 1) := by decide +kernel
theorem dX12_orderOf_14 : decode cX12_orderOf 14 = .ok (.if_icmp .ge 16, 3) := by decide +kernel
theorem dX12_orderOf_17 : decode cX12_orderOf 17 = .ok (.iload 5, 2) := by decide +kernel
theorem dX12_orderOf_19 : decode cX12_orderOf 19 = .ok (.iload 6, 2) := by decide +kernel
theorem dX12_orderOf_21 : decode cX12_orderOf 21 = .ok (.imul, 1) := by decide +kernel
theorem dX12_orderOf_22 : decode cX12_orderOf 22 = .ok (.istore 5, 2) := by decide +kernel
theorem dX12_orderOf_24 : decode cX12_orderOf 24 = .ok (.iinc 6 1, 3) := by decide +kernel
theorem dX12_orderOf_27 : decode cX12_orderOf 27 = .ok (.goto (-16), 3) := by decide +kernel
theorem dX12_orderOf_30 : decode cX12_orderOf 30 = .ok (.iconst 0, 1) := by decide +kernel
theorem dX12_orderOf_31 : decode cX12_orderOf 31 = .ok (.istore 6, 2) := by decide +kernel
theorem dX12_orderOf_33 : decode cX12_orderOf 33 = .ok (.iload 6, 2) := by decide +kernel
theorem dX12_orderOf_35 : decode cX12_orderOf 35 = .ok (.iload_n 1, 1) := by decide +kernel
theorem dX12_orderOf_36 : decode cX12_orderOf 36 = .ok (.if_icmp .ge 107, 3) := by decide +kernel
theorem dX12_orderOf_39 : decode cX12_orderOf 39 = .ok (.iload 4, 2) := by decide +kernel
theorem dX12_orderOf_41 : decode cX12_orderOf 41 = .ok (.iload 5, 2) := by decide +kernel
theorem dX12_orderOf_43 : decode cX12_orderOf 43 = .ok (.idiv, 1) := by decide +kernel
theorem dX12_orderOf_44 : decode cX12_orderOf 44 = .ok (.istore 7, 2) := by decide +kernel
theorem dX12_orderOf_46 : decode cX12_orderOf 46 = .ok (.iload 4, 2) := by decide +kernel
theorem dX12_orderOf_48 : decode cX12_orderOf 48 = .ok (.iload 5, 2) := by decide +kernel
theorem dX12_orderOf_50 : decode cX12_orderOf 50 = .ok (.irem, 1) := by decide +kernel
theorem dX12_orderOf_51 : decode cX12_orderOf 51 = .ok (.istore 4, 2) := by decide +kernel
theorem dX12_orderOf_53 : decode cX12_orderOf 53 = .ok (.iload_n 1, 1) := by decide +kernel
theorem dX12_orderOf_54 : decode cX12_orderOf 54 = .ok (.iconst 1, 1) := by decide +kernel
theorem dX12_orderOf_55 : decode cX12_orderOf 55 = .ok (.isub, 1) := by decide +kernel
theorem dX12_orderOf_56 : decode cX12_orderOf 56 = .ok (.iload 6, 2) := by decide +kernel
theorem dX12_orderOf_58 : decode cX12_orderOf 58 = .ok (.isub, 1) := by decide +kernel
theorem dX12_orderOf_59 : decode cX12_orderOf 59 = .ok (.iconst 1, 1) := by decide +kernel
theorem dX12_orderOf_60 : decode cX12_orderOf 60 = .ok (.if_icmp .le 15, 3) := by decide +kernel
theorem dX12_orderOf_63 : decode cX12_orderOf 63 = .ok (.iload 5, 2) := by decide +kernel
theorem dX12_orderOf_65 : decode cX12_orderOf 65 = .ok (.iload_n 1, 1) := by decide +kernel
theorem dX12_orderOf_66 : decode cX12_orderOf 66 = .ok (.iconst 1, 1) := by decide +kernel
theorem dX12_orderOf_67 : decode cX12_orderOf 67 = .ok (.isub, 1) := by decide +kernel
theorem dX12_orderOf_68 : decode cX12_orderOf 68 = .ok (.iload 6, 2) := by decide +kernel
theorem dX12_orderOf_70 : decode cX12_orderOf 70 = .ok (.isub, 1) := by decide +kernel
theorem dX12_orderOf_71 : decode cX12_orderOf 71 = .ok (.idiv, 1) := by decide +kernel
theorem dX12_orderOf_72 : decode cX12_orderOf 72 = .ok (.goto 4, 3) := by decide +kernel
theorem dX12_orderOf_75 : decode cX12_orderOf 75 = .ok (.iconst 1, 1) := by decide +kernel
theorem dX12_orderOf_76 : decode cX12_orderOf 76 = .ok (.istore 5, 2) := by decide +kernel
theorem dX12_orderOf_78 : decode cX12_orderOf 78 = .ok (.iconst 0, 1) := by decide +kernel
theorem dX12_orderOf_79 : decode cX12_orderOf 79 = .ok (.istore 8, 2) := by decide +kernel
theorem dX12_orderOf_81 : decode cX12_orderOf 81 = .ok (.iload_n 3, 1) := by decide +kernel
theorem dX12_orderOf_82 : decode cX12_orderOf 82 = .ok (.iload 8, 2) := by decide +kernel
theorem dX12_orderOf_84 : decode cX12_orderOf 84 = .ok (.ishr, 1) := by decide +kernel
theorem dX12_orderOf_85 : decode cX12_orderOf 85 = .ok (.iconst 1, 1) := by decide +kernel
theorem dX12_orderOf_86 : decode cX12_orderOf 86 = .ok (.iand, 1) := by decide +kernel
theorem dX12_orderOf_87 : decode cX12_orderOf 87 = .ok (.iconst 1, 1) := by decide +kernel
theorem dX12_orderOf_88 : decode cX12_orderOf 88 = .ok (.if_icmp .eq 8, 3) := by decide +kernel
theorem dX12_orderOf_91 : decode cX12_orderOf 91 = .ok (.iload 7, 2) := by decide +kernel
theorem dX12_orderOf_93 : decode cX12_orderOf 93 = .ok (.ifCond .le 28, 3) := by decide +kernel
theorem dX12_orderOf_96 : decode cX12_orderOf 96 = .ok (.iload 7, 2) := by decide +kernel
theorem dX12_orderOf_98 : decode cX12_orderOf 98 = .ok (.iload_n 3, 1) := by decide +kernel
theorem dX12_orderOf_99 : decode cX12_orderOf 99 = .ok (.iload 8, 2) := by decide +kernel
theorem dX12_orderOf_101 : decode cX12_orderOf 101 = .ok (.ishr, 1) := by decide +kernel
theorem dX12_orderOf_102 : decode cX12_orderOf 102 = .ok (.iconst 1, 1) := by decide +kernel
theorem dX12_orderOf_103 : decode cX12_orderOf 103 = .ok (.iand, 1) := by decide +kernel
theorem dX12_orderOf_104 : decode cX12_orderOf 104 = .ok (.ifCond .ne 7, 3) := by decide +kernel
theorem dX12_orderOf_107 : decode cX12_orderOf 107 = .ok (.iconst 1, 1) := by decide +kernel
theorem dX12_orderOf_108 : decode cX12_orderOf 108 = .ok (.goto 4, 3) := by decide +kernel
theorem dX12_orderOf_111 : decode cX12_orderOf 111 = .ok (.iconst 0, 1) := by decide +kernel
theorem dX12_orderOf_112 : decode cX12_orderOf 112 = .ok (.isub, 1) := by decide +kernel
theorem dX12_orderOf_113 : decode cX12_orderOf 113 = .ok (.istore 7, 2) := by decide +kernel
theorem dX12_orderOf_115 : decode cX12_orderOf 115 = .ok (.iinc 8 1, 3) := by decide +kernel
theorem dX12_orderOf_118 : decode cX12_orderOf 118 = .ok (.goto (-37), 3) := by decide +kernel
theorem dX12_orderOf_121 : decode cX12_orderOf 121 = .ok (.iload_n 3, 1) := by decide +kernel
theorem dX12_orderOf_122 : decode cX12_orderOf 122 = .ok (.iconst 1, 1) := by decide +kernel
theorem dX12_orderOf_123 : decode cX12_orderOf 123 = .ok (.iload 8, 2) := by decide +kernel
theorem dX12_orderOf_125 : decode cX12_orderOf 125 = .ok (.ishl, 1) := by decide +kernel
theorem dX12_orderOf_126 : decode cX12_orderOf 126 = .ok (.ior, 1) := by decide +kernel
theorem dX12_orderOf_127 : decode cX12_orderOf 127 = .ok (.istore_n 3, 1) := by decide +kernel
theorem dX12_orderOf_128 : decode cX12_orderOf 128 = .ok (.aload_n 0, 1) := by decide +kernel
theorem dX12_orderOf_129 : decode cX12_orderOf 129 = .ok (.getfield 385, 3) := by decide +kernel
theorem dX12_orderOf_132 : decode cX12_orderOf 132 = .ok (.iload 6, 2) := by decide +kernel
theorem dX12_orderOf_134 : decode cX12_orderOf 134 = .ok (.iload 8, 2) := by decide +kernel
theorem dX12_orderOf_136 : decode cX12_orderOf 136 = .ok (.iastore, 1) := by decide +kernel
theorem dX12_orderOf_137 : decode cX12_orderOf 137 = .ok (.iinc 6 1, 3) := by decide +kernel
theorem dX12_orderOf_140 : decode cX12_orderOf 140 = .ok (.goto (-107), 3) := by decide +kernel
theorem dX12_orderOf_143 : decode cX12_orderOf 143 = .ok (.return_, 1) := by decide +kernel
theorem dX12_judge_0 : decode cX12_judge 0 = .ok (.iconst 0, 1) := by decide +kernel
theorem dX12_judge_1 : decode cX12_judge 1 = .ok (.istore_n 2, 1) := by decide +kernel
theorem dX12_judge_2 : decode cX12_judge 2 = .ok (.iconst 0, 1) := by decide +kernel
theorem dX12_judge_3 : decode cX12_judge 3 = .ok (.istore_n 3, 1) := by decide +kernel
theorem dX12_judge_4 : decode cX12_judge 4 = .ok (.aload_n 0, 1) := by decide +kernel
theorem dX12_judge_5 : decode cX12_judge 5 = .ok (.getfield 15, 3) := by decide +kernel
theorem dX12_judge_8 : decode cX12_judge 8 = .ok (.istore 4, 2) := by decide +kernel
theorem dX12_judge_10 : decode cX12_judge 10 = .ok (.iconst 0, 1) := by decide +kernel
theorem dX12_judge_11 : decode cX12_judge 11 = .ok (.istore 5, 2) := by decide +kernel
theorem dX12_judge_13 : decode cX12_judge 13 = .ok (.iload 5, 2) := by decide +kernel
theorem dX12_judge_15 : decode cX12_judge 15 = .ok (.iload_n 1, 1) := by decide +kernel
theorem dX12_judge_16 : decode cX12_judge 16 = .ok (.if_icmp .ge 77, 3) := by decide +kernel
theorem dX12_judge_19 : decode cX12_judge 19 = .ok (.iload 4, 2) := by decide +kernel
theorem dX12_judge_21 : decode cX12_judge 21 = .ok (.aload_n 0, 1) := by decide +kernel
theorem dX12_judge_22 : decode cX12_judge 22 = .ok (.getfield 120, 3) := by decide +kernel
theorem dX12_judge_25 : decode cX12_judge 25 = .ok (.aload_n 0, 1) := by decide +kernel
theorem dX12_judge_26 : decode cX12_judge 26 = .ok (.getfield 379, 3) := by decide +kernel
theorem dX12_judge_29 : decode cX12_judge 29 = .ok (.aload_n 0, 1) := by decide +kernel
theorem dX12_judge_30 : decode cX12_judge 30 = .ok (.getfield 385, 3) := by decide +kernel
theorem dX12_judge_33 : decode cX12_judge 33 = .ok (.iload 5, 2) := by decide +kernel
theorem dX12_judge_35 : decode cX12_judge 35 = .ok (.iaload, 1) := by decide +kernel
theorem dX12_judge_36 : decode cX12_judge 36 = .ok (.iaload, 1) := by decide +kernel
theorem dX12_judge_37 : decode cX12_judge 37 = .ok (.iaload, 1) := by decide +kernel
theorem dX12_judge_38 : decode cX12_judge 38 = .ok (.iadd, 1) := by decide +kernel
theorem dX12_judge_39 : decode cX12_judge 39 = .ok (.istore 4, 2) := by decide +kernel
theorem dX12_judge_41 : decode cX12_judge 41 = .ok (.iload_n 3, 1) := by decide +kernel
theorem dX12_judge_42 : decode cX12_judge 42 = .ok (.iload 4, 2) := by decide +kernel
theorem dX12_judge_44 : decode cX12_judge 44 = .ok (.iadd, 1) := by decide +kernel
theorem dX12_judge_45 : decode cX12_judge 45 = .ok (.istore_n 3, 1) := by decide +kernel
theorem dX12_judge_46 : decode cX12_judge 46 = .ok (.iload_n 2, 1) := by decide +kernel
theorem dX12_judge_47 : decode cX12_judge 47 = .ok (.aload_n 0, 1) := by decide +kernel
theorem dX12_judge_48 : decode cX12_judge 48 = .ok (.getfield 382, 3) := by decide +kernel
theorem dX12_judge_51 : decode cX12_judge 51 = .ok (.aload_n 0, 1) := by decide +kernel
theorem dX12_judge_52 : decode cX12_judge 52 = .ok (.getfield 385, 3) := by decide +kernel
theorem dX12_judge_55 : decode cX12_judge 55 = .ok (.iload 5, 2) := by decide +kernel
theorem dX12_judge_57 : decode cX12_judge 57 = .ok (.iaload, 1) := by decide +kernel
theorem dX12_judge_58 : decode cX12_judge 58 = .ok (.iaload, 1) := by decide +kernel
theorem dX12_judge_59 : decode cX12_judge 59 = .ok (.iconst (-1), 1) := by decide +kernel
theorem dX12_judge_60 : decode cX12_judge 60 = .ok (.if_icmp .eq 24, 3) := by decide +kernel
theorem dX12_judge_63 : decode cX12_judge 63 = .ok (.iload 4, 2) := by decide +kernel
theorem dX12_judge_65 : decode cX12_judge 65 = .ok (.aload_n 0, 1) := by decide +kernel
theorem dX12_judge_66 : decode cX12_judge 66 = .ok (.getfield 382, 3) := by decide +kernel
theorem dX12_judge_69 : decode cX12_judge 69 = .ok (.aload_n 0, 1) := by decide +kernel
theorem dX12_judge_70 : decode cX12_judge 70 = .ok (.getfield 385, 3) := by decide +kernel
theorem dX12_judge_73 : decode cX12_judge 73 = .ok (.iload 5, 2) := by decide +kernel
theorem dX12_judge_75 : decode cX12_judge 75 = .ok (.iaload, 1) := by decide +kernel
theorem dX12_judge_76 : decode cX12_judge 76 = .ok (.iaload, 1) := by decide +kernel
theorem dX12_judge_77 : decode cX12_judge 77 = .ok (.if_icmp .le 7, 3) := by decide +kernel
theorem dX12_judge_80 : decode cX12_judge 80 = .ok (.iconst 1, 1) := by decide +kernel
theorem dX12_judge_81 : decode cX12_judge 81 = .ok (.goto 4, 3) := by decide +kernel
theorem dX12_judge_84 : decode cX12_judge 84 = .ok (.iconst 0, 1) := by decide +kernel
theorem dX12_judge_85 : decode cX12_judge 85 = .ok (.iadd, 1) := by decide +kernel
theorem dX12_judge_86 : decode cX12_judge 86 = .ok (.istore_n 2, 1) := by decide +kernel
theorem dX12_judge_87 : decode cX12_judge 87 = .ok (.iinc 5 1, 3) := by decide +kernel
theorem dX12_judge_90 : decode cX12_judge 90 = .ok (.goto (-77), 3) := by decide +kernel
theorem dX12_judge_93 : decode cX12_judge 93 = .ok (.aload_n 0, 1) := by decide +kernel
theorem dX12_judge_94 : decode cX12_judge 94 = .ok (.getfield 432, 3) := by decide +kernel
theorem dX12_judge_97 : decode cX12_judge 97 = .ok (.iconst (-1), 1) := by decide +kernel
theorem dX12_judge_98 : decode cX12_judge 98 = .ok (.if_icmp .eq 27, 3) := by decide +kernel
theorem dX12_judge_101 : decode cX12_judge 101 = .ok (.iload_n 2, 1) := by decide +kernel
theorem dX12_judge_102 : decode cX12_judge 102 = .ok (.aload_n 0, 1) := by decide +kernel
theorem dX12_judge_103 : decode cX12_judge 103 = .ok (.getfield 432, 3) := by decide +kernel
theorem dX12_judge_106 : decode cX12_judge 106 = .ok (.if_icmp .lt 19, 3) := by decide +kernel
theorem dX12_judge_109 : decode cX12_judge 109 = .ok (.iload_n 2, 1) := by decide +kernel
theorem dX12_judge_110 : decode cX12_judge 110 = .ok (.aload_n 0, 1) := by decide +kernel
theorem dX12_judge_111 : decode cX12_judge 111 = .ok (.getfield 432, 3) := by decide +kernel
theorem dX12_judge_114 : decode cX12_judge 114 = .ok (.if_icmp .ne 50, 3) := by decide +kernel
theorem dX12_judge_117 : decode cX12_judge 117 = .ok (.iload_n 3, 1) := by decide +kernel
theorem dX12_judge_118 : decode cX12_judge 118 = .ok (.aload_n 0, 1) := by decide +kernel
theorem dX12_judge_119 : decode cX12_judge 119 = .ok (.getfield 435, 3) := by decide +kernel
theorem dX12_judge_122 : decode cX12_judge 122 = .ok (.if_icmp .ge 42, 3) := by decide +kernel
theorem dX12_judge_125 : decode cX12_judge 125 = .ok (.aload_n 0, 1) := by decide +kernel
theorem dX12_judge_126 : decode cX12_judge 126 = .ok (.iload_n 2, 1) := by decide +kernel
theorem dX12_judge_127 : decode cX12_judge 127 = .ok (.putfield 432, 3) := by decide +kernel
theorem dX12_judge_130 : decode cX12_judge 130 = .ok (.aload_n 0, 1) := by decide +kernel
theorem dX12_judge_131 : decode cX12_judge 131 = .ok (.iload_n 3, 1) := by decide +kernel
theorem dX12_judge_132 : decode cX12_judge 132 = .ok (.putfield 435, 3) := by decide +kernel
theorem dX12_judge_135 : decode cX12_judge 135 = .ok (.iconst 0, 1) := by decide +kernel
theorem dX12_judge_136 : decode cX12_judge 136 = .ok (.istore 5, 2) := by decide +kernel
theorem dX12_judge_138 : decode cX12_judge 138 = .ok (.iload 5, 2) := by decide +kernel
theorem dX12_judge_140 : decode cX12_judge 140 = .ok (.iload_n 1, 1) := by decide +kernel
theorem dX12_judge_141 : decode cX12_judge 141 = .ok (.if_icmp .ge 23, 3) := by decide +kernel
theorem dX12_judge_144 : decode cX12_judge 144 = .ok (.aload_n 0, 1) := by decide +kernel
theorem dX12_judge_145 : decode cX12_judge 145 = .ok (.getfield 388, 3) := by decide +kernel
theorem dX12_judge_148 : decode cX12_judge 148 = .ok (.iload 5, 2) := by decide +kernel
theorem dX12_judge_150 : decode cX12_judge 150 = .ok (.aload_n 0, 1) := by decide +kernel
theorem dX12_judge_151 : decode cX12_judge 151 = .ok (.getfield 385, 3) := by decide +kernel
theorem dX12_judge_154 : decode cX12_judge 154 = .ok (.iload 5, 2) := by decide +kernel
theorem dX12_judge_156 : decode cX12_judge 156 = .ok (.iaload, 1) := by decide +kernel
theorem dX12_judge_157 : decode cX12_judge 157 = .ok (.iastore, 1) := by decide +kernel
theorem dX12_judge_158 : decode cX12_judge 158 = .ok (.iinc 5 1, 3) := by decide +kernel
theorem dX12_judge_161 : decode cX12_judge 161 = .ok (.goto (-23), 3) := by decide +kernel
theorem dX12_judge_164 : decode cX12_judge 164 = .ok (.return_, 1) := by decide +kernel
theorem dX12_orderAll_0 : decode cX12_orderAll 0 = .ok (.iconst 1, 1) := by decide +kernel
theorem dX12_orderAll_1 : decode cX12_orderAll 1 = .ok (.istore_n 2, 1) := by decide +kernel
theorem dX12_orderAll_2 : decode cX12_orderAll 2 = .ok (.iconst 2, 1) := by decide +kernel
theorem dX12_orderAll_3 : decode cX12_orderAll 3 = .ok (.istore_n 3, 1) := by decide +kernel
theorem dX12_orderAll_4 : decode cX12_orderAll 4 = .ok (.iload_n 3, 1) := by decide +kernel
theorem dX12_orderAll_5 : decode cX12_orderAll 5 = .ok (.iload_n 1, 1) := by decide +kernel
theorem dX12_orderAll_6 : decode cX12_orderAll 6 = .ok (.if_icmp .gt 13, 3) := by decide +kernel
theorem dX12_orderAll_9 : decode cX12_orderAll 9 = .ok (.iload_n 2, 1) := by decide +kernel
theorem dX12_orderAll_10 : decode cX12_orderAll 10 = .ok (.iload_n 3, 1) := by decide +kernel
theorem dX12_orderAll_11 : decode cX12_orderAll 11 = .ok (.imul, 1) := by decide +kernel
theorem dX12_orderAll_12 : decode cX12_orderAll 12 = .ok (.istore_n 2, 1) := by decide +kernel
theorem dX12_orderAll_13 : decode cX12_orderAll 13 = .ok (.iinc 3 1, 3) := by decide +kernel
theorem dX12_orderAll_16 : decode cX12_orderAll 16 = .ok (.goto (-12), 3) := by decide +kernel
theorem dX12_orderAll_19 : decode cX12_orderAll 19 = .ok (.aload_n 0, 1) := by decide +kernel
theorem dX12_orderAll_20 : decode cX12_orderAll 20 = .ok (.iconst (-1), 1) := by decide +kernel
theorem dX12_orderAll_21 : decode cX12_orderAll 21 = .ok (.putfield 432, 3) := by decide +kernel
theorem dX12_orderAll_24 : decode cX12_orderAll 24 = .ok (.iconst 0, 1) := by decide +kernel
theorem dX12_orderAll_25 : decode cX12_orderAll 25 = .ok (.istore_n 3, 1) := by decide +kernel
theorem dX12_orderAll_26 : decode cX12_orderAll 26 = .ok (.iload_n 3, 1) := by decide +kernel
theorem dX12_orderAll_27 : decode cX12_orderAll 27 = .ok (.iload_n 2, 1) := by decide +kernel
theorem dX12_orderAll_28 : decode cX12_orderAll 28 = .ok (.if_icmp .ge 20, 3) := by decide +kernel
theorem dX12_orderAll_31 : decode cX12_orderAll 31 = .ok (.aload_n 0, 1) := by decide +kernel
theorem dX12_orderAll_32 : decode cX12_orderAll 32 = .ok (.iload_n 1, 1) := by decide +kernel
theorem dX12_orderAll_33 : decode cX12_orderAll 33 = .ok (.iload_n 3, 1) := by decide +kernel
theorem dX12_orderAll_34 : decode cX12_orderAll 34 = .ok (.invokevirtual 438, 3) := by decide +kernel
theorem dX12_orderAll_37 : decode cX12_orderAll 37 = .ok (.aload_n 0, 1) := by decide +kernel
theorem dX12_orderAll_38 : decode cX12_orderAll 38 = .ok (.iload_n 1, 1) := by decide +kernel
theorem dX12_orderAll_39 : decode cX12_orderAll 39 = .ok (.invokevirtual 442, 3) := by decide +kernel
theorem dX12_orderAll_42 : decode cX12_orderAll 42 = .ok (.iinc 3 1, 3) := by decide +kernel
theorem dX12_orderAll_45 : decode cX12_orderAll 45 = .ok (.goto (-19), 3) := by decide +kernel
theorem dX12_orderAll_48 : decode cX12_orderAll 48 = .ok (.return_, 1) := by decide +kernel
theorem dX12_toAsk_0 : decode cX12_toAsk 0 = .ok (.iload_n 1, 1) := by decide +kernel
theorem dX12_toAsk_1 : decode cX12_toAsk 1 = .ok (.i2l, 1) := by decide +kernel
theorem dX12_toAsk_2 : decode cX12_toAsk 2 = .ok (.lconst 0, 1) := by decide +kernel
theorem dX12_toAsk_3 : decode cX12_toAsk 3 = .ok (.iconst 1, 1) := by decide +kernel
theorem dX12_toAsk_4 : decode cX12_toAsk 4 = .ok (.aload_n 0, 1) := by decide +kernel
theorem dX12_toAsk_5 : decode cX12_toAsk 5 = .ok (.getfield 85, 3) := by decide +kernel
theorem dX12_toAsk_8 : decode cX12_toAsk 8 = .ok (.ishl, 1) := by decide +kernel
theorem dX12_toAsk_9 : decode cX12_toAsk 9 = .ok (.iconst 1, 1) := by decide +kernel
theorem dX12_toAsk_10 : decode cX12_toAsk 10 = .ok (.isub, 1) := by decide +kernel
theorem dX12_toAsk_11 : decode cX12_toAsk 11 = .ok (.i2l, 1) := by decide +kernel
theorem dX12_toAsk_12 : decode cX12_toAsk 12 = .ok (.invokestatic 5, 3) := by decide +kernel
theorem dX12_toAsk_15 : decode cX12_toAsk 15 = .ok (.ifCond .ne 6, 3) := by decide +kernel
theorem dX12_toAsk_18 : decode cX12_toAsk 18 = .ok (.bipush (-2), 2) := by decide +kernel
theorem dX12_toAsk_20 : decode cX12_toAsk 20 = .ok (.ireturn, 1) := by decide +kernel
theorem dX12_toAsk_21 : decode cX12_toAsk 21 = .ok (.iconst 0, 1) := by decide +kernel
theorem dX12_toAsk_22 : decode cX12_toAsk 22 = .ok (.istore_n 3, 1) := by decide +kernel
theorem dX12_toAsk_23 : decode cX12_toAsk 23 = .ok (.iconst 0, 1) := by decide +kernel
theorem dX12_toAsk_24 : decode cX12_toAsk 24 = .ok (.istore 4, 2) := by decide +kernel
theorem dX12_toAsk_26 : decode cX12_toAsk 26 = .ok (.iload 4, 2) := by decide +kernel
theorem dX12_toAsk_28 : decode cX12_toAsk 28 = .ok (.aload_n 0, 1) := by decide +kernel
theorem dX12_toAsk_29 : decode cX12_toAsk 29 = .ok (.getfield 85, 3) := by decide +kernel
theorem dX12_toAsk_32 : decode cX12_toAsk 32 = .ok (.if_icmp .ge 51, 3) := by decide +kernel
theorem dX12_toAsk_35 : decode cX12_toAsk 35 = .ok (.iload_n 1, 1) := by decide +kernel
theorem dX12_toAsk_36 : decode cX12_toAsk 36 = .ok (.iload 4, 2) := by decide +kernel
theorem dX12_toAsk_38 : decode cX12_toAsk 38 = .ok (.ishr, 1) := by decide +kernel
theorem dX12_toAsk_39 : decode cX12_toAsk 39 = .ok (.iconst 1, 1) := by decide +kernel
theorem dX12_toAsk_40 : decode cX12_toAsk 40 = .ok (.iand, 1) := by decide +kernel
theorem dX12_toAsk_41 : decode cX12_toAsk 41 = .ok (.iconst 1, 1) := by decide +kernel
theorem dX12_toAsk_42 : decode cX12_toAsk 42 = .ok (.if_icmp .ne 35, 3) := by decide +kernel
theorem dX12_toAsk_45 : decode cX12_toAsk 45 = .ok (.iload_n 3, 1) := by decide +kernel
theorem dX12_toAsk_46 : decode cX12_toAsk 46 = .ok (.bipush 6, 2) := by decide +kernel
theorem dX12_toAsk_48 : decode cX12_toAsk 48 = .ok (.if_icmp .ne 6, 3) := by decide +kernel
theorem dX12_toAsk_51 : decode cX12_toAsk 51 = .ok (.bipush (-2), 2) := by decide +kernel
theorem dX12_toAsk_53 : decode cX12_toAsk 53 = .ok (.ireturn, 1) := by decide +kernel
theorem dX12_toAsk_54 : decode cX12_toAsk 54 = .ok (.aload_n 0, 1) := by decide +kernel
theorem dX12_toAsk_55 : decode cX12_toAsk 55 = .ok (.getfield 379, 3) := by decide +kernel
theorem dX12_toAsk_58 : decode cX12_toAsk 58 = .ok (.iload_n 3, 1) := by decide +kernel
theorem dX12_toAsk_59 : decode cX12_toAsk 59 = .ok (.iload 4, 2) := by decide +kernel
theorem dX12_toAsk_61 : decode cX12_toAsk 61 = .ok (.iastore, 1) := by decide +kernel
theorem dX12_toAsk_62 : decode cX12_toAsk 62 = .ok (.aload_n 0, 1) := by decide +kernel
theorem dX12_toAsk_63 : decode cX12_toAsk 63 = .ok (.getfield 382, 3) := by decide +kernel
theorem dX12_toAsk_66 : decode cX12_toAsk 66 = .ok (.iload_n 3, 1) := by decide +kernel
theorem dX12_toAsk_67 : decode cX12_toAsk 67 = .ok (.aload_n 0, 1) := by decide +kernel
theorem dX12_toAsk_68 : decode cX12_toAsk 68 = .ok (.iload 4, 2) := by decide +kernel
theorem dX12_toAsk_70 : decode cX12_toAsk 70 = .ok (.invokevirtual 147, 3) := by decide +kernel
theorem dX12_toAsk_73 : decode cX12_toAsk 73 = .ok (.iastore, 1) := by decide +kernel
theorem dX12_toAsk_74 : decode cX12_toAsk 74 = .ok (.iinc 3 1, 3) := by decide +kernel
theorem dX12_toAsk_77 : decode cX12_toAsk 77 = .ok (.iinc 4 1, 3) := by decide +kernel
theorem dX12_toAsk_80 : decode cX12_toAsk 80 = .ok (.goto (-54), 3) := by decide +kernel
theorem dX12_toAsk_83 : decode cX12_toAsk 83 = .ok (.iload_n 2, 1) := by decide +kernel
theorem dX12_toAsk_84 : decode cX12_toAsk 84 = .ok (.iconst (-1), 1) := by decide +kernel
theorem dX12_toAsk_85 : decode cX12_toAsk 85 = .ok (.if_icmp .lt 8, 3) := by decide +kernel
theorem dX12_toAsk_88 : decode cX12_toAsk 88 = .ok (.iload_n 2, 1) := by decide +kernel
theorem dX12_toAsk_89 : decode cX12_toAsk 89 = .ok (.iload_n 3, 1) := by decide +kernel
theorem dX12_toAsk_90 : decode cX12_toAsk 90 = .ok (.if_icmp .lt 5, 3) := by decide +kernel
theorem dX12_toAsk_93 : decode cX12_toAsk 93 = .ok (.iconst (-1), 1) := by decide +kernel
theorem dX12_toAsk_94 : decode cX12_toAsk 94 = .ok (.ireturn, 1) := by decide +kernel
theorem dX12_toAsk_95 : decode cX12_toAsk 95 = .ok (.aload_n 0, 1) := by decide +kernel
theorem dX12_toAsk_96 : decode cX12_toAsk 96 = .ok (.iload_n 3, 1) := by decide +kernel
theorem dX12_toAsk_97 : decode cX12_toAsk 97 = .ok (.invokevirtual 445, 3) := by decide +kernel
theorem dX12_toAsk_100 : decode cX12_toAsk 100 = .ok (.iload_n 2, 1) := by decide +kernel
theorem dX12_toAsk_101 : decode cX12_toAsk 101 = .ok (.iconst (-1), 1) := by decide +kernel
theorem dX12_toAsk_102 : decode cX12_toAsk 102 = .ok (.if_icmp .ne 10, 3) := by decide +kernel
theorem dX12_toAsk_105 : decode cX12_toAsk 105 = .ok (.aload_n 0, 1) := by decide +kernel
theorem dX12_toAsk_106 : decode cX12_toAsk 106 = .ok (.getfield 432, 3) := by decide +kernel
theorem dX12_toAsk_109 : decode cX12_toAsk 109 = .ok (.goto 14, 3) := by decide +kernel
theorem dX12_toAsk_112 : decode cX12_toAsk 112 = .ok (.aload_n 0, 1) := by decide +kernel
theorem dX12_toAsk_113 : decode cX12_toAsk 113 = .ok (.getfield 379, 3) := by decide +kernel
theorem dX12_toAsk_116 : decode cX12_toAsk 116 = .ok (.aload_n 0, 1) := by decide +kernel
theorem dX12_toAsk_117 : decode cX12_toAsk 117 = .ok (.getfield 388, 3) := by decide +kernel
theorem dX12_toAsk_120 : decode cX12_toAsk 120 = .ok (.iload_n 2, 1) := by decide +kernel
theorem dX12_toAsk_121 : decode cX12_toAsk 121 = .ok (.iaload, 1) := by decide +kernel
theorem dX12_toAsk_122 : decode cX12_toAsk 122 = .ok (.iaload, 1) := by decide +kernel
theorem dX12_toAsk_123 : decode cX12_toAsk 123 = .ok (.ireturn, 1) := by decide +kernel
theorem dX12_spansWith_0 : decode cX12_spansWith 0 = .ok (.iconst 0, 1) := by decide +kernel
theorem dX12_spansWith_1 : decode cX12_spansWith 1 = .ok (.istore_n 2, 1) := by decide +kernel
theorem dX12_spansWith_2 : decode cX12_spansWith 2 = .ok (.iconst 0, 1) := by decide +kernel
theorem dX12_spansWith_3 : decode cX12_spansWith 3 = .ok (.istore_n 3, 1) := by decide +kernel
theorem dX12_spansWith_4 : decode cX12_spansWith 4 = .ok (.iload_n 3, 1) := by decide +kernel
theorem dX12_spansWith_5 : decode cX12_spansWith 5 = .ok (.aload_n 0, 1) := by decide +kernel
theorem dX12_spansWith_6 : decode cX12_spansWith 6 = .ok (.getfield 85, 3) := by decide +kernel
theorem dX12_spansWith_9 : decode cX12_spansWith 9 = .ok (.if_icmp .ge 46, 3) := by decide +kernel
theorem dX12_spansWith_12 : decode cX12_spansWith 12 = .ok (.iload_n 2, 1) := by decide +kernel
theorem dX12_spansWith_13 : decode cX12_spansWith 13 = .ok (.iload_n 1, 1) := by decide +kernel
theorem dX12_spansWith_14 : decode cX12_spansWith 14 = .ok (.ifCond .eq 16, 3) := by decide +kernel
theorem dX12_spansWith_17 : decode cX12_spansWith 17 = .ok (.aload_n 0, 1) := by decide +kernel
theorem dX12_spansWith_18 : decode cX12_spansWith 18 = .ok (.iload_n 3, 1) := by decide +kernel
theorem dX12_spansWith_19 : decode cX12_spansWith 19 = .ok (.invokevirtual 144, 3) := by decide +kernel
theorem dX12_spansWith_22 : decode cX12_spansWith 22 = .ok (.bipush 6, 2) := by decide +kernel
theorem dX12_spansWith_24 : decode cX12_spansWith 24 = .ok (.if_icmp .ge 22, 3) := by decide +kernel
theorem dX12_spansWith_27 : decode cX12_spansWith 27 = .ok (.goto 15, 3) := by decide +kernel
theorem dX12_spansWith_30 : decode cX12_spansWith 30 = .ok (.aload_n 0, 1) := by decide +kernel
theorem dX12_spansWith_31 : decode cX12_spansWith 31 = .ok (.iload_n 3, 1) := by decide +kernel
theorem dX12_spansWith_32 : decode cX12_spansWith 32 = .ok (.aload_n 0, 1) := by decide +kernel
theorem dX12_spansWith_33 : decode cX12_spansWith 33 = .ok (.getfield 15, 3) := by decide +kernel
theorem dX12_spansWith_36 : decode cX12_spansWith 36 = .ok (.invokevirtual 207, 3) := by decide +kernel
theorem dX12_spansWith_39 : decode cX12_spansWith 39 = .ok (.ifCond .ne 7, 3) := by decide +kernel
theorem dX12_spansWith_42 : decode cX12_spansWith 42 = .ok (.iconst 1, 1) := by decide +kernel
theorem dX12_spansWith_43 : decode cX12_spansWith 43 = .ok (.goto 4, 3) := by decide +kernel
theorem dX12_spansWith_46 : decode cX12_spansWith 46 = .ok (.iconst 0, 1) := by decide +kernel
theorem dX12_spansWith_47 : decode cX12_spansWith 47 = .ok (.iadd, 1) := by decide +kernel
theorem dX12_spansWith_48 : decode cX12_spansWith 48 = .ok (.istore_n 2, 1) := by decide +kernel
theorem dX12_spansWith_49 : decode cX12_spansWith 49 = .ok (.iinc 3 1, 3) := by decide +kernel
theorem dX12_spansWith_52 : decode cX12_spansWith 52 = .ok (.goto (-48), 3) := by decide +kernel
theorem dX12_spansWith_55 : decode cX12_spansWith 55 = .ok (.iload_n 2, 1) := by decide +kernel
theorem dX12_spansWith_56 : decode cX12_spansWith 56 = .ok (.ireturn, 1) := by decide +kernel
theorem dX12_count_0 : decode cX12_count 0 = .ok (.iload_n 1, 1) := by decide +kernel
theorem dX12_count_1 : decode cX12_count 1 = .ok (.tableswitch 125 0 11 #[63, 68, 73, 78, 83, 88, 93, 98, 103, 108, 113, 119], 63) := by decide +kernel
theorem dX12_count_64 : decode cX12_count 64 = .ok (.aload_n 0, 1) := by decide +kernel
theorem dX12_count_65 : decode cX12_count 65 = .ok (.getfield 15, 3) := by decide +kernel
theorem dX12_count_68 : decode cX12_count 68 = .ok (.ireturn, 1) := by decide +kernel
theorem dX12_count_69 : decode cX12_count 69 = .ok (.aload_n 0, 1) := by decide +kernel
theorem dX12_count_70 : decode cX12_count 70 = .ok (.getfield 26, 3) := by decide +kernel
theorem dX12_count_73 : decode cX12_count 73 = .ok (.ireturn, 1) := by decide +kernel
theorem dX12_count_74 : decode cX12_count 74 = .ok (.aload_n 0, 1) := by decide +kernel
theorem dX12_count_75 : decode cX12_count 75 = .ok (.getfield 82, 3) := by decide +kernel
theorem dX12_count_78 : decode cX12_count 78 = .ok (.ireturn, 1) := by decide +kernel
theorem dX12_count_79 : decode cX12_count 79 = .ok (.aload_n 0, 1) := by decide +kernel
theorem dX12_count_80 : decode cX12_count 80 = .ok (.getfield 85, 3) := by decide +kernel
theorem dX12_count_83 : decode cX12_count 83 = .ok (.ireturn, 1) := by decide +kernel
theorem dX12_count_84 : decode cX12_count 84 = .ok (.aload_n 0, 1) := by decide +kernel
theorem dX12_count_85 : decode cX12_count 85 = .ok (.getfield 150, 3) := by decide +kernel
theorem dX12_count_88 : decode cX12_count 88 = .ok (.ireturn, 1) := by decide +kernel
theorem dX12_count_89 : decode cX12_count 89 = .ok (.aload_n 0, 1) := by decide +kernel
theorem dX12_count_90 : decode cX12_count 90 = .ok (.getfield 406, 3) := by decide +kernel
theorem dX12_count_93 : decode cX12_count 93 = .ok (.ireturn, 1) := by decide +kernel
theorem dX12_count_94 : decode cX12_count 94 = .ok (.aload_n 0, 1) := by decide +kernel
theorem dX12_count_95 : decode cX12_count 95 = .ok (.getfield 412, 3) := by decide +kernel
theorem dX12_count_98 : decode cX12_count 98 = .ok (.ireturn, 1) := by decide +kernel
theorem dX12_count_99 : decode cX12_count 99 = .ok (.aload_n 0, 1) := by decide +kernel
theorem dX12_count_100 : decode cX12_count 100 = .ok (.getfield 329, 3) := by decide +kernel
theorem dX12_count_103 : decode cX12_count 103 = .ok (.ireturn, 1) := by decide +kernel
theorem dX12_count_104 : decode cX12_count 104 = .ok (.aload_n 0, 1) := by decide +kernel
theorem dX12_count_105 : decode cX12_count 105 = .ok (.getfield 228, 3) := by decide +kernel
theorem dX12_count_108 : decode cX12_count 108 = .ok (.ireturn, 1) := by decide +kernel
theorem dX12_count_109 : decode cX12_count 109 = .ok (.aload_n 0, 1) := by decide +kernel
theorem dX12_count_110 : decode cX12_count 110 = .ok (.getfield 335, 3) := by decide +kernel
theorem dX12_count_113 : decode cX12_count 113 = .ok (.ireturn, 1) := by decide +kernel
theorem dX12_count_114 : decode cX12_count 114 = .ok (.aload_n 0, 1) := by decide +kernel
theorem dX12_count_115 : decode cX12_count 115 = .ok (.iconst 0, 1) := by decide +kernel
theorem dX12_count_116 : decode cX12_count 116 = .ok (.invokevirtual 448, 3) := by decide +kernel
theorem dX12_count_119 : decode cX12_count 119 = .ok (.ireturn, 1) := by decide +kernel
theorem dX12_count_120 : decode cX12_count 120 = .ok (.aload_n 0, 1) := by decide +kernel
theorem dX12_count_121 : decode cX12_count 121 = .ok (.iconst 1, 1) := by decide +kernel
theorem dX12_count_122 : decode cX12_count 122 = .ok (.invokevirtual 448, 3) := by decide +kernel
theorem dX12_count_125 : decode cX12_count 125 = .ok (.ireturn, 1) := by decide +kernel
theorem dX12_count_126 : decode cX12_count 126 = .ok (.bipush (-2), 2) := by decide +kernel
theorem dX12_count_128 : decode cX12_count 128 = .ok (.ireturn, 1) := by decide +kernel
theorem dX12_isSheet_0 : decode cX12_isSheet 0 = .ok (.iload_n 0, 1) := by decide +kernel
theorem dX12_isSheet_1 : decode cX12_isSheet 1 = .ok (.i2l, 1) := by decide +kernel
theorem dX12_isSheet_2 : decode cX12_isSheet 2 = .ok (.lconst 0, 1) := by decide +kernel
theorem dX12_isSheet_3 : decode cX12_isSheet 3 = .ok (.ldc2_w 452, 3) := by decide +kernel
theorem dX12_isSheet_6 : decode cX12_isSheet 6 = .ok (.invokestatic 5, 3) := by decide +kernel
theorem dX12_isSheet_9 : decode cX12_isSheet 9 = .ok (.ireturn, 1) := by decide +kernel
theorem dX12_sheet_0 : decode cX12_sheet 0 = .ok (.iload_n 1, 1) := by decide +kernel
theorem dX12_sheet_1 : decode cX12_sheet 1 = .ok (.invokestatic 454, 3) := by decide +kernel
theorem dX12_sheet_4 : decode cX12_sheet 4 = .ok (.ifCond .eq 27, 3) := by decide +kernel
theorem dX12_sheet_7 : decode cX12_sheet 7 = .ok (.iload_n 2, 1) := by decide +kernel
theorem dX12_sheet_8 : decode cX12_sheet 8 = .ok (.i2l, 1) := by decide +kernel
theorem dX12_sheet_9 : decode cX12_sheet 9 = .ok (.ldc2_w 457, 3) := by decide +kernel
theorem dX12_sheet_12 : decode cX12_sheet 12 = .ok (.ldc2_w 459, 3) := by decide +kernel
theorem dX12_sheet_15 : decode cX12_sheet 15 = .ok (.invokestatic 5, 3) := by decide +kernel
theorem dX12_sheet_18 : decode cX12_sheet 18 = .ok (.ifCond .eq 13, 3) := by decide +kernel
theorem dX12_sheet_21 : decode cX12_sheet 21 = .ok (.iload_n 2, 1) := by decide +kernel
theorem dX12_sheet_22 : decode cX12_sheet 22 = .ok (.ifCond .lt 12, 3) := by decide +kernel
theorem dX12_sheet_25 : decode cX12_sheet 25 = .ok (.iload_n 3, 1) := by decide +kernel
theorem dX12_sheet_26 : decode cX12_sheet 26 = .ok (.bipush 40, 2) := by decide +kernel
theorem dX12_sheet_28 : decode cX12_sheet 28 = .ok (.if_icmp .le 6, 3) := by decide +kernel
theorem dX12_sheet_31 : decode cX12_sheet 31 = .ok (.bipush (-2), 2) := by decide +kernel
theorem dX12_sheet_33 : decode cX12_sheet 33 = .ok (.ireturn, 1) := by decide +kernel
theorem dX12_sheet_34 : decode cX12_sheet 34 = .ok (.iload_n 2, 1) := by decide +kernel
theorem dX12_sheet_35 : decode cX12_sheet 35 = .ok (.ifCond .lt 10, 3) := by decide +kernel
theorem dX12_sheet_38 : decode cX12_sheet 38 = .ok (.iload_n 3, 1) := by decide +kernel
theorem dX12_sheet_39 : decode cX12_sheet 39 = .ok (.ifCond .ge 6, 3) := by decide +kernel
theorem dX12_sheet_42 : decode cX12_sheet 42 = .ok (.bipush (-14), 2) := by decide +kernel
theorem dX12_sheet_44 : decode cX12_sheet 44 = .ok (.ireturn, 1) := by decide +kernel
theorem dX12_sheet_45 : decode cX12_sheet 45 = .ok (.aload_n 0, 1) := by decide +kernel
theorem dX12_sheet_46 : decode cX12_sheet 46 = .ok (.getfield 391, 3) := by decide +kernel
theorem dX12_sheet_49 : decode cX12_sheet 49 = .ok (.iload_n 1, 1) := by decide +kernel
theorem dX12_sheet_50 : decode cX12_sheet 50 = .ok (.iload_n 2, 1) := by decide +kernel
theorem dX12_sheet_51 : decode cX12_sheet 51 = .ok (.iastore, 1) := by decide +kernel
theorem dX12_sheet_52 : decode cX12_sheet 52 = .ok (.aload_n 0, 1) := by decide +kernel
theorem dX12_sheet_53 : decode cX12_sheet 53 = .ok (.getfield 394, 3) := by decide +kernel
theorem dX12_sheet_56 : decode cX12_sheet 56 = .ok (.iload_n 1, 1) := by decide +kernel
theorem dX12_sheet_57 : decode cX12_sheet 57 = .ok (.iload_n 2, 1) := by decide +kernel
theorem dX12_sheet_58 : decode cX12_sheet 58 = .ok (.ifCond .ge 7, 3) := by decide +kernel
theorem dX12_sheet_61 : decode cX12_sheet 61 = .ok (.iconst 0, 1) := by decide +kernel
theorem dX12_sheet_62 : decode cX12_sheet 62 = .ok (.goto 4, 3) := by decide +kernel
theorem dX12_sheet_65 : decode cX12_sheet 65 = .ok (.iload_n 3, 1) := by decide +kernel
theorem dX12_sheet_66 : decode cX12_sheet 66 = .ok (.iastore, 1) := by decide +kernel
theorem dX12_sheet_67 : decode cX12_sheet 67 = .ok (.iconst 0, 1) := by decide +kernel
theorem dX12_sheet_68 : decode cX12_sheet 68 = .ok (.istore 4, 2) := by decide +kernel
theorem dX12_sheet_70 : decode cX12_sheet 70 = .ok (.iload 4, 2) := by decide +kernel
theorem dX12_sheet_72 : decode cX12_sheet 72 = .ok (.bipush 40, 2) := by decide +kernel
theorem dX12_sheet_74 : decode cX12_sheet 74 = .ok (.if_icmp .ge 22, 3) := by decide +kernel
theorem dX12_sheet_77 : decode cX12_sheet 77 = .ok (.aload_n 0, 1) := by decide +kernel
theorem dX12_sheet_78 : decode cX12_sheet 78 = .ok (.getfield 397, 3) := by decide +kernel
theorem dX12_sheet_81 : decode cX12_sheet 81 = .ok (.bipush 40, 2) := by decide +kernel
theorem dX12_sheet_83 : decode cX12_sheet 83 = .ok (.iload_n 1, 1) := by decide +kernel
theorem dX12_sheet_84 : decode cX12_sheet 84 = .ok (.imul, 1) := by decide +kernel
theorem dX12_sheet_85 : decode cX12_sheet 85 = .ok (.iload 4, 2) := by decide +kernel
theorem dX12_sheet_87 : decode cX12_sheet 87 = .ok (.iadd, 1) := by decide +kernel
theorem dX12_sheet_88 : decode cX12_sheet 88 = .ok (.iconst 0, 1) := by decide +kernel
theorem dX12_sheet_89 : decode cX12_sheet 89 = .ok (.iastore, 1) := by decide +kernel
theorem dX12_sheet_90 : decode cX12_sheet 90 = .ok (.iinc 4 1, 3) := by decide +kernel
theorem dX12_sheet_93 : decode cX12_sheet 93 = .ok (.goto (-23), 3) := by decide +kernel
theorem dX12_sheet_96 : decode cX12_sheet 96 = .ok (.iconst 1, 1) := by decide +kernel
theorem dX12_sheet_97 : decode cX12_sheet 97 = .ok (.ireturn, 1) := by decide +kernel
theorem dX12_cutTo_0 : decode cX12_cutTo 0 = .ok (.iload_n 0, 1) := by decide +kernel
theorem dX12_cutTo_1 : decode cX12_cutTo 1 = .ok (.ifCond .ne 8, 3) := by decide +kernel
theorem dX12_cutTo_4 : decode cX12_cutTo 4 = .ok (.iload_n 1, 1) := by decide +kernel
theorem dX12_cutTo_5 : decode cX12_cutTo 5 = .ok (.i2b, 1) := by decide +kernel
theorem dX12_cutTo_6 : decode cX12_cutTo 6 = .ok (.goto 14, 3) := by decide +kernel
theorem dX12_cutTo_9 : decode cX12_cutTo 9 = .ok (.iload_n 0, 1) := by decide +kernel
theorem dX12_cutTo_10 : decode cX12_cutTo 10 = .ok (.iconst 1, 1) := by decide +kernel
theorem dX12_cutTo_11 : decode cX12_cutTo 11 = .ok (.if_icmp .ne 8, 3) := by decide +kernel
theorem dX12_cutTo_14 : decode cX12_cutTo 14 = .ok (.iload_n 1, 1) := by decide +kernel
theorem dX12_cutTo_15 : decode cX12_cutTo 15 = .ok (.i2s, 1) := by decide +kernel
theorem dX12_cutTo_16 : decode cX12_cutTo 16 = .ok (.goto 4, 3) := by decide +kernel
theorem dX12_cutTo_19 : decode cX12_cutTo 19 = .ok (.iload_n 1, 1) := by decide +kernel
theorem dX12_cutTo_20 : decode cX12_cutTo 20 = .ok (.ireturn, 1) := by decide +kernel
theorem dX12_cell_0 : decode cX12_cell 0 = .ok (.iload_n 1, 1) := by decide +kernel
theorem dX12_cell_1 : decode cX12_cell 1 = .ok (.invokestatic 454, 3) := by decide +kernel
theorem dX12_cell_4 : decode cX12_cell 4 = .ok (.ifCond .ne 6, 3) := by decide +kernel
theorem dX12_cell_7 : decode cX12_cell 7 = .ok (.bipush (-2), 2) := by decide +kernel
theorem dX12_cell_9 : decode cX12_cell 9 = .ok (.ireturn, 1) := by decide +kernel
theorem dX12_cell_10 : decode cX12_cell 10 = .ok (.aload_n 0, 1) := by decide +kernel
theorem dX12_cell_11 : decode cX12_cell 11 = .ok (.getfield 391, 3) := by decide +kernel
theorem dX12_cell_14 : decode cX12_cell 14 = .ok (.iload_n 1, 1) := by decide +kernel
theorem dX12_cell_15 : decode cX12_cell 15 = .ok (.iaload, 1) := by decide +kernel
theorem dX12_cell_16 : decode cX12_cell 16 = .ok (.ifCond .ge 6, 3) := by decide +kernel
theorem dX12_cell_19 : decode cX12_cell 19 = .ok (.bipush (-11), 2) := by decide +kernel
theorem dX12_cell_21 : decode cX12_cell 21 = .ok (.ireturn, 1) := by decide +kernel
theorem dX12_cell_22 : decode cX12_cell 22 = .ok (.iload_n 2, 1) := by decide +kernel
theorem dX12_cell_23 : decode cX12_cell 23 = .ok (.i2l, 1) := by decide +kernel
theorem dX12_cell_24 : decode cX12_cell 24 = .ok (.lconst 0, 1) := by decide +kernel
theorem dX12_cell_25 : decode cX12_cell 25 = .ok (.aload_n 0, 1) := by decide +kernel
theorem dX12_cell_26 : decode cX12_cell 26 = .ok (.getfield 394, 3) := by decide +kernel
theorem dX12_cell_29 : decode cX12_cell 29 = .ok (.iload_n 1, 1) := by decide +kernel
theorem dX12_cell_30 : decode cX12_cell 30 = .ok (.iaload, 1) := by decide +kernel
theorem dX12_cell_31 : decode cX12_cell 31 = .ok (.iconst 1, 1) := by decide +kernel
theorem dX12_cell_32 : decode cX12_cell 32 = .ok (.isub, 1) := by decide +kernel
theorem dX12_cell_33 : decode cX12_cell 33 = .ok (.i2l, 1) := by decide +kernel
theorem dX12_cell_34 : decode cX12_cell 34 = .ok (.invokestatic 5, 3) := by decide +kernel
theorem dX12_cell_37 : decode cX12_cell 37 = .ok (.ifCond .ne 6, 3) := by decide +kernel
theorem dX12_cell_40 : decode cX12_cell 40 = .ok (.bipush (-12), 2) := by decide +kernel
theorem dX12_cell_42 : decode cX12_cell 42 = .ok (.ireturn, 1) := by decide +kernel
theorem dX12_cell_43 : decode cX12_cell 43 = .ok (.aload_n 0, 1) := by decide +kernel
theorem dX12_cell_44 : decode cX12_cell 44 = .ok (.getfield 397, 3) := by decide +kernel
theorem dX12_cell_47 : decode cX12_cell 47 = .ok (.bipush 40, 2) := by decide +kernel
theorem dX12_cell_49 : decode cX12_cell 49 = .ok (.iload_n 1, 1) := by decide +kernel
theorem dX12_cell_50 : decode cX12_cell 50 = .ok (.imul, 1) := by decide +kernel
theorem dX12_cell_51 : decode cX12_cell 51 = .ok (.iload_n 2, 1) := by decide +kernel
theorem dX12_cell_52 : decode cX12_cell 52 = .ok (.iadd, 1) := by decide +kernel
theorem dX12_cell_53 : decode cX12_cell 53 = .ok (.aload_n 0, 1) := by decide +kernel
theorem dX12_cell_54 : decode cX12_cell 54 = .ok (.getfield 391, 3) := by decide +kernel
theorem dX12_cell_57 : decode cX12_cell 57 = .ok (.iload_n 1, 1) := by decide +kernel
theorem dX12_cell_58 : decode cX12_cell 58 = .ok (.iaload, 1) := by decide +kernel
theorem dX12_cell_59 : decode cX12_cell 59 = .ok (.iload_n 3, 1) := by decide +kernel
theorem dX12_cell_60 : decode cX12_cell 60 = .ok (.invokestatic 461, 3) := by decide +kernel
theorem dX12_cell_63 : decode cX12_cell 63 = .ok (.iastore, 1) := by decide +kernel
theorem dX12_cell_64 : decode cX12_cell 64 = .ok (.iconst 1, 1) := by decide +kernel
theorem dX12_cell_65 : decode cX12_cell 65 = .ok (.ireturn, 1) := by decide +kernel
theorem dX12_copy_0 : decode cX12_copy 0 = .ok (.iload_n 1, 1) := by decide +kernel
theorem dX12_copy_1 : decode cX12_copy 1 = .ok (.invokestatic 454, 3) := by decide +kernel
theorem dX12_copy_4 : decode cX12_copy 4 = .ok (.ifCond .eq 10, 3) := by decide +kernel
theorem dX12_copy_7 : decode cX12_copy 7 = .ok (.iload_n 3, 1) := by decide +kernel
theorem dX12_copy_8 : decode cX12_copy 8 = .ok (.invokestatic 454, 3) := by decide +kernel
theorem dX12_copy_11 : decode cX12_copy 11 = .ok (.ifCond .ne 6, 3) := by decide +kernel
theorem dX12_copy_14 : decode cX12_copy 14 = .ok (.bipush (-2), 2) := by decide +kernel
theorem dX12_copy_16 : decode cX12_copy 16 = .ok (.ireturn, 1) := by decide +kernel
theorem dX12_copy_17 : decode cX12_copy 17 = .ok (.aload_n 0, 1) := by decide +kernel
theorem dX12_copy_18 : decode cX12_copy 18 = .ok (.getfield 391, 3) := by decide +kernel
theorem dX12_copy_21 : decode cX12_copy 21 = .ok (.iload_n 1, 1) := by decide +kernel
theorem dX12_copy_22 : decode cX12_copy 22 = .ok (.iaload, 1) := by decide +kernel
theorem dX12_copy_23 : decode cX12_copy 23 = .ok (.ifCond .lt 12, 3) := by decide +kernel
theorem dX12_copy_26 : decode cX12_copy 26 = .ok (.aload_n 0, 1) := by decide +kernel
theorem dX12_copy_27 : decode cX12_copy 27 = .ok (.getfield 391, 3) := by decide +kernel
theorem dX12_copy_30 : decode cX12_copy 30 = .ok (.iload_n 3, 1) := by decide +kernel
theorem dX12_copy_31 : decode cX12_copy 31 = .ok (.iaload, 1) := by decide +kernel
theorem dX12_copy_32 : decode cX12_copy 32 = .ok (.ifCond .ge 6, 3) := by decide +kernel
theorem dX12_copy_35 : decode cX12_copy 35 = .ok (.bipush (-11), 2) := by decide +kernel
theorem dX12_copy_37 : decode cX12_copy 37 = .ok (.ireturn, 1) := by decide +kernel
theorem dX12_copy_38 : decode cX12_copy 38 = .ok (.aload_n 0, 1) := by decide +kernel
theorem dX12_copy_39 : decode cX12_copy 39 = .ok (.getfield 391, 3) := by decide +kernel
theorem dX12_copy_42 : decode cX12_copy 42 = .ok (.iload_n 1, 1) := by decide +kernel
theorem dX12_copy_43 : decode cX12_copy 43 = .ok (.iaload, 1) := by decide +kernel
theorem dX12_copy_44 : decode cX12_copy 44 = .ok (.aload_n 0, 1) := by decide +kernel
theorem dX12_copy_45 : decode cX12_copy 45 = .ok (.getfield 391, 3) := by decide +kernel
theorem dX12_copy_48 : decode cX12_copy 48 = .ok (.iload_n 3, 1) := by decide +kernel
theorem dX12_copy_49 : decode cX12_copy 49 = .ok (.iaload, 1) := by decide +kernel
theorem dX12_copy_50 : decode cX12_copy 50 = .ok (.if_icmp .eq 6, 3) := by decide +kernel
theorem dX12_copy_53 : decode cX12_copy 53 = .ok (.bipush (-13), 2) := by decide +kernel
theorem dX12_copy_55 : decode cX12_copy 55 = .ok (.ireturn, 1) := by decide +kernel
theorem dX12_copy_56 : decode cX12_copy 56 = .ok (.iload 5, 2) := by decide +kernel
theorem dX12_copy_58 : decode cX12_copy 58 = .ok (.ifCond .lt 39, 3) := by decide +kernel
theorem dX12_copy_61 : decode cX12_copy 61 = .ok (.iload_n 2, 1) := by decide +kernel
theorem dX12_copy_62 : decode cX12_copy 62 = .ok (.ifCond .lt 35, 3) := by decide +kernel
theorem dX12_copy_65 : decode cX12_copy 65 = .ok (.iload 4, 2) := by decide +kernel
theorem dX12_copy_67 : decode cX12_copy 67 = .ok (.ifCond .lt 30, 3) := by decide +kernel
theorem dX12_copy_70 : decode cX12_copy 70 = .ok (.iload 5, 2) := by decide +kernel
theorem dX12_copy_72 : decode cX12_copy 72 = .ok (.aload_n 0, 1) := by decide +kernel
theorem dX12_copy_73 : decode cX12_copy 73 = .ok (.getfield 394, 3) := by decide +kernel
theorem dX12_copy_76 : decode cX12_copy 76 = .ok (.iload_n 1, 1) := by decide +kernel
theorem dX12_copy_77 : decode cX12_copy 77 = .ok (.iaload, 1) := by decide +kernel
theorem dX12_copy_78 : decode cX12_copy 78 = .ok (.iload_n 2, 1) := by decide +kernel
theorem dX12_copy_79 : decode cX12_copy 79 = .ok (.isub, 1) := by decide +kernel
theorem dX12_copy_80 : decode cX12_copy 80 = .ok (.if_icmp .gt 17, 3) := by decide +kernel
theorem dX12_copy_83 : decode cX12_copy 83 = .ok (.iload 5, 2) := by decide +kernel
theorem dX12_copy_85 : decode cX12_copy 85 = .ok (.aload_n 0, 1) := by decide +kernel
theorem dX12_copy_86 : decode cX12_copy 86 = .ok (.getfield 394, 3) := by decide +kernel
theorem dX12_copy_89 : decode cX12_copy 89 = .ok (.iload_n 3, 1) := by decide +kernel
theorem dX12_copy_90 : decode cX12_copy 90 = .ok (.iaload, 1) := by decide +kernel
theorem dX12_copy_91 : decode cX12_copy 91 = .ok (.iload 4, 2) := by decide +kernel
theorem dX12_copy_93 : decode cX12_copy 93 = .ok (.isub, 1) := by decide +kernel
theorem dX12_copy_94 : decode cX12_copy 94 = .ok (.if_icmp .le 6, 3) := by decide +kernel
theorem dX12_copy_97 : decode cX12_copy 97 = .ok (.bipush (-12), 2) := by decide +kernel
theorem dX12_copy_99 : decode cX12_copy 99 = .ok (.ireturn, 1) := by decide +kernel
theorem dX12_copy_100 : decode cX12_copy 100 = .ok (.iconst 0, 1) := by decide +kernel
theorem dX12_copy_101 : decode cX12_copy 101 = .ok (.istore 6, 2) := by decide +kernel
theorem dX12_copy_103 : decode cX12_copy 103 = .ok (.iload 6, 2) := by decide +kernel
theorem dX12_copy_105 : decode cX12_copy 105 = .ok (.iload 5, 2) := by decide +kernel
theorem dX12_copy_107 : decode cX12_copy 107 = .ok (.if_icmp .ge 30, 3) := by decide +kernel
theorem dX12_copy_110 : decode cX12_copy 110 = .ok (.aload_n 0, 1) := by decide +kernel
theorem dX12_copy_111 : decode cX12_copy 111 = .ok (.getfield 400, 3) := by decide +kernel
theorem dX12_copy_114 : decode cX12_copy 114 = .ok (.iload 6, 2) := by decide +kernel
theorem dX12_copy_116 : decode cX12_copy 116 = .ok (.aload_n 0, 1) := by decide +kernel
theorem dX12_copy_117 : decode cX12_copy 117 = .ok (.getfield 397, 3) := by decide +kernel
theorem dX12_copy_120 : decode cX12_copy 120 = .ok (.bipush 40, 2) := by decide +kernel
theorem dX12_copy_122 : decode cX12_copy 122 = .ok (.iload_n 1, 1) := by decide +kernel
theorem dX12_copy_123 : decode cX12_copy 123 = .ok (.imul, 1) := by decide +kernel
theorem dX12_copy_124 : decode cX12_copy 124 = .ok (.iload_n 2, 1) := by decide +kernel
theorem dX12_copy_125 : decode cX12_copy 125 = .ok (.iadd, 1) := by decide +kernel
theorem dX12_copy_126 : decode cX12_copy 126 = .ok (.iload 6, 2) := by decide +kernel
theorem dX12_copy_128 : decode cX12_copy 128 = .ok (.iadd, 1) := by decide +kernel
theorem dX12_copy_129 : decode cX12_copy 129 = .ok (.iaload, 1) := by decide +kernel
theorem dX12_copy_130 : decode cX12_copy 130 = .ok (.iastore, 1) := by decide +kernel
theorem dX12_copy_131 : decode cX12_copy 131 = .ok (.iinc 6 1, 3) := by decide +kernel
theorem dX12_copy_134 : decode cX12_copy 134 = .ok (.goto (-31), 3) := by decide +kernel
theorem dX12_copy_137 : decode cX12_copy 137 = .ok (.iconst 0, 1) := by decide +kernel
theorem dX12_copy_138 : decode cX12_copy 138 = .ok (.istore 6, 2) := by decide +kernel
theorem dX12_copy_140 : decode cX12_copy 140 = .ok (.iload 6, 2) := by decide +kernel
theorem dX12_copy_142 : decode cX12_copy 142 = .ok (.iload 5, 2) := by decide +kernel
theorem dX12_copy_144 : decode cX12_copy 144 = .ok (.if_icmp .ge 31, 3) := by decide +kernel
theorem dX12_copy_147 : decode cX12_copy 147 = .ok (.aload_n 0, 1) := by decide +kernel
theorem dX12_copy_148 : decode cX12_copy 148 = .ok (.getfield 397, 3) := by decide +kernel
theorem dX12_copy_151 : decode cX12_copy 151 = .ok (.bipush 40, 2) := by decide +kernel
theorem dX12_copy_153 : decode cX12_copy 153 = .ok (.iload_n 3, 1) := by decide +kernel
theorem dX12_copy_154 : decode cX12_copy 154 = .ok (.imul, 1) := by decide +kernel
theorem dX12_copy_155 : decode cX12_copy 155 = .ok (.iload 4, 2) := by decide +kernel
theorem dX12_copy_157 : decode cX12_copy 157 = .ok (.iadd, 1) := by decide +kernel
theorem dX12_copy_158 : decode cX12_copy 158 = .ok (.iload 6, 2) := by decide +kernel
theorem dX12_copy_160 : decode cX12_copy 160 = .ok (.iadd, 1) := by decide +kernel
theorem dX12_copy_161 : decode cX12_copy 161 = .ok (.aload_n 0, 1) := by decide +kernel
theorem dX12_copy_162 : decode cX12_copy 162 = .ok (.getfield 400, 3) := by decide +kernel
theorem dX12_copy_165 : decode cX12_copy 165 = .ok (.iload 6, 2) := by decide +kernel
theorem dX12_copy_167 : decode cX12_copy 167 = .ok (.iaload, 1) := by decide +kernel
theorem dX12_copy_168 : decode cX12_copy 168 = .ok (.iastore, 1) := by decide +kernel
theorem dX12_copy_169 : decode cX12_copy 169 = .ok (.iinc 6 1, 3) := by decide +kernel
theorem dX12_copy_172 : decode cX12_copy 172 = .ok (.goto (-32), 3) := by decide +kernel
theorem dX12_copy_175 : decode cX12_copy 175 = .ok (.iload 5, 2) := by decide +kernel
theorem dX12_copy_177 : decode cX12_copy 177 = .ok (.ireturn, 1) := by decide +kernel
theorem dX12_costs_0 : decode cX12_costs 0 = .ok (.iload_n 1, 1) := by decide +kernel
theorem dX12_costs_1 : decode cX12_costs 1 = .ok (.invokestatic 19, 3) := by decide +kernel
theorem dX12_costs_4 : decode cX12_costs 4 = .ok (.ifCond .eq 35, 3) := by decide +kernel
theorem dX12_costs_7 : decode cX12_costs 7 = .ok (.iload_n 2, 1) := by decide +kernel
theorem dX12_costs_8 : decode cX12_costs 8 = .ok (.invokestatic 454, 3) := by decide +kernel
theorem dX12_costs_11 : decode cX12_costs 11 = .ok (.ifCond .eq 28, 3) := by decide +kernel
theorem dX12_costs_14 : decode cX12_costs 14 = .ok (.iload_n 3, 1) := by decide +kernel
theorem dX12_costs_15 : decode cX12_costs 15 = .ok (.i2l, 1) := by decide +kernel
theorem dX12_costs_16 : decode cX12_costs 16 = .ok (.lconst 0, 1) := by decide +kernel
theorem dX12_costs_17 : decode cX12_costs 17 = .ok (.ldc2_w 459, 3) := by decide +kernel
theorem dX12_costs_20 : decode cX12_costs 20 = .ok (.invokestatic 5, 3) := by decide +kernel
theorem dX12_costs_23 : decode cX12_costs 23 = .ok (.ifCond .eq 16, 3) := by decide +kernel
theorem dX12_costs_26 : decode cX12_costs 26 = .ok (.iload 5, 2) := by decide +kernel
theorem dX12_costs_28 : decode cX12_costs 28 = .ok (.i2l, 1) := by decide +kernel
theorem dX12_costs_29 : decode cX12_costs 29 = .ok (.lconst 0, 1) := by decide +kernel
theorem dX12_costs_30 : decode cX12_costs 30 = .ok (.ldc2_w 76, 3) := by decide +kernel
theorem dX12_costs_33 : decode cX12_costs 33 = .ok (.invokestatic 5, 3) := by decide +kernel
theorem dX12_costs_36 : decode cX12_costs 36 = .ok (.ifCond .ne 6, 3) := by decide +kernel
theorem dX12_costs_39 : decode cX12_costs 39 = .ok (.bipush (-2), 2) := by decide +kernel
theorem dX12_costs_41 : decode cX12_costs 41 = .ok (.ireturn, 1) := by decide +kernel
theorem dX12_costs_42 : decode cX12_costs 42 = .ok (.aload_n 0, 1) := by decide +kernel
theorem dX12_costs_43 : decode cX12_costs 43 = .ok (.getfield 391, 3) := by decide +kernel
theorem dX12_costs_46 : decode cX12_costs 46 = .ok (.iload_n 2, 1) := by decide +kernel
theorem dX12_costs_47 : decode cX12_costs 47 = .ok (.iaload, 1) := by decide +kernel
theorem dX12_costs_48 : decode cX12_costs 48 = .ok (.ifCond .lt 16, 3) := by decide +kernel
theorem dX12_costs_51 : decode cX12_costs 51 = .ok (.aload_n 0, 1) := by decide +kernel
theorem dX12_costs_52 : decode cX12_costs 52 = .ok (.getfield 391, 3) := by decide +kernel
theorem dX12_costs_55 : decode cX12_costs 55 = .ok (.iload_n 2, 1) := by decide +kernel
theorem dX12_costs_56 : decode cX12_costs 56 = .ok (.iaload, 1) := by decide +kernel
theorem dX12_costs_57 : decode cX12_costs 57 = .ok (.iload_n 3, 1) := by decide +kernel
theorem dX12_costs_58 : decode cX12_costs 58 = .ok (.if_icmp .eq 6, 3) := by decide +kernel
theorem dX12_costs_61 : decode cX12_costs 61 = .ok (.bipush (-13), 2) := by decide +kernel
theorem dX12_costs_63 : decode cX12_costs 63 = .ok (.ireturn, 1) := by decide +kernel
theorem dX12_costs_64 : decode cX12_costs 64 = .ok (.aload_n 0, 1) := by decide +kernel
theorem dX12_costs_65 : decode cX12_costs 65 = .ok (.getfield 391, 3) := by decide +kernel
theorem dX12_costs_68 : decode cX12_costs 68 = .ok (.iload_n 2, 1) := by decide +kernel
theorem dX12_costs_69 : decode cX12_costs 69 = .ok (.iaload, 1) := by decide +kernel
theorem dX12_costs_70 : decode cX12_costs 70 = .ok (.ifCond .ge 6, 3) := by decide +kernel
theorem dX12_costs_73 : decode cX12_costs 73 = .ok (.bipush (-11), 2) := by decide +kernel
theorem dX12_costs_75 : decode cX12_costs 75 = .ok (.ireturn, 1) := by decide +kernel
theorem dX12_costs_76 : decode cX12_costs 76 = .ok (.iconst 0, 1) := by decide +kernel
theorem dX12_costs_77 : decode cX12_costs 77 = .ok (.istore 6, 2) := by decide +kernel
theorem dX12_costs_79 : decode cX12_costs 79 = .ok (.iconst 0, 1) := by decide +kernel
theorem dX12_costs_80 : decode cX12_costs 80 = .ok (.istore 7, 2) := by decide +kernel
theorem dX12_costs_82 : decode cX12_costs 82 = .ok (.iload 7, 2) := by decide +kernel
theorem dX12_costs_84 : decode cX12_costs 84 = .ok (.iload 5, 2) := by decide +kernel
theorem dX12_costs_86 : decode cX12_costs 86 = .ok (.if_icmp .ge 76, 3) := by decide +kernel
theorem dX12_costs_89 : decode cX12_costs 89 = .ok (.iload 4, 2) := by decide +kernel
theorem dX12_costs_91 : decode cX12_costs 91 = .ok (.i2l, 1) := by decide +kernel
theorem dX12_costs_92 : decode cX12_costs 92 = .ok (.iload 7, 2) := by decide +kernel
theorem dX12_costs_94 : decode cX12_costs 94 = .ok (.i2l, 1) := by decide +kernel
theorem dX12_costs_95 : decode cX12_costs 95 = .ok (.ladd, 1) := by decide +kernel
theorem dX12_costs_96 : decode cX12_costs 96 = .ok (.lstore 8, 2) := by decide +kernel
theorem dX12_costs_98 : decode cX12_costs 98 = .ok (.lload 8, 2) := by decide +kernel
theorem dX12_costs_100 : decode cX12_costs 100 = .ok (.lconst 0, 1) := by decide +kernel
theorem dX12_costs_101 : decode cX12_costs 101 = .ok (.lcmp, 1) := by decide +kernel
theorem dX12_costs_102 : decode cX12_costs 102 = .ok (.ifCond .lt 16, 3) := by decide +kernel
theorem dX12_costs_105 : decode cX12_costs 105 = .ok (.lload 8, 2) := by decide +kernel
theorem dX12_costs_107 : decode cX12_costs 107 = .ok (.aload_n 0, 1) := by decide +kernel
theorem dX12_costs_108 : decode cX12_costs 108 = .ok (.getfield 394, 3) := by decide +kernel
theorem dX12_costs_111 : decode cX12_costs 111 = .ok (.iload_n 2, 1) := by decide +kernel
theorem dX12_costs_112 : decode cX12_costs 112 = .ok (.iaload, 1) := by decide +kernel
theorem dX12_costs_113 : decode cX12_costs 113 = .ok (.i2l, 1) := by decide +kernel
theorem dX12_costs_114 : decode cX12_costs 114 = .ok (.lcmp, 1) := by decide +kernel
theorem dX12_costs_115 : decode cX12_costs 115 = .ok (.ifCond .lt 6, 3) := by decide +kernel
theorem dX12_costs_118 : decode cX12_costs 118 = .ok (.bipush (-12), 2) := by decide +kernel
theorem dX12_costs_120 : decode cX12_costs 120 = .ok (.ireturn, 1) := by decide +kernel
theorem dX12_costs_121 : decode cX12_costs 121 = .ok (.iload 6, 2) := by decide +kernel
theorem dX12_costs_123 : decode cX12_costs 123 = .ok (.aload_n 0, 1) := by decide +kernel
theorem dX12_costs_124 : decode cX12_costs 124 = .ok (.iload_n 1, 1) := by decide +kernel
theorem dX12_costs_125 : decode cX12_costs 125 = .ok (.iload 7, 2) := by decide +kernel
theorem dX12_costs_127 : decode cX12_costs 127 = .ok (.iadd, 1) := by decide +kernel
theorem dX12_costs_128 : decode cX12_costs 128 = .ok (.iconst 2, 1) := by decide +kernel
theorem dX12_costs_129 : decode cX12_costs 129 = .ok (.aload_n 0, 1) := by decide +kernel
theorem dX12_costs_130 : decode cX12_costs 130 = .ok (.getfield 397, 3) := by decide +kernel
theorem dX12_costs_133 : decode cX12_costs 133 = .ok (.bipush 40, 2) := by decide +kernel
theorem dX12_costs_135 : decode cX12_costs 135 = .ok (.iload_n 2, 1) := by decide +kernel
theorem dX12_costs_136 : decode cX12_costs 136 = .ok (.imul, 1) := by decide +kernel
theorem dX12_costs_137 : decode cX12_costs 137 = .ok (.lload 8, 2) := by decide +kernel
theorem dX12_costs_139 : decode cX12_costs 139 = .ok (.l2i, 1) := by decide +kernel
theorem dX12_costs_140 : decode cX12_costs 140 = .ok (.iadd, 1) := by decide +kernel
theorem dX12_costs_141 : decode cX12_costs 141 = .ok (.iaload, 1) := by decide +kernel
theorem dX12_costs_142 : decode cX12_costs 142 = .ok (.invokevirtual 464, 3) := by decide +kernel
theorem dX12_costs_145 : decode cX12_costs 145 = .ok (.ifCond .lt 7, 3) := by decide +kernel
theorem dX12_costs_148 : decode cX12_costs 148 = .ok (.iconst 1, 1) := by decide +kernel
theorem dX12_costs_149 : decode cX12_costs 149 = .ok (.goto 4, 3) := by decide +kernel
theorem dX12_costs_152 : decode cX12_costs 152 = .ok (.iconst 0, 1) := by decide +kernel
theorem dX12_costs_153 : decode cX12_costs 153 = .ok (.iadd, 1) := by decide +kernel
theorem dX12_costs_154 : decode cX12_costs 154 = .ok (.istore 6, 2) := by decide +kernel
theorem dX12_costs_156 : decode cX12_costs 156 = .ok (.iinc 7 1, 3) := by decide +kernel
theorem dX12_costs_159 : decode cX12_costs 159 = .ok (.goto (-77), 3) := by decide +kernel
theorem dX12_costs_162 : decode cX12_costs 162 = .ok (.iload 6, 2) := by decide +kernel
theorem dX12_costs_164 : decode cX12_costs 164 = .ok (.ireturn, 1) := by decide +kernel
theorem dX12_taken_0 : decode cX12_taken 0 = .ok (.iload_n 2, 1) := by decide +kernel
theorem dX12_taken_1 : decode cX12_taken 1 = .ok (.i2l, 1) := by decide +kernel
theorem dX12_taken_2 : decode cX12_taken 2 = .ok (.lconst 0, 1) := by decide +kernel
theorem dX12_taken_3 : decode cX12_taken 3 = .ok (.ldc2_w 153, 3) := by decide +kernel
theorem dX12_taken_6 : decode cX12_taken 6 = .ok (.invokestatic 5, 3) := by decide +kernel
theorem dX12_taken_9 : decode cX12_taken 9 = .ok (.ifCond .ne 6, 3) := by decide +kernel
theorem dX12_taken_12 : decode cX12_taken 12 = .ok (.bipush (-2), 2) := by decide +kernel
theorem dX12_taken_14 : decode cX12_taken 14 = .ok (.ireturn, 1) := by decide +kernel
theorem dX12_taken_15 : decode cX12_taken 15 = .ok (.aload_n 0, 1) := by decide +kernel
theorem dX12_taken_16 : decode cX12_taken 16 = .ok (.iload_n 1, 1) := by decide +kernel
theorem dX12_taken_17 : decode cX12_taken 17 = .ok (.invokevirtual 157, 3) := by decide +kernel
theorem dX12_taken_20 : decode cX12_taken 20 = .ok (.ifCond .ne 6, 3) := by decide +kernel
theorem dX12_taken_23 : decode cX12_taken 23 = .ok (.bipush (-11), 2) := by decide +kernel
theorem dX12_taken_25 : decode cX12_taken 25 = .ok (.ireturn, 1) := by decide +kernel
theorem dX12_taken_26 : decode cX12_taken 26 = .ok (.aload_n 0, 1) := by decide +kernel
theorem dX12_taken_27 : decode cX12_taken 27 = .ok (.getfield 163, 3) := by decide +kernel
theorem dX12_taken_30 : decode cX12_taken 30 = .ok (.iload_n 1, 1) := by decide +kernel
theorem dX12_taken_31 : decode cX12_taken 31 = .ok (.iaload, 1) := by decide +kernel
theorem dX12_taken_32 : decode cX12_taken 32 = .ok (.istore_n 3, 1) := by decide +kernel
theorem dX12_taken_33 : decode cX12_taken 33 = .ok (.iload_n 2, 1) := by decide +kernel
theorem dX12_taken_34 : decode cX12_taken 34 = .ok (.ifCond .eq 33, 3) := by decide +kernel
theorem dX12_taken_37 : decode cX12_taken 37 = .ok (.iload_n 3, 1) := by decide +kernel
theorem dX12_taken_38 : decode cX12_taken 38 = .ok (.iload_n 2, 1) := by decide +kernel
theorem dX12_taken_39 : decode cX12_taken 39 = .ok (.if_icmp .eq 28, 3) := by decide +kernel
theorem dX12_taken_42 : decode cX12_taken 42 = .ok (.iload_n 2, 1) := by decide +kernel
theorem dX12_taken_43 : decode cX12_taken 43 = .ok (.iconst 1, 1) := by decide +kernel
theorem dX12_taken_44 : decode cX12_taken 44 = .ok (.if_icmp .ne 8, 3) := by decide +kernel
theorem dX12_taken_47 : decode cX12_taken 47 = .ok (.iload_n 3, 1) := by decide +kernel
theorem dX12_taken_48 : decode cX12_taken 48 = .ok (.iconst 3, 1) := by decide +kernel
theorem dX12_taken_49 : decode cX12_taken 49 = .ok (.if_icmp .eq 18, 3) := by decide +kernel
theorem dX12_taken_52 : decode cX12_taken 52 = .ok (.iload_n 2, 1) := by decide +kernel
theorem dX12_taken_53 : decode cX12_taken 53 = .ok (.iconst 2, 1) := by decide +kernel
theorem dX12_taken_54 : decode cX12_taken 54 = .ok (.if_icmp .ne 17, 3) := by decide +kernel
theorem dX12_taken_57 : decode cX12_taken 57 = .ok (.iload_n 3, 1) := by decide +kernel
theorem dX12_taken_58 : decode cX12_taken 58 = .ok (.iconst 4, 1) := by decide +kernel
theorem dX12_taken_59 : decode cX12_taken 59 = .ok (.if_icmp .eq 8, 3) := by decide +kernel
theorem dX12_taken_62 : decode cX12_taken 62 = .ok (.iload_n 3, 1) := by decide +kernel
theorem dX12_taken_63 : decode cX12_taken 63 = .ok (.iconst 5, 1) := by decide +kernel
theorem dX12_taken_64 : decode cX12_taken 64 = .ok (.if_icmp .ne 7, 3) := by decide +kernel
theorem dX12_taken_67 : decode cX12_taken 67 = .ok (.iconst 1, 1) := by decide +kernel
theorem dX12_taken_68 : decode cX12_taken 68 = .ok (.goto 4, 3) := by decide +kernel
theorem dX12_taken_71 : decode cX12_taken 71 = .ok (.iconst 0, 1) := by decide +kernel
theorem dX12_taken_72 : decode cX12_taken 72 = .ok (.istore 4, 2) := by decide +kernel
theorem dX12_taken_74 : decode cX12_taken 74 = .ok (.iload 4, 2) := by decide +kernel
theorem dX12_taken_76 : decode cX12_taken 76 = .ok (.ifCond .eq 12, 3) := by decide +kernel
theorem dX12_taken_79 : decode cX12_taken 79 = .ok (.aload_n 0, 1) := by decide +kernel
theorem dX12_taken_80 : decode cX12_taken 80 = .ok (.getfield 160, 3) := by decide +kernel
theorem dX12_taken_83 : decode cX12_taken 83 = .ok (.iload_n 1, 1) := by decide +kernel
theorem dX12_taken_84 : decode cX12_taken 84 = .ok (.iaload, 1) := by decide +kernel
theorem dX12_taken_85 : decode cX12_taken 85 = .ok (.goto 5, 3) := by decide +kernel
theorem dX12_taken_88 : decode cX12_taken 88 = .ok (.bipush (-13), 2) := by decide +kernel
theorem dX12_taken_90 : decode cX12_taken 90 = .ok (.ireturn, 1) := by decide +kernel
