theorem dX9_writesDown_126 : decode cX9_writesDown 126 = .ok (.iload_n 2, 1) := by decide +kernel
theorem dX9_writesDown_127 : decode cX9_writesDown 127 = .ok (.iadd, 1) := by decide +kernel
theorem dX9_writesDown_128 : decode cX9_writesDown 128 = .ok (.aload_n 0, 1) := by decide +kernel
theorem dX9_writesDown_129 : decode cX9_writesDown 129 = .ok (.getfield 28, 3) := by decide +kernel
theorem dX9_writesDown_132 : decode cX9_writesDown 132 = .ok (.iload_n 2, 1) := by decide +kernel
theorem dX9_writesDown_133 : decode cX9_writesDown 133 = .ok (.iaload, 1) := by decide +kernel
theorem dX9_writesDown_134 : decode cX9_writesDown 134 = .ok (.iastore, 1) := by decide +kernel
theorem dX9_writesDown_135 : decode cX9_writesDown 135 = .ok (.iinc 2 1, 3) := by decide +kernel
theorem dX9_writesDown_138 : decode cX9_writesDown 138 = .ok (.goto (-24), 3) := by decide +kernel
theorem dX9_writesDown_141 : decode cX9_writesDown 141 = .ok (.aload_n 0, 1) := by decide +kernel
theorem dX9_writesDown_142 : decode cX9_writesDown 142 = .ok (.getfield 64, 3) := by decide +kernel
theorem dX9_writesDown_145 : decode cX9_writesDown 145 = .ok (.bipush 12, 2) := by decide +kernel
theorem dX9_writesDown_147 : decode cX9_writesDown 147 = .ok (.aload_n 0, 1) := by decide +kernel
theorem dX9_writesDown_148 : decode cX9_writesDown 148 = .ok (.getfield 92, 3) := by decide +kernel
theorem dX9_writesDown_151 : decode cX9_writesDown 151 = .ok (.iastore, 1) := by decide +kernel
theorem dX9_writesDown_152 : decode cX9_writesDown 152 = .ok (.return_, 1) := by decide +kernel
theorem dX9_copies_0 : decode cX9_copies 0 = .ok (.iconst 0, 1) := by decide +kernel
theorem dX9_copies_1 : decode cX9_copies 1 = .ok (.istore_n 3, 1) := by decide +kernel
theorem dX9_copies_2 : decode cX9_copies 2 = .ok (.iload_n 3, 1) := by decide +kernel
theorem dX9_copies_3 : decode cX9_copies 3 = .ok (.sipush 3600, 3) := by decide +kernel
theorem dX9_copies_6 : decode cX9_copies 6 = .ok (.if_icmp .ge 33, 3) := by decide +kernel
theorem dX9_copies_9 : decode cX9_copies 9 = .ok (.aload_n 0, 1) := by decide +kernel
theorem dX9_copies_10 : decode cX9_copies 10 = .ok (.getfield 68, 3) := by decide +kernel
theorem dX9_copies_13 : decode cX9_copies 13 = .ok (.sipush 3600, 3) := by decide +kernel
theorem dX9_copies_16 : decode cX9_copies 16 = .ok (.iload_n 2, 1) := by decide +kernel
theorem dX9_copies_17 : decode cX9_copies 17 = .ok (.imul, 1) := by decide +kernel
theorem dX9_copies_18 : decode cX9_copies 18 = .ok (.iload_n 3, 1) := by decide +kernel
theorem dX9_copies_19 : decode cX9_copies 19 = .ok (.iadd, 1) := by decide +kernel
theorem dX9_copies_20 : decode cX9_copies 20 = .ok (.aload_n 0, 1) := by decide +kernel
theorem dX9_copies_21 : decode cX9_copies 21 = .ok (.getfield 68, 3) := by decide +kernel
theorem dX9_copies_24 : decode cX9_copies 24 = .ok (.sipush 3600, 3) := by decide +kernel
theorem dX9_copies_27 : decode cX9_copies 27 = .ok (.iload_n 1, 1) := by decide +kernel
theorem dX9_copies_28 : decode cX9_copies 28 = .ok (.imul, 1) := by decide +kernel
theorem dX9_copies_29 : decode cX9_copies 29 = .ok (.iload_n 3, 1) := by decide +kernel
theorem dX9_copies_30 : decode cX9_copies 30 = .ok (.iadd, 1) := by decide +kernel
theorem dX9_copies_31 : decode cX9_copies 31 = .ok (.iaload, 1) := by decide +kernel
theorem dX9_copies_32 : decode cX9_copies 32 = .ok (.iastore, 1) := by decide +kernel
theorem dX9_copies_33 : decode cX9_copies 33 = .ok (.iinc 3 1, 3) := by decide +kernel
theorem dX9_copies_36 : decode cX9_copies 36 = .ok (.goto (-34), 3) := by decide +kernel
theorem dX9_copies_39 : decode cX9_copies 39 = .ok (.iconst 0, 1) := by decide +kernel
theorem dX9_copies_40 : decode cX9_copies 40 = .ok (.istore_n 3, 1) := by decide +kernel
theorem dX9_copies_41 : decode cX9_copies 41 = .ok (.iload_n 3, 1) := by decide +kernel
theorem dX9_copies_42 : decode cX9_copies 42 = .ok (.bipush 10, 2) := by decide +kernel
theorem dX9_copies_44 : decode cX9_copies 44 = .ok (.if_icmp .ge 31, 3) := by decide +kernel
theorem dX9_copies_47 : decode cX9_copies 47 = .ok (.aload_n 0, 1) := by decide +kernel
theorem dX9_copies_48 : decode cX9_copies 48 = .ok (.getfield 71, 3) := by decide +kernel
theorem dX9_copies_51 : decode cX9_copies 51 = .ok (.bipush 10, 2) := by decide +kernel
theorem dX9_copies_53 : decode cX9_copies 53 = .ok (.iload_n 2, 1) := by decide +kernel
theorem dX9_copies_54 : decode cX9_copies 54 = .ok (.imul, 1) := by decide +kernel
theorem dX9_copies_55 : decode cX9_copies 55 = .ok (.iload_n 3, 1) := by decide +kernel
theorem dX9_copies_56 : decode cX9_copies 56 = .ok (.iadd, 1) := by decide +kernel
theorem dX9_copies_57 : decode cX9_copies 57 = .ok (.aload_n 0, 1) := by decide +kernel
theorem dX9_copies_58 : decode cX9_copies 58 = .ok (.getfield 71, 3) := by decide +kernel
theorem dX9_copies_61 : decode cX9_copies 61 = .ok (.bipush 10, 2) := by decide +kernel
theorem dX9_copies_63 : decode cX9_copies 63 = .ok (.iload_n 1, 1) := by decide +kernel
theorem dX9_copies_64 : decode cX9_copies 64 = .ok (.imul, 1) := by decide +kernel
theorem dX9_copies_65 : decode cX9_copies 65 = .ok (.iload_n 3, 1) := by decide +kernel
theorem dX9_copies_66 : decode cX9_copies 66 = .ok (.iadd, 1) := by decide +kernel
theorem dX9_copies_67 : decode cX9_copies 67 = .ok (.iaload, 1) := by decide +kernel
theorem dX9_copies_68 : decode cX9_copies 68 = .ok (.iastore, 1) := by decide +kernel
theorem dX9_copies_69 : decode cX9_copies 69 = .ok (.iinc 3 1, 3) := by decide +kernel
theorem dX9_copies_72 : decode cX9_copies 72 = .ok (.goto (-31), 3) := by decide +kernel
theorem dX9_copies_75 : decode cX9_copies 75 = .ok (.aload_n 0, 1) := by decide +kernel
theorem dX9_copies_76 : decode cX9_copies 76 = .ok (.getfield 64, 3) := by decide +kernel
theorem dX9_copies_79 : decode cX9_copies 79 = .ok (.iload_n 2, 1) := by decide +kernel
theorem dX9_copies_80 : decode cX9_copies 80 = .ok (.aload_n 0, 1) := by decide +kernel
theorem dX9_copies_81 : decode cX9_copies 81 = .ok (.getfield 64, 3) := by decide +kernel
theorem dX9_copies_84 : decode cX9_copies 84 = .ok (.iload_n 1, 1) := by decide +kernel
theorem dX9_copies_85 : decode cX9_copies 85 = .ok (.iaload, 1) := by decide +kernel
theorem dX9_copies_86 : decode cX9_copies 86 = .ok (.iastore, 1) := by decide +kernel
theorem dX9_copies_87 : decode cX9_copies 87 = .ok (.return_, 1) := by decide +kernel
theorem dX9_back_0 : decode cX9_back 0 = .ok (.sipush 3600, 3) := by decide +kernel
theorem dX9_back_3 : decode cX9_back 3 = .ok (.iload_n 1, 1) := by decide +kernel
theorem dX9_back_4 : decode cX9_back 4 = .ok (.imul, 1) := by decide +kernel
theorem dX9_back_5 : decode cX9_back 5 = .ok (.istore_n 2, 1) := by decide +kernel
theorem dX9_back_6 : decode cX9_back 6 = .ok (.iconst 0, 1) := by decide +kernel
theorem dX9_back_7 : decode cX9_back 7 = .ok (.istore_n 3, 1) := by decide +kernel
theorem dX9_back_8 : decode cX9_back 8 = .ok (.iload_n 3, 1) := by decide +kernel
theorem dX9_back_9 : decode cX9_back 9 = .ok (.aload_n 0, 1) := by decide +kernel
theorem dX9_back_10 : decode cX9_back 10 = .ok (.getfield 92, 3) := by decide +kernel
theorem dX9_back_13 : decode cX9_back 13 = .ok (.if_icmp .ge 161, 3) := by decide +kernel
theorem dX9_back_16 : decode cX9_back 16 = .ok (.iload_n 3, 1) := by decide +kernel
theorem dX9_back_17 : decode cX9_back 17 = .ok (.aload_n 0, 1) := by decide +kernel
theorem dX9_back_18 : decode cX9_back 18 = .ok (.getfield 64, 3) := by decide +kernel
theorem dX9_back_21 : decode cX9_back 21 = .ok (.iload_n 1, 1) := by decide +kernel
theorem dX9_back_22 : decode cX9_back 22 = .ok (.iaload, 1) := by decide +kernel
theorem dX9_back_23 : decode cX9_back 23 = .ok (.if_icmp .ge 7, 3) := by decide +kernel
theorem dX9_back_26 : decode cX9_back 26 = .ok (.iconst 1, 1) := by decide +kernel
theorem dX9_back_27 : decode cX9_back 27 = .ok (.goto 4, 3) := by decide +kernel
theorem dX9_back_30 : decode cX9_back 30 = .ok (.iconst 0, 1) := by decide +kernel
theorem dX9_back_31 : decode cX9_back 31 = .ok (.istore 4, 2) := by decide +kernel
theorem dX9_back_33 : decode cX9_back 33 = .ok (.aload_n 0, 1) := by decide +kernel
theorem dX9_back_34 : decode cX9_back 34 = .ok (.getfield 7, 3) := by decide +kernel
theorem dX9_back_37 : decode cX9_back 37 = .ok (.iload_n 3, 1) := by decide +kernel
theorem dX9_back_38 : decode cX9_back 38 = .ok (.iload 4, 2) := by decide +kernel
theorem dX9_back_40 : decode cX9_back 40 = .ok (.ifCond .eq 17, 3) := by decide +kernel
theorem dX9_back_43 : decode cX9_back 43 = .ok (.aload_n 0, 1) := by decide +kernel
theorem dX9_back_44 : decode cX9_back 44 = .ok (.getfield 68, 3) := by decide +kernel
theorem dX9_back_47 : decode cX9_back 47 = .ok (.iload_n 2, 1) := by decide +kernel
theorem dX9_back_48 : decode cX9_back 48 = .ok (.bipush 6, 2) := by decide +kernel
theorem dX9_back_50 : decode cX9_back 50 = .ok (.iload_n 3, 1) := by decide +kernel
theorem dX9_back_51 : decode cX9_back 51 = .ok (.imul, 1) := by decide +kernel
theorem dX9_back_52 : decode cX9_back 52 = .ok (.iadd, 1) := by decide +kernel
theorem dX9_back_53 : decode cX9_back 53 = .ok (.iaload, 1) := by decide +kernel
theorem dX9_back_54 : decode cX9_back 54 = .ok (.goto 4, 3) := by decide +kernel
theorem dX9_back_57 : decode cX9_back 57 = .ok (.iconst (-1), 1) := by decide +kernel
theorem dX9_back_58 : decode cX9_back 58 = .ok (.iastore, 1) := by decide +kernel
theorem dX9_back_59 : decode cX9_back 59 = .ok (.aload_n 0, 1) := by decide +kernel
theorem dX9_back_60 : decode cX9_back 60 = .ok (.getfield 13, 3) := by decide +kernel
theorem dX9_back_63 : decode cX9_back 63 = .ok (.iload_n 3, 1) := by decide +kernel
theorem dX9_back_64 : decode cX9_back 64 = .ok (.iload 4, 2) := by decide +kernel
theorem dX9_back_66 : decode cX9_back 66 = .ok (.ifCond .eq 19, 3) := by decide +kernel
theorem dX9_back_69 : decode cX9_back 69 = .ok (.aload_n 0, 1) := by decide +kernel
theorem dX9_back_70 : decode cX9_back 70 = .ok (.getfield 68, 3) := by decide +kernel
theorem dX9_back_73 : decode cX9_back 73 = .ok (.iload_n 2, 1) := by decide +kernel
theorem dX9_back_74 : decode cX9_back 74 = .ok (.bipush 6, 2) := by decide +kernel
theorem dX9_back_76 : decode cX9_back 76 = .ok (.iload_n 3, 1) := by decide +kernel
theorem dX9_back_77 : decode cX9_back 77 = .ok (.imul, 1) := by decide +kernel
theorem dX9_back_78 : decode cX9_back 78 = .ok (.iadd, 1) := by decide +kernel
theorem dX9_back_79 : decode cX9_back 79 = .ok (.iconst 1, 1) := by decide +kernel
theorem dX9_back_80 : decode cX9_back 80 = .ok (.iadd, 1) := by decide +kernel
theorem dX9_back_81 : decode cX9_back 81 = .ok (.iaload, 1) := by decide +kernel
theorem dX9_back_82 : decode cX9_back 82 = .ok (.goto 4, 3) := by decide +kernel
theorem dX9_back_85 : decode cX9_back 85 = .ok (.iconst 0, 1) := by decide +kernel
theorem dX9_back_86 : decode cX9_back 86 = .ok (.iastore, 1) := by decide +kernel
theorem dX9_back_87 : decode cX9_back 87 = .ok (.aload_n 0, 1) := by decide +kernel
theorem dX9_back_88 : decode cX9_back 88 = .ok (.getfield 19, 3) := by decide +kernel
theorem dX9_back_91 : decode cX9_back 91 = .ok (.iload_n 3, 1) := by decide +kernel
theorem dX9_back_92 : decode cX9_back 92 = .ok (.iload 4, 2) := by decide +kernel
theorem dX9_back_94 : decode cX9_back 94 = .ok (.ifCond .eq 19, 3) := by decide +kernel
theorem dX9_back_97 : decode cX9_back 97 = .ok (.aload_n 0, 1) := by decide +kernel
theorem dX9_back_98 : decode cX9_back 98 = .ok (.getfield 68, 3) := by decide +kernel
theorem dX9_back_101 : decode cX9_back 101 = .ok (.iload_n 2, 1) := by decide +kernel
theorem dX9_back_102 : decode cX9_back 102 = .ok (.bipush 6, 2) := by decide +kernel
theorem dX9_back_104 : decode cX9_back 104 = .ok (.iload_n 3, 1) := by decide +kernel
theorem dX9_back_105 : decode cX9_back 105 = .ok (.imul, 1) := by decide +kernel
theorem dX9_back_106 : decode cX9_back 106 = .ok (.iadd, 1) := by decide +kernel
theorem dX9_back_107 : decode cX9_back 107 = .ok (.iconst 2, 1) := by decide +kernel
theorem dX9_back_108 : decode cX9_back 108 = .ok (.iadd, 1) := by decide +kernel
theorem dX9_back_109 : decode cX9_back 109 = .ok (.iaload, 1) := by decide +kernel
theorem dX9_back_110 : decode cX9_back 110 = .ok (.goto 5, 3) := by decide +kernel
theorem dX9_back_113 : decode cX9_back 113 = .ok (.bipush (-4), 2) := by decide +kernel
theorem dX9_back_115 : decode cX9_back 115 = .ok (.iastore, 1) := by decide +kernel
theorem dX9_back_116 : decode cX9_back 116 = .ok (.iconst 0, 1) := by decide +kernel
theorem dX9_back_117 : decode cX9_back 117 = .ok (.istore 5, 2) := by decide +kernel
theorem dX9_back_119 : decode cX9_back 119 = .ok (.iload 5, 2) := by decide +kernel
theorem dX9_back_121 : decode cX9_back 121 = .ok (.iconst 3, 1) := by decide +kernel
theorem dX9_back_122 : decode cX9_back 122 = .ok (.if_icmp .ge 46, 3) := by decide +kernel
theorem dX9_back_125 : decode cX9_back 125 = .ok (.aload_n 0, 1) := by decide +kernel
theorem dX9_back_126 : decode cX9_back 126 = .ok (.getfield 16, 3) := by decide +kernel
theorem dX9_back_129 : decode cX9_back 129 = .ok (.iconst 3, 1) := by decide +kernel
theorem dX9_back_130 : decode cX9_back 130 = .ok (.iload_n 3, 1) := by decide +kernel
theorem dX9_back_131 : decode cX9_back 131 = .ok (.imul, 1) := by decide +kernel
theorem dX9_back_132 : decode cX9_back 132 = .ok (.iload 5, 2) := by decide +kernel
theorem dX9_back_134 : decode cX9_back 134 = .ok (.iadd, 1) := by decide +kernel
theorem dX9_back_135 : decode cX9_back 135 = .ok (.iload 4, 2) := by decide +kernel
theorem dX9_back_137 : decode cX9_back 137 = .ok (.ifCond .eq 22, 3) := by decide +kernel
theorem dX9_back_140 : decode cX9_back 140 = .ok (.aload_n 0, 1) := by decide +kernel
theorem dX9_back_141 : decode cX9_back 141 = .ok (.getfield 68, 3) := by decide +kernel
theorem dX9_back_144 : decode cX9_back 144 = .ok (.iload_n 2, 1) := by decide +kernel
theorem dX9_back_145 : decode cX9_back 145 = .ok (.bipush 6, 2) := by decide +kernel
theorem dX9_back_147 : decode cX9_back 147 = .ok (.iload_n 3, 1) := by decide +kernel
theorem dX9_back_148 : decode cX9_back 148 = .ok (.imul, 1) := by decide +kernel
theorem dX9_back_149 : decode cX9_back 149 = .ok (.iadd, 1) := by decide +kernel
theorem dX9_back_150 : decode cX9_back 150 = .ok (.iconst 3, 1) := by decide +kernel
theorem dX9_back_151 : decode cX9_back 151 = .ok (.iadd, 1) := by decide +kernel
theorem dX9_back_152 : decode cX9_back 152 = .ok (.iload 5, 2) := by decide +kernel
theorem dX9_back_154 : decode cX9_back 154 = .ok (.iadd, 1) := by decide +kernel
theorem dX9_back_155 : decode cX9_back 155 = .ok (.iaload, 1) := by decide +kernel
theorem dX9_back_156 : decode cX9_back 156 = .ok (.goto 5, 3) := by decide +kernel
theorem dX9_back_159 : decode cX9_back 159 = .ok (.bipush (-4), 2) := by decide +kernel
theorem dX9_back_161 : decode cX9_back 161 = .ok (.iastore, 1) := by decide +kernel
theorem dX9_back_162 : decode cX9_back 162 = .ok (.iinc 5 1, 3) := by decide +kernel
theorem dX9_back_165 : decode cX9_back 165 = .ok (.goto (-46), 3) := by decide +kernel
theorem dX9_back_168 : decode cX9_back 168 = .ok (.iinc 3 1, 3) := by decide +kernel
theorem dX9_back_171 : decode cX9_back 171 = .ok (.goto (-163), 3) := by decide +kernel
theorem dX9_back_174 : decode cX9_back 174 = .ok (.iconst 0, 1) := by decide +kernel
theorem dX9_back_175 : decode cX9_back 175 = .ok (.istore_n 3, 1) := by decide +kernel
theorem dX9_back_176 : decode cX9_back 176 = .ok (.iload_n 3, 1) := by decide +kernel
theorem dX9_back_177 : decode cX9_back 177 = .ok (.bipush 10, 2) := by decide +kernel
theorem dX9_back_179 : decode cX9_back 179 = .ok (.if_icmp .ge 26, 3) := by decide +kernel
theorem dX9_back_182 : decode cX9_back 182 = .ok (.aload_n 0, 1) := by decide +kernel
theorem dX9_back_183 : decode cX9_back 183 = .ok (.getfield 28, 3) := by decide +kernel
theorem dX9_back_186 : decode cX9_back 186 = .ok (.iload_n 3, 1) := by decide +kernel
theorem dX9_back_187 : decode cX9_back 187 = .ok (.aload_n 0, 1) := by decide +kernel
theorem dX9_back_188 : decode cX9_back 188 = .ok (.getfield 71, 3) := by decide +kernel
theorem dX9_back_191 : decode cX9_back 191 = .ok (.bipush 10, 2) := by decide +kernel
theorem dX9_back_193 : decode cX9_back 193 = .ok (.iload_n 1, 1) := by decide +kernel
theorem dX9_back_194 : decode cX9_back 194 = .ok (.imul, 1) := by decide +kernel
theorem dX9_back_195 : decode cX9_back 195 = .ok (.iload_n 3, 1) := by decide +kernel
theorem dX9_back_196 : decode cX9_back 196 = .ok (.iadd, 1) := by decide +kernel
theorem dX9_back_197 : decode cX9_back 197 = .ok (.iaload, 1) := by decide +kernel
theorem dX9_back_198 : decode cX9_back 198 = .ok (.iastore, 1) := by decide +kernel
theorem dX9_back_199 : decode cX9_back 199 = .ok (.iinc 3 1, 3) := by decide +kernel
theorem dX9_back_202 : decode cX9_back 202 = .ok (.goto (-26), 3) := by decide +kernel
theorem dX9_back_205 : decode cX9_back 205 = .ok (.return_, 1) := by decide +kernel
theorem dX9_undo_0 : decode cX9_undo 0 = .ok (.aload_n 0, 1) := by decide +kernel
theorem dX9_undo_1 : decode cX9_undo 1 = .ok (.getfield 131, 3) := by decide +kernel
theorem dX9_undo_4 : decode cX9_undo 4 = .ok (.ifCond .ne 6, 3) := by decide +kernel
theorem dX9_undo_7 : decode cX9_undo 7 = .ok (.bipush (-2), 2) := by decide +kernel
theorem dX9_undo_9 : decode cX9_undo 9 = .ok (.ireturn, 1) := by decide +kernel
theorem dX9_undo_10 : decode cX9_undo 10 = .ok (.aload_n 0, 1) := by decide +kernel
theorem dX9_undo_11 : decode cX9_undo 11 = .ok (.dup, 1) := by decide +kernel
theorem dX9_undo_12 : decode cX9_undo 12 = .ok (.getfield 131, 3) := by decide +kernel
theorem dX9_undo_15 : decode cX9_undo 15 = .ok (.iconst 1, 1) := by decide +kernel
theorem dX9_undo_16 : decode cX9_undo 16 = .ok (.isub, 1) := by decide +kernel
theorem dX9_undo_17 : decode cX9_undo 17 = .ok (.putfield 131, 3) := by decide +kernel
theorem dX9_undo_20 : decode cX9_undo 20 = .ok (.aload_n 0, 1) := by decide +kernel
theorem dX9_undo_21 : decode cX9_undo 21 = .ok (.aload_n 0, 1) := by decide +kernel
theorem dX9_undo_22 : decode cX9_undo 22 = .ok (.getfield 131, 3) := by decide +kernel
theorem dX9_undo_25 : decode cX9_undo 25 = .ok (.invokevirtual 254, 3) := by decide +kernel
theorem dX9_undo_28 : decode cX9_undo 28 = .ok (.iconst 1, 1) := by decide +kernel
theorem dX9_undo_29 : decode cX9_undo 29 = .ok (.ireturn, 1) := by decide +kernel
theorem dX9_isCall_0 : decode cX9_isCall 0 = .ok (.aload_n 0, 1) := by decide +kernel
theorem dX9_isCall_1 : decode cX9_isCall 1 = .ok (.iload_n 1, 1) := by decide +kernel
theorem dX9_isCall_2 : decode cX9_isCall 2 = .ok (.invokevirtual 110, 3) := by decide +kernel
theorem dX9_isCall_5 : decode cX9_isCall 5 = .ok (.ifCond .eq 28, 3) := by decide +kernel
theorem dX9_isCall_8 : decode cX9_isCall 8 = .ok (.aload_n 0, 1) := by decide +kernel
theorem dX9_isCall_9 : decode cX9_isCall 9 = .ok (.getfield 7, 3) := by decide +kernel
theorem dX9_isCall_12 : decode cX9_isCall 12 = .ok (.iload_n 1, 1) := by decide +kernel
theorem dX9_isCall_13 : decode cX9_isCall 13 = .ok (.iaload, 1) := by decide +kernel
theorem dX9_isCall_14 : decode cX9_isCall 14 = .ok (.bipush 6, 2) := by decide +kernel
theorem dX9_isCall_16 : decode cX9_isCall 16 = .ok (.if_icmp .ne 17, 3) := by decide +kernel
theorem dX9_isCall_19 : decode cX9_isCall 19 = .ok (.aload_n 0, 1) := by decide +kernel
theorem dX9_isCall_20 : decode cX9_isCall 20 = .ok (.iload_n 1, 1) := by decide +kernel
theorem dX9_isCall_21 : decode cX9_isCall 21 = .ok (.invokevirtual 159, 3) := by decide +kernel
theorem dX9_isCall_24 : decode cX9_isCall 24 = .ok (.bipush (-4), 2) := by decide +kernel
theorem dX9_isCall_26 : decode cX9_isCall 26 = .ok (.if_icmp .eq 7, 3) := by decide +kernel
theorem dX9_isCall_29 : decode cX9_isCall 29 = .ok (.iconst 1, 1) := by decide +kernel
theorem dX9_isCall_30 : decode cX9_isCall 30 = .ok (.goto 4, 3) := by decide +kernel
theorem dX9_isCall_33 : decode cX9_isCall 33 = .ok (.iconst 0, 1) := by decide +kernel
theorem dX9_isCall_34 : decode cX9_isCall 34 = .ok (.ireturn, 1) := by decide +kernel
theorem dX9_weightOf_0 : decode cX9_weightOf 0 = .ok (.aload_n 0, 1) := by decide +kernel
theorem dX9_weightOf_1 : decode cX9_weightOf 1 = .ok (.getfield 13, 3) := by decide +kernel
theorem dX9_weightOf_4 : decode cX9_weightOf 4 = .ok (.iload_n 1, 1) := by decide +kernel
theorem dX9_weightOf_5 : decode cX9_weightOf 5 = .ok (.iaload, 1) := by decide +kernel
theorem dX9_weightOf_6 : decode cX9_weightOf 6 = .ok (.istore_n 2, 1) := by decide +kernel
theorem dX9_weightOf_7 : decode cX9_weightOf 7 = .ok (.aload_n 0, 1) := by decide +kernel
theorem dX9_weightOf_8 : decode cX9_weightOf 8 = .ok (.iload_n 2, 1) := by decide +kernel
theorem dX9_weightOf_9 : decode cX9_weightOf 9 = .ok (.invokevirtual 153, 3) := by decide +kernel
theorem dX9_weightOf_12 : decode cX9_weightOf 12 = .ok (.istore_n 3, 1) := by decide +kernel
theorem dX9_weightOf_13 : decode cX9_weightOf 13 = .ok (.iconst 2, 1) := by decide +kernel
theorem dX9_weightOf_14 : decode cX9_weightOf 14 = .ok (.aload_n 0, 1) := by decide +kernel
theorem dX9_weightOf_15 : decode cX9_weightOf 15 = .ok (.getfield 25, 3) := by decide +kernel
theorem dX9_weightOf_18 : decode cX9_weightOf 18 = .ok (.iload_n 2, 1) := by decide +kernel
theorem dX9_weightOf_19 : decode cX9_weightOf 19 = .ok (.iaload, 1) := by decide +kernel
theorem dX9_weightOf_20 : decode cX9_weightOf 20 = .ok (.imul, 1) := by decide +kernel
theorem dX9_weightOf_21 : decode cX9_weightOf 21 = .ok (.iconst 3, 1) := by decide +kernel
theorem dX9_weightOf_22 : decode cX9_weightOf 22 = .ok (.iload_n 3, 1) := by decide +kernel
theorem dX9_weightOf_23 : decode cX9_weightOf 23 = .ok (.aload_n 0, 1) := by decide +kernel
theorem dX9_weightOf_24 : decode cX9_weightOf 24 = .ok (.getfield 25, 3) := by decide +kernel
theorem dX9_weightOf_27 : decode cX9_weightOf 27 = .ok (.iload_n 2, 1) := by decide +kernel
theorem dX9_weightOf_28 : decode cX9_weightOf 28 = .ok (.iaload, 1) := by decide +kernel
theorem dX9_weightOf_29 : decode cX9_weightOf 29 = .ok (.isub, 1) := by decide +kernel
theorem dX9_weightOf_30 : decode cX9_weightOf 30 = .ok (.imul, 1) := by decide +kernel
theorem dX9_weightOf_31 : decode cX9_weightOf 31 = .ok (.iadd, 1) := by decide +kernel
theorem dX9_weightOf_32 : decode cX9_weightOf 32 = .ok (.aload_n 0, 1) := by decide +kernel
theorem dX9_weightOf_33 : decode cX9_weightOf 33 = .ok (.aload_n 0, 1) := by decide +kernel
theorem dX9_weightOf_34 : decode cX9_weightOf 34 = .ok (.getfield 28, 3) := by decide +kernel
theorem dX9_weightOf_37 : decode cX9_weightOf 37 = .ok (.iload_n 2, 1) := by decide +kernel
theorem dX9_weightOf_38 : decode cX9_weightOf 38 = .ok (.iaload, 1) := by decide +kernel
theorem dX9_weightOf_39 : decode cX9_weightOf 39 = .ok (.invokevirtual 100, 3) := by decide +kernel
theorem dX9_weightOf_42 : decode cX9_weightOf 42 = .ok (.iadd, 1) := by decide +kernel
theorem dX9_weightOf_43 : decode cX9_weightOf 43 = .ok (.ireturn, 1) := by decide +kernel
theorem dX9_puts_0 : decode cX9_puts 0 = .ok (.aload_n 0, 1) := by decide +kernel
theorem dX9_puts_1 : decode cX9_puts 1 = .ok (.iload_n 1, 1) := by decide +kernel
theorem dX9_puts_2 : decode cX9_puts 2 = .ok (.invokevirtual 114, 3) := by decide +kernel
theorem dX9_puts_5 : decode cX9_puts 5 = .ok (.istore_n 3, 1) := by decide +kernel
theorem dX9_puts_6 : decode cX9_puts 6 = .ok (.aload_n 0, 1) := by decide +kernel
theorem dX9_puts_7 : decode cX9_puts 7 = .ok (.getfield 19, 3) := by decide +kernel
theorem dX9_puts_10 : decode cX9_puts 10 = .ok (.iload_n 1, 1) := by decide +kernel
theorem dX9_puts_11 : decode cX9_puts 11 = .ok (.iaload, 1) := by decide +kernel
theorem dX9_puts_12 : decode cX9_puts 12 = .ok (.istore 4, 2) := by decide +kernel
theorem dX9_puts_14 : decode cX9_puts 14 = .ok (.iload_n 3, 1) := by decide +kernel
theorem dX9_puts_15 : decode cX9_puts 15 = .ok (.bipush (-4), 2) := by decide +kernel
theorem dX9_puts_17 : decode cX9_puts 17 = .ok (.if_icmp .eq 10, 3) := by decide +kernel
theorem dX9_puts_20 : decode cX9_puts 20 = .ok (.aload_n 0, 1) := by decide +kernel
theorem dX9_puts_21 : decode cX9_puts 21 = .ok (.getfield 28, 3) := by decide +kernel
theorem dX9_puts_24 : decode cX9_puts 24 = .ok (.iload_n 3, 1) := by decide +kernel
theorem dX9_puts_25 : decode cX9_puts 25 = .ok (.iload_n 2, 1) := by decide +kernel
theorem dX9_puts_26 : decode cX9_puts 26 = .ok (.iastore, 1) := by decide +kernel
theorem dX9_puts_27 : decode cX9_puts 27 = .ok (.aload_n 0, 1) := by decide +kernel
theorem dX9_puts_28 : decode cX9_puts 28 = .ok (.getfield 19, 3) := by decide +kernel
theorem dX9_puts_31 : decode cX9_puts 31 = .ok (.iload_n 2, 1) := by decide +kernel
theorem dX9_puts_32 : decode cX9_puts 32 = .ok (.iload 4, 2) := by decide +kernel
theorem dX9_puts_34 : decode cX9_puts 34 = .ok (.iastore, 1) := by decide +kernel
theorem dX9_puts_35 : decode cX9_puts 35 = .ok (.iconst 0, 1) := by decide +kernel
theorem dX9_puts_36 : decode cX9_puts 36 = .ok (.istore 5, 2) := by decide +kernel
theorem dX9_puts_38 : decode cX9_puts 38 = .ok (.iload 5, 2) := by decide +kernel
theorem dX9_puts_40 : decode cX9_puts 40 = .ok (.iconst 3, 1) := by decide +kernel
theorem dX9_puts_41 : decode cX9_puts 41 = .ok (.if_icmp .ge 60, 3) := by decide +kernel
theorem dX9_puts_44 : decode cX9_puts 44 = .ok (.iload 4, 2) := by decide +kernel
theorem dX9_puts_46 : decode cX9_puts 46 = .ok (.bipush (-4), 2) := by decide +kernel
theorem dX9_puts_48 : decode cX9_puts 48 = .ok (.if_icmp .eq 53, 3) := by decide +kernel
theorem dX9_puts_51 : decode cX9_puts 51 = .ok (.aload_n 0, 1) := by decide +kernel
theorem dX9_puts_52 : decode cX9_puts 52 = .ok (.getfield 16, 3) := by decide +kernel
theorem dX9_puts_55 : decode cX9_puts 55 = .ok (.iconst 3, 1) := by decide +kernel
theorem dX9_puts_56 : decode cX9_puts 56 = .ok (.iload 4, 2) := by decide +kernel
theorem dX9_puts_58 : decode cX9_puts 58 = .ok (.imul, 1) := by decide +kernel
theorem dX9_puts_59 : decode cX9_puts 59 = .ok (.iload 5, 2) := by decide +kernel
theorem dX9_puts_61 : decode cX9_puts 61 = .ok (.iadd, 1) := by decide +kernel
theorem dX9_puts_62 : decode cX9_puts 62 = .ok (.aload_n 0, 1) := by decide +kernel
theorem dX9_puts_63 : decode cX9_puts 63 = .ok (.getfield 16, 3) := by decide +kernel
theorem dX9_puts_66 : decode cX9_puts 66 = .ok (.iconst 3, 1) := by decide +kernel
theorem dX9_puts_67 : decode cX9_puts 67 = .ok (.iload 4, 2) := by decide +kernel
theorem dX9_puts_69 : decode cX9_puts 69 = .ok (.imul, 1) := by decide +kernel
theorem dX9_puts_70 : decode cX9_puts 70 = .ok (.iload 5, 2) := by decide +kernel
theorem dX9_puts_72 : decode cX9_puts 72 = .ok (.iadd, 1) := by decide +kernel
theorem dX9_puts_73 : decode cX9_puts 73 = .ok (.iaload, 1) := by decide +kernel
theorem dX9_puts_74 : decode cX9_puts 74 = .ok (.iload_n 1, 1) := by decide +kernel
theorem dX9_puts_75 : decode cX9_puts 75 = .ok (.if_icmp .ne 7, 3) := by decide +kernel
theorem dX9_puts_78 : decode cX9_puts 78 = .ok (.iload_n 2, 1) := by decide +kernel
theorem dX9_puts_79 : decode cX9_puts 79 = .ok (.goto 15, 3) := by decide +kernel
theorem dX9_puts_82 : decode cX9_puts 82 = .ok (.aload_n 0, 1) := by decide +kernel
theorem dX9_puts_83 : decode cX9_puts 83 = .ok (.getfield 16, 3) := by decide +kernel
theorem dX9_puts_86 : decode cX9_puts 86 = .ok (.iconst 3, 1) := by decide +kernel
theorem dX9_puts_87 : decode cX9_puts 87 = .ok (.iload 4, 2) := by decide +kernel
theorem dX9_puts_89 : decode cX9_puts 89 = .ok (.imul, 1) := by decide +kernel
theorem dX9_puts_90 : decode cX9_puts 90 = .ok (.iload 5, 2) := by decide +kernel
theorem dX9_puts_92 : decode cX9_puts 92 = .ok (.iadd, 1) := by decide +kernel
theorem dX9_puts_93 : decode cX9_puts 93 = .ok (.iaload, 1) := by decide +kernel
theorem dX9_puts_94 : decode cX9_puts 94 = .ok (.iastore, 1) := by decide +kernel
theorem dX9_puts_95 : decode cX9_puts 95 = .ok (.iinc 5 1, 3) := by decide +kernel
theorem dX9_puts_98 : decode cX9_puts 98 = .ok (.goto (-60), 3) := by decide +kernel
theorem dX9_puts_101 : decode cX9_puts 101 = .ok (.aload_n 0, 1) := by decide +kernel
theorem dX9_puts_102 : decode cX9_puts 102 = .ok (.getfield 19, 3) := by decide +kernel
theorem dX9_puts_105 : decode cX9_puts 105 = .ok (.iload_n 1, 1) := by decide +kernel
theorem dX9_puts_106 : decode cX9_puts 106 = .ok (.bipush (-4), 2) := by decide +kernel
theorem dX9_puts_108 : decode cX9_puts 108 = .ok (.iastore, 1) := by decide +kernel
theorem dX9_puts_109 : decode cX9_puts 109 = .ok (.return_, 1) := by decide +kernel
theorem dX9_goneAlone_0 : decode cX9_goneAlone 0 = .ok (.aload_n 0, 1) := by decide +kernel
theorem dX9_goneAlone_1 : decode cX9_goneAlone 1 = .ok (.getfield 7, 3) := by decide +kernel
theorem dX9_goneAlone_4 : decode cX9_goneAlone 4 = .ok (.iload_n 1, 1) := by decide +kernel
theorem dX9_goneAlone_5 : decode cX9_goneAlone 5 = .ok (.iconst (-1), 1) := by decide +kernel
theorem dX9_goneAlone_6 : decode cX9_goneAlone 6 = .ok (.iastore, 1) := by decide +kernel
theorem dX9_goneAlone_7 : decode cX9_goneAlone 7 = .ok (.aload_n 0, 1) := by decide +kernel
theorem dX9_goneAlone_8 : decode cX9_goneAlone 8 = .ok (.getfield 13, 3) := by decide +kernel
theorem dX9_goneAlone_11 : decode cX9_goneAlone 11 = .ok (.iload_n 1, 1) := by decide +kernel
theorem dX9_goneAlone_12 : decode cX9_goneAlone 12 = .ok (.iconst 0, 1) := by decide +kernel
theorem dX9_goneAlone_13 : decode cX9_goneAlone 13 = .ok (.iastore, 1) := by decide +kernel
theorem dX9_goneAlone_14 : decode cX9_goneAlone 14 = .ok (.aload_n 0, 1) := by decide +kernel
theorem dX9_goneAlone_15 : decode cX9_goneAlone 15 = .ok (.getfield 19, 3) := by decide +kernel
theorem dX9_goneAlone_18 : decode cX9_goneAlone 18 = .ok (.iload_n 1, 1) := by decide +kernel
theorem dX9_goneAlone_19 : decode cX9_goneAlone 19 = .ok (.bipush (-4), 2) := by decide +kernel
theorem dX9_goneAlone_21 : decode cX9_goneAlone 21 = .ok (.iastore, 1) := by decide +kernel
theorem dX9_goneAlone_22 : decode cX9_goneAlone 22 = .ok (.iconst 0, 1) := by decide +kernel
theorem dX9_goneAlone_23 : decode cX9_goneAlone 23 = .ok (.istore_n 2, 1) := by decide +kernel
theorem dX9_goneAlone_24 : decode cX9_goneAlone 24 = .ok (.iload_n 2, 1) := by decide +kernel
theorem dX9_goneAlone_25 : decode cX9_goneAlone 25 = .ok (.iconst 3, 1) := by decide +kernel
theorem dX9_goneAlone_26 : decode cX9_goneAlone 26 = .ok (.if_icmp .ge 21, 3) := by decide +kernel
theorem dX9_goneAlone_29 : decode cX9_goneAlone 29 = .ok (.aload_n 0, 1) := by decide +kernel
theorem dX9_goneAlone_30 : decode cX9_goneAlone 30 = .ok (.getfield 16, 3) := by decide +kernel
theorem dX9_goneAlone_33 : decode cX9_goneAlone 33 = .ok (.iconst 3, 1) := by decide +kernel
theorem dX9_goneAlone_34 : decode cX9_goneAlone 34 = .ok (.iload_n 1, 1) := by decide +kernel
theorem dX9_goneAlone_35 : decode cX9_goneAlone 35 = .ok (.imul, 1) := by decide +kernel
theorem dX9_goneAlone_36 : decode cX9_goneAlone 36 = .ok (.iload_n 2, 1) := by decide +kernel
theorem dX9_goneAlone_37 : decode cX9_goneAlone 37 = .ok (.iadd, 1) := by decide +kernel
theorem dX9_goneAlone_38 : decode cX9_goneAlone 38 = .ok (.bipush (-4), 2) := by decide +kernel
theorem dX9_goneAlone_40 : decode cX9_goneAlone 40 = .ok (.iastore, 1) := by decide +kernel
theorem dX9_goneAlone_41 : decode cX9_goneAlone 41 = .ok (.iinc 2 1, 3) := by decide +kernel
theorem dX9_goneAlone_44 : decode cX9_goneAlone 44 = .ok (.goto (-20), 3) := by decide +kernel
theorem dX9_goneAlone_47 : decode cX9_goneAlone 47 = .ok (.return_, 1) := by decide +kernel
theorem dX9_highMelted_0 : decode cX9_highMelted 0 = .ok (.iconst 1, 1) := by decide +kernel
theorem dX9_highMelted_1 : decode cX9_highMelted 1 = .ok (.istore_n 2, 1) := by decide +kernel
theorem dX9_highMelted_2 : decode cX9_highMelted 2 = .ok (.iload_n 1, 1) := by decide +kernel
theorem dX9_highMelted_3 : decode cX9_highMelted 3 = .ok (.istore_n 3, 1) := by decide +kernel
theorem dX9_highMelted_4 : decode cX9_highMelted 4 = .ok (.aload_n 0, 1) := by decide +kernel
theorem dX9_highMelted_5 : decode cX9_highMelted 5 = .ok (.getfield 19, 3) := by decide +kernel
theorem dX9_highMelted_8 : decode cX9_highMelted 8 = .ok (.iload_n 3, 1) := by decide +kernel
theorem dX9_highMelted_9 : decode cX9_highMelted 9 = .ok (.iaload, 1) := by decide +kernel
theorem dX9_highMelted_10 : decode cX9_highMelted 10 = .ok (.bipush (-4), 2) := by decide +kernel
theorem dX9_highMelted_12 : decode cX9_highMelted 12 = .ok (.if_icmp .eq 16, 3) := by decide +kernel
theorem dX9_highMelted_15 : decode cX9_highMelted 15 = .ok (.iinc 2 1, 3) := by decide +kernel
theorem dX9_highMelted_18 : decode cX9_highMelted 18 = .ok (.aload_n 0, 1) := by decide +kernel
theorem dX9_highMelted_19 : decode cX9_highMelted 19 = .ok (.getfield 19, 3) := by decide +kernel
theorem dX9_highMelted_22 : decode cX9_highMelted 22 = .ok (.iload_n 3, 1) := by decide +kernel
theorem dX9_highMelted_23 : decode cX9_highMelted 23 = .ok (.iaload, 1) := by decide +kernel
theorem dX9_highMelted_24 : decode cX9_highMelted 24 = .ok (.istore_n 3, 1) := by decide +kernel
theorem dX9_highMelted_25 : decode cX9_highMelted 25 = .ok (.goto (-21), 3) := by decide +kernel
theorem dX9_highMelted_28 : decode cX9_highMelted 28 = .ok (.aload_n 0, 1) := by decide +kernel
theorem dX9_highMelted_29 : decode cX9_highMelted 29 = .ok (.getfield 13, 3) := by decide +kernel
theorem dX9_highMelted_32 : decode cX9_highMelted 32 = .ok (.iload_n 1, 1) := by decide +kernel
theorem dX9_highMelted_33 : decode cX9_highMelted 33 = .ok (.iaload, 1) := by decide +kernel
theorem dX9_highMelted_34 : decode cX9_highMelted 34 = .ok (.istore_n 3, 1) := by decide +kernel
theorem dX9_highMelted_35 : decode cX9_highMelted 35 = .ok (.aload_n 0, 1) := by decide +kernel
theorem dX9_highMelted_36 : decode cX9_highMelted 36 = .ok (.iload_n 3, 1) := by decide +kernel
theorem dX9_highMelted_37 : decode cX9_highMelted 37 = .ok (.invokevirtual 153, 3) := by decide +kernel
theorem dX9_highMelted_40 : decode cX9_highMelted 40 = .ok (.istore 4, 2) := by decide +kernel
theorem dX9_highMelted_42 : decode cX9_highMelted 42 = .ok (.iload_n 2, 1) := by decide +kernel
theorem dX9_highMelted_43 : decode cX9_highMelted 43 = .ok (.iload 4, 2) := by decide +kernel
theorem dX9_highMelted_45 : decode cX9_highMelted 45 = .ok (.iadd, 1) := by decide +kernel
theorem dX9_highMelted_46 : decode cX9_highMelted 46 = .ok (.aload_n 0, 1) := by decide +kernel
theorem dX9_highMelted_47 : decode cX9_highMelted 47 = .ok (.aload_n 0, 1) := by decide +kernel
theorem dX9_highMelted_48 : decode cX9_highMelted 48 = .ok (.getfield 28, 3) := by decide +kernel
theorem dX9_highMelted_51 : decode cX9_highMelted 51 = .ok (.iload_n 3, 1) := by decide +kernel
theorem dX9_highMelted_52 : decode cX9_highMelted 52 = .ok (.iaload, 1) := by decide +kernel
theorem dX9_highMelted_53 : decode cX9_highMelted 53 = .ok (.invokevirtual 120, 3) := by decide +kernel
theorem dX9_highMelted_56 : decode cX9_highMelted 56 = .ok (.iadd, 1) := by decide +kernel
theorem dX9_highMelted_57 : decode cX9_highMelted 57 = .ok (.istore 5, 2) := by decide +kernel
theorem dX9_highMelted_59 : decode cX9_highMelted 59 = .ok (.iconst 0, 1) := by decide +kernel
theorem dX9_highMelted_60 : decode cX9_highMelted 60 = .ok (.istore 6, 2) := by decide +kernel
theorem dX9_highMelted_62 : decode cX9_highMelted 62 = .ok (.iload 6, 2) := by decide +kernel
theorem dX9_highMelted_64 : decode cX9_highMelted 64 = .ok (.iload 4, 2) := by decide +kernel
theorem dX9_highMelted_66 : decode cX9_highMelted 66 = .ok (.if_icmp .ge 71, 3) := by decide +kernel
theorem dX9_highMelted_69 : decode cX9_highMelted 69 = .ok (.iload 6, 2) := by decide +kernel
theorem dX9_highMelted_71 : decode cX9_highMelted 71 = .ok (.aload_n 0, 1) := by decide +kernel
theorem dX9_highMelted_72 : decode cX9_highMelted 72 = .ok (.getfield 25, 3) := by decide +kernel
theorem dX9_highMelted_75 : decode cX9_highMelted 75 = .ok (.iload_n 3, 1) := by decide +kernel
theorem dX9_highMelted_76 : decode cX9_highMelted 76 = .ok (.iaload, 1) := by decide +kernel
theorem dX9_highMelted_77 : decode cX9_highMelted 77 = .ok (.if_icmp .ge 21, 3) := by decide +kernel
theorem dX9_highMelted_80 : decode cX9_highMelted 80 = .ok (.aload_n 0, 1) := by decide +kernel
theorem dX9_highMelted_81 : decode cX9_highMelted 81 = .ok (.aload_n 0, 1) := by decide +kernel
theorem dX9_highMelted_82 : decode cX9_highMelted 82 = .ok (.getfield 16, 3) := by decide +kernel
theorem dX9_highMelted_85 : decode cX9_highMelted 85 = .ok (.iconst 3, 1) := by decide +kernel
theorem dX9_highMelted_86 : decode cX9_highMelted 86 = .ok (.iload_n 1, 1) := by decide +kernel
theorem dX9_highMelted_87 : decode cX9_highMelted 87 = .ok (.imul, 1) := by decide +kernel
theorem dX9_highMelted_88 : decode cX9_highMelted 88 = .ok (.iload 6, 2) := by decide +kernel
theorem dX9_highMelted_90 : decode cX9_highMelted 90 = .ok (.iadd, 1) := by decide +kernel
theorem dX9_highMelted_91 : decode cX9_highMelted 91 = .ok (.iaload, 1) := by decide +kernel
theorem dX9_highMelted_92 : decode cX9_highMelted 92 = .ok (.invokevirtual 120, 3) := by decide +kernel
theorem dX9_highMelted_95 : decode cX9_highMelted 95 = .ok (.goto 4, 3) := by decide +kernel
theorem dX9_highMelted_98 : decode cX9_highMelted 98 = .ok (.iconst 1, 1) := by decide +kernel
theorem dX9_highMelted_99 : decode cX9_highMelted 99 = .ok (.istore 7, 2) := by decide +kernel
theorem dX9_highMelted_101 : decode cX9_highMelted 101 = .ok (.iload_n 2, 1) := by decide +kernel
theorem dX9_highMelted_102 : decode cX9_highMelted 102 = .ok (.iload 6, 2) := by decide +kernel
theorem dX9_highMelted_104 : decode cX9_highMelted 104 = .ok (.iadd, 1) := by decide +kernel
theorem dX9_highMelted_105 : decode cX9_highMelted 105 = .ok (.iconst 1, 1) := by decide +kernel
theorem dX9_highMelted_106 : decode cX9_highMelted 106 = .ok (.iadd, 1) := by decide +kernel
theorem dX9_highMelted_107 : decode cX9_highMelted 107 = .ok (.iload 7, 2) := by decide +kernel
theorem dX9_highMelted_109 : decode cX9_highMelted 109 = .ok (.iadd, 1) := by decide +kernel
theorem dX9_highMelted_110 : decode cX9_highMelted 110 = .ok (.iload 5, 2) := by decide +kernel
theorem dX9_highMelted_112 : decode cX9_highMelted 112 = .ok (.if_icmp .le 15, 3) := by decide +kernel
theorem dX9_highMelted_115 : decode cX9_highMelted 115 = .ok (.iload_n 2, 1) := by decide +kernel
theorem dX9_highMelted_116 : decode cX9_highMelted 116 = .ok (.iload 6, 2) := by decide +kernel
theorem dX9_highMelted_118 : decode cX9_highMelted 118 = .ok (.iadd, 1) := by decide +kernel
theorem dX9_highMelted_119 : decode cX9_highMelted 119 = .ok (.iconst 1, 1) := by decide +kernel
theorem dX9_highMelted_120 : decode cX9_highMelted 120 = .ok (.iadd, 1) := by decide +kernel
theorem dX9_highMelted_121 : decode cX9_highMelted 121 = .ok (.iload 7, 2) := by decide +kernel
theorem dX9_highMelted_123 : decode cX9_highMelted 123 = .ok (.iadd, 1) := by decide +kernel
theorem dX9_highMelted_124 : decode cX9_highMelted 124 = .ok (.goto 5, 3) := by decide +kernel
theorem dX9_highMelted_127 : decode cX9_highMelted 127 = .ok (.iload 5, 2) := by decide +kernel
theorem dX9_highMelted_129 : decode cX9_highMelted 129 = .ok (.istore 5, 2) := by decide +kernel
theorem dX9_highMelted_131 : decode cX9_highMelted 131 = .ok (.iinc 6 1, 3) := by decide +kernel
theorem dX9_highMelted_134 : decode cX9_highMelted 134 = .ok (.goto (-72), 3) := by decide +kernel
theorem dX9_highMelted_137 : decode cX9_highMelted 137 = .ok (.iload 5, 2) := by decide +kernel
theorem dX9_highMelted_139 : decode cX9_highMelted 139 = .ok (.ireturn, 1) := by decide +kernel
theorem dX9_writesOff_0 : decode cX9_writesOff 0 = .ok (.aload_n 0, 1) := by decide +kernel
theorem dX9_writesOff_1 : decode cX9_writesOff 1 = .ok (.iload_n 1, 1) := by decide +kernel
theorem dX9_writesOff_2 : decode cX9_writesOff 2 = .ok (.invokevirtual 100, 3) := by decide +kernel
theorem dX9_writesOff_5 : decode cX9_writesOff 5 = .ok (.istore_n 3, 1) := by decide +kernel
theorem dX9_writesOff_6 : decode cX9_writesOff 6 = .ok (.iconst 0, 1) := by decide +kernel
theorem dX9_writesOff_7 : decode cX9_writesOff 7 = .ok (.istore 4, 2) := by decide +kernel
theorem dX9_writesOff_9 : decode cX9_writesOff 9 = .ok (.iload 4, 2) := by decide +kernel
theorem dX9_writesOff_11 : decode cX9_writesOff 11 = .ok (.iload_n 3, 1) := by decide +kernel
theorem dX9_writesOff_12 : decode cX9_writesOff 12 = .ok (.if_icmp .ge 23, 3) := by decide +kernel
theorem dX9_writesOff_15 : decode cX9_writesOff 15 = .ok (.aload_n 0, 1) := by decide +kernel
theorem dX9_writesOff_16 : decode cX9_writesOff 16 = .ok (.getfield 46, 3) := by decide +kernel
theorem dX9_writesOff_19 : decode cX9_writesOff 19 = .ok (.iload 4, 2) := by decide +kernel
theorem dX9_writesOff_21 : decode cX9_writesOff 21 = .ok (.aload_n 0, 1) := by decide +kernel
theorem dX9_writesOff_22 : decode cX9_writesOff 22 = .ok (.getfield 34, 3) := by decide +kernel
theorem dX9_writesOff_25 : decode cX9_writesOff 25 = .ok (.iload 4, 2) := by decide +kernel
theorem dX9_writesOff_27 : decode cX9_writesOff 27 = .ok (.iaload, 1) := by decide +kernel
theorem dX9_writesOff_28 : decode cX9_writesOff 28 = .ok (.iastore, 1) := by decide +kernel
theorem dX9_writesOff_29 : decode cX9_writesOff 29 = .ok (.iinc 4 1, 3) := by decide +kernel
theorem dX9_writesOff_32 : decode cX9_writesOff 32 = .ok (.goto (-23), 3) := by decide +kernel
theorem dX9_writesOff_35 : decode cX9_writesOff 35 = .ok (.iconst 0, 1) := by decide +kernel
theorem dX9_writesOff_36 : decode cX9_writesOff 36 = .ok (.istore 4, 2) := by decide +kernel
theorem dX9_writesOff_38 : decode cX9_writesOff 38 = .ok (.iload 4, 2) := by decide +kernel
theorem dX9_writesOff_40 : decode cX9_writesOff 40 = .ok (.iload_n 3, 1) := by decide +kernel
theorem dX9_writesOff_41 : decode cX9_writesOff 41 = .ok (.if_icmp .ge 89, 3) := by decide +kernel
theorem dX9_writesOff_44 : decode cX9_writesOff 44 = .ok (.aload_n 0, 1) := by decide +kernel
theorem dX9_writesOff_45 : decode cX9_writesOff 45 = .ok (.getfield 46, 3) := by decide +kernel
theorem dX9_writesOff_48 : decode cX9_writesOff 48 = .ok (.iload 4, 2) := by decide +kernel
theorem dX9_writesOff_50 : decode cX9_writesOff 50 = .ok (.iaload, 1) := by decide +kernel
theorem dX9_writesOff_51 : decode cX9_writesOff 51 = .ok (.istore 5, 2) := by decide +kernel
theorem dX9_writesOff_53 : decode cX9_writesOff 53 = .ok (.aload_n 0, 1) := by decide +kernel
theorem dX9_writesOff_54 : decode cX9_writesOff 54 = .ok (.getfield 7, 3) := by decide +kernel
theorem dX9_writesOff_57 : decode cX9_writesOff 57 = .ok (.iload 5, 2) := by decide +kernel
theorem dX9_writesOff_59 : decode cX9_writesOff 59 = .ok (.iaload, 1) := by decide +kernel
theorem dX9_writesOff_60 : decode cX9_writesOff 60 = .ok (.iconst 1, 1) := by decide +kernel
theorem dX9_writesOff_61 : decode cX9_writesOff 61 = .ok (.if_icmp .eq 14, 3) := by decide +kernel
theorem dX9_writesOff_64 : decode cX9_writesOff 64 = .ok (.aload_n 0, 1) := by decide +kernel
theorem dX9_writesOff_65 : decode cX9_writesOff 65 = .ok (.getfield 7, 3) := by decide +kernel
theorem dX9_writesOff_68 : decode cX9_writesOff 68 = .ok (.iload 5, 2) := by decide +kernel
theorem dX9_writesOff_70 : decode cX9_writesOff 70 = .ok (.iaload, 1) := by decide +kernel
theorem dX9_writesOff_71 : decode cX9_writesOff 71 = .ok (.iconst 4, 1) := by decide +kernel
theorem dX9_writesOff_72 : decode cX9_writesOff 72 = .ok (.if_icmp .ne 7, 3) := by decide +kernel
theorem dX9_writesOff_75 : decode cX9_writesOff 75 = .ok (.iconst 1, 1) := by decide +kernel
theorem dX9_writesOff_76 : decode cX9_writesOff 76 = .ok (.goto 4, 3) := by decide +kernel
theorem dX9_writesOff_79 : decode cX9_writesOff 79 = .ok (.iconst 0, 1) := by decide +kernel
theorem dX9_writesOff_80 : decode cX9_writesOff 80 = .ok (.istore 6, 2) := by decide +kernel
theorem dX9_writesOff_82 : decode cX9_writesOff 82 = .ok (.aload_n 0, 1) := by decide +kernel
theorem dX9_writesOff_83 : decode cX9_writesOff 83 = .ok (.getfield 74, 3) := by decide +kernel
theorem dX9_writesOff_86 : decode cX9_writesOff 86 = .ok (.iload 5, 2) := by decide +kernel
theorem dX9_writesOff_88 : decode cX9_writesOff 88 = .ok (.aload_n 0, 1) := by decide +kernel
theorem dX9_writesOff_89 : decode cX9_writesOff 89 = .ok (.aload_n 0, 1) := by decide +kernel
theorem dX9_writesOff_90 : decode cX9_writesOff 90 = .ok (.getfield 7, 3) := by decide +kernel
theorem dX9_writesOff_93 : decode cX9_writesOff 93 = .ok (.iload 5, 2) := by decide +kernel
theorem dX9_writesOff_95 : decode cX9_writesOff 95 = .ok (.iaload, 1) := by decide +kernel
theorem dX9_writesOff_96 : decode cX9_writesOff 96 = .ok (.iload 6, 2) := by decide +kernel
theorem dX9_writesOff_98 : decode cX9_writesOff 98 = .ok (.ifCond .eq 15, 3) := by decide +kernel
theorem dX9_writesOff_101 : decode cX9_writesOff 101 = .ok (.aload_n 0, 1) := by decide +kernel
theorem dX9_writesOff_102 : decode cX9_writesOff 102 = .ok (.getfield 13, 3) := by decide +kernel
theorem dX9_writesOff_105 : decode cX9_writesOff 105 = .ok (.iload 5, 2) := by decide +kernel
theorem dX9_writesOff_107 : decode cX9_writesOff 107 = .ok (.iaload, 1) := by decide +kernel
theorem dX9_writesOff_108 : decode cX9_writesOff 108 = .ok (.iload_n 2, 1) := by decide +kernel
theorem dX9_writesOff_109 : decode cX9_writesOff 109 = .ok (.iadd, 1) := by decide +kernel
theorem dX9_writesOff_110 : decode cX9_writesOff 110 = .ok (.goto 10, 3) := by decide +kernel
theorem dX9_writesOff_113 : decode cX9_writesOff 113 = .ok (.aload_n 0, 1) := by decide +kernel
theorem dX9_writesOff_114 : decode cX9_writesOff 114 = .ok (.getfield 13, 3) := by decide +kernel
theorem dX9_writesOff_117 : decode cX9_writesOff 117 = .ok (.iload 5, 2) := by decide +kernel
theorem dX9_writesOff_119 : decode cX9_writesOff 119 = .ok (.iaload, 1) := by decide +kernel
theorem dX9_writesOff_120 : decode cX9_writesOff 120 = .ok (.invokevirtual 123, 3) := by decide +kernel
theorem dX9_writesOff_123 : decode cX9_writesOff 123 = .ok (.iastore, 1) := by decide +kernel
theorem dX9_writesOff_124 : decode cX9_writesOff 124 = .ok (.iinc 4 1, 3) := by decide +kernel
theorem dX9_writesOff_127 : decode cX9_writesOff 127 = .ok (.goto (-89), 3) := by decide +kernel
theorem dX9_writesOff_130 : decode cX9_writesOff 130 = .ok (.iconst 0, 1) := by decide +kernel
theorem dX9_writesOff_131 : decode cX9_writesOff 131 = .ok (.istore 4, 2) := by decide +kernel
theorem dX9_writesOff_133 : decode cX9_writesOff 133 = .ok (.iload 4, 2) := by decide +kernel
theorem dX9_writesOff_135 : decode cX9_writesOff 135 = .ok (.iload_n 3, 1) := by decide +kernel
theorem dX9_writesOff_136 : decode cX9_writesOff 136 = .ok (.if_icmp .ge 68, 3) := by decide +kernel
theorem dX9_writesOff_139 : decode cX9_writesOff 139 = .ok (.aload_n 0, 1) := by decide +kernel
theorem dX9_writesOff_140 : decode cX9_writesOff 140 = .ok (.getfield 46, 3) := by decide +kernel
theorem dX9_writesOff_143 : decode cX9_writesOff 143 = .ok (.iload 4, 2) := by decide +kernel
theorem dX9_writesOff_145 : decode cX9_writesOff 145 = .ok (.iaload, 1) := by decide +kernel
theorem dX9_writesOff_146 : decode cX9_writesOff 146 = .ok (.istore 5, 2) := by decide +kernel
theorem dX9_writesOff_148 : decode cX9_writesOff 148 = .ok (.iconst 0, 1) := by decide +kernel
theorem dX9_writesOff_149 : decode cX9_writesOff 149 = .ok (.istore 6, 2) := by decide +kernel
theorem dX9_writesOff_151 : decode cX9_writesOff 151 = .ok (.iload 6, 2) := by decide +kernel
theorem dX9_writesOff_153 : decode cX9_writesOff 153 = .ok (.aload_n 0, 1) := by decide +kernel
theorem dX9_writesOff_154 : decode cX9_writesOff 154 = .ok (.iload 5, 2) := by decide +kernel
theorem dX9_writesOff_156 : decode cX9_writesOff 156 = .ok (.invokevirtual 96, 3) := by decide +kernel
theorem dX9_writesOff_159 : decode cX9_writesOff 159 = .ok (.if_icmp .ge 39, 3) := by decide +kernel
theorem dX9_writesOff_162 : decode cX9_writesOff 162 = .ok (.aload_n 0, 1) := by decide +kernel
theorem dX9_writesOff_163 : decode cX9_writesOff 163 = .ok (.aload_n 0, 1) := by decide +kernel
theorem dX9_writesOff_164 : decode cX9_writesOff 164 = .ok (.getfield 74, 3) := by decide +kernel
theorem dX9_writesOff_167 : decode cX9_writesOff 167 = .ok (.iload 5, 2) := by decide +kernel
theorem dX9_writesOff_169 : decode cX9_writesOff 169 = .ok (.iaload, 1) := by decide +kernel
theorem dX9_writesOff_170 : decode cX9_writesOff 170 = .ok (.iload 6, 2) := by decide +kernel
theorem dX9_writesOff_172 : decode cX9_writesOff 172 = .ok (.aload_n 0, 1) := by decide +kernel
theorem dX9_writesOff_173 : decode cX9_writesOff 173 = .ok (.getfield 74, 3) := by decide +kernel
theorem dX9_writesOff_176 : decode cX9_writesOff 176 = .ok (.aload_n 0, 1) := by decide +kernel
theorem dX9_writesOff_177 : decode cX9_writesOff 177 = .ok (.getfield 16, 3) := by decide +kernel
theorem dX9_writesOff_180 : decode cX9_writesOff 180 = .ok (.iconst 3, 1) := by decide +kernel
theorem dX9_writesOff_181 : decode cX9_writesOff 181 = .ok (.iload 5, 2) := by decide +kernel
theorem dX9_writesOff_183 : decode cX9_writesOff 183 = .ok (.imul, 1) := by decide +kernel
theorem dX9_writesOff_184 : decode cX9_writesOff 184 = .ok (.iload 6, 2) := by decide +kernel
theorem dX9_writesOff_186 : decode cX9_writesOff 186 = .ok (.iadd, 1) := by decide +kernel
theorem dX9_writesOff_187 : decode cX9_writesOff 187 = .ok (.iaload, 1) := by decide +kernel
theorem dX9_writesOff_188 : decode cX9_writesOff 188 = .ok (.iaload, 1) := by decide +kernel
theorem dX9_writesOff_189 : decode cX9_writesOff 189 = .ok (.invokevirtual 127, 3) := by decide +kernel
theorem dX9_writesOff_192 : decode cX9_writesOff 192 = .ok (.iinc 6 1, 3) := by decide +kernel
theorem dX9_writesOff_195 : decode cX9_writesOff 195 = .ok (.goto (-44), 3) := by decide +kernel
theorem dX9_writesOff_198 : decode cX9_writesOff 198 = .ok (.iinc 4 1, 3) := by decide +kernel
theorem dX9_writesOff_201 : decode cX9_writesOff 201 = .ok (.goto (-68), 3) := by decide +kernel
theorem dX9_writesOff_204 : decode cX9_writesOff 204 = .ok (.aload_n 0, 1) := by decide +kernel
theorem dX9_writesOff_205 : decode cX9_writesOff 205 = .ok (.getfield 74, 3) := by decide +kernel
theorem dX9_writesOff_208 : decode cX9_writesOff 208 = .ok (.iload_n 1, 1) := by decide +kernel
theorem dX9_writesOff_209 : decode cX9_writesOff 209 = .ok (.iaload, 1) := by decide +kernel
theorem dX9_writesOff_210 : decode cX9_writesOff 210 = .ok (.ireturn, 1) := by decide +kernel
theorem dX9_melt_0 : decode cX9_melt 0 = .ok (.aload_n 0, 1) := by decide +kernel
theorem dX9_melt_1 : decode cX9_melt 1 = .ok (.iload_n 1, 1) := by decide +kernel
theorem dX9_melt_2 : decode cX9_melt 2 = .ok (.invokevirtual 257, 3) := by decide +kernel
theorem dX9_melt_5 : decode cX9_melt 5 = .ok (.ifCond .ne 5, 3) := by decide +kernel
theorem dX9_melt_8 : decode cX9_melt 8 = .ok (.iconst (-1), 1) := by decide +kernel
theorem dX9_melt_9 : decode cX9_melt 9 = .ok (.ireturn, 1) := by decide +kernel
theorem dX9_melt_10 : decode cX9_melt 10 = .ok (.aload_n 0, 1) := by decide +kernel
theorem dX9_melt_11 : decode cX9_melt 11 = .ok (.getfield 13, 3) := by decide +kernel
theorem dX9_melt_14 : decode cX9_melt 14 = .ok (.iload_n 1, 1) := by decide +kernel
theorem dX9_melt_15 : decode cX9_melt 15 = .ok (.iaload, 1) := by decide +kernel
theorem dX9_melt_16 : decode cX9_melt 16 = .ok (.istore_n 2, 1) := by decide +kernel
theorem dX9_melt_17 : decode cX9_melt 17 = .ok (.aload_n 0, 1) := by decide +kernel
theorem dX9_melt_18 : decode cX9_melt 18 = .ok (.getfield 28, 3) := by decide +kernel
theorem dX9_melt_21 : decode cX9_melt 21 = .ok (.iload_n 2, 1) := by decide +kernel
theorem dX9_melt_22 : decode cX9_melt 22 = .ok (.iaload, 1) := by decide +kernel
theorem dX9_melt_23 : decode cX9_melt 23 = .ok (.bipush (-4), 2) := by decide +kernel
theorem dX9_melt_25 : decode cX9_melt 25 = .ok (.if_icmp .ne 6, 3) := by decide +kernel
theorem dX9_melt_28 : decode cX9_melt 28 = .ok (.bipush (-2), 2) := by decide +kernel
theorem dX9_melt_30 : decode cX9_melt 30 = .ok (.ireturn, 1) := by decide +kernel
theorem dX9_melt_31 : decode cX9_melt 31 = .ok (.aload_n 0, 1) := by decide +kernel
theorem dX9_melt_32 : decode cX9_melt 32 = .ok (.iload_n 1, 1) := by decide +kernel
theorem dX9_melt_33 : decode cX9_melt 33 = .ok (.invokevirtual 159, 3) := by decide +kernel
theorem dX9_melt_36 : decode cX9_melt 36 = .ok (.istore_n 3, 1) := by decide +kernel
theorem dX9_melt_37 : decode cX9_melt 37 = .ok (.aload_n 0, 1) := by decide +kernel
theorem dX9_melt_38 : decode cX9_melt 38 = .ok (.iload_n 3, 1) := by decide +kernel
theorem dX9_melt_39 : decode cX9_melt 39 = .ok (.invokevirtual 153, 3) := by decide +kernel
theorem dX9_melt_42 : decode cX9_melt 42 = .ok (.istore 4, 2) := by decide +kernel
theorem dX9_melt_44 : decode cX9_melt 44 = .ok (.aload_n 0, 1) := by decide +kernel
theorem dX9_melt_45 : decode cX9_melt 45 = .ok (.iload_n 2, 1) := by decide +kernel
theorem dX9_melt_46 : decode cX9_melt 46 = .ok (.invokevirtual 153, 3) := by decide +kernel
theorem dX9_melt_49 : decode cX9_melt 49 = .ok (.istore 5, 2) := by decide +kernel
theorem dX9_melt_51 : decode cX9_melt 51 = .ok (.aload_n 0, 1) := by decide +kernel
theorem dX9_melt_52 : decode cX9_melt 52 = .ok (.getfield 92, 3) := by decide +kernel
theorem dX9_melt_55 : decode cX9_melt 55 = .ok (.aload_n 0, 1) := by decide +kernel
theorem dX9_melt_56 : decode cX9_melt 56 = .ok (.iload_n 1, 1) := by decide +kernel
theorem dX9_melt_57 : decode cX9_melt 57 = .ok (.invokevirtual 260, 3) := by decide +kernel
theorem dX9_melt_60 : decode cX9_melt 60 = .ok (.iadd, 1) := by decide +kernel
theorem dX9_melt_61 : decode cX9_melt 61 = .ok (.iconst 1, 1) := by decide +kernel
theorem dX9_melt_62 : decode cX9_melt 62 = .ok (.iadd, 1) := by decide +kernel
theorem dX9_melt_63 : decode cX9_melt 63 = .ok (.sipush 600, 3) := by decide +kernel
theorem dX9_melt_66 : decode cX9_melt 66 = .ok (.if_icmp .gt 23, 3) := by decide +kernel
theorem dX9_melt_69 : decode cX9_melt 69 = .ok (.iload 4, 2) := by decide +kernel
theorem dX9_melt_71 : decode cX9_melt 71 = .ok (.iload 5, 2) := by decide +kernel
theorem dX9_melt_73 : decode cX9_melt 73 = .ok (.iadd, 1) := by decide +kernel
theorem dX9_melt_74 : decode cX9_melt 74 = .ok (.bipush 40, 2) := by decide +kernel
theorem dX9_melt_76 : decode cX9_melt 76 = .ok (.if_icmp .gt 13, 3) := by decide +kernel
theorem dX9_melt_79 : decode cX9_melt 79 = .ok (.aload_n 0, 1) := by decide +kernel
theorem dX9_melt_80 : decode cX9_melt 80 = .ok (.iload_n 1, 1) := by decide +kernel
theorem dX9_melt_81 : decode cX9_melt 81 = .ok (.invokevirtual 263, 3) := by decide +kernel
theorem dX9_melt_84 : decode cX9_melt 84 = .ok (.bipush 40, 2) := by decide +kernel
theorem dX9_melt_86 : decode cX9_melt 86 = .ok (.if_icmp .le 6, 3) := by decide +kernel
theorem dX9_melt_89 : decode cX9_melt 89 = .ok (.bipush (-3), 2) := by decide +kernel
theorem dX9_melt_91 : decode cX9_melt 91 = .ok (.ireturn, 1) := by decide +kernel
theorem dX9_melt_92 : decode cX9_melt 92 = .ok (.aload_n 0, 1) := by decide +kernel
theorem dX9_melt_93 : decode cX9_melt 93 = .ok (.invokevirtual 150, 3) := by decide +kernel
theorem dX9_melt_96 : decode cX9_melt 96 = .ok (.bipush (-4), 2) := by decide +kernel
theorem dX9_melt_98 : decode cX9_melt 98 = .ok (.istore 6, 2) := by decide +kernel
theorem dX9_melt_100 : decode cX9_melt 100 = .ok (.bipush (-4), 2) := by decide +kernel
theorem dX9_melt_102 : decode cX9_melt 102 = .ok (.istore 7, 2) := by decide +kernel
theorem dX9_melt_104 : decode cX9_melt 104 = .ok (.iconst 0, 1) := by decide +kernel
theorem dX9_melt_105 : decode cX9_melt 105 = .ok (.istore 8, 2) := by decide +kernel
theorem dX9_melt_107 : decode cX9_melt 107 = .ok (.iload 8, 2) := by decide +kernel
theorem dX9_melt_109 : decode cX9_melt 109 = .ok (.iload 5, 2) := by decide +kernel
theorem dX9_melt_111 : decode cX9_melt 111 = .ok (.if_icmp .ge 103, 3) := by decide +kernel
theorem dX9_melt_114 : decode cX9_melt 114 = .ok (.aload_n 0, 1) := by decide +kernel
theorem dX9_melt_115 : decode cX9_melt 115 = .ok (.iconst 5, 1) := by decide +kernel
theorem dX9_melt_116 : decode cX9_melt 116 = .ok (.iconst 0, 1) := by decide +kernel
theorem dX9_melt_117 : decode cX9_melt 117 = .ok (.invokevirtual 123, 3) := by decide +kernel
theorem dX9_melt_120 : decode cX9_melt 120 = .ok (.istore 9, 2) := by decide +kernel
theorem dX9_melt_122 : decode cX9_melt 122 = .ok (.aload_n 0, 1) := by decide +kernel
theorem dX9_melt_123 : decode cX9_melt 123 = .ok (.iconst 4, 1) := by decide +kernel
theorem dX9_melt_124 : decode cX9_melt 124 = .ok (.iload 4, 2) := by decide +kernel
theorem dX9_melt_126 : decode cX9_melt 126 = .ok (.iload 8, 2) := by decide +kernel
theorem dX9_melt_128 : decode cX9_melt 128 = .ok (.iadd, 1) := by decide +kernel
theorem dX9_melt_129 : decode cX9_melt 129 = .ok (.invokevirtual 123, 3) := by decide +kernel
theorem dX9_melt_132 : decode cX9_melt 132 = .ok (.istore 10, 2) := by decide +kernel
theorem dX9_melt_134 : decode cX9_melt 134 = .ok (.aload_n 0, 1) := by decide +kernel
theorem dX9_melt_135 : decode cX9_melt 135 = .ok (.iload 9, 2) := by decide +kernel
theorem dX9_melt_137 : decode cX9_melt 137 = .ok (.iconst 0, 1) := by decide +kernel
theorem dX9_melt_138 : decode cX9_melt 138 = .ok (.iload 10, 2) := by decide +kernel
theorem dX9_melt_140 : decode cX9_melt 140 = .ok (.invokevirtual 127, 3) := by decide +kernel
theorem dX9_melt_143 : decode cX9_melt 143 = .ok (.iload 8, 2) := by decide +kernel
theorem dX9_melt_145 : decode cX9_melt 145 = .ok (.aload_n 0, 1) := by decide +kernel
theorem dX9_melt_146 : decode cX9_melt 146 = .ok (.getfield 25, 3) := by decide +kernel
theorem dX9_melt_149 : decode cX9_melt 149 = .ok (.iload_n 2, 1) := by decide +kernel
theorem dX9_melt_150 : decode cX9_melt 150 = .ok (.iaload, 1) := by decide +kernel
theorem dX9_melt_151 : decode cX9_melt 151 = .ok (.if_icmp .lt 19, 3) := by decide +kernel
theorem dX9_melt_154 : decode cX9_melt 154 = .ok (.aload_n 0, 1) := by decide +kernel
theorem dX9_melt_155 : decode cX9_melt 155 = .ok (.iload 10, 2) := by decide +kernel
theorem dX9_melt_157 : decode cX9_melt 157 = .ok (.iconst 0, 1) := by decide +kernel
theorem dX9_melt_158 : decode cX9_melt 158 = .ok (.aload_n 0, 1) := by decide +kernel
theorem dX9_melt_159 : decode cX9_melt 159 = .ok (.iconst 0, 1) := by decide +kernel
theorem dX9_melt_160 : decode cX9_melt 160 = .ok (.iconst 0, 1) := by decide +kernel
theorem dX9_melt_161 : decode cX9_melt 161 = .ok (.invokevirtual 123, 3) := by decide +kernel
theorem dX9_melt_164 : decode cX9_melt 164 = .ok (.invokevirtual 127, 3) := by decide +kernel
theorem dX9_melt_167 : decode cX9_melt 167 = .ok (.goto 14, 3) := by decide +kernel
theorem dX9_melt_170 : decode cX9_melt 170 = .ok (.aload_n 0, 1) := by decide +kernel
theorem dX9_melt_171 : decode cX9_melt 171 = .ok (.getfield 16, 3) := by decide +kernel
theorem dX9_melt_174 : decode cX9_melt 174 = .ok (.iconst 3, 1) := by decide +kernel
theorem dX9_melt_175 : decode cX9_melt 175 = .ok (.iload 10, 2) := by decide +kernel
theorem dX9_melt_177 : decode cX9_melt 177 = .ok (.imul, 1) := by decide +kernel
theorem dX9_melt_178 : decode cX9_melt 178 = .ok (.iload 8, 2) := by decide +kernel
theorem dX9_melt_180 : decode cX9_melt 180 = .ok (.iastore, 1) := by decide +kernel
theorem dX9_melt_181 : decode cX9_melt 181 = .ok (.iload 7, 2) := by decide +kernel
theorem dX9_melt_183 : decode cX9_melt 183 = .ok (.bipush (-4), 2) := by decide +kernel
theorem dX9_melt_185 : decode cX9_melt 185 = .ok (.if_icmp .ne 10, 3) := by decide +kernel
theorem dX9_melt_188 : decode cX9_melt 188 = .ok (.iload 9, 2) := by decide +kernel
theorem dX9_melt_190 : decode cX9_melt 190 = .ok (.istore 6, 2) := by decide +kernel
theorem dX9_melt_192 : decode cX9_melt 192 = .ok (.goto 12, 3) := by decide +kernel
theorem dX9_melt_195 : decode cX9_melt 195 = .ok (.aload_n 0, 1) := by decide +kernel
theorem dX9_melt_196 : decode cX9_melt 196 = .ok (.iload 7, 2) := by decide +kernel
theorem dX9_melt_198 : decode cX9_melt 198 = .ok (.iconst 1, 1) := by decide +kernel
theorem dX9_melt_199 : decode cX9_melt 199 = .ok (.iload 9, 2) := by decide +kernel
theorem dX9_melt_201 : decode cX9_melt 201 = .ok (.invokevirtual 127, 3) := by decide +kernel
theorem dX9_melt_204 : decode cX9_melt 204 = .ok (.iload 9, 2) := by decide +kernel
theorem dX9_melt_206 : decode cX9_melt 206 = .ok (.istore 7, 2) := by decide +kernel
theorem dX9_melt_208 : decode cX9_melt 208 = .ok (.iinc 8 1, 3) := by decide +kernel
theorem dX9_melt_211 : decode cX9_melt 211 = .ok (.goto (-104), 3) := by decide +kernel
theorem dX9_melt_214 : decode cX9_melt 214 = .ok (.aload_n 0, 1) := by decide +kernel
theorem dX9_melt_215 : decode cX9_melt 215 = .ok (.bipush 11, 2) := by decide +kernel
theorem dX9_melt_217 : decode cX9_melt 217 = .ok (.iconst 0, 1) := by decide +kernel
theorem dX9_melt_218 : decode cX9_melt 218 = .ok (.invokevirtual 123, 3) := by decide +kernel
theorem dX9_melt_221 : decode cX9_melt 221 = .ok (.istore 8, 2) := by decide +kernel
theorem dX9_melt_223 : decode cX9_melt 223 = .ok (.aload_n 0, 1) := by decide +kernel
theorem dX9_melt_224 : decode cX9_melt 224 = .ok (.iload 8, 2) := by decide +kernel
theorem dX9_melt_226 : decode cX9_melt 226 = .ok (.iconst 0, 1) := by decide +kernel
theorem dX9_melt_227 : decode cX9_melt 227 = .ok (.aload_n 0, 1) := by decide +kernel
theorem dX9_melt_228 : decode cX9_melt 228 = .ok (.aload_n 0, 1) := by decide +kernel
theorem dX9_melt_229 : decode cX9_melt 229 = .ok (.getfield 28, 3) := by decide +kernel
theorem dX9_melt_232 : decode cX9_melt 232 = .ok (.iload_n 2, 1) := by decide +kernel
theorem dX9_melt_233 : decode cX9_melt 233 = .ok (.iaload, 1) := by decide +kernel
theorem dX9_melt_234 : decode cX9_melt 234 = .ok (.iload 4, 2) := by decide +kernel
theorem dX9_melt_236 : decode cX9_melt 236 = .ok (.invokevirtual 266, 3) := by decide +kernel
theorem dX9_melt_239 : decode cX9_melt 239 = .ok (.invokevirtual 127, 3) := by decide +kernel
theorem dX9_melt_242 : decode cX9_melt 242 = .ok (.iload 7, 2) := by decide +kernel
theorem dX9_melt_244 : decode cX9_melt 244 = .ok (.bipush (-4), 2) := by decide +kernel
theorem dX9_melt_246 : decode cX9_melt 246 = .ok (.if_icmp .ne 10, 3) := by decide +kernel
theorem dX9_melt_249 : decode cX9_melt 249 = .ok (.iload 8, 2) := by decide +kernel
theorem dX9_melt_251 : decode cX9_melt 251 = .ok (.istore 6, 2) := by decide +kernel
theorem dX9_melt_253 : decode cX9_melt 253 = .ok (.goto 12, 3) := by decide +kernel
theorem dX9_melt_256 : decode cX9_melt 256 = .ok (.aload_n 0, 1) := by decide +kernel
theorem dX9_melt_257 : decode cX9_melt 257 = .ok (.iload 7, 2) := by decide +kernel
theorem dX9_melt_259 : decode cX9_melt 259 = .ok (.iconst 1, 1) := by decide +kernel
theorem dX9_melt_260 : decode cX9_melt 260 = .ok (.iload 8, 2) := by decide +kernel
theorem dX9_melt_262 : decode cX9_melt 262 = .ok (.invokevirtual 127, 3) := by decide +kernel
theorem dX9_melt_265 : decode cX9_melt 265 = .ok (.iload 6, 2) := by decide +kernel
theorem dX9_melt_267 : decode cX9_melt 267 = .ok (.istore 9, 2) := by decide +kernel
theorem dX9_melt_269 : decode cX9_melt 269 = .ok (.iconst 0, 1) := by decide +kernel
theorem dX9_melt_270 : decode cX9_melt 270 = .ok (.istore 10, 2) := by decide +kernel
theorem dX9_melt_272 : decode cX9_melt 272 = .ok (.iload 10, 2) := by decide +kernel
theorem dX9_melt_274 : decode cX9_melt 274 = .ok (.aload_n 0, 1) := by decide +kernel
theorem dX9_melt_275 : decode cX9_melt 275 = .ok (.getfield 25, 3) := by decide +kernel
theorem dX9_melt_278 : decode cX9_melt 278 = .ok (.iload_n 2, 1) := by decide +kernel
theorem dX9_melt_279 : decode cX9_melt 279 = .ok (.iaload, 1) := by decide +kernel
theorem dX9_melt_280 : decode cX9_melt 280 = .ok (.if_icmp .ge 47, 3) := by decide +kernel
theorem dX9_melt_283 : decode cX9_melt 283 = .ok (.aload_n 0, 1) := by decide +kernel
theorem dX9_melt_284 : decode cX9_melt 284 = .ok (.aload_n 0, 1) := by decide +kernel
theorem dX9_melt_285 : decode cX9_melt 285 = .ok (.getfield 16, 3) := by decide +kernel
theorem dX9_melt_288 : decode cX9_melt 288 = .ok (.iconst 3, 1) := by decide +kernel
theorem dX9_melt_289 : decode cX9_melt 289 = .ok (.iload 9, 2) := by decide +kernel
theorem dX9_melt_291 : decode cX9_melt 291 = .ok (.imul, 1) := by decide +kernel
theorem dX9_melt_292 : decode cX9_melt 292 = .ok (.iaload, 1) := by decide +kernel
theorem dX9_melt_293 : decode cX9_melt 293 = .ok (.iconst 0, 1) := by decide +kernel
theorem dX9_melt_294 : decode cX9_melt 294 = .ok (.aload_n 0, 1) := by decide +kernel
theorem dX9_melt_295 : decode cX9_melt 295 = .ok (.getfield 16, 3) := by decide +kernel
theorem dX9_melt_298 : decode cX9_melt 298 = .ok (.iconst 3, 1) := by decide +kernel
theorem dX9_melt_299 : decode cX9_melt 299 = .ok (.iload_n 1, 1) := by decide +kernel
theorem dX9_melt_300 : decode cX9_melt 300 = .ok (.imul, 1) := by decide +kernel
theorem dX9_melt_301 : decode cX9_melt 301 = .ok (.iload 10, 2) := by decide +kernel
theorem dX9_melt_303 : decode cX9_melt 303 = .ok (.iadd, 1) := by decide +kernel
theorem dX9_melt_304 : decode cX9_melt 304 = .ok (.iaload, 1) := by decide +kernel
theorem dX9_melt_305 : decode cX9_melt 305 = .ok (.invokevirtual 127, 3) := by decide +kernel
theorem dX9_melt_308 : decode cX9_melt 308 = .ok (.aload_n 0, 1) := by decide +kernel
theorem dX9_melt_309 : decode cX9_melt 309 = .ok (.getfield 16, 3) := by decide +kernel
theorem dX9_melt_312 : decode cX9_melt 312 = .ok (.iconst 3, 1) := by decide +kernel
theorem dX9_melt_313 : decode cX9_melt 313 = .ok (.iload 9, 2) := by decide +kernel
theorem dX9_melt_315 : decode cX9_melt 315 = .ok (.imul, 1) := by decide +kernel
theorem dX9_melt_316 : decode cX9_melt 316 = .ok (.iconst 1, 1) := by decide +kernel
theorem dX9_melt_317 : decode cX9_melt 317 = .ok (.iadd, 1) := by decide +kernel
theorem dX9_melt_318 : decode cX9_melt 318 = .ok (.iaload, 1) := by decide +kernel
theorem dX9_melt_319 : decode cX9_melt 319 = .ok (.istore 9, 2) := by decide +kernel
theorem dX9_melt_321 : decode cX9_melt 321 = .ok (.iinc 10 1, 3) := by decide +kernel
theorem dX9_melt_324 : decode cX9_melt 324 = .ok (.goto (-52), 3) := by decide +kernel
theorem dX9_melt_327 : decode cX9_melt 327 = .ok (.aload_n 0, 1) := by decide +kernel
theorem dX9_melt_328 : decode cX9_melt 328 = .ok (.iload_n 1, 1) := by decide +kernel
theorem dX9_melt_329 : decode cX9_melt 329 = .ok (.iload 6, 2) := by decide +kernel
theorem dX9_melt_331 : decode cX9_melt 331 = .ok (.invokevirtual 269, 3) := by decide +kernel
theorem dX9_melt_334 : decode cX9_melt 334 = .ok (.aload_n 0, 1) := by decide +kernel
theorem dX9_melt_335 : decode cX9_melt 335 = .ok (.iload_n 1, 1) := by decide +kernel
theorem dX9_melt_336 : decode cX9_melt 336 = .ok (.invokevirtual 272, 3) := by decide +kernel
theorem dX9_melt_339 : decode cX9_melt 339 = .ok (.iload 6, 2) := by decide +kernel
theorem dX9_melt_341 : decode cX9_melt 341 = .ok (.ireturn, 1) := by decide +kernel
theorem dX9_gain_0 : decode cX9_gain 0 = .ok (.aload_n 0, 1) := by decide +kernel
theorem dX9_gain_1 : decode cX9_gain 1 = .ok (.iload_n 1, 1) := by decide +kernel
theorem dX9_gain_2 : decode cX9_gain 2 = .ok (.invokevirtual 257, 3) := by decide +kernel
theorem dX9_gain_5 : decode cX9_gain 5 = .ok (.ifCond .eq 14, 3) := by decide +kernel
theorem dX9_gain_8 : decode cX9_gain 8 = .ok (.iconst 4, 1) := by decide +kernel
theorem dX9_gain_9 : decode cX9_gain 9 = .ok (.aload_n 0, 1) := by decide +kernel
theorem dX9_gain_10 : decode cX9_gain 10 = .ok (.getfield 22, 3) := by decide +kernel
theorem dX9_gain_13 : decode cX9_gain 13 = .ok (.iload_n 1, 1) := by decide +kernel
theorem dX9_gain_14 : decode cX9_gain 14 = .ok (.iaload, 1) := by decide +kernel
theorem dX9_gain_15 : decode cX9_gain 15 = .ok (.imul, 1) := by decide +kernel
theorem dX9_gain_16 : decode cX9_gain 16 = .ok (.goto 4, 3) := by decide +kernel
theorem dX9_gain_19 : decode cX9_gain 19 = .ok (.iconst (-1), 1) := by decide +kernel
theorem dX9_gain_20 : decode cX9_gain 20 = .ok (.ireturn, 1) := by decide +kernel
theorem dX9_weight_0 : decode cX9_weight 0 = .ok (.aload_n 0, 1) := by decide +kernel
theorem dX9_weight_1 : decode cX9_weight 1 = .ok (.iload_n 1, 1) := by decide +kernel
theorem dX9_weight_2 : decode cX9_weight 2 = .ok (.invokevirtual 257, 3) := by decide +kernel
theorem dX9_weight_5 : decode cX9_weight 5 = .ok (.ifCond .ne 5, 3) := by decide +kernel
theorem dX9_weight_8 : decode cX9_weight 8 = .ok (.iconst (-1), 1) := by decide +kernel
theorem dX9_weight_9 : decode cX9_weight 9 = .ok (.ireturn, 1) := by decide +kernel
theorem dX9_weight_10 : decode cX9_weight 10 = .ok (.aload_n 0, 1) := by decide +kernel
theorem dX9_weight_11 : decode cX9_weight 11 = .ok (.getfield 28, 3) := by decide +kernel
theorem dX9_weight_14 : decode cX9_weight 14 = .ok (.aload_n 0, 1) := by decide +kernel
theorem dX9_weight_15 : decode cX9_weight 15 = .ok (.getfield 13, 3) := by decide +kernel
theorem dX9_weight_18 : decode cX9_weight 18 = .ok (.iload_n 1, 1) := by decide +kernel
theorem dX9_weight_19 : decode cX9_weight 19 = .ok (.iaload, 1) := by decide +kernel
theorem dX9_weight_20 : decode cX9_weight 20 = .ok (.iaload, 1) := by decide +kernel
theorem dX9_weight_21 : decode cX9_weight 21 = .ok (.bipush (-4), 2) := by decide +kernel
theorem dX9_weight_23 : decode cX9_weight 23 = .ok (.if_icmp .ne 8, 3) := by decide +kernel
theorem dX9_weight_26 : decode cX9_weight 26 = .ok (.bipush (-2), 2) := by decide +kernel
theorem dX9_weight_28 : decode cX9_weight 28 = .ok (.goto 8, 3) := by decide +kernel
theorem dX9_weight_31 : decode cX9_weight 31 = .ok (.aload_n 0, 1) := by decide +kernel
theorem dX9_weight_32 : decode cX9_weight 32 = .ok (.iload_n 1, 1) := by decide +kernel
theorem dX9_weight_33 : decode cX9_weight 33 = .ok (.invokevirtual 260, 3) := by decide +kernel
theorem dX9_weight_36 : decode cX9_weight 36 = .ok (.ireturn, 1) := by decide +kernel
theorem dX9_isNumber_0 : decode cX9_isNumber 0 = .ok (.aload_n 0, 1) := by decide +kernel
theorem dX9_isNumber_1 : decode cX9_isNumber 1 = .ok (.getfield 7, 3) := by decide +kernel
theorem dX9_isNumber_4 : decode cX9_isNumber 4 = .ok (.iload_n 1, 1) := by decide +kernel
theorem dX9_isNumber_5 : decode cX9_isNumber 5 = .ok (.iaload, 1) := by decide +kernel
theorem dX9_isNumber_6 : decode cX9_isNumber 6 = .ok (.ifCond .ne 7, 3) := by decide +kernel
theorem dX9_isNumber_9 : decode cX9_isNumber 9 = .ok (.iconst 1, 1) := by decide +kernel
theorem dX9_isNumber_10 : decode cX9_isNumber 10 = .ok (.goto 4, 3) := by decide +kernel
theorem dX9_isNumber_13 : decode cX9_isNumber 13 = .ok (.iconst 0, 1) := by decide +kernel
theorem dX9_isNumber_14 : decode cX9_isNumber 14 = .ok (.ireturn, 1) := by decide +kernel
theorem dX9_hasLeave_0 : decode cX9_hasLeave 0 = .ok (.aload_n 0, 1) := by decide +kernel
theorem dX9_hasLeave_1 : decode cX9_hasLeave 1 = .ok (.iload_n 1, 1) := by decide +kernel
theorem dX9_hasLeave_2 : decode cX9_hasLeave 2 = .ok (.invokevirtual 100, 3) := by decide +kernel
theorem dX9_hasLeave_5 : decode cX9_hasLeave 5 = .ok (.istore_n 2, 1) := by decide +kernel
theorem dX9_hasLeave_6 : decode cX9_hasLeave 6 = .ok (.iconst 0, 1) := by decide +kernel
theorem dX9_hasLeave_7 : decode cX9_hasLeave 7 = .ok (.istore_n 3, 1) := by decide +kernel
theorem dX9_hasLeave_8 : decode cX9_hasLeave 8 = .ok (.iconst 0, 1) := by decide +kernel
theorem dX9_hasLeave_9 : decode cX9_hasLeave 9 = .ok (.istore 4, 2) := by decide +kernel
theorem dX9_hasLeave_11 : decode cX9_hasLeave 11 = .ok (.iload 4, 2) := by decide +kernel
theorem dX9_hasLeave_13 : decode cX9_hasLeave 13 = .ok (.iload_n 2, 1) := by decide +kernel
theorem dX9_hasLeave_14 : decode cX9_hasLeave 14 = .ok (.if_icmp .ge 80, 3) := by decide +kernel
theorem dX9_hasLeave_17 : decode cX9_hasLeave 17 = .ok (.aload_n 0, 1) := by decide +kernel
theorem dX9_hasLeave_18 : decode cX9_hasLeave 18 = .ok (.getfield 7, 3) := by decide +kernel
theorem dX9_hasLeave_21 : decode cX9_hasLeave 21 = .ok (.aload_n 0, 1) := by decide +kernel
theorem dX9_hasLeave_22 : decode cX9_hasLeave 22 = .ok (.getfield 34, 3) := by decide +kernel
theorem dX9_hasLeave_25 : decode cX9_hasLeave 25 = .ok (.iload 4, 2) := by decide +kernel
theorem dX9_hasLeave_27 : decode cX9_hasLeave 27 = .ok (.iaload, 1) := by decide +kernel
theorem dX9_hasLeave_28 : decode cX9_hasLeave 28 = .ok (.iaload, 1) := by decide +kernel
theorem dX9_hasLeave_29 : decode cX9_hasLeave 29 = .ok (.bipush 7, 2) := by decide +kernel
theorem dX9_hasLeave_31 : decode cX9_hasLeave 31 = .ok (.if_icmp .ne 57, 3) := by decide +kernel
theorem dX9_hasLeave_34 : decode cX9_hasLeave 34 = .ok (.aload_n 0, 1) := by decide +kernel
theorem dX9_hasLeave_35 : decode cX9_hasLeave 35 = .ok (.getfield 19, 3) := by decide +kernel
theorem dX9_hasLeave_38 : decode cX9_hasLeave 38 = .ok (.aload_n 0, 1) := by decide +kernel
theorem dX9_hasLeave_39 : decode cX9_hasLeave 39 = .ok (.getfield 34, 3) := by decide +kernel
theorem dX9_hasLeave_42 : decode cX9_hasLeave 42 = .ok (.iload 4, 2) := by decide +kernel
theorem dX9_hasLeave_44 : decode cX9_hasLeave 44 = .ok (.iaload, 1) := by decide +kernel
theorem dX9_hasLeave_45 : decode cX9_hasLeave 45 = .ok (.iaload, 1) := by decide +kernel
theorem dX9_hasLeave_46 : decode cX9_hasLeave 46 = .ok (.istore 5, 2) := by decide +kernel
theorem dX9_hasLeave_48 : decode cX9_hasLeave 48 = .ok (.aload_n 0, 1) := by decide +kernel
theorem dX9_hasLeave_49 : decode cX9_hasLeave 49 = .ok (.getfield 7, 3) := by decide +kernel
theorem dX9_hasLeave_52 : decode cX9_hasLeave 52 = .ok (.iload 5, 2) := by decide +kernel
theorem dX9_hasLeave_54 : decode cX9_hasLeave 54 = .ok (.iaload, 1) := by decide +kernel
theorem dX9_hasLeave_55 : decode cX9_hasLeave 55 = .ok (.bipush 11, 2) := by decide +kernel
theorem dX9_hasLeave_57 : decode cX9_hasLeave 57 = .ok (.if_icmp .eq 15, 3) := by decide +kernel
theorem dX9_hasLeave_60 : decode cX9_hasLeave 60 = .ok (.aload_n 0, 1) := by decide +kernel
theorem dX9_hasLeave_61 : decode cX9_hasLeave 61 = .ok (.getfield 19, 3) := by decide +kernel
theorem dX9_hasLeave_64 : decode cX9_hasLeave 64 = .ok (.iload 5, 2) := by decide +kernel
theorem dX9_hasLeave_66 : decode cX9_hasLeave 66 = .ok (.iaload, 1) := by decide +kernel
theorem dX9_hasLeave_67 : decode cX9_hasLeave 67 = .ok (.istore 5, 2) := by decide +kernel
theorem dX9_hasLeave_69 : decode cX9_hasLeave 69 = .ok (.goto (-21), 3) := by decide +kernel
theorem dX9_hasLeave_72 : decode cX9_hasLeave 72 = .ok (.iload_n 3, 1) := by decide +kernel
theorem dX9_hasLeave_73 : decode cX9_hasLeave 73 = .ok (.ifCond .ne 9, 3) := by decide +kernel
theorem dX9_hasLeave_76 : decode cX9_hasLeave 76 = .ok (.iload 5, 2) := by decide +kernel
theorem dX9_hasLeave_78 : decode cX9_hasLeave 78 = .ok (.iload_n 1, 1) := by decide +kernel
theorem dX9_hasLeave_79 : decode cX9_hasLeave 79 = .ok (.if_icmp .ne 7, 3) := by decide +kernel
theorem dX9_hasLeave_82 : decode cX9_hasLeave 82 = .ok (.iconst 1, 1) := by decide +kernel
theorem dX9_hasLeave_83 : decode cX9_hasLeave 83 = .ok (.goto 4, 3) := by decide +kernel
theorem dX9_hasLeave_86 : decode cX9_hasLeave 86 = .ok (.iconst 0, 1) := by decide +kernel
theorem dX9_hasLeave_87 : decode cX9_hasLeave 87 = .ok (.istore_n 3, 1) := by decide +kernel
theorem dX9_hasLeave_88 : decode cX9_hasLeave 88 = .ok (.iinc 4 1, 3) := by decide +kernel
theorem dX9_hasLeave_91 : decode cX9_hasLeave 91 = .ok (.goto (-80), 3) := by decide +kernel
theorem dX9_hasLeave_94 : decode cX9_hasLeave 94 = .ok (.iload_n 3, 1) := by decide +kernel
theorem dX9_hasLeave_95 : decode cX9_hasLeave 95 = .ok (.ireturn, 1) := by decide +kernel
theorem dX9_howMany_0 : decode cX9_howMany 0 = .ok (.aload_n 0, 1) := by decide +kernel
theorem dX9_howMany_1 : decode cX9_howMany 1 = .ok (.iload_n 1, 1) := by decide +kernel
theorem dX9_howMany_2 : decode cX9_howMany 2 = .ok (.invokevirtual 100, 3) := by decide +kernel
theorem dX9_howMany_5 : decode cX9_howMany 5 = .ok (.istore 4, 2) := by decide +kernel
theorem dX9_howMany_7 : decode cX9_howMany 7 = .ok (.iconst 0, 1) := by decide +kernel
theorem dX9_howMany_8 : decode cX9_howMany 8 = .ok (.istore 5, 2) := by decide +kernel
theorem dX9_howMany_10 : decode cX9_howMany 10 = .ok (.iconst 0, 1) := by decide +kernel
theorem dX9_howMany_11 : decode cX9_howMany 11 = .ok (.istore 6, 2) := by decide +kernel
theorem dX9_howMany_13 : decode cX9_howMany 13 = .ok (.iload 6, 2) := by decide +kernel
theorem dX9_howMany_15 : decode cX9_howMany 15 = .ok (.iload 4, 2) := by decide +kernel
theorem dX9_howMany_17 : decode cX9_howMany 17 = .ok (.if_icmp .ge 51, 3) := by decide +kernel
theorem dX9_howMany_20 : decode cX9_howMany 20 = .ok (.iload 5, 2) := by decide +kernel
theorem dX9_howMany_22 : decode cX9_howMany 22 = .ok (.aload_n 0, 1) := by decide +kernel
theorem dX9_howMany_23 : decode cX9_howMany 23 = .ok (.getfield 7, 3) := by decide +kernel
theorem dX9_howMany_26 : decode cX9_howMany 26 = .ok (.aload_n 0, 1) := by decide +kernel
theorem dX9_howMany_27 : decode cX9_howMany 27 = .ok (.getfield 34, 3) := by decide +kernel
theorem dX9_howMany_30 : decode cX9_howMany 30 = .ok (.iload 6, 2) := by decide +kernel
theorem dX9_howMany_32 : decode cX9_howMany 32 = .ok (.iaload, 1) := by decide +kernel
theorem dX9_howMany_33 : decode cX9_howMany 33 = .ok (.iaload, 1) := by decide +kernel
theorem dX9_howMany_34 : decode cX9_howMany 34 = .ok (.iload_n 2, 1) := by decide +kernel
theorem dX9_howMany_35 : decode cX9_howMany 35 = .ok (.if_icmp .ne 23, 3) := by decide +kernel
theorem dX9_howMany_38 : decode cX9_howMany 38 = .ok (.aload_n 0, 1) := by decide +kernel
theorem dX9_howMany_39 : decode cX9_howMany 39 = .ok (.getfield 13, 3) := by decide +kernel
theorem dX9_howMany_42 : decode cX9_howMany 42 = .ok (.aload_n 0, 1) := by decide +kernel
theorem dX9_howMany_43 : decode cX9_howMany 43 = .ok (.getfield 34, 3) := by decide +kernel
theorem dX9_howMany_46 : decode cX9_howMany 46 = .ok (.iload 6, 2) := by decide +kernel
theorem dX9_howMany_48 : decode cX9_howMany 48 = .ok (.iaload, 1) := by decide +kernel
theorem dX9_howMany_49 : decode cX9_howMany 49 = .ok (.iaload, 1) := by decide +kernel
theorem dX9_howMany_50 : decode cX9_howMany 50 = .ok (.iload_n 3, 1) := by decide +kernel
theorem dX9_howMany_51 : decode cX9_howMany 51 = .ok (.if_icmp .ne 7, 3) := by decide +kernel
theorem dX9_howMany_54 : decode cX9_howMany 54 = .ok (.iconst 1, 1) := by decide +kernel
theorem dX9_howMany_55 : decode cX9_howMany 55 = .ok (.goto 4, 3) := by decide +kernel
theorem dX9_howMany_58 : decode cX9_howMany 58 = .ok (.iconst 0, 1) := by decide +kernel
theorem dX9_howMany_59 : decode cX9_howMany 59 = .ok (.iadd, 1) := by decide +kernel
theorem dX9_howMany_60 : decode cX9_howMany 60 = .ok (.istore 5, 2) := by decide +kernel
theorem dX9_howMany_62 : decode cX9_howMany 62 = .ok (.iinc 6 1, 3) := by decide +kernel
theorem dX9_howMany_65 : decode cX9_howMany 65 = .ok (.goto (-52), 3) := by decide +kernel
theorem dX9_howMany_68 : decode cX9_howMany 68 = .ok (.iload 5, 2) := by decide +kernel
theorem dX9_howMany_70 : decode cX9_howMany 70 = .ok (.ireturn, 1) := by decide +kernel
theorem dX9_isFast_0 : decode cX9_isFast 0 = .ok (.aload_n 0, 1) := by decide +kernel
theorem dX9_isFast_1 : decode cX9_isFast 1 = .ok (.getfield 16, 3) := by decide +kernel
theorem dX9_isFast_4 : decode cX9_isFast 4 = .ok (.iconst 3, 1) := by decide +kernel
theorem dX9_isFast_5 : decode cX9_isFast 5 = .ok (.iload_n 2, 1) := by decide +kernel
theorem dX9_isFast_6 : decode cX9_isFast 6 = .ok (.imul, 1) := by decide +kernel
theorem dX9_isFast_7 : decode cX9_isFast 7 = .ok (.iaload, 1) := by decide +kernel
theorem dX9_isFast_8 : decode cX9_isFast 8 = .ok (.istore_n 3, 1) := by decide +kernel
theorem dX9_isFast_9 : decode cX9_isFast 9 = .ok (.aload_n 0, 1) := by decide +kernel
theorem dX9_isFast_10 : decode cX9_isFast 10 = .ok (.getfield 7, 3) := by decide +kernel
theorem dX9_isFast_13 : decode cX9_isFast 13 = .ok (.iload_n 3, 1) := by decide +kernel
theorem dX9_isFast_14 : decode cX9_isFast 14 = .ok (.iaload, 1) := by decide +kernel
theorem dX9_isFast_15 : decode cX9_isFast 15 = .ok (.iconst 4, 1) := by decide +kernel
theorem dX9_isFast_16 : decode cX9_isFast 16 = .ok (.if_icmp .ne 33, 3) := by decide +kernel
theorem dX9_isFast_19 : decode cX9_isFast 19 = .ok (.aload_n 0, 1) := by decide +kernel
theorem dX9_isFast_20 : decode cX9_isFast 20 = .ok (.aload_n 0, 1) := by decide +kernel
theorem dX9_isFast_21 : decode cX9_isFast 21 = .ok (.getfield 16, 3) := by decide +kernel
theorem dX9_isFast_24 : decode cX9_isFast 24 = .ok (.iconst 3, 1) := by decide +kernel
theorem dX9_isFast_25 : decode cX9_isFast 25 = .ok (.iload_n 3, 1) := by decide +kernel
theorem dX9_isFast_26 : decode cX9_isFast 26 = .ok (.imul, 1) := by decide +kernel
theorem dX9_isFast_27 : decode cX9_isFast 27 = .ok (.iaload, 1) := by decide +kernel
theorem dX9_isFast_28 : decode cX9_isFast 28 = .ok (.invokevirtual 275, 3) := by decide +kernel
theorem dX9_isFast_31 : decode cX9_isFast 31 = .ok (.ifCond .eq 18, 3) := by decide +kernel
theorem dX9_isFast_34 : decode cX9_isFast 34 = .ok (.aload_n 0, 1) := by decide +kernel
theorem dX9_isFast_35 : decode cX9_isFast 35 = .ok (.getfield 13, 3) := by decide +kernel
theorem dX9_isFast_38 : decode cX9_isFast 38 = .ok (.iload_n 3, 1) := by decide +kernel
theorem dX9_isFast_39 : decode cX9_isFast 39 = .ok (.iaload, 1) := by decide +kernel
theorem dX9_isFast_40 : decode cX9_isFast 40 = .ok (.aload_n 0, 1) := by decide +kernel
theorem dX9_isFast_41 : decode cX9_isFast 41 = .ok (.getfield 25, 3) := by decide +kernel
theorem dX9_isFast_44 : decode cX9_isFast 44 = .ok (.iload_n 1, 1) := by decide +kernel
theorem dX9_isFast_45 : decode cX9_isFast 45 = .ok (.iaload, 1) := by decide +kernel
theorem dX9_isFast_46 : decode cX9_isFast 46 = .ok (.if_icmp .ge 5, 3) := by decide +kernel
theorem dX9_isFast_49 : decode cX9_isFast 49 = .ok (.iconst 0, 1) := by decide +kernel
theorem dX9_isFast_50 : decode cX9_isFast 50 = .ok (.ireturn, 1) := by decide +kernel
theorem dX9_isFast_51 : decode cX9_isFast 51 = .ok (.aload_n 0, 1) := by decide +kernel
theorem dX9_isFast_52 : decode cX9_isFast 52 = .ok (.getfield 13, 3) := by decide +kernel
theorem dX9_isFast_55 : decode cX9_isFast 55 = .ok (.iload_n 3, 1) := by decide +kernel
theorem dX9_isFast_56 : decode cX9_isFast 56 = .ok (.iaload, 1) := by decide +kernel
theorem dX9_isFast_57 : decode cX9_isFast 57 = .ok (.istore 4, 2) := by decide +kernel
theorem dX9_isFast_59 : decode cX9_isFast 59 = .ok (.aload_n 0, 1) := by decide +kernel
theorem dX9_isFast_60 : decode cX9_isFast 60 = .ok (.aload_n 0, 1) := by decide +kernel
theorem dX9_isFast_61 : decode cX9_isFast 61 = .ok (.getfield 28, 3) := by decide +kernel
theorem dX9_isFast_64 : decode cX9_isFast 64 = .ok (.iload_n 1, 1) := by decide +kernel
theorem dX9_isFast_65 : decode cX9_isFast 65 = .ok (.iaload, 1) := by decide +kernel
theorem dX9_isFast_66 : decode cX9_isFast 66 = .ok (.iconst 4, 1) := by decide +kernel
theorem dX9_isFast_67 : decode cX9_isFast 67 = .ok (.iload 4, 2) := by decide +kernel
theorem dX9_isFast_69 : decode cX9_isFast 69 = .ok (.invokevirtual 278, 3) := by decide +kernel
theorem dX9_isFast_72 : decode cX9_isFast 72 = .ok (.iconst 1, 1) := by decide +kernel
theorem dX9_isFast_73 : decode cX9_isFast 73 = .ok (.if_icmp .ne 40, 3) := by decide +kernel
theorem dX9_isFast_76 : decode cX9_isFast 76 = .ok (.aload_n 0, 1) := by decide +kernel
theorem dX9_isFast_77 : decode cX9_isFast 77 = .ok (.aload_n 0, 1) := by decide +kernel
theorem dX9_isFast_78 : decode cX9_isFast 78 = .ok (.getfield 28, 3) := by decide +kernel
theorem dX9_isFast_81 : decode cX9_isFast 81 = .ok (.iload_n 1, 1) := by decide +kernel
theorem dX9_isFast_82 : decode cX9_isFast 82 = .ok (.iaload, 1) := by decide +kernel
theorem dX9_isFast_83 : decode cX9_isFast 83 = .ok (.iconst 1, 1) := by decide +kernel
theorem dX9_isFast_84 : decode cX9_isFast 84 = .ok (.iload 4, 2) := by decide +kernel
theorem dX9_isFast_86 : decode cX9_isFast 86 = .ok (.invokevirtual 278, 3) := by decide +kernel
theorem dX9_isFast_89 : decode cX9_isFast 89 = .ok (.aload_n 0, 1) := by decide +kernel
theorem dX9_isFast_90 : decode cX9_isFast 90 = .ok (.aload_n 0, 1) := by decide +kernel
theorem dX9_isFast_91 : decode cX9_isFast 91 = .ok (.getfield 16, 3) := by decide +kernel
theorem dX9_isFast_94 : decode cX9_isFast 94 = .ok (.iconst 3, 1) := by decide +kernel
theorem dX9_isFast_95 : decode cX9_isFast 95 = .ok (.iload_n 2, 1) := by decide +kernel
theorem dX9_isFast_96 : decode cX9_isFast 96 = .ok (.imul, 1) := by decide +kernel
theorem dX9_isFast_97 : decode cX9_isFast 97 = .ok (.iconst 1, 1) := by decide +kernel
theorem dX9_isFast_98 : decode cX9_isFast 98 = .ok (.iadd, 1) := by decide +kernel
theorem dX9_isFast_99 : decode cX9_isFast 99 = .ok (.iaload, 1) := by decide +kernel
theorem dX9_isFast_100 : decode cX9_isFast 100 = .ok (.iconst 1, 1) := by decide +kernel
theorem dX9_isFast_101 : decode cX9_isFast 101 = .ok (.iload 4, 2) := by decide +kernel
theorem dX9_isFast_103 : decode cX9_isFast 103 = .ok (.invokevirtual 278, 3) := by decide +kernel
theorem dX9_isFast_106 : decode cX9_isFast 106 = .ok (.if_icmp .ne 7, 3) := by decide +kernel
theorem dX9_isFast_109 : decode cX9_isFast 109 = .ok (.iconst 1, 1) := by decide +kernel
theorem dX9_isFast_110 : decode cX9_isFast 110 = .ok (.goto 4, 3) := by decide +kernel
theorem dX9_isFast_113 : decode cX9_isFast 113 = .ok (.iconst 0, 1) := by decide +kernel
theorem dX9_isFast_114 : decode cX9_isFast 114 = .ok (.ireturn, 1) := by decide +kernel
theorem dX9_holds_0 : decode cX9_holds 0 = .ok (.aload_n 0, 1) := by decide +kernel
theorem dX9_holds_1 : decode cX9_holds 1 = .ok (.getfield 16, 3) := by decide +kernel
theorem dX9_holds_4 : decode cX9_holds 4 = .ok (.iconst 3, 1) := by decide +kernel
theorem dX9_holds_5 : decode cX9_holds 5 = .ok (.iload_n 2, 1) := by decide +kernel
theorem dX9_holds_6 : decode cX9_holds 6 = .ok (.imul, 1) := by decide +kernel
theorem dX9_holds_7 : decode cX9_holds 7 = .ok (.iaload, 1) := by decide +kernel
theorem dX9_holds_8 : decode cX9_holds 8 = .ok (.istore_n 3, 1) := by decide +kernel
theorem dX9_holds_9 : decode cX9_holds 9 = .ok (.aload_n 0, 1) := by decide +kernel
theorem dX9_holds_10 : decode cX9_holds 10 = .ok (.getfield 16, 3) := by decide +kernel
theorem dX9_holds_13 : decode cX9_holds 13 = .ok (.iconst 3, 1) := by decide +kernel
theorem dX9_holds_14 : decode cX9_holds 14 = .ok (.iload_n 2, 1) := by decide +kernel
theorem dX9_holds_15 : decode cX9_holds 15 = .ok (.imul, 1) := by decide +kernel
theorem dX9_holds_16 : decode cX9_holds 16 = .ok (.iconst 1, 1) := by decide +kernel
theorem dX9_holds_17 : decode cX9_holds 17 = .ok (.iadd, 1) := by decide +kernel
theorem dX9_holds_18 : decode cX9_holds 18 = .ok (.iaload, 1) := by decide +kernel
theorem dX9_holds_19 : decode cX9_holds 19 = .ok (.istore 4, 2) := by decide +kernel
theorem dX9_holds_21 : decode cX9_holds 21 = .ok (.aload_n 0, 1) := by decide +kernel
theorem dX9_holds_22 : decode cX9_holds 22 = .ok (.getfield 7, 3) := by decide +kernel
theorem dX9_holds_25 : decode cX9_holds 25 = .ok (.iload_n 2, 1) := by decide +kernel
theorem dX9_holds_26 : decode cX9_holds 26 = .ok (.iaload, 1) := by decide +kernel
theorem dX9_holds_27 : decode cX9_holds 27 = .ok (.tableswitch 185 2 11 #[53, 96, 185, 133, 185, 185, 110, 185, 185, 171], 53) := by decide +kernel
theorem dX9_holds_80 : decode cX9_holds 80 = .ok (.aload_n 0, 1) := by decide +kernel
theorem dX9_holds_81 : decode cX9_holds 81 = .ok (.iload_n 3, 1) := by decide +kernel
theorem dX9_holds_82 : decode cX9_holds 82 = .ok (.invokevirtual 275, 3) := by decide +kernel
theorem dX9_holds_85 : decode cX9_holds 85 = .ok (.ifCond .eq 36, 3) := by decide +kernel
theorem dX9_holds_88 : decode cX9_holds 88 = .ok (.aload_n 0, 1) := by decide +kernel
theorem dX9_holds_89 : decode cX9_holds 89 = .ok (.iload 4, 2) := by decide +kernel
theorem dX9_holds_91 : decode cX9_holds 91 = .ok (.invokevirtual 275, 3) := by decide +kernel
theorem dX9_holds_94 : decode cX9_holds 94 = .ok (.ifCond .eq 27, 3) := by decide +kernel
theorem dX9_holds_97 : decode cX9_holds 97 = .ok (.aload_n 0, 1) := by decide +kernel
theorem dX9_holds_98 : decode cX9_holds 98 = .ok (.getfield 13, 3) := by decide +kernel
theorem dX9_holds_101 : decode cX9_holds 101 = .ok (.iload_n 2, 1) := by decide +kernel
theorem dX9_holds_102 : decode cX9_holds 102 = .ok (.iaload, 1) := by decide +kernel
theorem dX9_holds_103 : decode cX9_holds 103 = .ok (.iconst 3, 1) := by decide +kernel
theorem dX9_holds_104 : decode cX9_holds 104 = .ok (.if_icmp .ne 13, 3) := by decide +kernel
theorem dX9_holds_107 : decode cX9_holds 107 = .ok (.aload_n 0, 1) := by decide +kernel
theorem dX9_holds_108 : decode cX9_holds 108 = .ok (.getfield 13, 3) := by decide +kernel
theorem dX9_holds_111 : decode cX9_holds 111 = .ok (.iload 4, 2) := by decide +kernel
theorem dX9_holds_113 : decode cX9_holds 113 = .ok (.iaload, 1) := by decide +kernel
theorem dX9_holds_114 : decode cX9_holds 114 = .ok (.ifCond .eq 7, 3) := by decide +kernel
theorem dX9_holds_117 : decode cX9_holds 117 = .ok (.iconst 1, 1) := by decide +kernel
theorem dX9_holds_118 : decode cX9_holds 118 = .ok (.goto 4, 3) := by decide +kernel
theorem dX9_holds_121 : decode cX9_holds 121 = .ok (.iconst 0, 1) := by decide +kernel
theorem dX9_holds_122 : decode cX9_holds 122 = .ok (.ireturn, 1) := by decide +kernel
theorem dX9_holds_123 : decode cX9_holds 123 = .ok (.aload_n 0, 1) := by decide +kernel
theorem dX9_holds_124 : decode cX9_holds 124 = .ok (.iload_n 3, 1) := by decide +kernel
theorem dX9_holds_125 : decode cX9_holds 125 = .ok (.invokevirtual 275, 3) := by decide +kernel
theorem dX9_holds_128 : decode cX9_holds 128 = .ok (.ifCond .eq 7, 3) := by decide +kernel
theorem dX9_holds_131 : decode cX9_holds 131 = .ok (.iconst 2, 1) := by decide +kernel
theorem dX9_holds_132 : decode cX9_holds 132 = .ok (.goto 4, 3) := by decide +kernel
theorem dX9_holds_135 : decode cX9_holds 135 = .ok (.iconst 0, 1) := by decide +kernel
theorem dX9_holds_136 : decode cX9_holds 136 = .ok (.ireturn, 1) := by decide +kernel
theorem dX9_holds_137 : decode cX9_holds 137 = .ok (.aload_n 0, 1) := by decide +kernel
theorem dX9_holds_138 : decode cX9_holds 138 = .ok (.iload_n 3, 1) := by decide +kernel
theorem dX9_holds_139 : decode cX9_holds 139 = .ok (.invokevirtual 275, 3) := by decide +kernel
theorem dX9_holds_142 : decode cX9_holds 142 = .ok (.ifCond .eq 16, 3) := by decide +kernel
theorem dX9_holds_145 : decode cX9_holds 145 = .ok (.aload_n 0, 1) := by decide +kernel
theorem dX9_holds_146 : decode cX9_holds 146 = .ok (.getfield 13, 3) := by decide +kernel
theorem dX9_holds_149 : decode cX9_holds 149 = .ok (.iload_n 3, 1) := by decide +kernel
theorem dX9_holds_150 : decode cX9_holds 150 = .ok (.iaload, 1) := by decide +kernel
theorem dX9_holds_151 : decode cX9_holds 151 = .ok (.ifCond .ne 7, 3) := by decide +kernel
theorem dX9_holds_154 : decode cX9_holds 154 = .ok (.iconst 3, 1) := by decide +kernel
theorem dX9_holds_155 : decode cX9_holds 155 = .ok (.goto 4, 3) := by decide +kernel
theorem dX9_holds_158 : decode cX9_holds 158 = .ok (.iconst 0, 1) := by decide +kernel
theorem dX9_holds_159 : decode cX9_holds 159 = .ok (.ireturn, 1) := by decide +kernel
theorem dX9_holds_160 : decode cX9_holds 160 = .ok (.aload_n 0, 1) := by decide +kernel
theorem dX9_holds_161 : decode cX9_holds 161 = .ok (.iload_n 3, 1) := by decide +kernel
theorem dX9_holds_162 : decode cX9_holds 162 = .ok (.invokevirtual 275, 3) := by decide +kernel
theorem dX9_holds_165 : decode cX9_holds 165 = .ok (.ifCond .ne 13, 3) := by decide +kernel
theorem dX9_holds_168 : decode cX9_holds 168 = .ok (.aload_n 0, 1) := by decide +kernel
theorem dX9_holds_169 : decode cX9_holds 169 = .ok (.getfield 7, 3) := by decide +kernel
theorem dX9_holds_172 : decode cX9_holds 172 = .ok (.iload_n 3, 1) := by decide +kernel
theorem dX9_holds_173 : decode cX9_holds 173 = .ok (.iaload, 1) := by decide +kernel
theorem dX9_holds_174 : decode cX9_holds 174 = .ok (.iconst 1, 1) := by decide +kernel
theorem dX9_holds_175 : decode cX9_holds 175 = .ok (.if_icmp .ne 7, 3) := by decide +kernel
theorem dX9_holds_178 : decode cX9_holds 178 = .ok (.iconst 4, 1) := by decide +kernel
theorem dX9_holds_179 : decode cX9_holds 179 = .ok (.goto 18, 3) := by decide +kernel
theorem dX9_holds_182 : decode cX9_holds 182 = .ok (.aload_n 0, 1) := by decide +kernel
theorem dX9_holds_183 : decode cX9_holds 183 = .ok (.iload_n 1, 1) := by decide +kernel
theorem dX9_holds_184 : decode cX9_holds 184 = .ok (.iload_n 2, 1) := by decide +kernel
theorem dX9_holds_185 : decode cX9_holds 185 = .ok (.invokevirtual 281, 3) := by decide +kernel
theorem dX9_holds_188 : decode cX9_holds 188 = .ok (.ifCond .eq 8, 3) := by decide +kernel
theorem dX9_holds_191 : decode cX9_holds 191 = .ok (.bipush 6, 2) := by decide +kernel
theorem dX9_holds_193 : decode cX9_holds 193 = .ok (.goto 4, 3) := by decide +kernel
theorem dX9_holds_196 : decode cX9_holds 196 = .ok (.iconst 0, 1) := by decide +kernel
theorem dX9_holds_197 : decode cX9_holds 197 = .ok (.ireturn, 1) := by decide +kernel
theorem dX9_holds_198 : decode cX9_holds 198 = .ok (.aload_n 0, 1) := by decide +kernel
theorem dX9_holds_199 : decode cX9_holds 199 = .ok (.iload_n 2, 1) := by decide +kernel
theorem dX9_holds_200 : decode cX9_holds 200 = .ok (.invokevirtual 284, 3) := by decide +kernel
theorem dX9_holds_203 : decode cX9_holds 203 = .ok (.ifCond .eq 7, 3) := by decide +kernel
theorem dX9_holds_206 : decode cX9_holds 206 = .ok (.iconst 0, 1) := by decide +kernel
theorem dX9_holds_207 : decode cX9_holds 207 = .ok (.goto 4, 3) := by decide +kernel
theorem dX9_holds_210 : decode cX9_holds 210 = .ok (.iconst 5, 1) := by decide +kernel
theorem dX9_holds_211 : decode cX9_holds 211 = .ok (.ireturn, 1) := by decide +kernel
theorem dX9_holds_212 : decode cX9_holds 212 = .ok (.iconst 0, 1) := by decide +kernel
theorem dX9_holds_213 : decode cX9_holds 213 = .ok (.ireturn, 1) := by decide +kernel
theorem dX9_becomes_0 : decode cX9_becomes 0 = .ok (.aload_n 0, 1) := by decide +kernel
theorem dX9_becomes_1 : decode cX9_becomes 1 = .ok (.getfield 19, 3) := by decide +kernel
theorem dX9_becomes_4 : decode cX9_becomes 4 = .ok (.iload_n 2, 1) := by decide +kernel
theorem dX9_becomes_5 : decode cX9_becomes 5 = .ok (.iaload, 1) := by decide +kernel
theorem dX9_becomes_6 : decode cX9_becomes 6 = .ok (.istore_n 3, 1) := by decide +kernel
theorem dX9_becomes_7 : decode cX9_becomes 7 = .ok (.iconst 0, 1) := by decide +kernel
theorem dX9_becomes_8 : decode cX9_becomes 8 = .ok (.istore 4, 2) := by decide +kernel
theorem dX9_becomes_10 : decode cX9_becomes 10 = .ok (.iload 4, 2) := by decide +kernel
theorem dX9_becomes_12 : decode cX9_becomes 12 = .ok (.iconst 3, 1) := by decide +kernel
theorem dX9_becomes_13 : decode cX9_becomes 13 = .ok (.if_icmp .ge 37, 3) := by decide +kernel
theorem dX9_becomes_16 : decode cX9_becomes 16 = .ok (.aload_n 0, 1) := by decide +kernel
theorem dX9_becomes_17 : decode cX9_becomes 17 = .ok (.getfield 16, 3) := by decide +kernel
theorem dX9_becomes_20 : decode cX9_becomes 20 = .ok (.iconst 3, 1) := by decide +kernel
theorem dX9_becomes_21 : decode cX9_becomes 21 = .ok (.iload_n 3, 1) := by decide +kernel
theorem dX9_becomes_22 : decode cX9_becomes 22 = .ok (.imul, 1) := by decide +kernel
theorem dX9_becomes_23 : decode cX9_becomes 23 = .ok (.iload 4, 2) := by decide +kernel
theorem dX9_becomes_25 : decode cX9_becomes 25 = .ok (.iadd, 1) := by decide +kernel
theorem dX9_becomes_26 : decode cX9_becomes 26 = .ok (.iaload, 1) := by decide +kernel
theorem dX9_becomes_27 : decode cX9_becomes 27 = .ok (.iload_n 2, 1) := by decide +kernel
theorem dX9_becomes_28 : decode cX9_becomes 28 = .ok (.if_icmp .ne 16, 3) := by decide +kernel
theorem dX9_becomes_31 : decode cX9_becomes 31 = .ok (.aload_n 0, 1) := by decide +kernel
theorem dX9_becomes_32 : decode cX9_becomes 32 = .ok (.getfield 16, 3) := by decide +kernel
theorem dX9_becomes_35 : decode cX9_becomes 35 = .ok (.iconst 3, 1) := by decide +kernel
theorem dX9_becomes_36 : decode cX9_becomes 36 = .ok (.iload_n 3, 1) := by decide +kernel
theorem dX9_becomes_37 : decode cX9_becomes 37 = .ok (.imul, 1) := by decide +kernel
theorem dX9_becomes_38 : decode cX9_becomes 38 = .ok (.iload 4, 2) := by decide +kernel
theorem dX9_becomes_40 : decode cX9_becomes 40 = .ok (.iadd, 1) := by decide +kernel
theorem dX9_becomes_41 : decode cX9_becomes 41 = .ok (.bipush (-4), 2) := by decide +kernel
theorem dX9_becomes_43 : decode cX9_becomes 43 = .ok (.iastore, 1) := by decide +kernel
theorem dX9_becomes_44 : decode cX9_becomes 44 = .ok (.iinc 4 1, 3) := by decide +kernel
theorem dX9_becomes_47 : decode cX9_becomes 47 = .ok (.goto (-37), 3) := by decide +kernel
theorem dX9_becomes_50 : decode cX9_becomes 50 = .ok (.aload_n 0, 1) := by decide +kernel
theorem dX9_becomes_51 : decode cX9_becomes 51 = .ok (.iload_n 1, 1) := by decide +kernel
theorem dX9_becomes_52 : decode cX9_becomes 52 = .ok (.iload_n 2, 1) := by decide +kernel
theorem dX9_becomes_53 : decode cX9_becomes 53 = .ok (.invokevirtual 269, 3) := by decide +kernel
theorem dX9_becomes_56 : decode cX9_becomes 56 = .ok (.aload_n 0, 1) := by decide +kernel
theorem dX9_becomes_57 : decode cX9_becomes 57 = .ok (.iload_n 1, 1) := by decide +kernel
theorem dX9_becomes_58 : decode cX9_becomes 58 = .ok (.invokevirtual 287, 3) := by decide +kernel
theorem dX9_becomes_61 : decode cX9_becomes 61 = .ok (.return_, 1) := by decide +kernel
theorem dX9_goesRest_0 : decode cX9_goesRest 0 = .ok (.iconst 1, 1) := by decide +kernel
theorem dX9_goesRest_1 : decode cX9_goesRest 1 = .ok (.istore_n 2, 1) := by decide +kernel
theorem dX9_goesRest_2 : decode cX9_goesRest 2 = .ok (.aload_n 0, 1) := by decide +kernel
theorem dX9_goesRest_3 : decode cX9_goesRest 3 = .ok (.getfield 40, 3) := by decide +kernel
theorem dX9_goesRest_6 : decode cX9_goesRest 6 = .ok (.iconst 0, 1) := by decide +kernel
theorem dX9_goesRest_7 : decode cX9_goesRest 7 = .ok (.iload_n 1, 1) := by decide +kernel
theorem dX9_goesRest_8 : decode cX9_goesRest 8 = .ok (.iastore, 1) := by decide +kernel
theorem dX9_goesRest_9 : decode cX9_goesRest 9 = .ok (.iload_n 2, 1) := by decide +kernel
theorem dX9_goesRest_10 : decode cX9_goesRest 10 = .ok (.ifCond .le 80, 3) := by decide +kernel
theorem dX9_goesRest_13 : decode cX9_goesRest 13 = .ok (.iinc 2 (-1), 3) := by decide +kernel
theorem dX9_goesRest_16 : decode cX9_goesRest 16 = .ok (.aload_n 0, 1) := by decide +kernel
theorem dX9_goesRest_17 : decode cX9_goesRest 17 = .ok (.getfield 40, 3) := by decide +kernel
theorem dX9_goesRest_20 : decode cX9_goesRest 20 = .ok (.iload_n 2, 1) := by decide +kernel
theorem dX9_goesRest_21 : decode cX9_goesRest 21 = .ok (.iaload, 1) := by decide +kernel
theorem dX9_goesRest_22 : decode cX9_goesRest 22 = .ok (.istore_n 3, 1) := by decide +kernel
theorem dX9_goesRest_23 : decode cX9_goesRest 23 = .ok (.aload_n 0, 1) := by decide +kernel
theorem dX9_goesRest_24 : decode cX9_goesRest 24 = .ok (.iload_n 3, 1) := by decide +kernel
theorem dX9_goesRest_25 : decode cX9_goesRest 25 = .ok (.invokevirtual 96, 3) := by decide +kernel
theorem dX9_goesRest_28 : decode cX9_goesRest 28 = .ok (.istore 4, 2) := by decide +kernel
theorem dX9_goesRest_30 : decode cX9_goesRest 30 = .ok (.iconst 0, 1) := by decide +kernel
theorem dX9_goesRest_31 : decode cX9_goesRest 31 = .ok (.istore 5, 2) := by decide +kernel
theorem dX9_goesRest_33 : decode cX9_goesRest 33 = .ok (.iload 5, 2) := by decide +kernel
theorem dX9_goesRest_35 : decode cX9_goesRest 35 = .ok (.iload 4, 2) := by decide +kernel
theorem dX9_goesRest_37 : decode cX9_goesRest 37 = .ok (.if_icmp .ge 45, 3) := by decide +kernel
theorem dX9_goesRest_40 : decode cX9_goesRest 40 = .ok (.aload_n 0, 1) := by decide +kernel
theorem dX9_goesRest_41 : decode cX9_goesRest 41 = .ok (.getfield 16, 3) := by decide +kernel
theorem dX9_goesRest_44 : decode cX9_goesRest 44 = .ok (.iconst 3, 1) := by decide +kernel
theorem dX9_goesRest_45 : decode cX9_goesRest 45 = .ok (.iload_n 3, 1) := by decide +kernel
theorem dX9_goesRest_46 : decode cX9_goesRest 46 = .ok (.imul, 1) := by decide +kernel
theorem dX9_goesRest_47 : decode cX9_goesRest 47 = .ok (.iload 5, 2) := by decide +kernel
theorem dX9_goesRest_49 : decode cX9_goesRest 49 = .ok (.iadd, 1) := by decide +kernel
theorem dX9_goesRest_50 : decode cX9_goesRest 50 = .ok (.iaload, 1) := by decide +kernel
theorem dX9_goesRest_51 : decode cX9_goesRest 51 = .ok (.bipush (-4), 2) := by decide +kernel
theorem dX9_goesRest_53 : decode cX9_goesRest 53 = .ok (.if_icmp .eq 23, 3) := by decide +kernel
theorem dX9_goesRest_56 : decode cX9_goesRest 56 = .ok (.aload_n 0, 1) := by decide +kernel
theorem dX9_goesRest_57 : decode cX9_goesRest 57 = .ok (.getfield 40, 3) := by decide +kernel
theorem dX9_goesRest_60 : decode cX9_goesRest 60 = .ok (.iload_n 2, 1) := by decide +kernel
theorem dX9_goesRest_61 : decode cX9_goesRest 61 = .ok (.aload_n 0, 1) := by decide +kernel
theorem dX9_goesRest_62 : decode cX9_goesRest 62 = .ok (.getfield 16, 3) := by decide +kernel
theorem dX9_goesRest_65 : decode cX9_goesRest 65 = .ok (.iconst 3, 1) := by decide +kernel
theorem dX9_goesRest_66 : decode cX9_goesRest 66 = .ok (.iload_n 3, 1) := by decide +kernel
theorem dX9_goesRest_67 : decode cX9_goesRest 67 = .ok (.imul, 1) := by decide +kernel
theorem dX9_goesRest_68 : decode cX9_goesRest 68 = .ok (.iload 5, 2) := by decide +kernel
theorem dX9_goesRest_70 : decode cX9_goesRest 70 = .ok (.iadd, 1) := by decide +kernel
theorem dX9_goesRest_71 : decode cX9_goesRest 71 = .ok (.iaload, 1) := by decide +kernel
theorem dX9_goesRest_72 : decode cX9_goesRest 72 = .ok (.iastore, 1) := by decide +kernel
theorem dX9_goesRest_73 : decode cX9_goesRest 73 = .ok (.iinc 2 1, 3) := by decide +kernel
theorem dX9_goesRest_76 : decode cX9_goesRest 76 = .ok (.iinc 5 1, 3) := by decide +kernel
theorem dX9_goesRest_79 : decode cX9_goesRest 79 = .ok (.goto (-46), 3) := by decide +kernel
theorem dX9_goesRest_82 : decode cX9_goesRest 82 = .ok (.aload_n 0, 1) := by decide +kernel
theorem dX9_goesRest_83 : decode cX9_goesRest 83 = .ok (.iload_n 3, 1) := by decide +kernel
theorem dX9_goesRest_84 : decode cX9_goesRest 84 = .ok (.invokevirtual 272, 3) := by decide +kernel
theorem dX9_goesRest_87 : decode cX9_goesRest 87 = .ok (.goto (-78), 3) := by decide +kernel
theorem dX9_goesRest_90 : decode cX9_goesRest 90 = .ok (.return_, 1) := by decide +kernel
theorem dX9_isRoomFor_0 : decode cX9_isRoomFor 0 = .ok (.aload_n 0, 1) := by decide +kernel
theorem dX9_isRoomFor_1 : decode cX9_isRoomFor 1 = .ok (.getfield 92, 3) := by decide +kernel
theorem dX9_isRoomFor_4 : decode cX9_isRoomFor 4 = .ok (.iload_n 1, 1) := by decide +kernel
theorem dX9_isRoomFor_5 : decode cX9_isRoomFor 5 = .ok (.iadd, 1) := by decide +kernel
theorem dX9_isRoomFor_6 : decode cX9_isRoomFor 6 = .ok (.sipush 600, 3) := by decide +kernel
theorem dX9_isRoomFor_9 : decode cX9_isRoomFor 9 = .ok (.if_icmp .gt 7, 3) := by decide +kernel
theorem dX9_isRoomFor_12 : decode cX9_isRoomFor 12 = .ok (.iconst 1, 1) := by decide +kernel
theorem dX9_isRoomFor_13 : decode cX9_isRoomFor 13 = .ok (.goto 4, 3) := by decide +kernel
theorem dX9_isRoomFor_16 : decode cX9_isRoomFor 16 = .ok (.iconst 0, 1) := by decide +kernel
theorem dX9_isRoomFor_17 : decode cX9_isRoomFor 17 = .ok (.ireturn, 1) := by decide +kernel
theorem dX9_works_0 : decode cX9_works 0 = .ok (.iload_n 1, 1) := by decide +kernel
theorem dX9_works_1 : decode cX9_works 1 = .ok (.iconst 1, 1) := by decide +kernel
theorem dX9_works_2 : decode cX9_works 2 = .ok (.if_icmp .eq 8, 3) := by decide +kernel
theorem dX9_works_5 : decode cX9_works 5 = .ok (.iload_n 1, 1) := by decide +kernel
theorem dX9_works_6 : decode cX9_works 6 = .ok (.iconst 3, 1) := by decide +kernel
theorem dX9_works_7 : decode cX9_works 7 = .ok (.if_icmp .ne 82, 3) := by decide +kernel
theorem dX9_works_10 : decode cX9_works 10 = .ok (.aload_n 0, 1) := by decide +kernel
theorem dX9_works_11 : decode cX9_works 11 = .ok (.iconst 1, 1) := by decide +kernel
theorem dX9_works_12 : decode cX9_works 12 = .ok (.invokevirtual 290, 3) := by decide +kernel
theorem dX9_works_15 : decode cX9_works 15 = .ok (.ifCond .ne 5, 3) := by decide +kernel
theorem dX9_works_18 : decode cX9_works 18 = .ok (.iconst 0, 1) := by decide +kernel
theorem dX9_works_19 : decode cX9_works 19 = .ok (.ireturn, 1) := by decide +kernel
theorem dX9_works_20 : decode cX9_works 20 = .ok (.aload_n 0, 1) := by decide +kernel
theorem dX9_works_21 : decode cX9_works 21 = .ok (.getfield 16, 3) := by decide +kernel
theorem dX9_works_24 : decode cX9_works 24 = .ok (.iconst 3, 1) := by decide +kernel
theorem dX9_works_25 : decode cX9_works 25 = .ok (.iload_n 2, 1) := by decide +kernel
theorem dX9_works_26 : decode cX9_works 26 = .ok (.imul, 1) := by decide +kernel
theorem dX9_works_27 : decode cX9_works 27 = .ok (.iaload, 1) := by decide +kernel
theorem dX9_works_28 : decode cX9_works 28 = .ok (.istore_n 3, 1) := by decide +kernel
theorem dX9_works_29 : decode cX9_works 29 = .ok (.aload_n 0, 1) := by decide +kernel
theorem dX9_works_30 : decode cX9_works 30 = .ok (.iconst 0, 1) := by decide +kernel
theorem dX9_works_31 : decode cX9_works 31 = .ok (.iload_n 1, 1) := by decide +kernel
theorem dX9_works_32 : decode cX9_works 32 = .ok (.iconst 3, 1) := by decide +kernel
theorem dX9_works_33 : decode cX9_works 33 = .ok (.if_icmp .ne 7, 3) := by decide +kernel
theorem dX9_works_36 : decode cX9_works 36 = .ok (.iconst 0, 1) := by decide +kernel
theorem dX9_works_37 : decode cX9_works 37 = .ok (.goto 33, 3) := by decide +kernel
theorem dX9_works_40 : decode cX9_works 40 = .ok (.aload_n 0, 1) := by decide +kernel
theorem dX9_works_41 : decode cX9_works 41 = .ok (.getfield 13, 3) := by decide +kernel
theorem dX9_works_44 : decode cX9_works 44 = .ok (.iload_n 2, 1) := by decide +kernel
theorem dX9_works_45 : decode cX9_works 45 = .ok (.iaload, 1) := by decide +kernel
theorem dX9_works_46 : decode cX9_works 46 = .ok (.aload_n 0, 1) := by decide +kernel
theorem dX9_works_47 : decode cX9_works 47 = .ok (.getfield 13, 3) := by decide +kernel
theorem dX9_works_50 : decode cX9_works 50 = .ok (.iload_n 3, 1) := by decide +kernel
theorem dX9_works_51 : decode cX9_works 51 = .ok (.iaload, 1) := by decide +kernel
theorem dX9_works_52 : decode cX9_works 52 = .ok (.aload_n 0, 1) := by decide +kernel
theorem dX9_works_53 : decode cX9_works 53 = .ok (.getfield 13, 3) := by decide +kernel
theorem dX9_works_56 : decode cX9_works 56 = .ok (.aload_n 0, 1) := by decide +kernel
theorem dX9_works_57 : decode cX9_works 57 = .ok (.getfield 16, 3) := by decide +kernel
theorem dX9_works_60 : decode cX9_works 60 = .ok (.iconst 3, 1) := by decide +kernel
theorem dX9_works_61 : decode cX9_works 61 = .ok (.iload_n 2, 1) := by decide +kernel
theorem dX9_works_62 : decode cX9_works 62 = .ok (.imul, 1) := by decide +kernel
theorem dX9_works_63 : decode cX9_works 63 = .ok (.iconst 1, 1) := by decide +kernel
theorem dX9_works_64 : decode cX9_works 64 = .ok (.iadd, 1) := by decide +kernel
theorem dX9_works_65 : decode cX9_works 65 = .ok (.iaload, 1) := by decide +kernel
theorem dX9_works_66 : decode cX9_works 66 = .ok (.iaload, 1) := by decide +kernel
theorem dX9_works_67 : decode cX9_works 67 = .ok (.invokestatic 224, 3) := by decide +kernel
theorem dX9_works_70 : decode cX9_works 70 = .ok (.invokevirtual 123, 3) := by decide +kernel
theorem dX9_works_73 : decode cX9_works 73 = .ok (.istore 4, 2) := by decide +kernel
theorem dX9_works_75 : decode cX9_works 75 = .ok (.aload_n 0, 1) := by decide +kernel
theorem dX9_works_76 : decode cX9_works 76 = .ok (.iload_n 2, 1) := by decide +kernel
theorem dX9_works_77 : decode cX9_works 77 = .ok (.iload 4, 2) := by decide +kernel
theorem dX9_works_79 : decode cX9_works 79 = .ok (.invokevirtual 269, 3) := by decide +kernel
theorem dX9_works_82 : decode cX9_works 82 = .ok (.aload_n 0, 1) := by decide +kernel
theorem dX9_works_83 : decode cX9_works 83 = .ok (.iload_n 2, 1) := by decide +kernel
theorem dX9_works_84 : decode cX9_works 84 = .ok (.invokevirtual 287, 3) := by decide +kernel
theorem dX9_works_87 : decode cX9_works 87 = .ok (.iconst 1, 1) := by decide +kernel
theorem dX9_works_88 : decode cX9_works 88 = .ok (.ireturn, 1) := by decide +kernel
theorem dX9_works_89 : decode cX9_works 89 = .ok (.iload_n 1, 1) := by decide +kernel
theorem dX9_works_90 : decode cX9_works 90 = .ok (.bipush 6, 2) := by decide +kernel
theorem dX9_works_92 : decode cX9_works 92 = .ok (.if_icmp .ne 84, 3) := by decide +kernel
theorem dX9_works_95 : decode cX9_works 95 = .ok (.aload_n 0, 1) := by decide +kernel
theorem dX9_works_96 : decode cX9_works 96 = .ok (.getfield 16, 3) := by decide +kernel
theorem dX9_works_99 : decode cX9_works 99 = .ok (.iconst 3, 1) := by decide +kernel
theorem dX9_works_100 : decode cX9_works 100 = .ok (.iload_n 2, 1) := by decide +kernel
theorem dX9_works_101 : decode cX9_works 101 = .ok (.imul, 1) := by decide +kernel
theorem dX9_works_102 : decode cX9_works 102 = .ok (.iaload, 1) := by decide +kernel
theorem dX9_works_103 : decode cX9_works 103 = .ok (.istore_n 3, 1) := by decide +kernel
theorem dX9_works_104 : decode cX9_works 104 = .ok (.aload_n 0, 1) := by decide +kernel
theorem dX9_works_105 : decode cX9_works 105 = .ok (.getfield 16, 3) := by decide +kernel
theorem dX9_works_108 : decode cX9_works 108 = .ok (.iconst 3, 1) := by decide +kernel
theorem dX9_works_109 : decode cX9_works 109 = .ok (.iload_n 2, 1) := by decide +kernel
theorem dX9_works_110 : decode cX9_works 110 = .ok (.imul, 1) := by decide +kernel
theorem dX9_works_111 : decode cX9_works 111 = .ok (.iconst 1, 1) := by decide +kernel
theorem dX9_works_112 : decode cX9_works 112 = .ok (.iadd, 1) := by decide +kernel
theorem dX9_works_113 : decode cX9_works 113 = .ok (.iaload, 1) := by decide +kernel
theorem dX9_works_114 : decode cX9_works 114 = .ok (.istore 4, 2) := by decide +kernel
theorem dX9_works_116 : decode cX9_works 116 = .ok (.aload_n 0, 1) := by decide +kernel
theorem dX9_works_117 : decode cX9_works 117 = .ok (.getfield 13, 3) := by decide +kernel
theorem dX9_works_120 : decode cX9_works 120 = .ok (.iload_n 3, 1) := by decide +kernel
theorem dX9_works_121 : decode cX9_works 121 = .ok (.iaload, 1) := by decide +kernel
theorem dX9_works_122 : decode cX9_works 122 = .ok (.istore 5, 2) := by decide +kernel
theorem dX9_works_124 : decode cX9_works 124 = .ok (.aload_n 0, 1) := by decide +kernel
theorem dX9_works_125 : decode cX9_works 125 = .ok (.getfield 13, 3) := by decide +kernel
theorem dX9_works_128 : decode cX9_works 128 = .ok (.aload_n 0, 1) := by decide +kernel
theorem dX9_works_129 : decode cX9_works 129 = .ok (.getfield 16, 3) := by decide +kernel
theorem dX9_works_132 : decode cX9_works 132 = .ok (.iconst 3, 1) := by decide +kernel
theorem dX9_works_133 : decode cX9_works 133 = .ok (.iload_n 3, 1) := by decide +kernel
theorem dX9_works_134 : decode cX9_works 134 = .ok (.imul, 1) := by decide +kernel
theorem dX9_works_135 : decode cX9_works 135 = .ok (.iaload, 1) := by decide +kernel
theorem dX9_works_136 : decode cX9_works 136 = .ok (.iaload, 1) := by decide +kernel
theorem dX9_works_137 : decode cX9_works 137 = .ok (.istore 6, 2) := by decide +kernel
theorem dX9_works_139 : decode cX9_works 139 = .ok (.aload_n 0, 1) := by decide +kernel
theorem dX9_works_140 : decode cX9_works 140 = .ok (.aload_n 0, 1) := by decide +kernel
theorem dX9_works_141 : decode cX9_works 141 = .ok (.iload 4, 2) := by decide +kernel
theorem dX9_works_143 : decode cX9_works 143 = .ok (.iconst 1, 1) := by decide +kernel
theorem dX9_works_144 : decode cX9_works 144 = .ok (.iload 5, 2) := by decide +kernel
theorem dX9_works_146 : decode cX9_works 146 = .ok (.invokevirtual 278, 3) := by decide +kernel
theorem dX9_works_149 : decode cX9_works 149 = .ok (.invokevirtual 290, 3) := by decide +kernel
theorem dX9_works_152 : decode cX9_works 152 = .ok (.ifCond .ne 5, 3) := by decide +kernel
theorem dX9_works_155 : decode cX9_works 155 = .ok (.iconst 0, 1) := by decide +kernel
theorem dX9_works_156 : decode cX9_works 156 = .ok (.ireturn, 1) := by decide +kernel
theorem dX9_works_157 : decode cX9_works 157 = .ok (.aload_n 0, 1) := by decide +kernel
theorem dX9_works_158 : decode cX9_works 158 = .ok (.iload_n 2, 1) := by decide +kernel
theorem dX9_works_159 : decode cX9_works 159 = .ok (.iload 4, 2) := by decide +kernel
theorem dX9_works_161 : decode cX9_works 161 = .ok (.invokevirtual 293, 3) := by decide +kernel
theorem dX9_works_164 : decode cX9_works 164 = .ok (.aload_n 0, 1) := by decide +kernel
theorem dX9_works_165 : decode cX9_works 165 = .ok (.iload 4, 2) := by decide +kernel
theorem dX9_works_167 : decode cX9_works 167 = .ok (.iload 5, 2) := by decide +kernel
theorem dX9_works_169 : decode cX9_works 169 = .ok (.iload 6, 2) := by decide +kernel
theorem dX9_works_171 : decode cX9_works 171 = .ok (.invokevirtual 296, 3) := by decide +kernel
theorem dX9_works_174 : decode cX9_works 174 = .ok (.iconst 1, 1) := by decide +kernel
theorem dX9_works_175 : decode cX9_works 175 = .ok (.ireturn, 1) := by decide +kernel
theorem dX9_works_176 : decode cX9_works 176 = .ok (.aload_n 0, 1) := by decide +kernel
theorem dX9_works_177 : decode cX9_works 177 = .ok (.iload_n 2, 1) := by decide +kernel
theorem dX9_works_178 : decode cX9_works 178 = .ok (.iload_n 1, 1) := by decide +kernel
theorem dX9_works_179 : decode cX9_works 179 = .ok (.iconst 2, 1) := by decide +kernel
theorem dX9_works_180 : decode cX9_works 180 = .ok (.if_icmp .ne 36, 3) := by decide +kernel
theorem dX9_works_183 : decode cX9_works 183 = .ok (.aload_n 0, 1) := by decide +kernel
theorem dX9_works_184 : decode cX9_works 184 = .ok (.getfield 16, 3) := by decide +kernel
theorem dX9_works_187 : decode cX9_works 187 = .ok (.iconst 3, 1) := by decide +kernel
theorem dX9_works_188 : decode cX9_works 188 = .ok (.iload_n 2, 1) := by decide +kernel
theorem dX9_works_189 : decode cX9_works 189 = .ok (.imul, 1) := by decide +kernel
theorem dX9_works_190 : decode cX9_works 190 = .ok (.aload_n 0, 1) := by decide +kernel
theorem dX9_works_191 : decode cX9_works 191 = .ok (.getfield 13, 3) := by decide +kernel
theorem dX9_works_194 : decode cX9_works 194 = .ok (.aload_n 0, 1) := by decide +kernel
theorem dX9_works_195 : decode cX9_works 195 = .ok (.getfield 16, 3) := by decide +kernel
theorem dX9_works_198 : decode cX9_works 198 = .ok (.iconst 3, 1) := by decide +kernel
theorem dX9_works_199 : decode cX9_works 199 = .ok (.iload_n 2, 1) := by decide +kernel
theorem dX9_works_200 : decode cX9_works 200 = .ok (.imul, 1) := by decide +kernel
theorem dX9_works_201 : decode cX9_works 201 = .ok (.iaload, 1) := by decide +kernel
theorem dX9_works_202 : decode cX9_works 202 = .ok (.iaload, 1) := by decide +kernel
theorem dX9_works_203 : decode cX9_works 203 = .ok (.ifCond .eq 7, 3) := by decide +kernel
theorem dX9_works_206 : decode cX9_works 206 = .ok (.iconst 1, 1) := by decide +kernel
theorem dX9_works_207 : decode cX9_works 207 = .ok (.goto 4, 3) := by decide +kernel
theorem dX9_works_210 : decode cX9_works 210 = .ok (.iconst 2, 1) := by decide +kernel
theorem dX9_works_211 : decode cX9_works 211 = .ok (.iadd, 1) := by decide +kernel
theorem dX9_works_212 : decode cX9_works 212 = .ok (.iaload, 1) := by decide +kernel
theorem dX9_works_213 : decode cX9_works 213 = .ok (.goto 29, 3) := by decide +kernel
theorem dX9_works_216 : decode cX9_works 216 = .ok (.iload_n 1, 1) := by decide +kernel
theorem dX9_works_217 : decode cX9_works 217 = .ok (.iconst 4, 1) := by decide +kernel
theorem dX9_works_218 : decode cX9_works 218 = .ok (.if_icmp .ne 16, 3) := by decide +kernel
theorem dX9_works_221 : decode cX9_works 221 = .ok (.aload_n 0, 1) := by decide +kernel
theorem dX9_works_222 : decode cX9_works 222 = .ok (.getfield 16, 3) := by decide +kernel
theorem dX9_works_225 : decode cX9_works 225 = .ok (.iconst 3, 1) := by decide +kernel
theorem dX9_works_226 : decode cX9_works 226 = .ok (.iload_n 2, 1) := by decide +kernel
theorem dX9_works_227 : decode cX9_works 227 = .ok (.imul, 1) := by decide +kernel
theorem dX9_works_228 : decode cX9_works 228 = .ok (.iconst 1, 1) := by decide +kernel
theorem dX9_works_229 : decode cX9_works 229 = .ok (.iadd, 1) := by decide +kernel
theorem dX9_works_230 : decode cX9_works 230 = .ok (.iaload, 1) := by decide +kernel
theorem dX9_works_231 : decode cX9_works 231 = .ok (.goto 11, 3) := by decide +kernel
theorem dX9_works_234 : decode cX9_works 234 = .ok (.aload_n 0, 1) := by decide +kernel
theorem dX9_works_235 : decode cX9_works 235 = .ok (.getfield 16, 3) := by decide +kernel
theorem dX9_works_238 : decode cX9_works 238 = .ok (.iconst 3, 1) := by decide +kernel
theorem dX9_works_239 : decode cX9_works 239 = .ok (.iload_n 2, 1) := by decide +kernel
theorem dX9_works_240 : decode cX9_works 240 = .ok (.imul, 1) := by decide +kernel
theorem dX9_works_241 : decode cX9_works 241 = .ok (.iaload, 1) := by decide +kernel
theorem dX9_works_242 : decode cX9_works 242 = .ok (.invokevirtual 293, 3) := by decide +kernel
theorem dX9_works_245 : decode cX9_works 245 = .ok (.iconst 1, 1) := by decide +kernel
theorem dX9_works_246 : decode cX9_works 246 = .ok (.ireturn, 1) := by decide +kernel
theorem dX9_names_0 : decode cX9_names 0 = .ok (.aload_n 0, 1) := by decide +kernel
theorem dX9_names_1 : decode cX9_names 1 = .ok (.iload_n 1, 1) := by decide +kernel
theorem dX9_names_2 : decode cX9_names 2 = .ok (.invokevirtual 100, 3) := by decide +kernel
theorem dX9_names_5 : decode cX9_names 5 = .ok (.istore 4, 2) := by decide +kernel
theorem dX9_names_7 : decode cX9_names 7 = .ok (.iconst 0, 1) := by decide +kernel
theorem dX9_names_8 : decode cX9_names 8 = .ok (.istore 5, 2) := by decide +kernel
theorem dX9_names_10 : decode cX9_names 10 = .ok (.iload 5, 2) := by decide +kernel
theorem dX9_names_12 : decode cX9_names 12 = .ok (.iload 4, 2) := by decide +kernel
theorem dX9_names_14 : decode cX9_names 14 = .ok (.if_icmp .ge 23, 3) := by decide +kernel
theorem dX9_names_17 : decode cX9_names 17 = .ok (.aload_n 0, 1) := by decide +kernel
theorem dX9_names_18 : decode cX9_names 18 = .ok (.getfield 46, 3) := by decide +kernel
theorem dX9_names_21 : decode cX9_names 21 = .ok (.iload 5, 2) := by decide +kernel
theorem dX9_names_23 : decode cX9_names 23 = .ok (.aload_n 0, 1) := by decide +kernel
theorem dX9_names_24 : decode cX9_names 24 = .ok (.getfield 34, 3) := by decide +kernel
theorem dX9_names_27 : decode cX9_names 27 = .ok (.iload 5, 2) := by decide +kernel
theorem dX9_names_29 : decode cX9_names 29 = .ok (.iaload, 1) := by decide +kernel
theorem dX9_names_30 : decode cX9_names 30 = .ok (.iastore, 1) := by decide +kernel
theorem dX9_names_31 : decode cX9_names 31 = .ok (.iinc 5 1, 3) := by decide +kernel
theorem dX9_names_34 : decode cX9_names 34 = .ok (.goto (-24), 3) := by decide +kernel
theorem dX9_names_37 : decode cX9_names 37 = .ok (.iconst 0, 1) := by decide +kernel
theorem dX9_names_38 : decode cX9_names 38 = .ok (.istore 5, 2) := by decide +kernel
theorem dX9_names_40 : decode cX9_names 40 = .ok (.iload 5, 2) := by decide +kernel
theorem dX9_names_42 : decode cX9_names 42 = .ok (.iload 4, 2) := by decide +kernel
theorem dX9_names_44 : decode cX9_names 44 = .ok (.if_icmp .ge 62, 3) := by decide +kernel
theorem dX9_names_47 : decode cX9_names 47 = .ok (.aload_n 0, 1) := by decide +kernel
theorem dX9_names_48 : decode cX9_names 48 = .ok (.getfield 46, 3) := by decide +kernel
theorem dX9_names_51 : decode cX9_names 51 = .ok (.iload 5, 2) := by decide +kernel
theorem dX9_names_53 : decode cX9_names 53 = .ok (.iaload, 1) := by decide +kernel
theorem dX9_names_54 : decode cX9_names 54 = .ok (.istore 6, 2) := by decide +kernel
theorem dX9_names_56 : decode cX9_names 56 = .ok (.aload_n 0, 1) := by decide +kernel
theorem dX9_names_57 : decode cX9_names 57 = .ok (.getfield 7, 3) := by decide +kernel
theorem dX9_names_60 : decode cX9_names 60 = .ok (.iload 6, 2) := by decide +kernel
theorem dX9_names_62 : decode cX9_names 62 = .ok (.iaload, 1) := by decide +kernel
theorem dX9_names_63 : decode cX9_names 63 = .ok (.iconst 1, 1) := by decide +kernel
theorem dX9_names_64 : decode cX9_names 64 = .ok (.if_icmp .ne 36, 3) := by decide +kernel
theorem dX9_names_67 : decode cX9_names 67 = .ok (.aload_n 0, 1) := by decide +kernel
theorem dX9_names_68 : decode cX9_names 68 = .ok (.getfield 13, 3) := by decide +kernel
theorem dX9_names_71 : decode cX9_names 71 = .ok (.iload 6, 2) := by decide +kernel
theorem dX9_names_73 : decode cX9_names 73 = .ok (.iaload, 1) := by decide +kernel
theorem dX9_names_74 : decode cX9_names 74 = .ok (.iload_n 2, 1) := by decide +kernel
theorem dX9_names_75 : decode cX9_names 75 = .ok (.if_icmp .ne 25, 3) := by decide +kernel
theorem dX9_names_78 : decode cX9_names 78 = .ok (.aload_n 0, 1) := by decide +kernel
theorem dX9_names_79 : decode cX9_names 79 = .ok (.iconst 0, 1) := by decide +kernel
theorem dX9_names_80 : decode cX9_names 80 = .ok (.iload_n 3, 1) := by decide +kernel
theorem dX9_names_81 : decode cX9_names 81 = .ok (.invokevirtual 123, 3) := by decide +kernel
theorem dX9_names_84 : decode cX9_names 84 = .ok (.istore 7, 2) := by decide +kernel
theorem dX9_names_86 : decode cX9_names 86 = .ok (.aload_n 0, 1) := by decide +kernel
theorem dX9_names_87 : decode cX9_names 87 = .ok (.iload 6, 2) := by decide +kernel
theorem dX9_names_89 : decode cX9_names 89 = .ok (.iload 7, 2) := by decide +kernel
theorem dX9_names_91 : decode cX9_names 91 = .ok (.invokevirtual 269, 3) := by decide +kernel
theorem dX9_names_94 : decode cX9_names 94 = .ok (.aload_n 0, 1) := by decide +kernel
theorem dX9_names_95 : decode cX9_names 95 = .ok (.iload 6, 2) := by decide +kernel
theorem dX9_names_97 : decode cX9_names 97 = .ok (.invokevirtual 272, 3) := by decide +kernel
theorem dX9_names_100 : decode cX9_names 100 = .ok (.iinc 5 1, 3) := by decide +kernel
theorem dX9_names_103 : decode cX9_names 103 = .ok (.goto (-63), 3) := by decide +kernel
theorem dX9_names_106 : decode cX9_names 106 = .ok (.return_, 1) := by decide +kernel
theorem dX9_ahead_0 : decode cX9_ahead 0 = .ok (.aload_n 0, 1) := by decide +kernel
theorem dX9_ahead_1 : decode cX9_ahead 1 = .ok (.iload_n 1, 1) := by decide +kernel
theorem dX9_ahead_2 : decode cX9_ahead 2 = .ok (.invokevirtual 145, 3) := by decide +kernel
theorem dX9_ahead_5 : decode cX9_ahead 5 = .ok (.ifCond .ne 5, 3) := by decide +kernel
theorem dX9_ahead_8 : decode cX9_ahead 8 = .ok (.iconst (-1), 1) := by decide +kernel
theorem dX9_ahead_9 : decode cX9_ahead 9 = .ok (.ireturn, 1) := by decide +kernel
theorem dX9_ahead_10 : decode cX9_ahead 10 = .ok (.aload_n 0, 1) := by decide +kernel
theorem dX9_ahead_11 : decode cX9_ahead 11 = .ok (.getfield 28, 3) := by decide +kernel
theorem dX9_ahead_14 : decode cX9_ahead 14 = .ok (.iload_n 1, 1) := by decide +kernel
theorem dX9_ahead_15 : decode cX9_ahead 15 = .ok (.iaload, 1) := by decide +kernel
theorem dX9_ahead_16 : decode cX9_ahead 16 = .ok (.bipush (-4), 2) := by decide +kernel
theorem dX9_ahead_18 : decode cX9_ahead 18 = .ok (.if_icmp .ne 6, 3) := by decide +kernel
theorem dX9_ahead_21 : decode cX9_ahead 21 = .ok (.bipush (-2), 2) := by decide +kernel
theorem dX9_ahead_23 : decode cX9_ahead 23 = .ok (.ireturn, 1) := by decide +kernel
theorem dX9_ahead_24 : decode cX9_ahead 24 = .ok (.aload_n 0, 1) := by decide +kernel
theorem dX9_ahead_25 : decode cX9_ahead 25 = .ok (.invokevirtual 244, 3) := by decide +kernel
theorem dX9_ahead_28 : decode cX9_ahead 28 = .ok (.aload_n 0, 1) := by decide +kernel
theorem dX9_ahead_29 : decode cX9_ahead 29 = .ok (.aload_n 0, 1) := by decide +kernel
theorem dX9_ahead_30 : decode cX9_ahead 30 = .ok (.getfield 28, 3) := by decide +kernel
theorem dX9_ahead_33 : decode cX9_ahead 33 = .ok (.iload_n 1, 1) := by decide +kernel
theorem dX9_ahead_34 : decode cX9_ahead 34 = .ok (.iaload, 1) := by decide +kernel
theorem dX9_ahead_35 : decode cX9_ahead 35 = .ok (.invokevirtual 100, 3) := by decide +kernel
theorem dX9_ahead_38 : decode cX9_ahead 38 = .ok (.istore_n 2, 1) := by decide +kernel
theorem dX9_ahead_39 : decode cX9_ahead 39 = .ok (.aload_n 0, 1) := by decide +kernel
theorem dX9_ahead_40 : decode cX9_ahead 40 = .ok (.getfield 92, 3) := by decide +kernel
theorem dX9_ahead_43 : decode cX9_ahead 43 = .ok (.istore_n 3, 1) := by decide +kernel
theorem dX9_ahead_44 : decode cX9_ahead 44 = .ok (.iconst 1, 1) := by decide +kernel
theorem dX9_ahead_45 : decode cX9_ahead 45 = .ok (.istore 4, 2) := by decide +kernel
theorem dX9_ahead_47 : decode cX9_ahead 47 = .ok (.iload 4, 2) := by decide +kernel
theorem dX9_ahead_49 : decode cX9_ahead 49 = .ok (.ifCond .eq 124, 3) := by decide +kernel
theorem dX9_ahead_52 : decode cX9_ahead 52 = .ok (.iconst 0, 1) := by decide +kernel
theorem dX9_ahead_53 : decode cX9_ahead 53 = .ok (.istore 4, 2) := by decide +kernel
theorem dX9_ahead_55 : decode cX9_ahead 55 = .ok (.aload_n 0, 1) := by decide +kernel
theorem dX9_ahead_56 : decode cX9_ahead 56 = .ok (.aload_n 0, 1) := by decide +kernel
theorem dX9_ahead_57 : decode cX9_ahead 57 = .ok (.getfield 28, 3) := by decide +kernel
theorem dX9_ahead_60 : decode cX9_ahead 60 = .ok (.iload_n 1, 1) := by decide +kernel
theorem dX9_ahead_61 : decode cX9_ahead 61 = .ok (.iaload, 1) := by decide +kernel
theorem dX9_ahead_62 : decode cX9_ahead 62 = .ok (.invokevirtual 100, 3) := by decide +kernel
theorem dX9_ahead_65 : decode cX9_ahead 65 = .ok (.istore 5, 2) := by decide +kernel
theorem dX9_ahead_67 : decode cX9_ahead 67 = .ok (.iconst 0, 1) := by decide +kernel
theorem dX9_ahead_68 : decode cX9_ahead 68 = .ok (.istore 6, 2) := by decide +kernel
theorem dX9_ahead_70 : decode cX9_ahead 70 = .ok (.iload 6, 2) := by decide +kernel
theorem dX9_ahead_72 : decode cX9_ahead 72 = .ok (.iload 5, 2) := by decide +kernel
theorem dX9_ahead_74 : decode cX9_ahead 74 = .ok (.if_icmp .ge 23, 3) := by decide +kernel
theorem dX9_ahead_77 : decode cX9_ahead 77 = .ok (.aload_n 0, 1) := by decide +kernel
theorem dX9_ahead_78 : decode cX9_ahead 78 = .ok (.getfield 77, 3) := by decide +kernel
theorem dX9_ahead_81 : decode cX9_ahead 81 = .ok (.iload 6, 2) := by decide +kernel
theorem dX9_ahead_83 : decode cX9_ahead 83 = .ok (.aload_n 0, 1) := by decide +kernel
theorem dX9_ahead_84 : decode cX9_ahead 84 = .ok (.getfield 34, 3) := by decide +kernel
theorem dX9_ahead_87 : decode cX9_ahead 87 = .ok (.iload 6, 2) := by decide +kernel
theorem dX9_ahead_89 : decode cX9_ahead 89 = .ok (.iaload, 1) := by decide +kernel
theorem dX9_ahead_90 : decode cX9_ahead 90 = .ok (.iastore, 1) := by decide +kernel
theorem dX9_ahead_91 : decode cX9_ahead 91 = .ok (.iinc 6 1, 3) := by decide +kernel
theorem dX9_ahead_94 : decode cX9_ahead 94 = .ok (.goto (-24), 3) := by decide +kernel
theorem dX9_ahead_97 : decode cX9_ahead 97 = .ok (.iconst 0, 1) := by decide +kernel
theorem dX9_ahead_98 : decode cX9_ahead 98 = .ok (.istore 6, 2) := by decide +kernel
theorem dX9_ahead_100 : decode cX9_ahead 100 = .ok (.iload 6, 2) := by decide +kernel
theorem dX9_ahead_102 : decode cX9_ahead 102 = .ok (.iload 5, 2) := by decide +kernel
theorem dX9_ahead_104 : decode cX9_ahead 104 = .ok (.if_icmp .ge 66, 3) := by decide +kernel
theorem dX9_ahead_107 : decode cX9_ahead 107 = .ok (.iload 4, 2) := by decide +kernel
theorem dX9_ahead_109 : decode cX9_ahead 109 = .ok (.ifCond .ne 61, 3) := by decide +kernel
theorem dX9_ahead_112 : decode cX9_ahead 112 = .ok (.aload_n 0, 1) := by decide +kernel
theorem dX9_ahead_113 : decode cX9_ahead 113 = .ok (.iload_n 1, 1) := by decide +kernel
theorem dX9_ahead_114 : decode cX9_ahead 114 = .ok (.aload_n 0, 1) := by decide +kernel
theorem dX9_ahead_115 : decode cX9_ahead 115 = .ok (.getfield 77, 3) := by decide +kernel
theorem dX9_ahead_118 : decode cX9_ahead 118 = .ok (.iload 6, 2) := by decide +kernel
theorem dX9_ahead_120 : decode cX9_ahead 120 = .ok (.iaload, 1) := by decide +kernel
theorem dX9_ahead_121 : decode cX9_ahead 121 = .ok (.invokevirtual 298, 3) := by decide +kernel
theorem dX9_ahead_124 : decode cX9_ahead 124 = .ok (.istore 7, 2) := by decide +kernel
theorem dX9_ahead_126 : decode cX9_ahead 126 = .ok (.iload 7, 2) := by decide +kernel
theorem dX9_ahead_128 : decode cX9_ahead 128 = .ok (.ifCond .le 36, 3) := by decide +kernel
theorem dX9_ahead_131 : decode cX9_ahead 131 = .ok (.iconst 1, 1) := by decide +kernel
theorem dX9_ahead_132 : decode cX9_ahead 132 = .ok (.istore 4, 2) := by decide +kernel
theorem dX9_ahead_134 : decode cX9_ahead 134 = .ok (.aload_n 0, 1) := by decide +kernel
theorem dX9_ahead_135 : decode cX9_ahead 135 = .ok (.iload 7, 2) := by decide +kernel
theorem dX9_ahead_137 : decode cX9_ahead 137 = .ok (.aload_n 0, 1) := by decide +kernel
theorem dX9_ahead_138 : decode cX9_ahead 138 = .ok (.getfield 77, 3) := by decide +kernel
theorem dX9_ahead_141 : decode cX9_ahead 141 = .ok (.iload 6, 2) := by decide +kernel
theorem dX9_ahead_143 : decode cX9_ahead 143 = .ok (.iaload, 1) := by decide +kernel
theorem dX9_ahead_144 : decode cX9_ahead 144 = .ok (.invokevirtual 301, 3) := by decide +kernel
theorem dX9_ahead_147 : decode cX9_ahead 147 = .ok (.ifCond .ne 17, 3) := by decide +kernel
theorem dX9_ahead_150 : decode cX9_ahead 150 = .ok (.aload_n 0, 1) := by decide +kernel
theorem dX9_ahead_151 : decode cX9_ahead 151 = .ok (.bipush 12, 2) := by decide +kernel
theorem dX9_ahead_153 : decode cX9_ahead 153 = .ok (.invokevirtual 254, 3) := by decide +kernel
theorem dX9_ahead_156 : decode cX9_ahead 156 = .ok (.aload_n 0, 1) := by decide +kernel
theorem dX9_ahead_157 : decode cX9_ahead 157 = .ok (.iload_n 3, 1) := by decide +kernel
theorem dX9_ahead_158 : decode cX9_ahead 158 = .ok (.putfield 92, 3) := by decide +kernel
theorem dX9_ahead_161 : decode cX9_ahead 161 = .ok (.bipush (-3), 2) := by decide +kernel
theorem dX9_ahead_163 : decode cX9_ahead 163 = .ok (.ireturn, 1) := by decide +kernel
theorem dX9_ahead_164 : decode cX9_ahead 164 = .ok (.iinc 6 1, 3) := by decide +kernel
theorem dX9_ahead_167 : decode cX9_ahead 167 = .ok (.goto (-67), 3) := by decide +kernel
theorem dX9_ahead_170 : decode cX9_ahead 170 = .ok (.goto (-123), 3) := by decide +kernel
theorem dX9_ahead_173 : decode cX9_ahead 173 = .ok (.aload_n 0, 1) := by decide +kernel
theorem dX9_ahead_174 : decode cX9_ahead 174 = .ok (.invokevirtual 247, 3) := by decide +kernel
theorem dX9_ahead_177 : decode cX9_ahead 177 = .ok (.iload_n 2, 1) := by decide +kernel
theorem dX9_ahead_178 : decode cX9_ahead 178 = .ok (.aload_n 0, 1) := by decide +kernel
theorem dX9_ahead_179 : decode cX9_ahead 179 = .ok (.aload_n 0, 1) := by decide +kernel
theorem dX9_ahead_180 : decode cX9_ahead 180 = .ok (.getfield 28, 3) := by decide +kernel
theorem dX9_ahead_183 : decode cX9_ahead 183 = .ok (.iload_n 1, 1) := by decide +kernel
theorem dX9_ahead_184 : decode cX9_ahead 184 = .ok (.iaload, 1) := by decide +kernel
theorem dX9_ahead_185 : decode cX9_ahead 185 = .ok (.invokevirtual 100, 3) := by decide +kernel
theorem dX9_ahead_188 : decode cX9_ahead 188 = .ok (.isub, 1) := by decide +kernel
theorem dX9_ahead_189 : decode cX9_ahead 189 = .ok (.ireturn, 1) := by decide +kernel
theorem dX9_drop_0 : decode cX9_drop 0 = .ok (.aload_n 0, 1) := by decide +kernel
theorem dX9_drop_1 : decode cX9_drop 1 = .ok (.getfield 107, 3) := by decide +kernel
theorem dX9_drop_4 : decode cX9_drop 4 = .ok (.ifCond .ne 6, 3) := by decide +kernel
theorem dX9_drop_7 : decode cX9_drop 7 = .ok (.bipush (-2), 2) := by decide +kernel
theorem dX9_drop_9 : decode cX9_drop 9 = .ok (.ireturn, 1) := by decide +kernel
theorem dX9_drop_10 : decode cX9_drop 10 = .ok (.aload_n 0, 1) := by decide +kernel
theorem dX9_drop_11 : decode cX9_drop 11 = .ok (.invokevirtual 150, 3) := by decide +kernel
theorem dX9_drop_14 : decode cX9_drop 14 = .ok (.iconst 1, 1) := by decide +kernel
theorem dX9_drop_15 : decode cX9_drop 15 = .ok (.istore_n 1, 1) := by decide +kernel
theorem dX9_drop_16 : decode cX9_drop 16 = .ok (.iconst 0, 1) := by decide +kernel
theorem dX9_drop_17 : decode cX9_drop 17 = .ok (.istore_n 2, 1) := by decide +kernel
theorem dX9_drop_18 : decode cX9_drop 18 = .ok (.iload_n 1, 1) := by decide +kernel
theorem dX9_drop_19 : decode cX9_drop 19 = .ok (.iload_n 2, 1) := by decide +kernel
theorem dX9_drop_20 : decode cX9_drop 20 = .ok (.if_icmp .eq 110, 3) := by decide +kernel
theorem dX9_drop_23 : decode cX9_drop 23 = .ok (.iload_n 1, 1) := by decide +kernel
theorem dX9_drop_24 : decode cX9_drop 24 = .ok (.istore_n 2, 1) := by decide +kernel
theorem dX9_drop_25 : decode cX9_drop 25 = .ok (.iconst 0, 1) := by decide +kernel
theorem dX9_drop_26 : decode cX9_drop 26 = .ok (.istore_n 3, 1) := by decide +kernel
theorem dX9_drop_27 : decode cX9_drop 27 = .ok (.iload_n 3, 1) := by decide +kernel
theorem dX9_drop_28 : decode cX9_drop 28 = .ok (.aload_n 0, 1) := by decide +kernel
theorem dX9_drop_29 : decode cX9_drop 29 = .ok (.getfield 107, 3) := by decide +kernel
theorem dX9_drop_32 : decode cX9_drop 32 = .ok (.if_icmp .ge 95, 3) := by decide +kernel
theorem dX9_drop_35 : decode cX9_drop 35 = .ok (.iload_n 1, 1) := by decide +kernel
theorem dX9_drop_36 : decode cX9_drop 36 = .ok (.iload_n 3, 1) := by decide +kernel
theorem dX9_drop_37 : decode cX9_drop 37 = .ok (.ishr, 1) := by decide +kernel
theorem dX9_drop_38 : decode cX9_drop 38 = .ok (.iconst 1, 1) := by decide +kernel
theorem dX9_drop_39 : decode cX9_drop 39 = .ok (.iand, 1) := by decide +kernel
theorem dX9_drop_40 : decode cX9_drop 40 = .ok (.iconst 1, 1) := by decide +kernel
theorem dX9_drop_41 : decode cX9_drop 41 = .ok (.if_icmp .ne 80, 3) := by decide +kernel
theorem dX9_drop_44 : decode cX9_drop 44 = .ok (.aload_n 0, 1) := by decide +kernel
theorem dX9_drop_45 : decode cX9_drop 45 = .ok (.getfield 28, 3) := by decide +kernel
theorem dX9_drop_48 : decode cX9_drop 48 = .ok (.iload_n 3, 1) := by decide +kernel
theorem dX9_drop_49 : decode cX9_drop 49 = .ok (.iaload, 1) := by decide +kernel
theorem dX9_drop_50 : decode cX9_drop 50 = .ok (.bipush (-4), 2) := by decide +kernel
theorem dX9_drop_52 : decode cX9_drop 52 = .ok (.if_icmp .eq 69, 3) := by decide +kernel
theorem dX9_drop_55 : decode cX9_drop 55 = .ok (.aload_n 0, 1) := by decide +kernel
theorem dX9_drop_56 : decode cX9_drop 56 = .ok (.aload_n 0, 1) := by decide +kernel
theorem dX9_drop_57 : decode cX9_drop 57 = .ok (.getfield 28, 3) := by decide +kernel
theorem dX9_drop_60 : decode cX9_drop 60 = .ok (.iload_n 3, 1) := by decide +kernel
theorem dX9_drop_61 : decode cX9_drop 61 = .ok (.iaload, 1) := by decide +kernel
theorem dX9_drop_62 : decode cX9_drop 62 = .ok (.invokevirtual 100, 3) := by decide +kernel
theorem dX9_drop_65 : decode cX9_drop 65 = .ok (.istore 4, 2) := by decide +kernel
theorem dX9_drop_67 : decode cX9_drop 67 = .ok (.iconst 0, 1) := by decide +kernel
theorem dX9_drop_68 : decode cX9_drop 68 = .ok (.istore 5, 2) := by decide +kernel
theorem dX9_drop_70 : decode cX9_drop 70 = .ok (.iload 5, 2) := by decide +kernel
theorem dX9_drop_72 : decode cX9_drop 72 = .ok (.iload 4, 2) := by decide +kernel
theorem dX9_drop_74 : decode cX9_drop 74 = .ok (.if_icmp .ge 47, 3) := by decide +kernel
theorem dX9_drop_77 : decode cX9_drop 77 = .ok (.iload_n 1, 1) := by decide +kernel
theorem dX9_drop_78 : decode cX9_drop 78 = .ok (.aload_n 0, 1) := by decide +kernel
theorem dX9_drop_79 : decode cX9_drop 79 = .ok (.getfield 7, 3) := by decide +kernel
theorem dX9_drop_82 : decode cX9_drop 82 = .ok (.aload_n 0, 1) := by decide +kernel
theorem dX9_drop_83 : decode cX9_drop 83 = .ok (.getfield 34, 3) := by decide +kernel
theorem dX9_drop_86 : decode cX9_drop 86 = .ok (.iload 5, 2) := by decide +kernel
theorem dX9_drop_88 : decode cX9_drop 88 = .ok (.iaload, 1) := by decide +kernel
theorem dX9_drop_89 : decode cX9_drop 89 = .ok (.iaload, 1) := by decide +kernel
theorem dX9_drop_90 : decode cX9_drop 90 = .ok (.bipush 6, 2) := by decide +kernel
theorem dX9_drop_92 : decode cX9_drop 92 = .ok (.if_icmp .ne 20, 3) := by decide +kernel
theorem dX9_drop_95 : decode cX9_drop 95 = .ok (.iconst 1, 1) := by decide +kernel
theorem dX9_drop_96 : decode cX9_drop 96 = .ok (.aload_n 0, 1) := by decide +kernel
theorem dX9_drop_97 : decode cX9_drop 97 = .ok (.getfield 13, 3) := by decide +kernel
theorem dX9_drop_100 : decode cX9_drop 100 = .ok (.aload_n 0, 1) := by decide +kernel
theorem dX9_drop_101 : decode cX9_drop 101 = .ok (.getfield 34, 3) := by decide +kernel
theorem dX9_drop_104 : decode cX9_drop 104 = .ok (.iload 5, 2) := by decide +kernel
theorem dX9_drop_106 : decode cX9_drop 106 = .ok (.iaload, 1) := by decide +kernel
theorem dX9_drop_107 : decode cX9_drop 107 = .ok (.iaload, 1) := by decide +kernel
theorem dX9_drop_108 : decode cX9_drop 108 = .ok (.ishl, 1) := by decide +kernel
theorem dX9_drop_109 : decode cX9_drop 109 = .ok (.goto 4, 3) := by decide +kernel
theorem dX9_drop_112 : decode cX9_drop 112 = .ok (.iconst 0, 1) := by decide +kernel
theorem dX9_drop_113 : decode cX9_drop 113 = .ok (.ior, 1) := by decide +kernel
theorem dX9_drop_114 : decode cX9_drop 114 = .ok (.istore_n 1, 1) := by decide +kernel
theorem dX9_drop_115 : decode cX9_drop 115 = .ok (.iinc 5 1, 3) := by decide +kernel
theorem dX9_drop_118 : decode cX9_drop 118 = .ok (.goto (-48), 3) := by decide +kernel
theorem dX9_drop_121 : decode cX9_drop 121 = .ok (.iinc 3 1, 3) := by decide +kernel
theorem dX9_drop_124 : decode cX9_drop 124 = .ok (.goto (-97), 3) := by decide +kernel
theorem dX9_drop_127 : decode cX9_drop 127 = .ok (.goto (-109), 3) := by decide +kernel
theorem dX9_drop_130 : decode cX9_drop 130 = .ok (.iconst 0, 1) := by decide +kernel
theorem dX9_drop_131 : decode cX9_drop 131 = .ok (.istore_n 3, 1) := by decide +kernel
theorem dX9_drop_132 : decode cX9_drop 132 = .ok (.iconst 0, 1) := by decide +kernel
theorem dX9_drop_133 : decode cX9_drop 133 = .ok (.istore 4, 2) := by decide +kernel
theorem dX9_drop_135 : decode cX9_drop 135 = .ok (.iload 4, 2) := by decide +kernel
theorem dX9_drop_137 : decode cX9_drop 137 = .ok (.aload_n 0, 1) := by decide +kernel
theorem dX9_drop_138 : decode cX9_drop 138 = .ok (.getfield 107, 3) := by decide +kernel
theorem dX9_drop_141 : decode cX9_drop 141 = .ok (.if_icmp .ge 42, 3) := by decide +kernel
theorem dX9_drop_144 : decode cX9_drop 144 = .ok (.iload_n 1, 1) := by decide +kernel
theorem dX9_drop_145 : decode cX9_drop 145 = .ok (.iload 4, 2) := by decide +kernel
theorem dX9_drop_147 : decode cX9_drop 147 = .ok (.ishr, 1) := by decide +kernel
theorem dX9_drop_148 : decode cX9_drop 148 = .ok (.iconst 1, 1) := by decide +kernel
theorem dX9_drop_149 : decode cX9_drop 149 = .ok (.iand, 1) := by decide +kernel
theorem dX9_drop_150 : decode cX9_drop 150 = .ok (.ifCond .ne 27, 3) := by decide +kernel
theorem dX9_drop_153 : decode cX9_drop 153 = .ok (.aload_n 0, 1) := by decide +kernel
theorem dX9_drop_154 : decode cX9_drop 154 = .ok (.getfield 28, 3) := by decide +kernel
theorem dX9_drop_157 : decode cX9_drop 157 = .ok (.iload 4, 2) := by decide +kernel
theorem dX9_drop_159 : decode cX9_drop 159 = .ok (.iaload, 1) := by decide +kernel
theorem dX9_drop_160 : decode cX9_drop 160 = .ok (.bipush (-4), 2) := by decide +kernel
theorem dX9_drop_162 : decode cX9_drop 162 = .ok (.if_icmp .eq 15, 3) := by decide +kernel
theorem dX9_drop_165 : decode cX9_drop 165 = .ok (.aload_n 0, 1) := by decide +kernel
theorem dX9_drop_166 : decode cX9_drop 166 = .ok (.getfield 28, 3) := by decide +kernel
theorem dX9_drop_169 : decode cX9_drop 169 = .ok (.iload 4, 2) := by decide +kernel
theorem dX9_drop_171 : decode cX9_drop 171 = .ok (.bipush (-4), 2) := by decide +kernel
theorem dX9_drop_173 : decode cX9_drop 173 = .ok (.iastore, 1) := by decide +kernel
theorem dX9_drop_174 : decode cX9_drop 174 = .ok (.iinc 3 1, 3) := by decide +kernel
theorem dX9_drop_177 : decode cX9_drop 177 = .ok (.iinc 4 1, 3) := by decide +kernel
theorem dX9_drop_180 : decode cX9_drop 180 = .ok (.goto (-45), 3) := by decide +kernel
theorem dX9_drop_183 : decode cX9_drop 183 = .ok (.iload_n 3, 1) := by decide +kernel
theorem dX9_drop_184 : decode cX9_drop 184 = .ok (.ireturn, 1) := by decide +kernel
theorem dX9_looks_0 : decode cX9_looks 0 = .ok (.aload_n 0, 1) := by decide +kernel
theorem dX9_looks_1 : decode cX9_looks 1 = .ok (.iconst 0, 1) := by decide +kernel
theorem dX9_looks_2 : decode cX9_looks 2 = .ok (.putfield 304, 3) := by decide +kernel
theorem dX9_looks_5 : decode cX9_looks 5 = .ok (.iconst 0, 1) := by decide +kernel
theorem dX9_looks_6 : decode cX9_looks 6 = .ok (.istore_n 2, 1) := by decide +kernel
theorem dX9_looks_7 : decode cX9_looks 7 = .ok (.iload_n 2, 1) := by decide +kernel
theorem dX9_looks_8 : decode cX9_looks 8 = .ok (.aload_n 0, 1) := by decide +kernel
theorem dX9_looks_9 : decode cX9_looks 9 = .ok (.getfield 92, 3) := by decide +kernel
theorem dX9_looks_12 : decode cX9_looks 12 = .ok (.if_icmp .ge 112, 3) := by decide +kernel
theorem dX9_looks_15 : decode cX9_looks 15 = .ok (.aload_n 0, 1) := by decide +kernel
theorem dX9_looks_16 : decode cX9_looks 16 = .ok (.getfield 304, 3) := by decide +kernel
theorem dX9_looks_19 : decode cX9_looks 19 = .ok (.bipush 12, 2) := by decide +kernel
theorem dX9_looks_21 : decode cX9_looks 21 = .ok (.if_icmp .ge 103, 3) := by decide +kernel
theorem dX9_looks_24 : decode cX9_looks 24 = .ok (.aload_n 0, 1) := by decide +kernel
theorem dX9_looks_25 : decode cX9_looks 25 = .ok (.iload_n 2, 1) := by decide +kernel
theorem dX9_looks_26 : decode cX9_looks 26 = .ok (.invokevirtual 257, 3) := by decide +kernel
theorem dX9_looks_29 : decode cX9_looks 29 = .ok (.ifCond .eq 89, 3) := by decide +kernel
theorem dX9_looks_32 : decode cX9_looks 32 = .ok (.aload_n 0, 1) := by decide +kernel
