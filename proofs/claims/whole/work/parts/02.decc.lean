theorem dX7_canChange_231 : decode cX7_canChange 231 = .ok (.ireturn, 1) := by decide +kernel
theorem dX7_canChange_232 : decode cX7_canChange 232 = .ok (.aload_n 0, 1) := by decide +kernel
theorem dX7_canChange_233 : decode cX7_canChange 233 = .ok (.iconst 0, 1) := by decide +kernel
theorem dX7_canChange_234 : decode cX7_canChange 234 = .ok (.putfield 99, 3) := by decide +kernel
theorem dX7_canChange_237 : decode cX7_canChange 237 = .ok (.aload_n 0, 1) := by decide +kernel
theorem dX7_canChange_238 : decode cX7_canChange 238 = .ok (.iload_n 1, 1) := by decide +kernel
theorem dX7_canChange_239 : decode cX7_canChange 239 = .ok (.invokevirtual 115, 3) := by decide +kernel
theorem dX7_canChange_242 : decode cX7_canChange 242 = .ok (.ifCond .ne 7, 3) := by decide +kernel
theorem dX7_canChange_245 : decode cX7_canChange 245 = .ok (.iconst 1, 1) := by decide +kernel
theorem dX7_canChange_246 : decode cX7_canChange 246 = .ok (.goto 4, 3) := by decide +kernel
theorem dX7_canChange_249 : decode cX7_canChange 249 = .ok (.iconst 0, 1) := by decide +kernel
theorem dX7_canChange_250 : decode cX7_canChange 250 = .ok (.ireturn, 1) := by decide +kernel
theorem dX7_canChange_251 : decode cX7_canChange 251 = .ok (.iconst 0, 1) := by decide +kernel
theorem dX7_canChange_252 : decode cX7_canChange 252 = .ok (.ireturn, 1) := by decide +kernel
theorem dX7_canReckon_0 : decode cX7_canReckon 0 = .ok (.aload_n 0, 1) := by decide +kernel
theorem dX7_canReckon_1 : decode cX7_canReckon 1 = .ok (.getfield 25, 3) := by decide +kernel
theorem dX7_canReckon_4 : decode cX7_canReckon 4 = .ok (.iload_n 1, 1) := by decide +kernel
theorem dX7_canReckon_5 : decode cX7_canReckon 5 = .ok (.iconst 0, 1) := by decide +kernel
theorem dX7_canReckon_6 : decode cX7_canReckon 6 = .ok (.invokevirtual 108, 3) := by decide +kernel
theorem dX7_canReckon_9 : decode cX7_canReckon 9 = .ok (.istore_n 2, 1) := by decide +kernel
theorem dX7_canReckon_10 : decode cX7_canReckon 10 = .ok (.aload_n 0, 1) := by decide +kernel
theorem dX7_canReckon_11 : decode cX7_canReckon 11 = .ok (.getfield 25, 3) := by decide +kernel
theorem dX7_canReckon_14 : decode cX7_canReckon 14 = .ok (.iload_n 1, 1) := by decide +kernel
theorem dX7_canReckon_15 : decode cX7_canReckon 15 = .ok (.iconst 1, 1) := by decide +kernel
theorem dX7_canReckon_16 : decode cX7_canReckon 16 = .ok (.invokevirtual 108, 3) := by decide +kernel
theorem dX7_canReckon_19 : decode cX7_canReckon 19 = .ok (.istore_n 3, 1) := by decide +kernel
theorem dX7_canReckon_20 : decode cX7_canReckon 20 = .ok (.aload_n 0, 1) := by decide +kernel
theorem dX7_canReckon_21 : decode cX7_canReckon 21 = .ok (.getfield 25, 3) := by decide +kernel
theorem dX7_canReckon_24 : decode cX7_canReckon 24 = .ok (.iload_n 2, 1) := by decide +kernel
theorem dX7_canReckon_25 : decode cX7_canReckon 25 = .ok (.invokevirtual 92, 3) := by decide +kernel
theorem dX7_canReckon_28 : decode cX7_canReckon 28 = .ok (.ifCond .ne 14, 3) := by decide +kernel
theorem dX7_canReckon_31 : decode cX7_canReckon 31 = .ok (.aload_n 0, 1) := by decide +kernel
theorem dX7_canReckon_32 : decode cX7_canReckon 32 = .ok (.getfield 25, 3) := by decide +kernel
theorem dX7_canReckon_35 : decode cX7_canReckon 35 = .ok (.iload_n 3, 1) := by decide +kernel
theorem dX7_canReckon_36 : decode cX7_canReckon 36 = .ok (.invokevirtual 92, 3) := by decide +kernel
theorem dX7_canReckon_39 : decode cX7_canReckon 39 = .ok (.ifCond .eq 5, 3) := by decide +kernel
theorem dX7_canReckon_42 : decode cX7_canReckon 42 = .ok (.iconst 0, 1) := by decide +kernel
theorem dX7_canReckon_43 : decode cX7_canReckon 43 = .ok (.ireturn, 1) := by decide +kernel
theorem dX7_canReckon_44 : decode cX7_canReckon 44 = .ok (.aload_n 0, 1) := by decide +kernel
theorem dX7_canReckon_45 : decode cX7_canReckon 45 = .ok (.aload_n 0, 1) := by decide +kernel
theorem dX7_canReckon_46 : decode cX7_canReckon 46 = .ok (.getfield 25, 3) := by decide +kernel
theorem dX7_canReckon_49 : decode cX7_canReckon 49 = .ok (.iload_n 1, 1) := by decide +kernel
theorem dX7_canReckon_50 : decode cX7_canReckon 50 = .ok (.invokevirtual 89, 3) := by decide +kernel
theorem dX7_canReckon_53 : decode cX7_canReckon 53 = .ok (.aload_n 0, 1) := by decide +kernel
theorem dX7_canReckon_54 : decode cX7_canReckon 54 = .ok (.getfield 25, 3) := by decide +kernel
theorem dX7_canReckon_57 : decode cX7_canReckon 57 = .ok (.iload_n 2, 1) := by decide +kernel
theorem dX7_canReckon_58 : decode cX7_canReckon 58 = .ok (.invokevirtual 89, 3) := by decide +kernel
theorem dX7_canReckon_61 : decode cX7_canReckon 61 = .ok (.aload_n 0, 1) := by decide +kernel
theorem dX7_canReckon_62 : decode cX7_canReckon 62 = .ok (.getfield 25, 3) := by decide +kernel
theorem dX7_canReckon_65 : decode cX7_canReckon 65 = .ok (.iload_n 3, 1) := by decide +kernel
theorem dX7_canReckon_66 : decode cX7_canReckon 66 = .ok (.invokevirtual 89, 3) := by decide +kernel
theorem dX7_canReckon_69 : decode cX7_canReckon 69 = .ok (.invokestatic 118, 3) := by decide +kernel
theorem dX7_canReckon_72 : decode cX7_canReckon 72 = .ok (.putfield 102, 3) := by decide +kernel
theorem dX7_canReckon_75 : decode cX7_canReckon 75 = .ok (.aload_n 0, 1) := by decide +kernel
theorem dX7_canReckon_76 : decode cX7_canReckon 76 = .ok (.getfield 25, 3) := by decide +kernel
theorem dX7_canReckon_79 : decode cX7_canReckon 79 = .ok (.iload_n 1, 1) := by decide +kernel
theorem dX7_canReckon_80 : decode cX7_canReckon 80 = .ok (.invokevirtual 89, 3) := by decide +kernel
theorem dX7_canReckon_83 : decode cX7_canReckon 83 = .ok (.iconst 3, 1) := by decide +kernel
theorem dX7_canReckon_84 : decode cX7_canReckon 84 = .ok (.if_icmp .ne 14, 3) := by decide +kernel
theorem dX7_canReckon_87 : decode cX7_canReckon 87 = .ok (.aload_n 0, 1) := by decide +kernel
theorem dX7_canReckon_88 : decode cX7_canReckon 88 = .ok (.getfield 25, 3) := by decide +kernel
theorem dX7_canReckon_91 : decode cX7_canReckon 91 = .ok (.iload_n 3, 1) := by decide +kernel
theorem dX7_canReckon_92 : decode cX7_canReckon 92 = .ok (.invokevirtual 89, 3) := by decide +kernel
theorem dX7_canReckon_95 : decode cX7_canReckon 95 = .ok (.ifCond .eq 7, 3) := by decide +kernel
theorem dX7_canReckon_98 : decode cX7_canReckon 98 = .ok (.iconst 1, 1) := by decide +kernel
theorem dX7_canReckon_99 : decode cX7_canReckon 99 = .ok (.goto 4, 3) := by decide +kernel
theorem dX7_canReckon_102 : decode cX7_canReckon 102 = .ok (.iconst 0, 1) := by decide +kernel
theorem dX7_canReckon_103 : decode cX7_canReckon 103 = .ok (.ireturn, 1) := by decide +kernel
theorem dX7_canFix_0 : decode cX7_canFix 0 = .ok (.aload_n 0, 1) := by decide +kernel
theorem dX7_canFix_1 : decode cX7_canFix 1 = .ok (.getfield 25, 3) := by decide +kernel
theorem dX7_canFix_4 : decode cX7_canFix 4 = .ok (.iload_n 1, 1) := by decide +kernel
theorem dX7_canFix_5 : decode cX7_canFix 5 = .ok (.iconst 0, 1) := by decide +kernel
theorem dX7_canFix_6 : decode cX7_canFix 6 = .ok (.invokevirtual 108, 3) := by decide +kernel
theorem dX7_canFix_9 : decode cX7_canFix 9 = .ok (.istore_n 3, 1) := by decide +kernel
theorem dX7_canFix_10 : decode cX7_canFix 10 = .ok (.aload_n 0, 1) := by decide +kernel
theorem dX7_canFix_11 : decode cX7_canFix 11 = .ok (.getfield 25, 3) := by decide +kernel
theorem dX7_canFix_14 : decode cX7_canFix 14 = .ok (.iload_n 3, 1) := by decide +kernel
theorem dX7_canFix_15 : decode cX7_canFix 15 = .ok (.invokevirtual 89, 3) := by decide +kernel
theorem dX7_canFix_18 : decode cX7_canFix 18 = .ok (.istore 4, 2) := by decide +kernel
theorem dX7_canFix_20 : decode cX7_canFix 20 = .ok (.aload_n 0, 1) := by decide +kernel
theorem dX7_canFix_21 : decode cX7_canFix 21 = .ok (.getfield 25, 3) := by decide +kernel
theorem dX7_canFix_24 : decode cX7_canFix 24 = .ok (.iload_n 3, 1) := by decide +kernel
theorem dX7_canFix_25 : decode cX7_canFix 25 = .ok (.iconst 0, 1) := by decide +kernel
theorem dX7_canFix_26 : decode cX7_canFix 26 = .ok (.invokevirtual 108, 3) := by decide +kernel
theorem dX7_canFix_29 : decode cX7_canFix 29 = .ok (.istore 5, 2) := by decide +kernel
theorem dX7_canFix_31 : decode cX7_canFix 31 = .ok (.aload_n 0, 1) := by decide +kernel
theorem dX7_canFix_32 : decode cX7_canFix 32 = .ok (.getfield 25, 3) := by decide +kernel
theorem dX7_canFix_35 : decode cX7_canFix 35 = .ok (.iload 5, 2) := by decide +kernel
theorem dX7_canFix_37 : decode cX7_canFix 37 = .ok (.invokevirtual 92, 3) := by decide +kernel
theorem dX7_canFix_40 : decode cX7_canFix 40 = .ok (.ifCond .ne 28, 3) := by decide +kernel
theorem dX7_canFix_43 : decode cX7_canFix 43 = .ok (.iload 4, 2) := by decide +kernel
theorem dX7_canFix_45 : decode cX7_canFix 45 = .ok (.iload_n 2, 1) := by decide +kernel
theorem dX7_canFix_46 : decode cX7_canFix 46 = .ok (.if_icmp .lt 22, 3) := by decide +kernel
theorem dX7_canFix_49 : decode cX7_canFix 49 = .ok (.iload 4, 2) := by decide +kernel
theorem dX7_canFix_51 : decode cX7_canFix 51 = .ok (.invokestatic 95, 3) := by decide +kernel
theorem dX7_canFix_54 : decode cX7_canFix 54 = .ok (.ifCond .eq 14, 3) := by decide +kernel
theorem dX7_canFix_57 : decode cX7_canFix 57 = .ok (.aload_n 0, 1) := by decide +kernel
theorem dX7_canFix_58 : decode cX7_canFix 58 = .ok (.getfield 18, 3) := by decide +kernel
theorem dX7_canFix_61 : decode cX7_canFix 61 = .ok (.iload 4, 2) := by decide +kernel
theorem dX7_canFix_63 : decode cX7_canFix 63 = .ok (.iaload, 1) := by decide +kernel
theorem dX7_canFix_64 : decode cX7_canFix 64 = .ok (.iconst 1, 1) := by decide +kernel
theorem dX7_canFix_65 : decode cX7_canFix 65 = .ok (.if_icmp .eq 5, 3) := by decide +kernel
theorem dX7_canFix_68 : decode cX7_canFix 68 = .ok (.iconst 0, 1) := by decide +kernel
theorem dX7_canFix_69 : decode cX7_canFix 69 = .ok (.ireturn, 1) := by decide +kernel
theorem dX7_canFix_70 : decode cX7_canFix 70 = .ok (.aload_n 0, 1) := by decide +kernel
theorem dX7_canFix_71 : decode cX7_canFix 71 = .ok (.getfield 12, 3) := by decide +kernel
theorem dX7_canFix_74 : decode cX7_canFix 74 = .ok (.aload_n 0, 1) := by decide +kernel
theorem dX7_canFix_75 : decode cX7_canFix 75 = .ok (.getfield 25, 3) := by decide +kernel
theorem dX7_canFix_78 : decode cX7_canFix 78 = .ok (.getfield 56, 3) := by decide +kernel
theorem dX7_canFix_81 : decode cX7_canFix 81 = .ok (.aload_n 0, 1) := by decide +kernel
theorem dX7_canFix_82 : decode cX7_canFix 82 = .ok (.getfield 25, 3) := by decide +kernel
theorem dX7_canFix_85 : decode cX7_canFix 85 = .ok (.iload_n 1, 1) := by decide +kernel
theorem dX7_canFix_86 : decode cX7_canFix 86 = .ok (.iconst 1, 1) := by decide +kernel
theorem dX7_canFix_87 : decode cX7_canFix 87 = .ok (.invokevirtual 108, 3) := by decide +kernel
theorem dX7_canFix_90 : decode cX7_canFix 90 = .ok (.invokevirtual 63, 3) := by decide +kernel
theorem dX7_canFix_93 : decode cX7_canFix 93 = .ok (.iconst 0, 1) := by decide +kernel
theorem dX7_canFix_94 : decode cX7_canFix 94 = .ok (.istore 6, 2) := by decide +kernel
theorem dX7_canFix_96 : decode cX7_canFix 96 = .ok (.iconst 0, 1) := by decide +kernel
theorem dX7_canFix_97 : decode cX7_canFix 97 = .ok (.istore 7, 2) := by decide +kernel
theorem dX7_canFix_99 : decode cX7_canFix 99 = .ok (.iload 7, 2) := by decide +kernel
theorem dX7_canFix_101 : decode cX7_canFix 101 = .ok (.aload_n 0, 1) := by decide +kernel
theorem dX7_canFix_102 : decode cX7_canFix 102 = .ok (.getfield 12, 3) := by decide +kernel
theorem dX7_canFix_105 : decode cX7_canFix 105 = .ok (.getfield 70, 3) := by decide +kernel
theorem dX7_canFix_108 : decode cX7_canFix 108 = .ok (.if_icmp .ge 38, 3) := by decide +kernel
theorem dX7_canFix_111 : decode cX7_canFix 111 = .ok (.iload 6, 2) := by decide +kernel
theorem dX7_canFix_113 : decode cX7_canFix 113 = .ok (.aload_n 0, 1) := by decide +kernel
theorem dX7_canFix_114 : decode cX7_canFix 114 = .ok (.aload_n 0, 1) := by decide +kernel
theorem dX7_canFix_115 : decode cX7_canFix 115 = .ok (.getfield 12, 3) := by decide +kernel
theorem dX7_canFix_118 : decode cX7_canFix 118 = .ok (.getfield 73, 3) := by decide +kernel
theorem dX7_canFix_121 : decode cX7_canFix 121 = .ok (.iload 7, 2) := by decide +kernel
theorem dX7_canFix_123 : decode cX7_canFix 123 = .ok (.iaload, 1) := by decide +kernel
theorem dX7_canFix_124 : decode cX7_canFix 124 = .ok (.iload 4, 2) := by decide +kernel
theorem dX7_canFix_126 : decode cX7_canFix 126 = .ok (.invokevirtual 122, 3) := by decide +kernel
theorem dX7_canFix_129 : decode cX7_canFix 129 = .ok (.ifCond .eq 7, 3) := by decide +kernel
theorem dX7_canFix_132 : decode cX7_canFix 132 = .ok (.iconst 1, 1) := by decide +kernel
theorem dX7_canFix_133 : decode cX7_canFix 133 = .ok (.goto 4, 3) := by decide +kernel
theorem dX7_canFix_136 : decode cX7_canFix 136 = .ok (.iconst 0, 1) := by decide +kernel
theorem dX7_canFix_137 : decode cX7_canFix 137 = .ok (.iadd, 1) := by decide +kernel
theorem dX7_canFix_138 : decode cX7_canFix 138 = .ok (.istore 6, 2) := by decide +kernel
theorem dX7_canFix_140 : decode cX7_canFix 140 = .ok (.iinc 7 1, 3) := by decide +kernel
theorem dX7_canFix_143 : decode cX7_canFix 143 = .ok (.goto (-44), 3) := by decide +kernel
theorem dX7_canFix_146 : decode cX7_canFix 146 = .ok (.aload_n 0, 1) := by decide +kernel
theorem dX7_canFix_147 : decode cX7_canFix 147 = .ok (.iload 4, 2) := by decide +kernel
theorem dX7_canFix_149 : decode cX7_canFix 149 = .ok (.putfield 45, 3) := by decide +kernel
theorem dX7_canFix_152 : decode cX7_canFix 152 = .ok (.aload_n 0, 1) := by decide +kernel
theorem dX7_canFix_153 : decode cX7_canFix 153 = .ok (.aload_n 0, 1) := by decide +kernel
theorem dX7_canFix_154 : decode cX7_canFix 154 = .ok (.getfield 25, 3) := by decide +kernel
theorem dX7_canFix_157 : decode cX7_canFix 157 = .ok (.iload 5, 2) := by decide +kernel
theorem dX7_canFix_159 : decode cX7_canFix 159 = .ok (.invokevirtual 89, 3) := by decide +kernel
theorem dX7_canFix_162 : decode cX7_canFix 162 = .ok (.putfield 102, 3) := by decide +kernel
theorem dX7_canFix_165 : decode cX7_canFix 165 = .ok (.iload 6, 2) := by decide +kernel
theorem dX7_canFix_167 : decode cX7_canFix 167 = .ok (.aload_n 0, 1) := by decide +kernel
theorem dX7_canFix_168 : decode cX7_canFix 168 = .ok (.getfield 22, 3) := by decide +kernel
theorem dX7_canFix_171 : decode cX7_canFix 171 = .ok (.iload 4, 2) := by decide +kernel
theorem dX7_canFix_173 : decode cX7_canFix 173 = .ok (.iaload, 1) := by decide +kernel
theorem dX7_canFix_174 : decode cX7_canFix 174 = .ok (.if_icmp .ne 7, 3) := by decide +kernel
theorem dX7_canFix_177 : decode cX7_canFix 177 = .ok (.iconst 1, 1) := by decide +kernel
theorem dX7_canFix_178 : decode cX7_canFix 178 = .ok (.goto 4, 3) := by decide +kernel
theorem dX7_canFix_181 : decode cX7_canFix 181 = .ok (.iconst 0, 1) := by decide +kernel
theorem dX7_canFix_182 : decode cX7_canFix 182 = .ok (.ireturn, 1) := by decide +kernel
theorem dX7_isNameStep_0 : decode cX7_isNameStep 0 = .ok (.aload_n 0, 1) := by decide +kernel
theorem dX7_isNameStep_1 : decode cX7_isNameStep 1 = .ok (.getfield 25, 3) := by decide +kernel
theorem dX7_isNameStep_4 : decode cX7_isNameStep 4 = .ok (.iload_n 1, 1) := by decide +kernel
theorem dX7_isNameStep_5 : decode cX7_isNameStep 5 = .ok (.invokevirtual 92, 3) := by decide +kernel
theorem dX7_isNameStep_8 : decode cX7_isNameStep 8 = .ok (.iconst 1, 1) := by decide +kernel
theorem dX7_isNameStep_9 : decode cX7_isNameStep 9 = .ok (.if_icmp .ne 19, 3) := by decide +kernel
theorem dX7_isNameStep_12 : decode cX7_isNameStep 12 = .ok (.aload_n 0, 1) := by decide +kernel
theorem dX7_isNameStep_13 : decode cX7_isNameStep 13 = .ok (.getfield 25, 3) := by decide +kernel
theorem dX7_isNameStep_16 : decode cX7_isNameStep 16 = .ok (.iload_n 1, 1) := by decide +kernel
theorem dX7_isNameStep_17 : decode cX7_isNameStep 17 = .ok (.invokevirtual 89, 3) := by decide +kernel
theorem dX7_isNameStep_20 : decode cX7_isNameStep 20 = .ok (.iload_n 2, 1) := by decide +kernel
theorem dX7_isNameStep_21 : decode cX7_isNameStep 21 = .ok (.if_icmp .ne 7, 3) := by decide +kernel
theorem dX7_isNameStep_24 : decode cX7_isNameStep 24 = .ok (.iconst 1, 1) := by decide +kernel
theorem dX7_isNameStep_25 : decode cX7_isNameStep 25 = .ok (.goto 4, 3) := by decide +kernel
theorem dX7_isNameStep_28 : decode cX7_isNameStep 28 = .ok (.iconst 0, 1) := by decide +kernel
theorem dX7_isNameStep_29 : decode cX7_isNameStep 29 = .ok (.ireturn, 1) := by decide +kernel
theorem dX7_isLeft_0 : decode cX7_isLeft 0 = .ok (.aload_n 0, 1) := by decide +kernel
theorem dX7_isLeft_1 : decode cX7_isLeft 1 = .ok (.getfield 12, 3) := by decide +kernel
theorem dX7_isLeft_4 : decode cX7_isLeft 4 = .ok (.aload_n 0, 1) := by decide +kernel
theorem dX7_isLeft_5 : decode cX7_isLeft 5 = .ok (.getfield 25, 3) := by decide +kernel
theorem dX7_isLeft_8 : decode cX7_isLeft 8 = .ok (.getfield 56, 3) := by decide +kernel
theorem dX7_isLeft_11 : decode cX7_isLeft 11 = .ok (.iload_n 1, 1) := by decide +kernel
theorem dX7_isLeft_12 : decode cX7_isLeft 12 = .ok (.invokevirtual 63, 3) := by decide +kernel
theorem dX7_isLeft_15 : decode cX7_isLeft 15 = .ok (.bipush 40, 2) := by decide +kernel
theorem dX7_isLeft_17 : decode cX7_isLeft 17 = .ok (.istore_n 2, 1) := by decide +kernel
theorem dX7_isLeft_18 : decode cX7_isLeft 18 = .ok (.iconst 1, 1) := by decide +kernel
theorem dX7_isLeft_19 : decode cX7_isLeft 19 = .ok (.istore_n 3, 1) := by decide +kernel
theorem dX7_isLeft_20 : decode cX7_isLeft 20 = .ok (.iload_n 3, 1) := by decide +kernel
theorem dX7_isLeft_21 : decode cX7_isLeft 21 = .ok (.aload_n 0, 1) := by decide +kernel
theorem dX7_isLeft_22 : decode cX7_isLeft 22 = .ok (.getfield 12, 3) := by decide +kernel
theorem dX7_isLeft_25 : decode cX7_isLeft 25 = .ok (.getfield 70, 3) := by decide +kernel
theorem dX7_isLeft_28 : decode cX7_isLeft 28 = .ok (.if_icmp .ge 71, 3) := by decide +kernel
theorem dX7_isLeft_31 : decode cX7_isLeft 31 = .ok (.aload_n 0, 1) := by decide +kernel
theorem dX7_isLeft_32 : decode cX7_isLeft 32 = .ok (.getfield 25, 3) := by decide +kernel
theorem dX7_isLeft_35 : decode cX7_isLeft 35 = .ok (.aload_n 0, 1) := by decide +kernel
theorem dX7_isLeft_36 : decode cX7_isLeft 36 = .ok (.getfield 12, 3) := by decide +kernel
theorem dX7_isLeft_39 : decode cX7_isLeft 39 = .ok (.getfield 73, 3) := by decide +kernel
theorem dX7_isLeft_42 : decode cX7_isLeft 42 = .ok (.iload_n 3, 1) := by decide +kernel
theorem dX7_isLeft_43 : decode cX7_isLeft 43 = .ok (.iaload, 1) := by decide +kernel
theorem dX7_isLeft_44 : decode cX7_isLeft 44 = .ok (.invokevirtual 92, 3) := by decide +kernel
theorem dX7_isLeft_47 : decode cX7_isLeft 47 = .ok (.istore 4, 2) := by decide +kernel
theorem dX7_isLeft_49 : decode cX7_isLeft 49 = .ok (.aload_n 0, 1) := by decide +kernel
theorem dX7_isLeft_50 : decode cX7_isLeft 50 = .ok (.getfield 12, 3) := by decide +kernel
theorem dX7_isLeft_53 : decode cX7_isLeft 53 = .ok (.getfield 125, 3) := by decide +kernel
theorem dX7_isLeft_56 : decode cX7_isLeft 56 = .ok (.iload_n 3, 1) := by decide +kernel
theorem dX7_isLeft_57 : decode cX7_isLeft 57 = .ok (.iaload, 1) := by decide +kernel
theorem dX7_isLeft_58 : decode cX7_isLeft 58 = .ok (.iload_n 2, 1) := by decide +kernel
theorem dX7_isLeft_59 : decode cX7_isLeft 59 = .ok (.if_icmp .gt 34, 3) := by decide +kernel
theorem dX7_isLeft_62 : decode cX7_isLeft 62 = .ok (.iload 4, 2) := by decide +kernel
theorem dX7_isLeft_64 : decode cX7_isLeft 64 = .ok (.bipush 11, 2) := by decide +kernel
theorem dX7_isLeft_66 : decode cX7_isLeft 66 = .ok (.if_icmp .ne 15, 3) := by decide +kernel
theorem dX7_isLeft_69 : decode cX7_isLeft 69 = .ok (.aload_n 0, 1) := by decide +kernel
theorem dX7_isLeft_70 : decode cX7_isLeft 70 = .ok (.getfield 12, 3) := by decide +kernel
theorem dX7_isLeft_73 : decode cX7_isLeft 73 = .ok (.getfield 125, 3) := by decide +kernel
theorem dX7_isLeft_76 : decode cX7_isLeft 76 = .ok (.iload_n 3, 1) := by decide +kernel
theorem dX7_isLeft_77 : decode cX7_isLeft 77 = .ok (.iaload, 1) := by decide +kernel
theorem dX7_isLeft_78 : decode cX7_isLeft 78 = .ok (.goto 5, 3) := by decide +kernel
theorem dX7_isLeft_81 : decode cX7_isLeft 81 = .ok (.bipush 40, 2) := by decide +kernel
theorem dX7_isLeft_83 : decode cX7_isLeft 83 = .ok (.istore_n 2, 1) := by decide +kernel
theorem dX7_isLeft_84 : decode cX7_isLeft 84 = .ok (.iload 4, 2) := by decide +kernel
theorem dX7_isLeft_86 : decode cX7_isLeft 86 = .ok (.bipush 7, 2) := by decide +kernel
theorem dX7_isLeft_88 : decode cX7_isLeft 88 = .ok (.if_icmp .ne 5, 3) := by decide +kernel
theorem dX7_isLeft_91 : decode cX7_isLeft 91 = .ok (.iconst 1, 1) := by decide +kernel
theorem dX7_isLeft_92 : decode cX7_isLeft 92 = .ok (.ireturn, 1) := by decide +kernel
theorem dX7_isLeft_93 : decode cX7_isLeft 93 = .ok (.iinc 3 1, 3) := by decide +kernel
theorem dX7_isLeft_96 : decode cX7_isLeft 96 = .ok (.goto (-76), 3) := by decide +kernel
theorem dX7_isLeft_99 : decode cX7_isLeft 99 = .ok (.iconst 0, 1) := by decide +kernel
theorem dX7_isLeft_100 : decode cX7_isLeft 100 = .ok (.ireturn, 1) := by decide +kernel
theorem dX7_change_0 : decode cX7_change 0 = .ok (.aload_n 0, 1) := by decide +kernel
theorem dX7_change_1 : decode cX7_change 1 = .ok (.getfield 99, 3) := by decide +kernel
theorem dX7_change_4 : decode cX7_change 4 = .ok (.bipush (-4), 2) := by decide +kernel
theorem dX7_change_6 : decode cX7_change 6 = .ok (.if_icmp .ne 9, 3) := by decide +kernel
theorem dX7_change_9 : decode cX7_change 9 = .ok (.aload_n 0, 1) := by decide +kernel
theorem dX7_change_10 : decode cX7_change 10 = .ok (.iload_n 1, 1) := by decide +kernel
theorem dX7_change_11 : decode cX7_change 11 = .ok (.invokevirtual 128, 3) := by decide +kernel
theorem dX7_change_14 : decode cX7_change 14 = .ok (.return_, 1) := by decide +kernel
theorem dX7_change_15 : decode cX7_change 15 = .ok (.aload_n 0, 1) := by decide +kernel
theorem dX7_change_16 : decode cX7_change 16 = .ok (.getfield 25, 3) := by decide +kernel
theorem dX7_change_19 : decode cX7_change 19 = .ok (.iload_n 1, 1) := by decide +kernel
theorem dX7_change_20 : decode cX7_change 20 = .ok (.aload_n 0, 1) := by decide +kernel
theorem dX7_change_21 : decode cX7_change 21 = .ok (.getfield 25, 3) := by decide +kernel
theorem dX7_change_24 : decode cX7_change 24 = .ok (.iload_n 1, 1) := by decide +kernel
theorem dX7_change_25 : decode cX7_change 25 = .ok (.aload_n 0, 1) := by decide +kernel
theorem dX7_change_26 : decode cX7_change 26 = .ok (.getfield 99, 3) := by decide +kernel
theorem dX7_change_29 : decode cX7_change 29 = .ok (.invokevirtual 108, 3) := by decide +kernel
theorem dX7_change_32 : decode cX7_change 32 = .ok (.invokevirtual 131, 3) := by decide +kernel
theorem dX7_change_35 : decode cX7_change 35 = .ok (.aload_n 0, 1) := by decide +kernel
theorem dX7_change_36 : decode cX7_change 36 = .ok (.getfield 25, 3) := by decide +kernel
theorem dX7_change_39 : decode cX7_change 39 = .ok (.iload_n 1, 1) := by decide +kernel
theorem dX7_change_40 : decode cX7_change 40 = .ok (.invokevirtual 135, 3) := by decide +kernel
theorem dX7_change_43 : decode cX7_change 43 = .ok (.return_, 1) := by decide +kernel
theorem dX7_namesBecomeNumbers_0 : decode cX7_namesBecomeNumbers 0 = .ok (.iconst 0, 1) := by decide +kernel
theorem dX7_namesBecomeNumbers_1 : decode cX7_namesBecomeNumbers 1 = .ok (.istore_n 1, 1) := by decide +kernel
theorem dX7_namesBecomeNumbers_2 : decode cX7_namesBecomeNumbers 2 = .ok (.iload_n 1, 1) := by decide +kernel
theorem dX7_namesBecomeNumbers_3 : decode cX7_namesBecomeNumbers 3 = .ok (.aload_n 0, 1) := by decide +kernel
theorem dX7_namesBecomeNumbers_4 : decode cX7_namesBecomeNumbers 4 = .ok (.getfield 12, 3) := by decide +kernel
theorem dX7_namesBecomeNumbers_7 : decode cX7_namesBecomeNumbers 7 = .ok (.getfield 70, 3) := by decide +kernel
theorem dX7_namesBecomeNumbers_10 : decode cX7_namesBecomeNumbers 10 = .ok (.if_icmp .ge 49, 3) := by decide +kernel
theorem dX7_namesBecomeNumbers_13 : decode cX7_namesBecomeNumbers 13 = .ok (.aload_n 0, 1) := by decide +kernel
theorem dX7_namesBecomeNumbers_14 : decode cX7_namesBecomeNumbers 14 = .ok (.getfield 37, 3) := by decide +kernel
theorem dX7_namesBecomeNumbers_17 : decode cX7_namesBecomeNumbers 17 = .ok (.ifCond .ne 42, 3) := by decide +kernel
theorem dX7_namesBecomeNumbers_20 : decode cX7_namesBecomeNumbers 20 = .ok (.aload_n 0, 1) := by decide +kernel
theorem dX7_namesBecomeNumbers_21 : decode cX7_namesBecomeNumbers 21 = .ok (.aload_n 0, 1) := by decide +kernel
theorem dX7_namesBecomeNumbers_22 : decode cX7_namesBecomeNumbers 22 = .ok (.getfield 12, 3) := by decide +kernel
theorem dX7_namesBecomeNumbers_25 : decode cX7_namesBecomeNumbers 25 = .ok (.getfield 73, 3) := by decide +kernel
theorem dX7_namesBecomeNumbers_28 : decode cX7_namesBecomeNumbers 28 = .ok (.iload_n 1, 1) := by decide +kernel
theorem dX7_namesBecomeNumbers_29 : decode cX7_namesBecomeNumbers 29 = .ok (.iaload, 1) := by decide +kernel
theorem dX7_namesBecomeNumbers_30 : decode cX7_namesBecomeNumbers 30 = .ok (.aload_n 0, 1) := by decide +kernel
theorem dX7_namesBecomeNumbers_31 : decode cX7_namesBecomeNumbers 31 = .ok (.getfield 45, 3) := by decide +kernel
theorem dX7_namesBecomeNumbers_34 : decode cX7_namesBecomeNumbers 34 = .ok (.invokevirtual 122, 3) := by decide +kernel
theorem dX7_namesBecomeNumbers_37 : decode cX7_namesBecomeNumbers 37 = .ok (.ifCond .eq 16, 3) := by decide +kernel
theorem dX7_namesBecomeNumbers_40 : decode cX7_namesBecomeNumbers 40 = .ok (.aload_n 0, 1) := by decide +kernel
theorem dX7_namesBecomeNumbers_41 : decode cX7_namesBecomeNumbers 41 = .ok (.aload_n 0, 1) := by decide +kernel
theorem dX7_namesBecomeNumbers_42 : decode cX7_namesBecomeNumbers 42 = .ok (.getfield 12, 3) := by decide +kernel
theorem dX7_namesBecomeNumbers_45 : decode cX7_namesBecomeNumbers 45 = .ok (.getfield 73, 3) := by decide +kernel
theorem dX7_namesBecomeNumbers_48 : decode cX7_namesBecomeNumbers 48 = .ok (.iload_n 1, 1) := by decide +kernel
theorem dX7_namesBecomeNumbers_49 : decode cX7_namesBecomeNumbers 49 = .ok (.iaload, 1) := by decide +kernel
theorem dX7_namesBecomeNumbers_50 : decode cX7_namesBecomeNumbers 50 = .ok (.invokevirtual 128, 3) := by decide +kernel
theorem dX7_namesBecomeNumbers_53 : decode cX7_namesBecomeNumbers 53 = .ok (.iinc 1 1, 3) := by decide +kernel
theorem dX7_namesBecomeNumbers_56 : decode cX7_namesBecomeNumbers 56 = .ok (.goto (-54), 3) := by decide +kernel
theorem dX7_namesBecomeNumbers_59 : decode cX7_namesBecomeNumbers 59 = .ok (.return_, 1) := by decide +kernel
theorem dX7_becomeNumber_0 : decode cX7_becomeNumber 0 = .ok (.aload_n 0, 1) := by decide +kernel
theorem dX7_becomeNumber_1 : decode cX7_becomeNumber 1 = .ok (.getfield 25, 3) := by decide +kernel
theorem dX7_becomeNumber_4 : decode cX7_becomeNumber 4 = .ok (.iconst 0, 1) := by decide +kernel
theorem dX7_becomeNumber_5 : decode cX7_becomeNumber 5 = .ok (.aload_n 0, 1) := by decide +kernel
theorem dX7_becomeNumber_6 : decode cX7_becomeNumber 6 = .ok (.getfield 102, 3) := by decide +kernel
theorem dX7_becomeNumber_9 : decode cX7_becomeNumber 9 = .ok (.invokevirtual 138, 3) := by decide +kernel
theorem dX7_becomeNumber_12 : decode cX7_becomeNumber 12 = .ok (.istore_n 2, 1) := by decide +kernel
theorem dX7_becomeNumber_13 : decode cX7_becomeNumber 13 = .ok (.iload_n 2, 1) := by decide +kernel
theorem dX7_becomeNumber_14 : decode cX7_becomeNumber 14 = .ok (.bipush (-4), 2) := by decide +kernel
theorem dX7_becomeNumber_16 : decode cX7_becomeNumber 16 = .ok (.if_icmp .ne 9, 3) := by decide +kernel
theorem dX7_becomeNumber_19 : decode cX7_becomeNumber 19 = .ok (.aload_n 0, 1) := by decide +kernel
theorem dX7_becomeNumber_20 : decode cX7_becomeNumber 20 = .ok (.iconst 1, 1) := by decide +kernel
theorem dX7_becomeNumber_21 : decode cX7_becomeNumber 21 = .ok (.putfield 37, 3) := by decide +kernel
theorem dX7_becomeNumber_24 : decode cX7_becomeNumber 24 = .ok (.return_, 1) := by decide +kernel
theorem dX7_becomeNumber_25 : decode cX7_becomeNumber 25 = .ok (.aload_n 0, 1) := by decide +kernel
theorem dX7_becomeNumber_26 : decode cX7_becomeNumber 26 = .ok (.getfield 25, 3) := by decide +kernel
theorem dX7_becomeNumber_29 : decode cX7_becomeNumber 29 = .ok (.iload_n 1, 1) := by decide +kernel
theorem dX7_becomeNumber_30 : decode cX7_becomeNumber 30 = .ok (.iload_n 2, 1) := by decide +kernel
theorem dX7_becomeNumber_31 : decode cX7_becomeNumber 31 = .ok (.invokevirtual 131, 3) := by decide +kernel
theorem dX7_becomeNumber_34 : decode cX7_becomeNumber 34 = .ok (.aload_n 0, 1) := by decide +kernel
theorem dX7_becomeNumber_35 : decode cX7_becomeNumber 35 = .ok (.getfield 25, 3) := by decide +kernel
theorem dX7_becomeNumber_38 : decode cX7_becomeNumber 38 = .ok (.iload_n 1, 1) := by decide +kernel
theorem dX7_becomeNumber_39 : decode cX7_becomeNumber 39 = .ok (.invokevirtual 135, 3) := by decide +kernel
theorem dX7_becomeNumber_42 : decode cX7_becomeNumber 42 = .ok (.return_, 1) := by decide +kernel
theorem dX8_init_0 : decode cX8_init 0 = .ok (.aload_n 0, 1) := by decide +kernel
theorem dX8_init_1 : decode cX8_init 1 = .ok (.invokespecial 1, 3) := by decide +kernel
theorem dX8_init_4 : decode cX8_init 4 = .ok (.aload_n 0, 1) := by decide +kernel
theorem dX8_init_5 : decode cX8_init 5 = .ok (.new 7, 3) := by decide +kernel
theorem dX8_init_8 : decode cX8_init 8 = .ok (.dup, 1) := by decide +kernel
theorem dX8_init_9 : decode cX8_init 9 = .ok (.invokespecial 9, 3) := by decide +kernel
theorem dX8_init_12 : decode cX8_init 12 = .ok (.putfield 10, 3) := by decide +kernel
theorem dX8_init_15 : decode cX8_init 15 = .ok (.aload_n 0, 1) := by decide +kernel
theorem dX8_init_16 : decode cX8_init 16 = .ok (.new 16, 3) := by decide +kernel
theorem dX8_init_19 : decode cX8_init 19 = .ok (.dup, 1) := by decide +kernel
theorem dX8_init_20 : decode cX8_init 20 = .ok (.aload_n 0, 1) := by decide +kernel
theorem dX8_init_21 : decode cX8_init 21 = .ok (.getfield 10, 3) := by decide +kernel
theorem dX8_init_24 : decode cX8_init 24 = .ok (.invokespecial 18, 3) := by decide +kernel
theorem dX8_init_27 : decode cX8_init 27 = .ok (.putfield 21, 3) := by decide +kernel
theorem dX8_init_30 : decode cX8_init 30 = .ok (.aload_n 0, 1) := by decide +kernel
theorem dX8_init_31 : decode cX8_init 31 = .ok (.new 25, 3) := by decide +kernel
theorem dX8_init_34 : decode cX8_init 34 = .ok (.dup, 1) := by decide +kernel
theorem dX8_init_35 : decode cX8_init 35 = .ok (.aload_n 0, 1) := by decide +kernel
theorem dX8_init_36 : decode cX8_init 36 = .ok (.getfield 10, 3) := by decide +kernel
theorem dX8_init_39 : decode cX8_init 39 = .ok (.invokespecial 27, 3) := by decide +kernel
theorem dX8_init_42 : decode cX8_init 42 = .ok (.putfield 28, 3) := by decide +kernel
theorem dX8_init_45 : decode cX8_init 45 = .ok (.aload_n 0, 1) := by decide +kernel
theorem dX8_init_46 : decode cX8_init 46 = .ok (.new 32, 3) := by decide +kernel
theorem dX8_init_49 : decode cX8_init 49 = .ok (.dup, 1) := by decide +kernel
theorem dX8_init_50 : decode cX8_init 50 = .ok (.aload_n 0, 1) := by decide +kernel
theorem dX8_init_51 : decode cX8_init 51 = .ok (.getfield 10, 3) := by decide +kernel
theorem dX8_init_54 : decode cX8_init 54 = .ok (.invokespecial 34, 3) := by decide +kernel
theorem dX8_init_57 : decode cX8_init 57 = .ok (.putfield 35, 3) := by decide +kernel
theorem dX8_init_60 : decode cX8_init 60 = .ok (.aload_n 0, 1) := by decide +kernel
theorem dX8_init_61 : decode cX8_init 61 = .ok (.new 39, 3) := by decide +kernel
theorem dX8_init_64 : decode cX8_init 64 = .ok (.dup, 1) := by decide +kernel
theorem dX8_init_65 : decode cX8_init 65 = .ok (.invokespecial 41, 3) := by decide +kernel
theorem dX8_init_68 : decode cX8_init 68 = .ok (.putfield 42, 3) := by decide +kernel
theorem dX8_init_71 : decode cX8_init 71 = .ok (.aload_n 0, 1) := by decide +kernel
theorem dX8_init_72 : decode cX8_init 72 = .ok (.new 46, 3) := by decide +kernel
theorem dX8_init_75 : decode cX8_init 75 = .ok (.dup, 1) := by decide +kernel
theorem dX8_init_76 : decode cX8_init 76 = .ok (.aload_n 0, 1) := by decide +kernel
theorem dX8_init_77 : decode cX8_init 77 = .ok (.getfield 10, 3) := by decide +kernel
theorem dX8_init_80 : decode cX8_init 80 = .ok (.aload_n 0, 1) := by decide +kernel
theorem dX8_init_81 : decode cX8_init 81 = .ok (.getfield 28, 3) := by decide +kernel
theorem dX8_init_84 : decode cX8_init 84 = .ok (.aload_n 0, 1) := by decide +kernel
theorem dX8_init_85 : decode cX8_init 85 = .ok (.getfield 21, 3) := by decide +kernel
theorem dX8_init_88 : decode cX8_init 88 = .ok (.invokespecial 48, 3) := by decide +kernel
theorem dX8_init_91 : decode cX8_init 91 = .ok (.putfield 51, 3) := by decide +kernel
theorem dX8_init_94 : decode cX8_init 94 = .ok (.return_, 1) := by decide +kernel
theorem dX8_number_0 : decode cX8_number 0 = .ok (.aload_n 0, 1) := by decide +kernel
theorem dX8_number_1 : decode cX8_number 1 = .ok (.iconst 0, 1) := by decide +kernel
theorem dX8_number_2 : decode cX8_number 2 = .ok (.iload_n 1, 1) := by decide +kernel
theorem dX8_number_3 : decode cX8_number 3 = .ok (.iconst 0, 1) := by decide +kernel
theorem dX8_number_4 : decode cX8_number 4 = .ok (.bipush (-4), 2) := by decide +kernel
theorem dX8_number_6 : decode cX8_number 6 = .ok (.bipush (-4), 2) := by decide +kernel
theorem dX8_number_8 : decode cX8_number 8 = .ok (.bipush (-4), 2) := by decide +kernel
theorem dX8_number_10 : decode cX8_number 10 = .ok (.invokevirtual 55, 3) := by decide +kernel
theorem dX8_number_13 : decode cX8_number 13 = .ok (.ireturn, 1) := by decide +kernel
theorem dX8_name_0 : decode cX8_name 0 = .ok (.iload_n 1, 1) := by decide +kernel
theorem dX8_name_1 : decode cX8_name 1 = .ok (.invokestatic 59, 3) := by decide +kernel
theorem dX8_name_4 : decode cX8_name 4 = .ok (.ifCond .eq 19, 3) := by decide +kernel
theorem dX8_name_7 : decode cX8_name 7 = .ok (.aload_n 0, 1) := by decide +kernel
theorem dX8_name_8 : decode cX8_name 8 = .ok (.iconst 1, 1) := by decide +kernel
theorem dX8_name_9 : decode cX8_name 9 = .ok (.iload_n 1, 1) := by decide +kernel
theorem dX8_name_10 : decode cX8_name 10 = .ok (.iconst 0, 1) := by decide +kernel
theorem dX8_name_11 : decode cX8_name 11 = .ok (.bipush (-4), 2) := by decide +kernel
theorem dX8_name_13 : decode cX8_name 13 = .ok (.bipush (-4), 2) := by decide +kernel
theorem dX8_name_15 : decode cX8_name 15 = .ok (.bipush (-4), 2) := by decide +kernel
theorem dX8_name_17 : decode cX8_name 17 = .ok (.invokevirtual 55, 3) := by decide +kernel
theorem dX8_name_20 : decode cX8_name 20 = .ok (.goto 4, 3) := by decide +kernel
theorem dX8_name_23 : decode cX8_name 23 = .ok (.iconst (-1), 1) := by decide +kernel
theorem dX8_name_24 : decode cX8_name 24 = .ok (.ireturn, 1) := by decide +kernel
theorem dX8_act_0 : decode cX8_act 0 = .ok (.iload_n 1, 1) := by decide +kernel
theorem dX8_act_1 : decode cX8_act 1 = .ok (.ifCond .lt 22, 3) := by decide +kernel
theorem dX8_act_4 : decode cX8_act 4 = .ok (.iload_n 1, 1) := by decide +kernel
theorem dX8_act_5 : decode cX8_act 5 = .ok (.iconst 5, 1) := by decide +kernel
theorem dX8_act_6 : decode cX8_act 6 = .ok (.if_icmp .gt 17, 3) := by decide +kernel
theorem dX8_act_9 : decode cX8_act 9 = .ok (.aload_n 0, 1) := by decide +kernel
theorem dX8_act_10 : decode cX8_act 10 = .ok (.iconst 2, 1) := by decide +kernel
theorem dX8_act_11 : decode cX8_act 11 = .ok (.iload_n 1, 1) := by decide +kernel
theorem dX8_act_12 : decode cX8_act 12 = .ok (.iconst 2, 1) := by decide +kernel
theorem dX8_act_13 : decode cX8_act 13 = .ok (.iload_n 2, 1) := by decide +kernel
theorem dX8_act_14 : decode cX8_act 14 = .ok (.iload_n 3, 1) := by decide +kernel
theorem dX8_act_15 : decode cX8_act 15 = .ok (.bipush (-4), 2) := by decide +kernel
theorem dX8_act_17 : decode cX8_act 17 = .ok (.invokevirtual 55, 3) := by decide +kernel
theorem dX8_act_20 : decode cX8_act 20 = .ok (.goto 4, 3) := by decide +kernel
theorem dX8_act_23 : decode cX8_act 23 = .ok (.iconst (-1), 1) := by decide +kernel
theorem dX8_act_24 : decode cX8_act 24 = .ok (.ireturn, 1) := by decide +kernel
theorem dX8_join_0 : decode cX8_join 0 = .ok (.iload_n 1, 1) := by decide +kernel
theorem dX8_join_1 : decode cX8_join 1 = .ok (.tableswitch 85 3 10 #[47, 85, 59, 85, 72, 59, 72, 59], 47) := by decide +kernel
theorem dX8_join_48 : decode cX8_join 48 = .ok (.aload_n 0, 1) := by decide +kernel
theorem dX8_join_49 : decode cX8_join 49 = .ok (.iload_n 1, 1) := by decide +kernel
theorem dX8_join_50 : decode cX8_join 50 = .ok (.iconst 0, 1) := by decide +kernel
theorem dX8_join_51 : decode cX8_join 51 = .ok (.iconst 3, 1) := by decide +kernel
theorem dX8_join_52 : decode cX8_join 52 = .ok (.iload_n 2, 1) := by decide +kernel
theorem dX8_join_53 : decode cX8_join 53 = .ok (.iload_n 3, 1) := by decide +kernel
theorem dX8_join_54 : decode cX8_join 54 = .ok (.iload 4, 2) := by decide +kernel
theorem dX8_join_56 : decode cX8_join 56 = .ok (.invokevirtual 55, 3) := by decide +kernel
theorem dX8_join_59 : decode cX8_join 59 = .ok (.ireturn, 1) := by decide +kernel
theorem dX8_join_60 : decode cX8_join 60 = .ok (.aload_n 0, 1) := by decide +kernel
theorem dX8_join_61 : decode cX8_join 61 = .ok (.iload_n 1, 1) := by decide +kernel
theorem dX8_join_62 : decode cX8_join 62 = .ok (.iconst 0, 1) := by decide +kernel
theorem dX8_join_63 : decode cX8_join 63 = .ok (.iconst 2, 1) := by decide +kernel
theorem dX8_join_64 : decode cX8_join 64 = .ok (.iload_n 3, 1) := by decide +kernel
theorem dX8_join_65 : decode cX8_join 65 = .ok (.iload 4, 2) := by decide +kernel
theorem dX8_join_67 : decode cX8_join 67 = .ok (.bipush (-4), 2) := by decide +kernel
theorem dX8_join_69 : decode cX8_join 69 = .ok (.invokevirtual 55, 3) := by decide +kernel
theorem dX8_join_72 : decode cX8_join 72 = .ok (.ireturn, 1) := by decide +kernel
theorem dX8_join_73 : decode cX8_join 73 = .ok (.aload_n 0, 1) := by decide +kernel
theorem dX8_join_74 : decode cX8_join 74 = .ok (.iload_n 1, 1) := by decide +kernel
theorem dX8_join_75 : decode cX8_join 75 = .ok (.iconst 0, 1) := by decide +kernel
theorem dX8_join_76 : decode cX8_join 76 = .ok (.iconst 1, 1) := by decide +kernel
theorem dX8_join_77 : decode cX8_join 77 = .ok (.iload_n 3, 1) := by decide +kernel
theorem dX8_join_78 : decode cX8_join 78 = .ok (.bipush (-4), 2) := by decide +kernel
theorem dX8_join_80 : decode cX8_join 80 = .ok (.bipush (-4), 2) := by decide +kernel
theorem dX8_join_82 : decode cX8_join 82 = .ok (.invokevirtual 55, 3) := by decide +kernel
theorem dX8_join_85 : decode cX8_join 85 = .ok (.ireturn, 1) := by decide +kernel
theorem dX8_join_86 : decode cX8_join 86 = .ok (.iconst (-1), 1) := by decide +kernel
theorem dX8_join_87 : decode cX8_join 87 = .ok (.ireturn, 1) := by decide +kernel
theorem dX8_set_0 : decode cX8_set 0 = .ok (.iload_n 1, 1) := by decide +kernel
theorem dX8_set_1 : decode cX8_set 1 = .ok (.invokestatic 59, 3) := by decide +kernel
theorem dX8_set_4 : decode cX8_set 4 = .ok (.ifCond .eq 18, 3) := by decide +kernel
theorem dX8_set_7 : decode cX8_set 7 = .ok (.aload_n 0, 1) := by decide +kernel
theorem dX8_set_8 : decode cX8_set 8 = .ok (.iconst 4, 1) := by decide +kernel
theorem dX8_set_9 : decode cX8_set 9 = .ok (.iload_n 1, 1) := by decide +kernel
theorem dX8_set_10 : decode cX8_set 10 = .ok (.iconst 1, 1) := by decide +kernel
theorem dX8_set_11 : decode cX8_set 11 = .ok (.iload_n 2, 1) := by decide +kernel
theorem dX8_set_12 : decode cX8_set 12 = .ok (.bipush (-4), 2) := by decide +kernel
theorem dX8_set_14 : decode cX8_set 14 = .ok (.bipush (-4), 2) := by decide +kernel
theorem dX8_set_16 : decode cX8_set 16 = .ok (.invokevirtual 55, 3) := by decide +kernel
theorem dX8_set_19 : decode cX8_set 19 = .ok (.goto 4, 3) := by decide +kernel
theorem dX8_set_22 : decode cX8_set 22 = .ok (.iconst (-1), 1) := by decide +kernel
theorem dX8_set_23 : decode cX8_set 23 = .ok (.ireturn, 1) := by decide +kernel
theorem dX8_call_0 : decode cX8_call 0 = .ok (.aload_n 0, 1) := by decide +kernel
theorem dX8_call_1 : decode cX8_call 1 = .ok (.getfield 10, 3) := by decide +kernel
theorem dX8_call_4 : decode cX8_call 4 = .ok (.iload_n 1, 1) := by decide +kernel
theorem dX8_call_5 : decode cX8_call 5 = .ok (.invokevirtual 63, 3) := by decide +kernel
theorem dX8_call_8 : decode cX8_call 8 = .ok (.ifCond .eq 25, 3) := by decide +kernel
theorem dX8_call_11 : decode cX8_call 11 = .ok (.aload_n 0, 1) := by decide +kernel
theorem dX8_call_12 : decode cX8_call 12 = .ok (.bipush 6, 2) := by decide +kernel
theorem dX8_call_14 : decode cX8_call 14 = .ok (.iload_n 1, 1) := by decide +kernel
theorem dX8_call_15 : decode cX8_call 15 = .ok (.aload_n 0, 1) := by decide +kernel
theorem dX8_call_16 : decode cX8_call 16 = .ok (.getfield 10, 3) := by decide +kernel
theorem dX8_call_19 : decode cX8_call 19 = .ok (.iload_n 1, 1) := by decide +kernel
theorem dX8_call_20 : decode cX8_call 20 = .ok (.invokevirtual 66, 3) := by decide +kernel
theorem dX8_call_23 : decode cX8_call 23 = .ok (.iload_n 2, 1) := by decide +kernel
theorem dX8_call_24 : decode cX8_call 24 = .ok (.iload_n 3, 1) := by decide +kernel
theorem dX8_call_25 : decode cX8_call 25 = .ok (.iload 4, 2) := by decide +kernel
theorem dX8_call_27 : decode cX8_call 27 = .ok (.invokevirtual 55, 3) := by decide +kernel
theorem dX8_call_30 : decode cX8_call 30 = .ok (.goto 4, 3) := by decide +kernel
theorem dX8_call_33 : decode cX8_call 33 = .ok (.iconst (-1), 1) := by decide +kernel
theorem dX8_call_34 : decode cX8_call 34 = .ok (.ireturn, 1) := by decide +kernel
theorem dX8_routine_0 : decode cX8_routine 0 = .ok (.iload_n 1, 1) := by decide +kernel
theorem dX8_routine_1 : decode cX8_routine 1 = .ok (.ifCond .lt 8, 3) := by decide +kernel
theorem dX8_routine_4 : decode cX8_routine 4 = .ok (.iload_n 1, 1) := by decide +kernel
theorem dX8_routine_5 : decode cX8_routine 5 = .ok (.iconst 3, 1) := by decide +kernel
theorem dX8_routine_6 : decode cX8_routine 6 = .ok (.if_icmp .le 5, 3) := by decide +kernel
theorem dX8_routine_9 : decode cX8_routine 9 = .ok (.iconst (-1), 1) := by decide +kernel
theorem dX8_routine_10 : decode cX8_routine 10 = .ok (.ireturn, 1) := by decide +kernel
theorem dX8_routine_11 : decode cX8_routine 11 = .ok (.aload_n 0, 1) := by decide +kernel
theorem dX8_routine_12 : decode cX8_routine 12 = .ok (.getfield 10, 3) := by decide +kernel
theorem dX8_routine_15 : decode cX8_routine 15 = .ok (.iload_n 1, 1) := by decide +kernel
theorem dX8_routine_16 : decode cX8_routine 16 = .ok (.invokevirtual 70, 3) := by decide +kernel
theorem dX8_routine_19 : decode cX8_routine 19 = .ok (.istore_n 2, 1) := by decide +kernel
theorem dX8_routine_20 : decode cX8_routine 20 = .ok (.iload_n 2, 1) := by decide +kernel
theorem dX8_routine_21 : decode cX8_routine 21 = .ok (.bipush (-4), 2) := by decide +kernel
theorem dX8_routine_23 : decode cX8_routine 23 = .ok (.if_icmp .ne 6, 3) := by decide +kernel
theorem dX8_routine_26 : decode cX8_routine 26 = .ok (.bipush (-3), 2) := by decide +kernel
theorem dX8_routine_28 : decode cX8_routine 28 = .ok (.ireturn, 1) := by decide +kernel
theorem dX8_routine_29 : decode cX8_routine 29 = .ok (.aload_n 0, 1) := by decide +kernel
theorem dX8_routine_30 : decode cX8_routine 30 = .ok (.getfield 42, 3) := by decide +kernel
theorem dX8_routine_33 : decode cX8_routine 33 = .ok (.invokevirtual 73, 3) := by decide +kernel
theorem dX8_routine_36 : decode cX8_routine 36 = .ok (.iload_n 2, 1) := by decide +kernel
theorem dX8_routine_37 : decode cX8_routine 37 = .ok (.ireturn, 1) := by decide +kernel
theorem dX8_body_0 : decode cX8_body 0 = .ok (.aload_n 0, 1) := by decide +kernel
theorem dX8_body_1 : decode cX8_body 1 = .ok (.getfield 10, 3) := by decide +kernel
theorem dX8_body_4 : decode cX8_body 4 = .ok (.iload_n 1, 1) := by decide +kernel
theorem dX8_body_5 : decode cX8_body 5 = .ok (.invokevirtual 63, 3) := by decide +kernel
theorem dX8_body_8 : decode cX8_body 8 = .ok (.ifCond .eq 19, 3) := by decide +kernel
theorem dX8_body_11 : decode cX8_body 11 = .ok (.iload_n 2, 1) := by decide +kernel
theorem dX8_body_12 : decode cX8_body 12 = .ok (.iconst (-1), 1) := by decide +kernel
theorem dX8_body_13 : decode cX8_body 13 = .ok (.if_icmp .eq 16, 3) := by decide +kernel
theorem dX8_body_16 : decode cX8_body 16 = .ok (.aload_n 0, 1) := by decide +kernel
theorem dX8_body_17 : decode cX8_body 17 = .ok (.getfield 10, 3) := by decide +kernel
theorem dX8_body_20 : decode cX8_body 20 = .ok (.iload_n 2, 1) := by decide +kernel
theorem dX8_body_21 : decode cX8_body 21 = .ok (.invokevirtual 76, 3) := by decide +kernel
theorem dX8_body_24 : decode cX8_body 24 = .ok (.ifCond .ne 5, 3) := by decide +kernel
theorem dX8_body_27 : decode cX8_body 27 = .ok (.iconst (-1), 1) := by decide +kernel
theorem dX8_body_28 : decode cX8_body 28 = .ok (.ireturn, 1) := by decide +kernel
theorem dX8_body_29 : decode cX8_body 29 = .ok (.aload_n 0, 1) := by decide +kernel
theorem dX8_body_30 : decode cX8_body 30 = .ok (.getfield 42, 3) := by decide +kernel
theorem dX8_body_33 : decode cX8_body 33 = .ok (.aload_n 0, 1) := by decide +kernel
theorem dX8_body_34 : decode cX8_body 34 = .ok (.getfield 10, 3) := by decide +kernel
theorem dX8_body_37 : decode cX8_body 37 = .ok (.getfield 79, 3) := by decide +kernel
theorem dX8_body_40 : decode cX8_body 40 = .ok (.invokevirtual 83, 3) := by decide +kernel
theorem dX8_body_43 : decode cX8_body 43 = .ok (.aload_n 0, 1) := by decide +kernel
theorem dX8_body_44 : decode cX8_body 44 = .ok (.getfield 42, 3) := by decide +kernel
theorem dX8_body_47 : decode cX8_body 47 = .ok (.invokevirtual 87, 3) := by decide +kernel
theorem dX8_body_50 : decode cX8_body 50 = .ok (.aload_n 0, 1) := by decide +kernel
theorem dX8_body_51 : decode cX8_body 51 = .ok (.getfield 10, 3) := by decide +kernel
theorem dX8_body_54 : decode cX8_body 54 = .ok (.iload_n 1, 1) := by decide +kernel
theorem dX8_body_55 : decode cX8_body 55 = .ok (.iload_n 2, 1) := by decide +kernel
theorem dX8_body_56 : decode cX8_body 56 = .ok (.iconst (-1), 1) := by decide +kernel
theorem dX8_body_57 : decode cX8_body 57 = .ok (.if_icmp .ne 8, 3) := by decide +kernel
theorem dX8_body_60 : decode cX8_body 60 = .ok (.bipush (-4), 2) := by decide +kernel
theorem dX8_body_62 : decode cX8_body 62 = .ok (.goto 4, 3) := by decide +kernel
theorem dX8_body_65 : decode cX8_body 65 = .ok (.iload_n 2, 1) := by decide +kernel
theorem dX8_body_66 : decode cX8_body 66 = .ok (.invokevirtual 90, 3) := by decide +kernel
theorem dX8_body_69 : decode cX8_body 69 = .ok (.aload_n 0, 1) := by decide +kernel
theorem dX8_body_70 : decode cX8_body 70 = .ok (.getfield 10, 3) := by decide +kernel
theorem dX8_body_73 : decode cX8_body 73 = .ok (.iload_n 1, 1) := by decide +kernel
theorem dX8_body_74 : decode cX8_body 74 = .ok (.invokevirtual 94, 3) := by decide +kernel
theorem dX8_body_77 : decode cX8_body 77 = .ok (.ireturn, 1) := by decide +kernel
theorem dX8_told_0 : decode cX8_told 0 = .ok (.aload_n 0, 1) := by decide +kernel
theorem dX8_told_1 : decode cX8_told 1 = .ok (.getfield 10, 3) := by decide +kernel
theorem dX8_told_4 : decode cX8_told 4 = .ok (.iload_n 1, 1) := by decide +kernel
theorem dX8_told_5 : decode cX8_told 5 = .ok (.invokevirtual 97, 3) := by decide +kernel
theorem dX8_told_8 : decode cX8_told 8 = .ok (.ifCond .ne 6, 3) := by decide +kernel
theorem dX8_told_11 : decode cX8_told 11 = .ok (.ldc 100, 2) := by decide +kernel
theorem dX8_told_13 : decode cX8_told 13 = .ok (.ireturn, 1) := by decide +kernel
theorem dX8_told_14 : decode cX8_told 14 = .ok (.iload_n 2, 1) := by decide +kernel
theorem dX8_told_15 : decode cX8_told 15 = .ok (.tableswitch 130 0 8 #[49, 58, 67, 67, 67, 79, 88, 97, 121], 49) := by decide +kernel
theorem dX8_told_64 : decode cX8_told 64 = .ok (.aload_n 0, 1) := by decide +kernel
theorem dX8_told_65 : decode cX8_told 65 = .ok (.getfield 10, 3) := by decide +kernel
theorem dX8_told_68 : decode cX8_told 68 = .ok (.iload_n 1, 1) := by decide +kernel
theorem dX8_told_69 : decode cX8_told 69 = .ok (.invokevirtual 101, 3) := by decide +kernel
theorem dX8_told_72 : decode cX8_told 72 = .ok (.ireturn, 1) := by decide +kernel
theorem dX8_told_73 : decode cX8_told 73 = .ok (.aload_n 0, 1) := by decide +kernel
theorem dX8_told_74 : decode cX8_told 74 = .ok (.getfield 10, 3) := by decide +kernel
theorem dX8_told_77 : decode cX8_told 77 = .ok (.iload_n 1, 1) := by decide +kernel
theorem dX8_told_78 : decode cX8_told 78 = .ok (.invokevirtual 104, 3) := by decide +kernel
theorem dX8_told_81 : decode cX8_told 81 = .ok (.ireturn, 1) := by decide +kernel
theorem dX8_told_82 : decode cX8_told 82 = .ok (.aload_n 0, 1) := by decide +kernel
theorem dX8_told_83 : decode cX8_told 83 = .ok (.getfield 10, 3) := by decide +kernel
theorem dX8_told_86 : decode cX8_told 86 = .ok (.iload_n 1, 1) := by decide +kernel
theorem dX8_told_87 : decode cX8_told 87 = .ok (.iload_n 2, 1) := by decide +kernel
theorem dX8_told_88 : decode cX8_told 88 = .ok (.iconst 2, 1) := by decide +kernel
theorem dX8_told_89 : decode cX8_told 89 = .ok (.isub, 1) := by decide +kernel
theorem dX8_told_90 : decode cX8_told 90 = .ok (.invokevirtual 107, 3) := by decide +kernel
theorem dX8_told_93 : decode cX8_told 93 = .ok (.ireturn, 1) := by decide +kernel
theorem dX8_told_94 : decode cX8_told 94 = .ok (.aload_n 0, 1) := by decide +kernel
theorem dX8_told_95 : decode cX8_told 95 = .ok (.getfield 10, 3) := by decide +kernel
theorem dX8_told_98 : decode cX8_told 98 = .ok (.iload_n 1, 1) := by decide +kernel
theorem dX8_told_99 : decode cX8_told 99 = .ok (.invokevirtual 111, 3) := by decide +kernel
theorem dX8_told_102 : decode cX8_told 102 = .ok (.ireturn, 1) := by decide +kernel
theorem dX8_told_103 : decode cX8_told 103 = .ok (.aload_n 0, 1) := by decide +kernel
theorem dX8_told_104 : decode cX8_told 104 = .ok (.getfield 10, 3) := by decide +kernel
theorem dX8_told_107 : decode cX8_told 107 = .ok (.iload_n 1, 1) := by decide +kernel
theorem dX8_told_108 : decode cX8_told 108 = .ok (.invokevirtual 114, 3) := by decide +kernel
theorem dX8_told_111 : decode cX8_told 111 = .ok (.ireturn, 1) := by decide +kernel
theorem dX8_told_112 : decode cX8_told 112 = .ok (.aload_n 0, 1) := by decide +kernel
theorem dX8_told_113 : decode cX8_told 113 = .ok (.getfield 10, 3) := by decide +kernel
theorem dX8_told_116 : decode cX8_told 116 = .ok (.iload_n 1, 1) := by decide +kernel
theorem dX8_told_117 : decode cX8_told 117 = .ok (.invokevirtual 117, 3) := by decide +kernel
theorem dX8_told_120 : decode cX8_told 120 = .ok (.ifCond .eq 14, 3) := by decide +kernel
theorem dX8_told_123 : decode cX8_told 123 = .ok (.aload_n 0, 1) := by decide +kernel
theorem dX8_told_124 : decode cX8_told 124 = .ok (.getfield 21, 3) := by decide +kernel
theorem dX8_told_127 : decode cX8_told 127 = .ok (.iload_n 1, 1) := by decide +kernel
theorem dX8_told_128 : decode cX8_told 128 = .ok (.invokevirtual 120, 3) := by decide +kernel
theorem dX8_told_131 : decode cX8_told 131 = .ok (.goto 4, 3) := by decide +kernel
theorem dX8_told_134 : decode cX8_told 134 = .ok (.iconst 0, 1) := by decide +kernel
theorem dX8_told_135 : decode cX8_told 135 = .ok (.ireturn, 1) := by decide +kernel
theorem dX8_told_136 : decode cX8_told 136 = .ok (.aload_n 0, 1) := by decide +kernel
theorem dX8_told_137 : decode cX8_told 137 = .ok (.getfield 10, 3) := by decide +kernel
theorem dX8_told_140 : decode cX8_told 140 = .ok (.iload_n 1, 1) := by decide +kernel
theorem dX8_told_141 : decode cX8_told 141 = .ok (.invokevirtual 123, 3) := by decide +kernel
theorem dX8_told_144 : decode cX8_told 144 = .ok (.ireturn, 1) := by decide +kernel
theorem dX8_told_145 : decode cX8_told 145 = .ok (.ldc 100, 2) := by decide +kernel
theorem dX8_told_147 : decode cX8_told 147 = .ok (.ireturn, 1) := by decide +kernel
theorem dX8_about_0 : decode cX8_about 0 = .ok (.aload_n 0, 1) := by decide +kernel
theorem dX8_about_1 : decode cX8_about 1 = .ok (.getfield 10, 3) := by decide +kernel
theorem dX8_about_4 : decode cX8_about 4 = .ok (.iload_n 1, 1) := by decide +kernel
theorem dX8_about_5 : decode cX8_about 5 = .ok (.invokevirtual 63, 3) := by decide +kernel
theorem dX8_about_8 : decode cX8_about 8 = .ok (.ifCond .ne 5, 3) := by decide +kernel
theorem dX8_about_11 : decode cX8_about 11 = .ok (.iconst (-1), 1) := by decide +kernel
theorem dX8_about_12 : decode cX8_about 12 = .ok (.ireturn, 1) := by decide +kernel
theorem dX8_about_13 : decode cX8_about 13 = .ok (.iload_n 2, 1) := by decide +kernel
theorem dX8_about_14 : decode cX8_about 14 = .ok (.tableswitch 99 0 5 #[38, 47, 56, 72, 81, 90], 38) := by decide +kernel
theorem dX8_about_52 : decode cX8_about 52 = .ok (.aload_n 0, 1) := by decide +kernel
theorem dX8_about_53 : decode cX8_about 53 = .ok (.getfield 10, 3) := by decide +kernel
theorem dX8_about_56 : decode cX8_about 56 = .ok (.iload_n 1, 1) := by decide +kernel
theorem dX8_about_57 : decode cX8_about 57 = .ok (.invokevirtual 66, 3) := by decide +kernel
theorem dX8_about_60 : decode cX8_about 60 = .ok (.ireturn, 1) := by decide +kernel
theorem dX8_about_61 : decode cX8_about 61 = .ok (.aload_n 0, 1) := by decide +kernel
theorem dX8_about_62 : decode cX8_about 62 = .ok (.getfield 10, 3) := by decide +kernel
theorem dX8_about_65 : decode cX8_about 65 = .ok (.iload_n 1, 1) := by decide +kernel
theorem dX8_about_66 : decode cX8_about 66 = .ok (.invokevirtual 126, 3) := by decide +kernel
theorem dX8_about_69 : decode cX8_about 69 = .ok (.ireturn, 1) := by decide +kernel
theorem dX8_about_70 : decode cX8_about 70 = .ok (.aload_n 0, 1) := by decide +kernel
theorem dX8_about_71 : decode cX8_about 71 = .ok (.getfield 10, 3) := by decide +kernel
theorem dX8_about_74 : decode cX8_about 74 = .ok (.aload_n 0, 1) := by decide +kernel
theorem dX8_about_75 : decode cX8_about 75 = .ok (.getfield 10, 3) := by decide +kernel
theorem dX8_about_78 : decode cX8_about 78 = .ok (.iload_n 1, 1) := by decide +kernel
theorem dX8_about_79 : decode cX8_about 79 = .ok (.invokevirtual 126, 3) := by decide +kernel
theorem dX8_about_82 : decode cX8_about 82 = .ok (.invokevirtual 123, 3) := by decide +kernel
theorem dX8_about_85 : decode cX8_about 85 = .ok (.ireturn, 1) := by decide +kernel
theorem dX8_about_86 : decode cX8_about 86 = .ok (.aload_n 0, 1) := by decide +kernel
theorem dX8_about_87 : decode cX8_about 87 = .ok (.getfield 10, 3) := by decide +kernel
theorem dX8_about_90 : decode cX8_about 90 = .ok (.iload_n 1, 1) := by decide +kernel
theorem dX8_about_91 : decode cX8_about 91 = .ok (.invokevirtual 94, 3) := by decide +kernel
theorem dX8_about_94 : decode cX8_about 94 = .ok (.ireturn, 1) := by decide +kernel
theorem dX8_about_95 : decode cX8_about 95 = .ok (.aload_n 0, 1) := by decide +kernel
theorem dX8_about_96 : decode cX8_about 96 = .ok (.getfield 10, 3) := by decide +kernel
theorem dX8_about_99 : decode cX8_about 99 = .ok (.iload_n 1, 1) := by decide +kernel
theorem dX8_about_100 : decode cX8_about 100 = .ok (.invokevirtual 129, 3) := by decide +kernel
theorem dX8_about_103 : decode cX8_about 103 = .ok (.ireturn, 1) := by decide +kernel
theorem dX8_about_104 : decode cX8_about 104 = .ok (.aload_n 0, 1) := by decide +kernel
theorem dX8_about_105 : decode cX8_about 105 = .ok (.getfield 10, 3) := by decide +kernel
theorem dX8_about_108 : decode cX8_about 108 = .ok (.iload_n 1, 1) := by decide +kernel
theorem dX8_about_109 : decode cX8_about 109 = .ok (.invokevirtual 132, 3) := by decide +kernel
theorem dX8_about_112 : decode cX8_about 112 = .ok (.ireturn, 1) := by decide +kernel
theorem dX8_about_113 : decode cX8_about 113 = .ok (.iconst (-1), 1) := by decide +kernel
theorem dX8_about_114 : decode cX8_about 114 = .ok (.ireturn, 1) := by decide +kernel
theorem dX8_same_0 : decode cX8_same 0 = .ok (.aload_n 0, 1) := by decide +kernel
theorem dX8_same_1 : decode cX8_same 1 = .ok (.getfield 10, 3) := by decide +kernel
theorem dX8_same_4 : decode cX8_same 4 = .ok (.iload_n 1, 1) := by decide +kernel
theorem dX8_same_5 : decode cX8_same 5 = .ok (.invokevirtual 117, 3) := by decide +kernel
theorem dX8_same_8 : decode cX8_same 8 = .ok (.ifCond .eq 14, 3) := by decide +kernel
theorem dX8_same_11 : decode cX8_same 11 = .ok (.aload_n 0, 1) := by decide +kernel
theorem dX8_same_12 : decode cX8_same 12 = .ok (.getfield 10, 3) := by decide +kernel
theorem dX8_same_15 : decode cX8_same 15 = .ok (.iload_n 2, 1) := by decide +kernel
theorem dX8_same_16 : decode cX8_same 16 = .ok (.invokevirtual 117, 3) := by decide +kernel
theorem dX8_same_19 : decode cX8_same 19 = .ok (.ifCond .ne 5, 3) := by decide +kernel
theorem dX8_same_22 : decode cX8_same 22 = .ok (.iconst (-1), 1) := by decide +kernel
theorem dX8_same_23 : decode cX8_same 23 = .ok (.ireturn, 1) := by decide +kernel
theorem dX8_same_24 : decode cX8_same 24 = .ok (.aload_n 0, 1) := by decide +kernel
theorem dX8_same_25 : decode cX8_same 25 = .ok (.getfield 10, 3) := by decide +kernel
theorem dX8_same_28 : decode cX8_same 28 = .ok (.iload_n 1, 1) := by decide +kernel
theorem dX8_same_29 : decode cX8_same 29 = .ok (.iload_n 2, 1) := by decide +kernel
theorem dX8_same_30 : decode cX8_same 30 = .ok (.invokevirtual 135, 3) := by decide +kernel
theorem dX8_same_33 : decode cX8_same 33 = .ok (.ifCond .eq 7, 3) := by decide +kernel
theorem dX8_same_36 : decode cX8_same 36 = .ok (.iconst 1, 1) := by decide +kernel
theorem dX8_same_37 : decode cX8_same 37 = .ok (.goto 4, 3) := by decide +kernel
theorem dX8_same_40 : decode cX8_same 40 = .ok (.iconst 0, 1) := by decide +kernel
theorem dX8_same_41 : decode cX8_same 41 = .ok (.ireturn, 1) := by decide +kernel
theorem dX8_run_0 : decode cX8_run 0 = .ok (.aload_n 0, 1) := by decide +kernel
theorem dX8_run_1 : decode cX8_run 1 = .ok (.getfield 10, 3) := by decide +kernel
theorem dX8_run_4 : decode cX8_run 4 = .ok (.iload_n 1, 1) := by decide +kernel
theorem dX8_run_5 : decode cX8_run 5 = .ok (.invokevirtual 63, 3) := by decide +kernel
theorem dX8_run_8 : decode cX8_run 8 = .ok (.ifCond .eq 16, 3) := by decide +kernel
theorem dX8_run_11 : decode cX8_run 11 = .ok (.iload 5, 2) := by decide +kernel
theorem dX8_run_13 : decode cX8_run 13 = .ok (.ifCond .lt 11, 3) := by decide +kernel
theorem dX8_run_16 : decode cX8_run 16 = .ok (.iload 5, 2) := by decide +kernel
theorem dX8_run_18 : decode cX8_run 18 = .ok (.sipush 2000, 3) := by decide +kernel
theorem dX8_run_21 : decode cX8_run 21 = .ok (.if_icmp .le 5, 3) := by decide +kernel
theorem dX8_run_24 : decode cX8_run 24 = .ok (.iconst (-1), 1) := by decide +kernel
theorem dX8_run_25 : decode cX8_run 25 = .ok (.ireturn, 1) := by decide +kernel
theorem dX8_run_26 : decode cX8_run 26 = .ok (.aload_n 0, 1) := by decide +kernel
theorem dX8_run_27 : decode cX8_run 27 = .ok (.getfield 21, 3) := by decide +kernel
theorem dX8_run_30 : decode cX8_run 30 = .ok (.invokevirtual 139, 3) := by decide +kernel
theorem dX8_run_33 : decode cX8_run 33 = .ok (.ifCond .eq 6, 3) := by decide +kernel
theorem dX8_run_36 : decode cX8_run 36 = .ok (.bipush (-3), 2) := by decide +kernel
theorem dX8_run_38 : decode cX8_run 38 = .ok (.ireturn, 1) := by decide +kernel
theorem dX8_run_39 : decode cX8_run 39 = .ok (.aload_n 0, 1) := by decide +kernel
theorem dX8_run_40 : decode cX8_run 40 = .ok (.getfield 21, 3) := by decide +kernel
theorem dX8_run_43 : decode cX8_run 43 = .ok (.iload_n 1, 1) := by decide +kernel
theorem dX8_run_44 : decode cX8_run 44 = .ok (.iload_n 2, 1) := by decide +kernel
theorem dX8_run_45 : decode cX8_run 45 = .ok (.iload_n 3, 1) := by decide +kernel
theorem dX8_run_46 : decode cX8_run 46 = .ok (.iload 4, 2) := by decide +kernel
theorem dX8_run_48 : decode cX8_run 48 = .ok (.iload 5, 2) := by decide +kernel
theorem dX8_run_50 : decode cX8_run 50 = .ok (.invokevirtual 143, 3) := by decide +kernel
theorem dX8_run_53 : decode cX8_run 53 = .ok (.ireturn, 1) := by decide +kernel
theorem dX8_ran_0 : decode cX8_ran 0 = .ok (.iload_n 1, 1) := by decide +kernel
theorem dX8_ran_1 : decode cX8_ran 1 = .ok (.ifCond .lt 8, 3) := by decide +kernel
theorem dX8_ran_4 : decode cX8_ran 4 = .ok (.iload_n 1, 1) := by decide +kernel
theorem dX8_ran_5 : decode cX8_ran 5 = .ok (.iconst 3, 1) := by decide +kernel
theorem dX8_ran_6 : decode cX8_ran 6 = .ok (.if_icmp .le 8, 3) := by decide +kernel
theorem dX8_ran_9 : decode cX8_ran 9 = .ok (.ldc 100, 2) := by decide +kernel
theorem dX8_ran_11 : decode cX8_ran 11 = .ok (.goto 11, 3) := by decide +kernel
theorem dX8_ran_14 : decode cX8_ran 14 = .ok (.aload_n 0, 1) := by decide +kernel
theorem dX8_ran_15 : decode cX8_ran 15 = .ok (.getfield 21, 3) := by decide +kernel
theorem dX8_ran_18 : decode cX8_ran 18 = .ok (.iload_n 1, 1) := by decide +kernel
theorem dX8_ran_19 : decode cX8_ran 19 = .ok (.invokevirtual 147, 3) := by decide +kernel
theorem dX8_ran_22 : decode cX8_ran 22 = .ok (.ireturn, 1) := by decide +kernel
theorem dX8_row_0 : decode cX8_row 0 = .ok (.aload_n 0, 1) := by decide +kernel
theorem dX8_row_1 : decode cX8_row 1 = .ok (.getfield 21, 3) := by decide +kernel
theorem dX8_row_4 : decode cX8_row 4 = .ok (.iload_n 1, 1) := by decide +kernel
theorem dX8_row_5 : decode cX8_row 5 = .ok (.invokevirtual 150, 3) := by decide +kernel
theorem dX8_row_8 : decode cX8_row 8 = .ok (.ireturn, 1) := by decide +kernel
theorem dX8_lay_0 : decode cX8_lay 0 = .ok (.aload_n 0, 1) := by decide +kernel
theorem dX8_lay_1 : decode cX8_lay 1 = .ok (.getfield 21, 3) := by decide +kernel
theorem dX8_lay_4 : decode cX8_lay 4 = .ok (.iload_n 1, 1) := by decide +kernel
theorem dX8_lay_5 : decode cX8_lay 5 = .ok (.iload_n 2, 1) := by decide +kernel
theorem dX8_lay_6 : decode cX8_lay 6 = .ok (.invokevirtual 153, 3) := by decide +kernel
theorem dX8_lay_9 : decode cX8_lay 9 = .ok (.ifCond .eq 7, 3) := by decide +kernel
theorem dX8_lay_12 : decode cX8_lay 12 = .ok (.iconst 1, 1) := by decide +kernel
theorem dX8_lay_13 : decode cX8_lay 13 = .ok (.goto 4, 3) := by decide +kernel
theorem dX8_lay_16 : decode cX8_lay 16 = .ok (.iconst (-1), 1) := by decide +kernel
theorem dX8_lay_17 : decode cX8_lay 17 = .ok (.ireturn, 1) := by decide +kernel
theorem dX8_clearCounts_0 : decode cX8_clearCounts 0 = .ok (.aload_n 0, 1) := by decide +kernel
theorem dX8_clearCounts_1 : decode cX8_clearCounts 1 = .ok (.getfield 21, 3) := by decide +kernel
theorem dX8_clearCounts_4 : decode cX8_clearCounts 4 = .ok (.invokevirtual 156, 3) := by decide +kernel
theorem dX8_clearCounts_7 : decode cX8_clearCounts 7 = .ok (.iconst 0, 1) := by decide +kernel
theorem dX8_clearCounts_8 : decode cX8_clearCounts 8 = .ok (.ireturn, 1) := by decide +kernel
theorem dX8_melt_0 : decode cX8_melt 0 = .ok (.aload_n 0, 1) := by decide +kernel
theorem dX8_melt_1 : decode cX8_melt 1 = .ok (.getfield 10, 3) := by decide +kernel
theorem dX8_melt_4 : decode cX8_melt 4 = .ok (.iload_n 1, 1) := by decide +kernel
theorem dX8_melt_5 : decode cX8_melt 5 = .ok (.invokevirtual 159, 3) := by decide +kernel
theorem dX8_melt_8 : decode cX8_melt 8 = .ok (.ifCond .ne 5, 3) := by decide +kernel
theorem dX8_melt_11 : decode cX8_melt 11 = .ok (.iconst (-1), 1) := by decide +kernel
theorem dX8_melt_12 : decode cX8_melt 12 = .ok (.ireturn, 1) := by decide +kernel
theorem dX8_melt_13 : decode cX8_melt 13 = .ok (.aload_n 0, 1) := by decide +kernel
theorem dX8_melt_14 : decode cX8_melt 14 = .ok (.getfield 10, 3) := by decide +kernel
theorem dX8_melt_17 : decode cX8_melt 17 = .ok (.aload_n 0, 1) := by decide +kernel
theorem dX8_melt_18 : decode cX8_melt 18 = .ok (.getfield 10, 3) := by decide +kernel
theorem dX8_melt_21 : decode cX8_melt 21 = .ok (.iload_n 1, 1) := by decide +kernel
theorem dX8_melt_22 : decode cX8_melt 22 = .ok (.invokevirtual 104, 3) := by decide +kernel
theorem dX8_melt_25 : decode cX8_melt 25 = .ok (.invokevirtual 162, 3) := by decide +kernel
theorem dX8_melt_28 : decode cX8_melt 28 = .ok (.ifCond .eq 6, 3) := by decide +kernel
theorem dX8_melt_31 : decode cX8_melt 31 = .ok (.bipush (-2), 2) := by decide +kernel
theorem dX8_melt_33 : decode cX8_melt 33 = .ok (.ireturn, 1) := by decide +kernel
theorem dX8_melt_34 : decode cX8_melt 34 = .ok (.aload_n 0, 1) := by decide +kernel
theorem dX8_melt_35 : decode cX8_melt 35 = .ok (.getfield 28, 3) := by decide +kernel
theorem dX8_melt_38 : decode cX8_melt 38 = .ok (.iload_n 1, 1) := by decide +kernel
theorem dX8_melt_39 : decode cX8_melt 39 = .ok (.invokevirtual 165, 3) := by decide +kernel
theorem dX8_melt_42 : decode cX8_melt 42 = .ok (.ifCond .ne 6, 3) := by decide +kernel
theorem dX8_melt_45 : decode cX8_melt 45 = .ok (.bipush (-3), 2) := by decide +kernel
theorem dX8_melt_47 : decode cX8_melt 47 = .ok (.ireturn, 1) := by decide +kernel
theorem dX8_melt_48 : decode cX8_melt 48 = .ok (.aload_n 0, 1) := by decide +kernel
theorem dX8_melt_49 : decode cX8_melt 49 = .ok (.getfield 42, 3) := by decide +kernel
theorem dX8_melt_52 : decode cX8_melt 52 = .ok (.aload_n 0, 1) := by decide +kernel
theorem dX8_melt_53 : decode cX8_melt 53 = .ok (.getfield 10, 3) := by decide +kernel
theorem dX8_melt_56 : decode cX8_melt 56 = .ok (.getfield 79, 3) := by decide +kernel
theorem dX8_melt_59 : decode cX8_melt 59 = .ok (.invokevirtual 83, 3) := by decide +kernel
theorem dX8_melt_62 : decode cX8_melt 62 = .ok (.aload_n 0, 1) := by decide +kernel
theorem dX8_melt_63 : decode cX8_melt 63 = .ok (.getfield 42, 3) := by decide +kernel
theorem dX8_melt_66 : decode cX8_melt 66 = .ok (.invokevirtual 87, 3) := by decide +kernel
theorem dX8_melt_69 : decode cX8_melt 69 = .ok (.aload_n 0, 1) := by decide +kernel
theorem dX8_melt_70 : decode cX8_melt 70 = .ok (.getfield 28, 3) := by decide +kernel
theorem dX8_melt_73 : decode cX8_melt 73 = .ok (.iload_n 1, 1) := by decide +kernel
theorem dX8_melt_74 : decode cX8_melt 74 = .ok (.invokevirtual 168, 3) := by decide +kernel
theorem dX8_melt_77 : decode cX8_melt 77 = .ok (.ireturn, 1) := by decide +kernel
theorem dX8_gain_0 : decode cX8_gain 0 = .ok (.aload_n 0, 1) := by decide +kernel
theorem dX8_gain_1 : decode cX8_gain 1 = .ok (.getfield 10, 3) := by decide +kernel
theorem dX8_gain_4 : decode cX8_gain 4 = .ok (.iload_n 1, 1) := by decide +kernel
theorem dX8_gain_5 : decode cX8_gain 5 = .ok (.invokevirtual 159, 3) := by decide +kernel
theorem dX8_gain_8 : decode cX8_gain 8 = .ok (.ifCond .eq 14, 3) := by decide +kernel
theorem dX8_gain_11 : decode cX8_gain 11 = .ok (.aload_n 0, 1) := by decide +kernel
theorem dX8_gain_12 : decode cX8_gain 12 = .ok (.getfield 21, 3) := by decide +kernel
theorem dX8_gain_15 : decode cX8_gain 15 = .ok (.iload_n 1, 1) := by decide +kernel
theorem dX8_gain_16 : decode cX8_gain 16 = .ok (.invokevirtual 171, 3) := by decide +kernel
theorem dX8_gain_19 : decode cX8_gain 19 = .ok (.goto 4, 3) := by decide +kernel
theorem dX8_gain_22 : decode cX8_gain 22 = .ok (.iconst (-1), 1) := by decide +kernel
theorem dX8_gain_23 : decode cX8_gain 23 = .ok (.ireturn, 1) := by decide +kernel
theorem dX8_weight_0 : decode cX8_weight 0 = .ok (.aload_n 0, 1) := by decide +kernel
theorem dX8_weight_1 : decode cX8_weight 1 = .ok (.getfield 10, 3) := by decide +kernel
theorem dX8_weight_4 : decode cX8_weight 4 = .ok (.iload_n 1, 1) := by decide +kernel
theorem dX8_weight_5 : decode cX8_weight 5 = .ok (.invokevirtual 159, 3) := by decide +kernel
theorem dX8_weight_8 : decode cX8_weight 8 = .ok (.ifCond .ne 5, 3) := by decide +kernel
theorem dX8_weight_11 : decode cX8_weight 11 = .ok (.iconst (-1), 1) := by decide +kernel
theorem dX8_weight_12 : decode cX8_weight 12 = .ok (.ireturn, 1) := by decide +kernel
theorem dX8_weight_13 : decode cX8_weight 13 = .ok (.aload_n 0, 1) := by decide +kernel
theorem dX8_weight_14 : decode cX8_weight 14 = .ok (.getfield 10, 3) := by decide +kernel
theorem dX8_weight_17 : decode cX8_weight 17 = .ok (.aload_n 0, 1) := by decide +kernel
theorem dX8_weight_18 : decode cX8_weight 18 = .ok (.getfield 10, 3) := by decide +kernel
theorem dX8_weight_21 : decode cX8_weight 21 = .ok (.iload_n 1, 1) := by decide +kernel
theorem dX8_weight_22 : decode cX8_weight 22 = .ok (.invokevirtual 104, 3) := by decide +kernel
theorem dX8_weight_25 : decode cX8_weight 25 = .ok (.invokevirtual 162, 3) := by decide +kernel
theorem dX8_weight_28 : decode cX8_weight 28 = .ok (.ifCond .eq 8, 3) := by decide +kernel
theorem dX8_weight_31 : decode cX8_weight 31 = .ok (.bipush (-2), 2) := by decide +kernel
theorem dX8_weight_33 : decode cX8_weight 33 = .ok (.goto 11, 3) := by decide +kernel
theorem dX8_weight_36 : decode cX8_weight 36 = .ok (.aload_n 0, 1) := by decide +kernel
theorem dX8_weight_37 : decode cX8_weight 37 = .ok (.getfield 28, 3) := by decide +kernel
theorem dX8_weight_40 : decode cX8_weight 40 = .ok (.iload_n 1, 1) := by decide +kernel
theorem dX8_weight_41 : decode cX8_weight 41 = .ok (.invokevirtual 174, 3) := by decide +kernel
theorem dX8_weight_44 : decode cX8_weight 44 = .ok (.ireturn, 1) := by decide +kernel
theorem dX8_ahead_0 : decode cX8_ahead 0 = .ok (.aload_n 0, 1) := by decide +kernel
theorem dX8_ahead_1 : decode cX8_ahead 1 = .ok (.getfield 10, 3) := by decide +kernel
theorem dX8_ahead_4 : decode cX8_ahead 4 = .ok (.iload_n 1, 1) := by decide +kernel
theorem dX8_ahead_5 : decode cX8_ahead 5 = .ok (.invokevirtual 63, 3) := by decide +kernel
theorem dX8_ahead_8 : decode cX8_ahead 8 = .ok (.ifCond .ne 5, 3) := by decide +kernel
theorem dX8_ahead_11 : decode cX8_ahead 11 = .ok (.iconst (-1), 1) := by decide +kernel
theorem dX8_ahead_12 : decode cX8_ahead 12 = .ok (.ireturn, 1) := by decide +kernel
theorem dX8_ahead_13 : decode cX8_ahead 13 = .ok (.aload_n 0, 1) := by decide +kernel
theorem dX8_ahead_14 : decode cX8_ahead 14 = .ok (.getfield 10, 3) := by decide +kernel
theorem dX8_ahead_17 : decode cX8_ahead 17 = .ok (.iload_n 1, 1) := by decide +kernel
theorem dX8_ahead_18 : decode cX8_ahead 18 = .ok (.invokevirtual 162, 3) := by decide +kernel
theorem dX8_ahead_21 : decode cX8_ahead 21 = .ok (.ifCond .eq 6, 3) := by decide +kernel
theorem dX8_ahead_24 : decode cX8_ahead 24 = .ok (.bipush (-2), 2) := by decide +kernel
theorem dX8_ahead_26 : decode cX8_ahead 26 = .ok (.ireturn, 1) := by decide +kernel
theorem dX8_ahead_27 : decode cX8_ahead 27 = .ok (.aload_n 0, 1) := by decide +kernel
theorem dX8_ahead_28 : decode cX8_ahead 28 = .ok (.getfield 42, 3) := by decide +kernel
theorem dX8_ahead_31 : decode cX8_ahead 31 = .ok (.aload_n 0, 1) := by decide +kernel
theorem dX8_ahead_32 : decode cX8_ahead 32 = .ok (.getfield 10, 3) := by decide +kernel
theorem dX8_ahead_35 : decode cX8_ahead 35 = .ok (.getfield 79, 3) := by decide +kernel
theorem dX8_ahead_38 : decode cX8_ahead 38 = .ok (.invokevirtual 83, 3) := by decide +kernel
theorem dX8_ahead_41 : decode cX8_ahead 41 = .ok (.aload_n 0, 1) := by decide +kernel
theorem dX8_ahead_42 : decode cX8_ahead 42 = .ok (.getfield 10, 3) := by decide +kernel
theorem dX8_ahead_45 : decode cX8_ahead 45 = .ok (.aload_n 0, 1) := by decide +kernel
theorem dX8_ahead_46 : decode cX8_ahead 46 = .ok (.getfield 10, 3) := by decide +kernel
theorem dX8_ahead_49 : decode cX8_ahead 49 = .ok (.iload_n 1, 1) := by decide +kernel
theorem dX8_ahead_50 : decode cX8_ahead 50 = .ok (.invokevirtual 126, 3) := by decide +kernel
theorem dX8_ahead_53 : decode cX8_ahead 53 = .ok (.invokevirtual 123, 3) := by decide +kernel
theorem dX8_ahead_56 : decode cX8_ahead 56 = .ok (.istore_n 2, 1) := by decide +kernel
theorem dX8_ahead_57 : decode cX8_ahead 57 = .ok (.aload_n 0, 1) := by decide +kernel
theorem dX8_ahead_58 : decode cX8_ahead 58 = .ok (.getfield 35, 3) := by decide +kernel
theorem dX8_ahead_61 : decode cX8_ahead 61 = .ok (.iload_n 1, 1) := by decide +kernel
theorem dX8_ahead_62 : decode cX8_ahead 62 = .ok (.invokevirtual 177, 3) := by decide +kernel
theorem dX8_ahead_65 : decode cX8_ahead 65 = .ok (.ifCond .ne 20, 3) := by decide +kernel
theorem dX8_ahead_68 : decode cX8_ahead 68 = .ok (.aload_n 0, 1) := by decide +kernel
theorem dX8_ahead_69 : decode cX8_ahead 69 = .ok (.getfield 42, 3) := by decide +kernel
theorem dX8_ahead_72 : decode cX8_ahead 72 = .ok (.aload_n 0, 1) := by decide +kernel
theorem dX8_ahead_73 : decode cX8_ahead 73 = .ok (.getfield 10, 3) := by decide +kernel
theorem dX8_ahead_76 : decode cX8_ahead 76 = .ok (.getfield 79, 3) := by decide +kernel
theorem dX8_ahead_79 : decode cX8_ahead 79 = .ok (.invokevirtual 180, 3) := by decide +kernel
theorem dX8_ahead_82 : decode cX8_ahead 82 = .ok (.bipush (-3), 2) := by decide +kernel
theorem dX8_ahead_84 : decode cX8_ahead 84 = .ok (.ireturn, 1) := by decide +kernel
theorem dX8_ahead_85 : decode cX8_ahead 85 = .ok (.aload_n 0, 1) := by decide +kernel
theorem dX8_ahead_86 : decode cX8_ahead 86 = .ok (.getfield 42, 3) := by decide +kernel
theorem dX8_ahead_89 : decode cX8_ahead 89 = .ok (.invokevirtual 87, 3) := by decide +kernel
theorem dX8_ahead_92 : decode cX8_ahead 92 = .ok (.iload_n 2, 1) := by decide +kernel
theorem dX8_ahead_93 : decode cX8_ahead 93 = .ok (.aload_n 0, 1) := by decide +kernel
theorem dX8_ahead_94 : decode cX8_ahead 94 = .ok (.getfield 10, 3) := by decide +kernel
theorem dX8_ahead_97 : decode cX8_ahead 97 = .ok (.aload_n 0, 1) := by decide +kernel
theorem dX8_ahead_98 : decode cX8_ahead 98 = .ok (.getfield 10, 3) := by decide +kernel
theorem dX8_ahead_101 : decode cX8_ahead 101 = .ok (.iload_n 1, 1) := by decide +kernel
theorem dX8_ahead_102 : decode cX8_ahead 102 = .ok (.invokevirtual 126, 3) := by decide +kernel
theorem dX8_ahead_105 : decode cX8_ahead 105 = .ok (.invokevirtual 123, 3) := by decide +kernel
theorem dX8_ahead_108 : decode cX8_ahead 108 = .ok (.isub, 1) := by decide +kernel
theorem dX8_ahead_109 : decode cX8_ahead 109 = .ok (.ireturn, 1) := by decide +kernel
theorem dX8_drop_0 : decode cX8_drop 0 = .ok (.aload_n 0, 1) := by decide +kernel
theorem dX8_drop_1 : decode cX8_drop 1 = .ok (.getfield 10, 3) := by decide +kernel
theorem dX8_drop_4 : decode cX8_drop 4 = .ok (.iconst 0, 1) := by decide +kernel
theorem dX8_drop_5 : decode cX8_drop 5 = .ok (.invokevirtual 63, 3) := by decide +kernel
theorem dX8_drop_8 : decode cX8_drop 8 = .ok (.ifCond .ne 6, 3) := by decide +kernel
theorem dX8_drop_11 : decode cX8_drop 11 = .ok (.bipush (-2), 2) := by decide +kernel
theorem dX8_drop_13 : decode cX8_drop 13 = .ok (.ireturn, 1) := by decide +kernel
theorem dX8_drop_14 : decode cX8_drop 14 = .ok (.aload_n 0, 1) := by decide +kernel
theorem dX8_drop_15 : decode cX8_drop 15 = .ok (.getfield 42, 3) := by decide +kernel
theorem dX8_drop_18 : decode cX8_drop 18 = .ok (.aload_n 0, 1) := by decide +kernel
theorem dX8_drop_19 : decode cX8_drop 19 = .ok (.getfield 10, 3) := by decide +kernel
theorem dX8_drop_22 : decode cX8_drop 22 = .ok (.getfield 79, 3) := by decide +kernel
theorem dX8_drop_25 : decode cX8_drop 25 = .ok (.invokevirtual 83, 3) := by decide +kernel
theorem dX8_drop_28 : decode cX8_drop 28 = .ok (.aload_n 0, 1) := by decide +kernel
theorem dX8_drop_29 : decode cX8_drop 29 = .ok (.getfield 42, 3) := by decide +kernel
theorem dX8_drop_32 : decode cX8_drop 32 = .ok (.invokevirtual 87, 3) := by decide +kernel
theorem dX8_drop_35 : decode cX8_drop 35 = .ok (.aload_n 0, 1) := by decide +kernel
theorem dX8_drop_36 : decode cX8_drop 36 = .ok (.getfield 10, 3) := by decide +kernel
theorem dX8_drop_39 : decode cX8_drop 39 = .ok (.invokevirtual 183, 3) := by decide +kernel
theorem dX8_drop_42 : decode cX8_drop 42 = .ok (.ireturn, 1) := by decide +kernel
theorem dX8_undo_0 : decode cX8_undo 0 = .ok (.aload_n 0, 1) := by decide +kernel
theorem dX8_undo_1 : decode cX8_undo 1 = .ok (.getfield 42, 3) := by decide +kernel
theorem dX8_undo_4 : decode cX8_undo 4 = .ok (.aload_n 0, 1) := by decide +kernel
theorem dX8_undo_5 : decode cX8_undo 5 = .ok (.getfield 10, 3) := by decide +kernel
theorem dX8_undo_8 : decode cX8_undo 8 = .ok (.getfield 79, 3) := by decide +kernel
theorem dX8_undo_11 : decode cX8_undo 11 = .ok (.invokevirtual 187, 3) := by decide +kernel
theorem dX8_undo_14 : decode cX8_undo 14 = .ok (.ifCond .eq 7, 3) := by decide +kernel
theorem dX8_undo_17 : decode cX8_undo 17 = .ok (.iconst 1, 1) := by decide +kernel
theorem dX8_undo_18 : decode cX8_undo 18 = .ok (.goto 5, 3) := by decide +kernel
theorem dX8_undo_21 : decode cX8_undo 21 = .ok (.bipush (-2), 2) := by decide +kernel
theorem dX8_undo_23 : decode cX8_undo 23 = .ok (.ireturn, 1) := by decide +kernel
theorem dX8_layout_0 : decode cX8_layout 0 = .ok (.aload_n 0, 1) := by decide +kernel
theorem dX8_layout_1 : decode cX8_layout 1 = .ok (.iload_n 1, 1) := by decide +kernel
theorem dX8_layout_2 : decode cX8_layout 2 = .ok (.iload_n 2, 1) := by decide +kernel
theorem dX8_layout_3 : decode cX8_layout 3 = .ok (.invokevirtual 191, 3) := by decide +kernel
theorem dX8_layout_6 : decode cX8_layout 6 = .ok (.istore_n 3, 1) := by decide +kernel
theorem dX8_layout_7 : decode cX8_layout 7 = .ok (.iload_n 3, 1) := by decide +kernel
theorem dX8_layout_8 : decode cX8_layout 8 = .ok (.ifCond .eq 7, 3) := by decide +kernel
theorem dX8_layout_11 : decode cX8_layout 11 = .ok (.iload_n 3, 1) := by decide +kernel
theorem dX8_layout_12 : decode cX8_layout 12 = .ok (.goto 12, 3) := by decide +kernel
theorem dX8_layout_15 : decode cX8_layout 15 = .ok (.aload_n 0, 1) := by decide +kernel
theorem dX8_layout_16 : decode cX8_layout 16 = .ok (.getfield 51, 3) := by decide +kernel
theorem dX8_layout_19 : decode cX8_layout 19 = .ok (.iload_n 1, 1) := by decide +kernel
theorem dX8_layout_20 : decode cX8_layout 20 = .ok (.iload_n 2, 1) := by decide +kernel
theorem dX8_layout_21 : decode cX8_layout 21 = .ok (.invokevirtual 194, 3) := by decide +kernel
theorem dX8_layout_24 : decode cX8_layout 24 = .ok (.ireturn, 1) := by decide +kernel
theorem dX8_laid_0 : decode cX8_laid 0 = .ok (.iload_n 1, 1) := by decide +kernel
theorem dX8_laid_1 : decode cX8_laid 1 = .ok (.ifCond .ge 5, 3) := by decide +kernel
theorem dX8_laid_4 : decode cX8_laid 4 = .ok (.iconst (-1), 1) := by decide +kernel
theorem dX8_laid_5 : decode cX8_laid 5 = .ok (.ireturn, 1) := by decide +kernel
theorem dX8_laid_6 : decode cX8_laid 6 = .ok (.aload_n 0, 1) := by decide +kernel
theorem dX8_laid_7 : decode cX8_laid 7 = .ok (.getfield 51, 3) := by decide +kernel
theorem dX8_laid_10 : decode cX8_laid 10 = .ok (.invokevirtual 197, 3) := by decide +kernel
theorem dX8_laid_13 : decode cX8_laid 13 = .ok (.ifCond .eq 14, 3) := by decide +kernel
theorem dX8_laid_16 : decode cX8_laid 16 = .ok (.aload_n 0, 1) := by decide +kernel
theorem dX8_laid_17 : decode cX8_laid 17 = .ok (.getfield 51, 3) := by decide +kernel
theorem dX8_laid_20 : decode cX8_laid 20 = .ok (.iload_n 1, 1) := by decide +kernel
theorem dX8_laid_21 : decode cX8_laid 21 = .ok (.invokevirtual 200, 3) := by decide +kernel
theorem dX8_laid_24 : decode cX8_laid 24 = .ok (.goto 5, 3) := by decide +kernel
theorem dX8_laid_27 : decode cX8_laid 27 = .ok (.bipush (-2), 2) := by decide +kernel
theorem dX8_laid_29 : decode cX8_laid 29 = .ok (.ireturn, 1) := by decide +kernel
theorem dX8_next_0 : decode cX8_next 0 = .ok (.aload_n 0, 1) := by decide +kernel
theorem dX8_next_1 : decode cX8_next 1 = .ok (.iload_n 1, 1) := by decide +kernel
theorem dX8_next_2 : decode cX8_next 2 = .ok (.iload_n 2, 1) := by decide +kernel
theorem dX8_next_3 : decode cX8_next 3 = .ok (.invokevirtual 191, 3) := by decide +kernel
theorem dX8_next_6 : decode cX8_next 6 = .ok (.istore_n 3, 1) := by decide +kernel
theorem dX8_next_7 : decode cX8_next 7 = .ok (.iload_n 3, 1) := by decide +kernel
theorem dX8_next_8 : decode cX8_next 8 = .ok (.ifCond .eq 7, 3) := by decide +kernel
theorem dX8_next_11 : decode cX8_next 11 = .ok (.iload_n 3, 1) := by decide +kernel
theorem dX8_next_12 : decode cX8_next 12 = .ok (.goto 12, 3) := by decide +kernel
theorem dX8_next_15 : decode cX8_next 15 = .ok (.aload_n 0, 1) := by decide +kernel
theorem dX8_next_16 : decode cX8_next 16 = .ok (.getfield 51, 3) := by decide +kernel
theorem dX8_next_19 : decode cX8_next 19 = .ok (.iload_n 1, 1) := by decide +kernel
theorem dX8_next_20 : decode cX8_next 20 = .ok (.iload_n 2, 1) := by decide +kernel
theorem dX8_next_21 : decode cX8_next 21 = .ok (.invokevirtual 201, 3) := by decide +kernel
theorem dX8_next_24 : decode cX8_next 24 = .ok (.ireturn, 1) := by decide +kernel
theorem dX8_count_0 : decode cX8_count 0 = .ok (.iload_n 1, 1) := by decide +kernel
theorem dX8_count_1 : decode cX8_count 1 = .ok (.tableswitch 93 0 5 #[39, 50, 58, 66, 77, 85], 39) := by decide +kernel
theorem dX8_count_40 : decode cX8_count 40 = .ok (.aload_n 0, 1) := by decide +kernel
theorem dX8_count_41 : decode cX8_count 41 = .ok (.getfield 10, 3) := by decide +kernel
theorem dX8_count_44 : decode cX8_count 44 = .ok (.getfield 79, 3) := by decide +kernel
theorem dX8_count_47 : decode cX8_count 47 = .ok (.getfield 204, 3) := by decide +kernel
theorem dX8_count_50 : decode cX8_count 50 = .ok (.ireturn, 1) := by decide +kernel
theorem dX8_count_51 : decode cX8_count 51 = .ok (.aload_n 0, 1) := by decide +kernel
theorem dX8_count_52 : decode cX8_count 52 = .ok (.getfield 10, 3) := by decide +kernel
theorem dX8_count_55 : decode cX8_count 55 = .ok (.invokevirtual 210, 3) := by decide +kernel
theorem dX8_count_58 : decode cX8_count 58 = .ok (.ireturn, 1) := by decide +kernel
theorem dX8_count_59 : decode cX8_count 59 = .ok (.aload_n 0, 1) := by decide +kernel
theorem dX8_count_60 : decode cX8_count 60 = .ok (.getfield 10, 3) := by decide +kernel
theorem dX8_count_63 : decode cX8_count 63 = .ok (.invokevirtual 213, 3) := by decide +kernel
theorem dX8_count_66 : decode cX8_count 66 = .ok (.ireturn, 1) := by decide +kernel
theorem dX8_count_67 : decode cX8_count 67 = .ok (.aload_n 0, 1) := by decide +kernel
theorem dX8_count_68 : decode cX8_count 68 = .ok (.getfield 10, 3) := by decide +kernel
theorem dX8_count_71 : decode cX8_count 71 = .ok (.getfield 79, 3) := by decide +kernel
theorem dX8_count_74 : decode cX8_count 74 = .ok (.getfield 216, 3) := by decide +kernel
theorem dX8_count_77 : decode cX8_count 77 = .ok (.ireturn, 1) := by decide +kernel
theorem dX8_count_78 : decode cX8_count 78 = .ok (.aload_n 0, 1) := by decide +kernel
theorem dX8_count_79 : decode cX8_count 79 = .ok (.getfield 10, 3) := by decide +kernel
theorem dX8_count_82 : decode cX8_count 82 = .ok (.invokevirtual 219, 3) := by decide +kernel
theorem dX8_count_85 : decode cX8_count 85 = .ok (.ireturn, 1) := by decide +kernel
theorem dX8_count_86 : decode cX8_count 86 = .ok (.aload_n 0, 1) := by decide +kernel
theorem dX8_count_87 : decode cX8_count 87 = .ok (.getfield 42, 3) := by decide +kernel
theorem dX8_count_90 : decode cX8_count 90 = .ok (.getfield 222, 3) := by decide +kernel
theorem dX8_count_93 : decode cX8_count 93 = .ok (.ireturn, 1) := by decide +kernel
theorem dX8_count_94 : decode cX8_count 94 = .ok (.iconst (-1), 1) := by decide +kernel
theorem dX8_count_95 : decode cX8_count 95 = .ok (.ireturn, 1) := by decide +kernel
theorem dX8_tellStep_0 : decode cX8_tellStep 0 = .ok (.iload_n 3, 1) := by decide +kernel
theorem dX8_tellStep_1 : decode cX8_tellStep 1 = .ok (.ifCond .le 19, 3) := by decide +kernel
theorem dX8_tellStep_4 : decode cX8_tellStep 4 = .ok (.aload_n 0, 1) := by decide +kernel
theorem dX8_tellStep_5 : decode cX8_tellStep 5 = .ok (.getfield 10, 3) := by decide +kernel
theorem dX8_tellStep_8 : decode cX8_tellStep 8 = .ok (.iload 4, 2) := by decide +kernel
theorem dX8_tellStep_10 : decode cX8_tellStep 10 = .ok (.invokevirtual 76, 3) := by decide +kernel
theorem dX8_tellStep_13 : decode cX8_tellStep 13 = .ok (.ifCond .ne 7, 3) := by decide +kernel
theorem dX8_tellStep_16 : decode cX8_tellStep 16 = .ok (.iconst 1, 1) := by decide +kernel
theorem dX8_tellStep_17 : decode cX8_tellStep 17 = .ok (.goto 4, 3) := by decide +kernel
theorem dX8_tellStep_20 : decode cX8_tellStep 20 = .ok (.iconst 0, 1) := by decide +kernel
theorem dX8_tellStep_21 : decode cX8_tellStep 21 = .ok (.istore 7, 2) := by decide +kernel
theorem dX8_tellStep_23 : decode cX8_tellStep 23 = .ok (.iload_n 3, 1) := by decide +kernel
theorem dX8_tellStep_24 : decode cX8_tellStep 24 = .ok (.iconst 1, 1) := by decide +kernel
theorem dX8_tellStep_25 : decode cX8_tellStep 25 = .ok (.if_icmp .le 26, 3) := by decide +kernel
theorem dX8_tellStep_28 : decode cX8_tellStep 28 = .ok (.aload_n 0, 1) := by decide +kernel
theorem dX8_tellStep_29 : decode cX8_tellStep 29 = .ok (.getfield 10, 3) := by decide +kernel
theorem dX8_tellStep_32 : decode cX8_tellStep 32 = .ok (.iload 5, 2) := by decide +kernel
theorem dX8_tellStep_34 : decode cX8_tellStep 34 = .ok (.invokevirtual 76, 3) := by decide +kernel
theorem dX8_tellStep_37 : decode cX8_tellStep 37 = .ok (.ifCond .eq 10, 3) := by decide +kernel
theorem dX8_tellStep_40 : decode cX8_tellStep 40 = .ok (.iload 5, 2) := by decide +kernel
theorem dX8_tellStep_42 : decode cX8_tellStep 42 = .ok (.iload 4, 2) := by decide +kernel
theorem dX8_tellStep_44 : decode cX8_tellStep 44 = .ok (.if_icmp .ne 7, 3) := by decide +kernel
theorem dX8_tellStep_47 : decode cX8_tellStep 47 = .ok (.iconst 1, 1) := by decide +kernel
theorem dX8_tellStep_48 : decode cX8_tellStep 48 = .ok (.goto 4, 3) := by decide +kernel
theorem dX8_tellStep_51 : decode cX8_tellStep 51 = .ok (.iconst 0, 1) := by decide +kernel
theorem dX8_tellStep_52 : decode cX8_tellStep 52 = .ok (.istore 8, 2) := by decide +kernel
theorem dX8_tellStep_54 : decode cX8_tellStep 54 = .ok (.iload_n 3, 1) := by decide +kernel
theorem dX8_tellStep_55 : decode cX8_tellStep 55 = .ok (.iconst 2, 1) := by decide +kernel
theorem dX8_tellStep_56 : decode cX8_tellStep 56 = .ok (.if_icmp .le 33, 3) := by decide +kernel
theorem dX8_tellStep_59 : decode cX8_tellStep 59 = .ok (.aload_n 0, 1) := by decide +kernel
theorem dX8_tellStep_60 : decode cX8_tellStep 60 = .ok (.getfield 10, 3) := by decide +kernel
theorem dX8_tellStep_63 : decode cX8_tellStep 63 = .ok (.iload 6, 2) := by decide +kernel
theorem dX8_tellStep_65 : decode cX8_tellStep 65 = .ok (.invokevirtual 76, 3) := by decide +kernel
theorem dX8_tellStep_68 : decode cX8_tellStep 68 = .ok (.ifCond .eq 17, 3) := by decide +kernel
theorem dX8_tellStep_71 : decode cX8_tellStep 71 = .ok (.iload 6, 2) := by decide +kernel
theorem dX8_tellStep_73 : decode cX8_tellStep 73 = .ok (.iload 4, 2) := by decide +kernel
theorem dX8_tellStep_75 : decode cX8_tellStep 75 = .ok (.if_icmp .eq 10, 3) := by decide +kernel
theorem dX8_tellStep_78 : decode cX8_tellStep 78 = .ok (.iload 6, 2) := by decide +kernel
theorem dX8_tellStep_80 : decode cX8_tellStep 80 = .ok (.iload 5, 2) := by decide +kernel
theorem dX8_tellStep_82 : decode cX8_tellStep 82 = .ok (.if_icmp .ne 7, 3) := by decide +kernel
theorem dX8_tellStep_85 : decode cX8_tellStep 85 = .ok (.iconst 1, 1) := by decide +kernel
theorem dX8_tellStep_86 : decode cX8_tellStep 86 = .ok (.goto 4, 3) := by decide +kernel
theorem dX8_tellStep_89 : decode cX8_tellStep 89 = .ok (.iconst 0, 1) := by decide +kernel
theorem dX8_tellStep_90 : decode cX8_tellStep 90 = .ok (.istore 9, 2) := by decide +kernel
theorem dX8_tellStep_92 : decode cX8_tellStep 92 = .ok (.iload 7, 2) := by decide +kernel
theorem dX8_tellStep_94 : decode cX8_tellStep 94 = .ok (.ifCond .ne 13, 3) := by decide +kernel
theorem dX8_tellStep_97 : decode cX8_tellStep 97 = .ok (.iload 8, 2) := by decide +kernel
theorem dX8_tellStep_99 : decode cX8_tellStep 99 = .ok (.ifCond .ne 8, 3) := by decide +kernel
theorem dX8_tellStep_102 : decode cX8_tellStep 102 = .ok (.iload 9, 2) := by decide +kernel
theorem dX8_tellStep_104 : decode cX8_tellStep 104 = .ok (.ifCond .eq 5, 3) := by decide +kernel
theorem dX8_tellStep_107 : decode cX8_tellStep 107 = .ok (.iconst (-1), 1) := by decide +kernel
theorem dX8_tellStep_108 : decode cX8_tellStep 108 = .ok (.ireturn, 1) := by decide +kernel
theorem dX8_tellStep_109 : decode cX8_tellStep 109 = .ok (.iload_n 3, 1) := by decide +kernel
theorem dX8_tellStep_110 : decode cX8_tellStep 110 = .ok (.ifCond .le 15, 3) := by decide +kernel
theorem dX8_tellStep_113 : decode cX8_tellStep 113 = .ok (.aload_n 0, 1) := by decide +kernel
theorem dX8_tellStep_114 : decode cX8_tellStep 114 = .ok (.getfield 10, 3) := by decide +kernel
theorem dX8_tellStep_117 : decode cX8_tellStep 117 = .ok (.iload 4, 2) := by decide +kernel
theorem dX8_tellStep_119 : decode cX8_tellStep 119 = .ok (.invokevirtual 225, 3) := by decide +kernel
theorem dX8_tellStep_122 : decode cX8_tellStep 122 = .ok (.goto 4, 3) := by decide +kernel
theorem dX8_tellStep_125 : decode cX8_tellStep 125 = .ok (.iconst 0, 1) := by decide +kernel
theorem dX8_tellStep_126 : decode cX8_tellStep 126 = .ok (.istore 10, 2) := by decide +kernel
theorem dX8_tellStep_128 : decode cX8_tellStep 128 = .ok (.iload_n 3, 1) := by decide +kernel
theorem dX8_tellStep_129 : decode cX8_tellStep 129 = .ok (.iconst 1, 1) := by decide +kernel
theorem dX8_tellStep_130 : decode cX8_tellStep 130 = .ok (.if_icmp .le 20, 3) := by decide +kernel
theorem dX8_tellStep_133 : decode cX8_tellStep 133 = .ok (.iload 10, 2) := by decide +kernel
theorem dX8_tellStep_135 : decode cX8_tellStep 135 = .ok (.aload_n 0, 1) := by decide +kernel
theorem dX8_tellStep_136 : decode cX8_tellStep 136 = .ok (.getfield 10, 3) := by decide +kernel
theorem dX8_tellStep_139 : decode cX8_tellStep 139 = .ok (.iload 5, 2) := by decide +kernel
theorem dX8_tellStep_141 : decode cX8_tellStep 141 = .ok (.invokevirtual 225, 3) := by decide +kernel
theorem dX8_tellStep_144 : decode cX8_tellStep 144 = .ok (.invokestatic 228, 3) := by decide +kernel
theorem dX8_tellStep_147 : decode cX8_tellStep 147 = .ok (.goto 5, 3) := by decide +kernel
theorem dX8_tellStep_150 : decode cX8_tellStep 150 = .ok (.iload 10, 2) := by decide +kernel
theorem dX8_tellStep_152 : decode cX8_tellStep 152 = .ok (.istore 10, 2) := by decide +kernel
theorem dX8_tellStep_154 : decode cX8_tellStep 154 = .ok (.iload_n 3, 1) := by decide +kernel
theorem dX8_tellStep_155 : decode cX8_tellStep 155 = .ok (.iconst 2, 1) := by decide +kernel
theorem dX8_tellStep_156 : decode cX8_tellStep 156 = .ok (.if_icmp .le 20, 3) := by decide +kernel
theorem dX8_tellStep_159 : decode cX8_tellStep 159 = .ok (.iload 10, 2) := by decide +kernel
theorem dX8_tellStep_161 : decode cX8_tellStep 161 = .ok (.aload_n 0, 1) := by decide +kernel
theorem dX8_tellStep_162 : decode cX8_tellStep 162 = .ok (.getfield 10, 3) := by decide +kernel
theorem dX8_tellStep_165 : decode cX8_tellStep 165 = .ok (.iload 6, 2) := by decide +kernel
theorem dX8_tellStep_167 : decode cX8_tellStep 167 = .ok (.invokevirtual 225, 3) := by decide +kernel
theorem dX8_tellStep_170 : decode cX8_tellStep 170 = .ok (.invokestatic 228, 3) := by decide +kernel
theorem dX8_tellStep_173 : decode cX8_tellStep 173 = .ok (.goto 5, 3) := by decide +kernel
theorem dX8_tellStep_176 : decode cX8_tellStep 176 = .ok (.iload 10, 2) := by decide +kernel
theorem dX8_tellStep_178 : decode cX8_tellStep 178 = .ok (.istore 10, 2) := by decide +kernel
theorem dX8_tellStep_180 : decode cX8_tellStep 180 = .ok (.aload_n 0, 1) := by decide +kernel
theorem dX8_tellStep_181 : decode cX8_tellStep 181 = .ok (.getfield 10, 3) := by decide +kernel
theorem dX8_tellStep_184 : decode cX8_tellStep 184 = .ok (.getfield 79, 3) := by decide +kernel
theorem dX8_tellStep_187 : decode cX8_tellStep 187 = .ok (.getfield 204, 3) := by decide +kernel
theorem dX8_tellStep_190 : decode cX8_tellStep 190 = .ok (.sipush 600, 3) := by decide +kernel
theorem dX8_tellStep_193 : decode cX8_tellStep 193 = .ok (.if_icmp .ge 10, 3) := by decide +kernel
theorem dX8_tellStep_196 : decode cX8_tellStep 196 = .ok (.iload 10, 2) := by decide +kernel
theorem dX8_tellStep_198 : decode cX8_tellStep 198 = .ok (.bipush 40, 2) := by decide +kernel
theorem dX8_tellStep_200 : decode cX8_tellStep 200 = .ok (.if_icmp .lt 6, 3) := by decide +kernel
theorem dX8_tellStep_203 : decode cX8_tellStep 203 = .ok (.bipush (-3), 2) := by decide +kernel
theorem dX8_tellStep_205 : decode cX8_tellStep 205 = .ok (.ireturn, 1) := by decide +kernel
theorem dX8_tellStep_206 : decode cX8_tellStep 206 = .ok (.aload_n 0, 1) := by decide +kernel
theorem dX8_tellStep_207 : decode cX8_tellStep 207 = .ok (.getfield 10, 3) := by decide +kernel
theorem dX8_tellStep_210 : decode cX8_tellStep 210 = .ok (.iload_n 1, 1) := by decide +kernel
theorem dX8_tellStep_211 : decode cX8_tellStep 211 = .ok (.iload_n 2, 1) := by decide +kernel
theorem dX8_tellStep_212 : decode cX8_tellStep 212 = .ok (.invokevirtual 233, 3) := by decide +kernel
theorem dX8_tellStep_215 : decode cX8_tellStep 215 = .ok (.istore 11, 2) := by decide +kernel
theorem dX8_tellStep_217 : decode cX8_tellStep 217 = .ok (.iload_n 3, 1) := by decide +kernel
theorem dX8_tellStep_218 : decode cX8_tellStep 218 = .ok (.ifCond .le 14, 3) := by decide +kernel
theorem dX8_tellStep_221 : decode cX8_tellStep 221 = .ok (.aload_n 0, 1) := by decide +kernel
theorem dX8_tellStep_222 : decode cX8_tellStep 222 = .ok (.getfield 10, 3) := by decide +kernel
theorem dX8_tellStep_225 : decode cX8_tellStep 225 = .ok (.iload 11, 2) := by decide +kernel
theorem dX8_tellStep_227 : decode cX8_tellStep 227 = .ok (.iload 4, 2) := by decide +kernel
theorem dX8_tellStep_229 : decode cX8_tellStep 229 = .ok (.invokevirtual 236, 3) := by decide +kernel
theorem dX8_tellStep_232 : decode cX8_tellStep 232 = .ok (.iload_n 3, 1) := by decide +kernel
theorem dX8_tellStep_233 : decode cX8_tellStep 233 = .ok (.iconst 1, 1) := by decide +kernel
theorem dX8_tellStep_234 : decode cX8_tellStep 234 = .ok (.if_icmp .le 14, 3) := by decide +kernel
theorem dX8_tellStep_237 : decode cX8_tellStep 237 = .ok (.aload_n 0, 1) := by decide +kernel
theorem dX8_tellStep_238 : decode cX8_tellStep 238 = .ok (.getfield 10, 3) := by decide +kernel
theorem dX8_tellStep_241 : decode cX8_tellStep 241 = .ok (.iload 11, 2) := by decide +kernel
theorem dX8_tellStep_243 : decode cX8_tellStep 243 = .ok (.iload 5, 2) := by decide +kernel
theorem dX8_tellStep_245 : decode cX8_tellStep 245 = .ok (.invokevirtual 236, 3) := by decide +kernel
theorem dX8_tellStep_248 : decode cX8_tellStep 248 = .ok (.iload_n 3, 1) := by decide +kernel
theorem dX8_tellStep_249 : decode cX8_tellStep 249 = .ok (.iconst 2, 1) := by decide +kernel
theorem dX8_tellStep_250 : decode cX8_tellStep 250 = .ok (.if_icmp .le 14, 3) := by decide +kernel
theorem dX8_tellStep_253 : decode cX8_tellStep 253 = .ok (.aload_n 0, 1) := by decide +kernel
theorem dX8_tellStep_254 : decode cX8_tellStep 254 = .ok (.getfield 10, 3) := by decide +kernel
theorem dX8_tellStep_257 : decode cX8_tellStep 257 = .ok (.iload 11, 2) := by decide +kernel
theorem dX8_tellStep_259 : decode cX8_tellStep 259 = .ok (.iload 6, 2) := by decide +kernel
theorem dX8_tellStep_261 : decode cX8_tellStep 261 = .ok (.invokevirtual 236, 3) := by decide +kernel
theorem dX8_tellStep_264 : decode cX8_tellStep 264 = .ok (.aload_n 0, 1) := by decide +kernel
theorem dX8_tellStep_265 : decode cX8_tellStep 265 = .ok (.getfield 42, 3) := by decide +kernel
theorem dX8_tellStep_268 : decode cX8_tellStep 268 = .ok (.invokevirtual 73, 3) := by decide +kernel
theorem dX8_tellStep_271 : decode cX8_tellStep 271 = .ok (.iload 11, 2) := by decide +kernel
theorem dX8_tellStep_273 : decode cX8_tellStep 273 = .ok (.ireturn, 1) := by decide +kernel
theorem dX8_refusalOfChoice_0 : decode cX8_refusalOfChoice 0 = .ok (.aload_n 0, 1) := by decide +kernel
theorem dX8_refusalOfChoice_1 : decode cX8_refusalOfChoice 1 = .ok (.getfield 10, 3) := by decide +kernel
theorem dX8_refusalOfChoice_4 : decode cX8_refusalOfChoice 4 = .ok (.iload_n 1, 1) := by decide +kernel
theorem dX8_refusalOfChoice_5 : decode cX8_refusalOfChoice 5 = .ok (.invokevirtual 63, 3) := by decide +kernel
theorem dX8_refusalOfChoice_8 : decode cX8_refusalOfChoice 8 = .ok (.ifCond .eq 14, 3) := by decide +kernel
theorem dX8_refusalOfChoice_11 : decode cX8_refusalOfChoice 11 = .ok (.iload_n 2, 1) := by decide +kernel
theorem dX8_refusalOfChoice_12 : decode cX8_refusalOfChoice 12 = .ok (.ifCond .lt 10, 3) := by decide +kernel
theorem dX8_refusalOfChoice_15 : decode cX8_refusalOfChoice 15 = .ok (.iload_n 2, 1) := by decide +kernel
theorem dX8_refusalOfChoice_16 : decode cX8_refusalOfChoice 16 = .ok (.sipush 1000, 3) := by decide +kernel
theorem dX8_refusalOfChoice_19 : decode cX8_refusalOfChoice 19 = .ok (.if_icmp .le 5, 3) := by decide +kernel
theorem dX8_refusalOfChoice_22 : decode cX8_refusalOfChoice 22 = .ok (.iconst (-1), 1) := by decide +kernel
theorem dX8_refusalOfChoice_23 : decode cX8_refusalOfChoice 23 = .ok (.ireturn, 1) := by decide +kernel
theorem dX8_refusalOfChoice_24 : decode cX8_refusalOfChoice 24 = .ok (.aload_n 0, 1) := by decide +kernel
theorem dX8_refusalOfChoice_25 : decode cX8_refusalOfChoice 25 = .ok (.getfield 10, 3) := by decide +kernel
theorem dX8_refusalOfChoice_28 : decode cX8_refusalOfChoice 28 = .ok (.iload_n 1, 1) := by decide +kernel
theorem dX8_refusalOfChoice_29 : decode cX8_refusalOfChoice 29 = .ok (.invokevirtual 162, 3) := by decide +kernel
theorem dX8_refusalOfChoice_32 : decode cX8_refusalOfChoice 32 = .ok (.ifCond .eq 8, 3) := by decide +kernel
theorem dX8_refusalOfChoice_35 : decode cX8_refusalOfChoice 35 = .ok (.bipush (-2), 2) := by decide +kernel
theorem dX8_refusalOfChoice_37 : decode cX8_refusalOfChoice 37 = .ok (.goto 4, 3) := by decide +kernel
theorem dX8_refusalOfChoice_40 : decode cX8_refusalOfChoice 40 = .ok (.iconst 0, 1) := by decide +kernel
theorem dX8_refusalOfChoice_41 : decode cX8_refusalOfChoice 41 = .ok (.ireturn, 1) := by decide +kernel
theorem dX8_isName_0 : decode cX8_isName 0 = .ok (.iload_n 0, 1) := by decide +kernel
theorem dX8_isName_1 : decode cX8_isName 1 = .ok (.ifCond .lt 13, 3) := by decide +kernel
theorem dX8_isName_4 : decode cX8_isName 4 = .ok (.iload_n 0, 1) := by decide +kernel
theorem dX8_isName_5 : decode cX8_isName 5 = .ok (.bipush 40, 2) := by decide +kernel
theorem dX8_isName_7 : decode cX8_isName 7 = .ok (.if_icmp .ge 7, 3) := by decide +kernel
theorem dX8_isName_10 : decode cX8_isName 10 = .ok (.iconst 1, 1) := by decide +kernel
theorem dX8_isName_11 : decode cX8_isName 11 = .ok (.goto 4, 3) := by decide +kernel
theorem dX8_isName_14 : decode cX8_isName 14 = .ok (.iconst 0, 1) := by decide +kernel
theorem dX8_isName_15 : decode cX8_isName 15 = .ok (.ireturn, 1) := by decide +kernel
theorem dX8_reckon_0 : decode cX8_reckon 0 = .ok (.iload_n 0, 1) := by decide +kernel
theorem dX8_reckon_1 : decode cX8_reckon 1 = .ok (.tableswitch 70 0 4 #[35, 39, 43, 47, 59], 35) := by decide +kernel
theorem dX8_reckon_36 : decode cX8_reckon 36 = .ok (.iload_n 1, 1) := by decide +kernel
theorem dX8_reckon_37 : decode cX8_reckon 37 = .ok (.iload_n 2, 1) := by decide +kernel
theorem dX8_reckon_38 : decode cX8_reckon 38 = .ok (.iadd, 1) := by decide +kernel
theorem dX8_reckon_39 : decode cX8_reckon 39 = .ok (.ireturn, 1) := by decide +kernel
theorem dX8_reckon_40 : decode cX8_reckon 40 = .ok (.iload_n 1, 1) := by decide +kernel
theorem dX8_reckon_41 : decode cX8_reckon 41 = .ok (.iload_n 2, 1) := by decide +kernel
theorem dX8_reckon_42 : decode cX8_reckon 42 = .ok (.isub, 1) := by decide +kernel
theorem dX8_reckon_43 : decode cX8_reckon 43 = .ok (.ireturn, 1) := by decide +kernel
theorem dX8_reckon_44 : decode cX8_reckon 44 = .ok (.iload_n 1, 1) := by decide +kernel
theorem dX8_reckon_45 : decode cX8_reckon 45 = .ok (.iload_n 2, 1) := by decide +kernel
theorem dX8_reckon_46 : decode cX8_reckon 46 = .ok (.imul, 1) := by decide +kernel
theorem dX8_reckon_47 : decode cX8_reckon 47 = .ok (.ireturn, 1) := by decide +kernel
theorem dX8_reckon_48 : decode cX8_reckon 48 = .ok (.iload_n 2, 1) := by decide +kernel
theorem dX8_reckon_49 : decode cX8_reckon 49 = .ok (.ifCond .ne 7, 3) := by decide +kernel
theorem dX8_reckon_52 : decode cX8_reckon 52 = .ok (.iconst 0, 1) := by decide +kernel
theorem dX8_reckon_53 : decode cX8_reckon 53 = .ok (.goto 6, 3) := by decide +kernel
theorem dX8_reckon_56 : decode cX8_reckon 56 = .ok (.iload_n 1, 1) := by decide +kernel
theorem dX8_reckon_57 : decode cX8_reckon 57 = .ok (.iload_n 2, 1) := by decide +kernel
theorem dX8_reckon_58 : decode cX8_reckon 58 = .ok (.idiv, 1) := by decide +kernel
theorem dX8_reckon_59 : decode cX8_reckon 59 = .ok (.ireturn, 1) := by decide +kernel
theorem dX8_reckon_60 : decode cX8_reckon 60 = .ok (.iload_n 1, 1) := by decide +kernel
theorem dX8_reckon_61 : decode cX8_reckon 61 = .ok (.iload_n 2, 1) := by decide +kernel
theorem dX8_reckon_62 : decode cX8_reckon 62 = .ok (.if_icmp .ge 7, 3) := by decide +kernel
theorem dX8_reckon_65 : decode cX8_reckon 65 = .ok (.iconst 1, 1) := by decide +kernel
theorem dX8_reckon_66 : decode cX8_reckon 66 = .ok (.goto 4, 3) := by decide +kernel
theorem dX8_reckon_69 : decode cX8_reckon 69 = .ok (.iconst 0, 1) := by decide +kernel
theorem dX8_reckon_70 : decode cX8_reckon 70 = .ok (.ireturn, 1) := by decide +kernel
theorem dX8_reckon_71 : decode cX8_reckon 71 = .ok (.iload_n 1, 1) := by decide +kernel
theorem dX8_reckon_72 : decode cX8_reckon 72 = .ok (.iload_n 2, 1) := by decide +kernel
theorem dX8_reckon_73 : decode cX8_reckon 73 = .ok (.if_icmp .ne 7, 3) := by decide +kernel
theorem dX8_reckon_76 : decode cX8_reckon 76 = .ok (.iconst 1, 1) := by decide +kernel
theorem dX8_reckon_77 : decode cX8_reckon 77 = .ok (.goto 4, 3) := by decide +kernel
theorem dX8_reckon_80 : decode cX8_reckon 80 = .ok (.iconst 0, 1) := by decide +kernel
theorem dX8_reckon_81 : decode cX8_reckon 81 = .ok (.ireturn, 1) := by decide +kernel
theorem dX9_init_0 : decode cX9_init 0 = .ok (.aload_n 0, 1) := by decide +kernel
theorem dX9_init_1 : decode cX9_init 1 = .ok (.invokespecial 1, 3) := by decide +kernel
theorem dX9_init_4 : decode cX9_init 4 = .ok (.aload_n 0, 1) := by decide +kernel
theorem dX9_init_5 : decode cX9_init 5 = .ok (.sipush 600, 3) := by decide +kernel
theorem dX9_init_8 : decode cX9_init 8 = .ok (.newarray .int, 2) := by decide +kernel
theorem dX9_init_10 : decode cX9_init 10 = .ok (.putfield 7, 3) := by decide +kernel
theorem dX9_init_13 : decode cX9_init 13 = .ok (.aload_n 0, 1) := by decide +kernel
theorem dX9_init_14 : decode cX9_init 14 = .ok (.sipush 600, 3) := by decide +kernel
theorem dX9_init_17 : decode cX9_init 17 = .ok (.newarray .int, 2) := by decide +kernel
theorem dX9_init_19 : decode cX9_init 19 = .ok (.putfield 13, 3) := by decide +kernel
theorem dX9_init_22 : decode cX9_init 22 = .ok (.aload_n 0, 1) := by decide +kernel
theorem dX9_init_23 : decode cX9_init 23 = .ok (.sipush 1800, 3) := by decide +kernel
theorem dX9_init_26 : decode cX9_init 26 = .ok (.newarray .int, 2) := by decide +kernel
theorem dX9_init_28 : decode cX9_init 28 = .ok (.putfield 16, 3) := by decide +kernel
theorem dX9_init_31 : decode cX9_init 31 = .ok (.aload_n 0, 1) := by decide +kernel
theorem dX9_init_32 : decode cX9_init 32 = .ok (.sipush 600, 3) := by decide +kernel
theorem dX9_init_35 : decode cX9_init 35 = .ok (.newarray .int, 2) := by decide +kernel
theorem dX9_init_37 : decode cX9_init 37 = .ok (.putfield 19, 3) := by decide +kernel
theorem dX9_init_40 : decode cX9_init 40 = .ok (.aload_n 0, 1) := by decide +kernel
theorem dX9_init_41 : decode cX9_init 41 = .ok (.sipush 600, 3) := by decide +kernel
theorem dX9_init_44 : decode cX9_init 44 = .ok (.newarray .int, 2) := by decide +kernel
theorem dX9_init_46 : decode cX9_init 46 = .ok (.putfield 22, 3) := by decide +kernel
theorem dX9_init_49 : decode cX9_init 49 = .ok (.aload_n 0, 1) := by decide +kernel
theorem dX9_init_50 : decode cX9_init 50 = .ok (.bipush 10, 2) := by decide +kernel
theorem dX9_init_52 : decode cX9_init 52 = .ok (.newarray .int, 2) := by decide +kernel
theorem dX9_init_54 : decode cX9_init 54 = .ok (.putfield 25, 3) := by decide +kernel
theorem dX9_init_57 : decode cX9_init 57 = .ok (.aload_n 0, 1) := by decide +kernel
theorem dX9_init_58 : decode cX9_init 58 = .ok (.bipush 10, 2) := by decide +kernel
theorem dX9_init_60 : decode cX9_init 60 = .ok (.newarray .int, 2) := by decide +kernel
theorem dX9_init_62 : decode cX9_init 62 = .ok (.putfield 28, 3) := by decide +kernel
theorem dX9_init_65 : decode cX9_init 65 = .ok (.aload_n 0, 1) := by decide +kernel
theorem dX9_init_66 : decode cX9_init 66 = .ok (.bipush 8, 2) := by decide +kernel
theorem dX9_init_68 : decode cX9_init 68 = .ok (.newarray .int, 2) := by decide +kernel
theorem dX9_init_70 : decode cX9_init 70 = .ok (.putfield 31, 3) := by decide +kernel
theorem dX9_init_73 : decode cX9_init 73 = .ok (.aload_n 0, 1) := by decide +kernel
theorem dX9_init_74 : decode cX9_init 74 = .ok (.sipush 600, 3) := by decide +kernel
theorem dX9_init_77 : decode cX9_init 77 = .ok (.newarray .int, 2) := by decide +kernel
theorem dX9_init_79 : decode cX9_init 79 = .ok (.putfield 34, 3) := by decide +kernel
theorem dX9_init_82 : decode cX9_init 82 = .ok (.aload_n 0, 1) := by decide +kernel
theorem dX9_init_83 : decode cX9_init 83 = .ok (.sipush 600, 3) := by decide +kernel
theorem dX9_init_86 : decode cX9_init 86 = .ok (.newarray .int, 2) := by decide +kernel
theorem dX9_init_88 : decode cX9_init 88 = .ok (.putfield 37, 3) := by decide +kernel
theorem dX9_init_91 : decode cX9_init 91 = .ok (.aload_n 0, 1) := by decide +kernel
theorem dX9_init_92 : decode cX9_init 92 = .ok (.sipush 1300, 3) := by decide +kernel
theorem dX9_init_95 : decode cX9_init 95 = .ok (.newarray .int, 2) := by decide +kernel
theorem dX9_init_97 : decode cX9_init 97 = .ok (.putfield 40, 3) := by decide +kernel
theorem dX9_init_100 : decode cX9_init 100 = .ok (.aload_n 0, 1) := by decide +kernel
theorem dX9_init_101 : decode cX9_init 101 = .ok (.iconst 3, 1) := by decide +kernel
theorem dX9_init_102 : decode cX9_init 102 = .ok (.newarray .int, 2) := by decide +kernel
theorem dX9_init_104 : decode cX9_init 104 = .ok (.putfield 43, 3) := by decide +kernel
theorem dX9_init_107 : decode cX9_init 107 = .ok (.aload_n 0, 1) := by decide +kernel
theorem dX9_init_108 : decode cX9_init 108 = .ok (.sipush 600, 3) := by decide +kernel
theorem dX9_init_111 : decode cX9_init 111 = .ok (.newarray .int, 2) := by decide +kernel
theorem dX9_init_113 : decode cX9_init 113 = .ok (.putfield 46, 3) := by decide +kernel
theorem dX9_init_116 : decode cX9_init 116 = .ok (.aload_n 0, 1) := by decide +kernel
theorem dX9_init_117 : decode cX9_init 117 = .ok (.sipush 600, 3) := by decide +kernel
theorem dX9_init_120 : decode cX9_init 120 = .ok (.newarray .int, 2) := by decide +kernel
theorem dX9_init_122 : decode cX9_init 122 = .ok (.putfield 49, 3) := by decide +kernel
theorem dX9_init_125 : decode cX9_init 125 = .ok (.aload_n 0, 1) := by decide +kernel
theorem dX9_init_126 : decode cX9_init 126 = .ok (.sipush 600, 3) := by decide +kernel
theorem dX9_init_129 : decode cX9_init 129 = .ok (.newarray .int, 2) := by decide +kernel
theorem dX9_init_131 : decode cX9_init 131 = .ok (.putfield 52, 3) := by decide +kernel
theorem dX9_init_134 : decode cX9_init 134 = .ok (.aload_n 0, 1) := by decide +kernel
theorem dX9_init_135 : decode cX9_init 135 = .ok (.sipush 1800, 3) := by decide +kernel
theorem dX9_init_138 : decode cX9_init 138 = .ok (.newarray .int, 2) := by decide +kernel
theorem dX9_init_140 : decode cX9_init 140 = .ok (.putfield 55, 3) := by decide +kernel
theorem dX9_init_143 : decode cX9_init 143 = .ok (.aload_n 0, 1) := by decide +kernel
theorem dX9_init_144 : decode cX9_init 144 = .ok (.sipush 600, 3) := by decide +kernel
theorem dX9_init_147 : decode cX9_init 147 = .ok (.newarray .int, 2) := by decide +kernel
theorem dX9_init_149 : decode cX9_init 149 = .ok (.putfield 58, 3) := by decide +kernel
theorem dX9_init_152 : decode cX9_init 152 = .ok (.aload_n 0, 1) := by decide +kernel
theorem dX9_init_153 : decode cX9_init 153 = .ok (.sipush 520, 3) := by decide +kernel
theorem dX9_init_156 : decode cX9_init 156 = .ok (.newarray .int, 2) := by decide +kernel
theorem dX9_init_158 : decode cX9_init 158 = .ok (.putfield 61, 3) := by decide +kernel
theorem dX9_init_161 : decode cX9_init 161 = .ok (.aload_n 0, 1) := by decide +kernel
theorem dX9_init_162 : decode cX9_init 162 = .ok (.bipush 13, 2) := by decide +kernel
theorem dX9_init_164 : decode cX9_init 164 = .ok (.newarray .int, 2) := by decide +kernel
theorem dX9_init_166 : decode cX9_init 166 = .ok (.putfield 64, 3) := by decide +kernel
theorem dX9_init_169 : decode cX9_init 169 = .ok (.aload_n 0, 1) := by decide +kernel
theorem dX9_init_170 : decode cX9_init 170 = .ok (.ldc 67, 2) := by decide +kernel
theorem dX9_init_172 : decode cX9_init 172 = .ok (.newarray .int, 2) := by decide +kernel
theorem dX9_init_174 : decode cX9_init 174 = .ok (.putfield 68, 3) := by decide +kernel
theorem dX9_init_177 : decode cX9_init 177 = .ok (.aload_n 0, 1) := by decide +kernel
theorem dX9_init_178 : decode cX9_init 178 = .ok (.sipush 130, 3) := by decide +kernel
theorem dX9_init_181 : decode cX9_init 181 = .ok (.newarray .int, 2) := by decide +kernel
theorem dX9_init_183 : decode cX9_init 183 = .ok (.putfield 71, 3) := by decide +kernel
theorem dX9_init_186 : decode cX9_init 186 = .ok (.aload_n 0, 1) := by decide +kernel
theorem dX9_init_187 : decode cX9_init 187 = .ok (.sipush 600, 3) := by decide +kernel
theorem dX9_init_190 : decode cX9_init 190 = .ok (.newarray .int, 2) := by decide +kernel
theorem dX9_init_192 : decode cX9_init 192 = .ok (.putfield 74, 3) := by decide +kernel
theorem dX9_init_195 : decode cX9_init 195 = .ok (.aload_n 0, 1) := by decide +kernel
theorem dX9_init_196 : decode cX9_init 196 = .ok (.sipush 600, 3) := by decide +kernel
theorem dX9_init_199 : decode cX9_init 199 = .ok (.newarray .int, 2) := by decide +kernel
theorem dX9_init_201 : decode cX9_init 201 = .ok (.putfield 77, 3) := by decide +kernel
theorem dX9_init_204 : decode cX9_init 204 = .ok (.aload_n 0, 1) := by decide +kernel
theorem dX9_init_205 : decode cX9_init 205 = .ok (.bipush 12, 2) := by decide +kernel
theorem dX9_init_207 : decode cX9_init 207 = .ok (.newarray .int, 2) := by decide +kernel
theorem dX9_init_209 : decode cX9_init 209 = .ok (.putfield 80, 3) := by decide +kernel
theorem dX9_init_212 : decode cX9_init 212 = .ok (.aload_n 0, 1) := by decide +kernel
theorem dX9_init_213 : decode cX9_init 213 = .ok (.bipush 12, 2) := by decide +kernel
theorem dX9_init_215 : decode cX9_init 215 = .ok (.newarray .int, 2) := by decide +kernel
theorem dX9_init_217 : decode cX9_init 217 = .ok (.putfield 83, 3) := by decide +kernel
theorem dX9_init_220 : decode cX9_init 220 = .ok (.aload_n 0, 1) := by decide +kernel
theorem dX9_init_221 : decode cX9_init 221 = .ok (.bipush 12, 2) := by decide +kernel
theorem dX9_init_223 : decode cX9_init 223 = .ok (.newarray .int, 2) := by decide +kernel
theorem dX9_init_225 : decode cX9_init 225 = .ok (.putfield 86, 3) := by decide +kernel
theorem dX9_init_228 : decode cX9_init 228 = .ok (.aload_n 0, 1) := by decide +kernel
theorem dX9_init_229 : decode cX9_init 229 = .ok (.bipush 12, 2) := by decide +kernel
theorem dX9_init_231 : decode cX9_init 231 = .ok (.newarray .int, 2) := by decide +kernel
theorem dX9_init_233 : decode cX9_init 233 = .ok (.putfield 89, 3) := by decide +kernel
theorem dX9_init_236 : decode cX9_init 236 = .ok (.aload_n 0, 1) := by decide +kernel
theorem dX9_init_237 : decode cX9_init 237 = .ok (.iconst 0, 1) := by decide +kernel
theorem dX9_init_238 : decode cX9_init 238 = .ok (.putfield 92, 3) := by decide +kernel
theorem dX9_init_241 : decode cX9_init 241 = .ok (.return_, 1) := by decide +kernel
theorem dX9_in_0 : decode cX9_in 0 = .ok (.lload_n 0, 1) := by decide +kernel
theorem dX9_in_1 : decode cX9_in 1 = .ok (.lload_n 2, 1) := by decide +kernel
theorem dX9_in_2 : decode cX9_in 2 = .ok (.lcmp, 1) := by decide +kernel
theorem dX9_in_3 : decode cX9_in 3 = .ok (.ifCond .lt 14, 3) := by decide +kernel
theorem dX9_in_6 : decode cX9_in 6 = .ok (.lload_n 0, 1) := by decide +kernel
theorem dX9_in_7 : decode cX9_in 7 = .ok (.lload 4, 2) := by decide +kernel
theorem dX9_in_9 : decode cX9_in 9 = .ok (.lcmp, 1) := by decide +kernel
theorem dX9_in_10 : decode cX9_in 10 = .ok (.ifCond .gt 7, 3) := by decide +kernel
theorem dX9_in_13 : decode cX9_in 13 = .ok (.iconst 1, 1) := by decide +kernel
theorem dX9_in_14 : decode cX9_in 14 = .ok (.goto 4, 3) := by decide +kernel
theorem dX9_in_17 : decode cX9_in 17 = .ok (.iconst 0, 1) := by decide +kernel
theorem dX9_in_18 : decode cX9_in 18 = .ok (.ireturn, 1) := by decide +kernel
theorem dX9_partsOf_0 : decode cX9_partsOf 0 = .ok (.aload_n 0, 1) := by decide +kernel
theorem dX9_partsOf_1 : decode cX9_partsOf 1 = .ok (.getfield 7, 3) := by decide +kernel
theorem dX9_partsOf_4 : decode cX9_partsOf 4 = .ok (.iload_n 1, 1) := by decide +kernel
theorem dX9_partsOf_5 : decode cX9_partsOf 5 = .ok (.iaload, 1) := by decide +kernel
theorem dX9_partsOf_6 : decode cX9_partsOf 6 = .ok (.tableswitch 84 (-1) 11 #[66, 66, 66, 84, 70, 68, 84, 72, 68, 84, 68, 84, 68], 66) := by decide +kernel
theorem dX9_partsOf_72 : decode cX9_partsOf 72 = .ok (.iconst 0, 1) := by decide +kernel
theorem dX9_partsOf_73 : decode cX9_partsOf 73 = .ok (.ireturn, 1) := by decide +kernel
theorem dX9_partsOf_74 : decode cX9_partsOf 74 = .ok (.iconst 1, 1) := by decide +kernel
theorem dX9_partsOf_75 : decode cX9_partsOf 75 = .ok (.ireturn, 1) := by decide +kernel
theorem dX9_partsOf_76 : decode cX9_partsOf 76 = .ok (.iconst 3, 1) := by decide +kernel
theorem dX9_partsOf_77 : decode cX9_partsOf 77 = .ok (.ireturn, 1) := by decide +kernel
theorem dX9_partsOf_78 : decode cX9_partsOf 78 = .ok (.aload_n 0, 1) := by decide +kernel
theorem dX9_partsOf_79 : decode cX9_partsOf 79 = .ok (.getfield 25, 3) := by decide +kernel
theorem dX9_partsOf_82 : decode cX9_partsOf 82 = .ok (.aload_n 0, 1) := by decide +kernel
theorem dX9_partsOf_83 : decode cX9_partsOf 83 = .ok (.getfield 13, 3) := by decide +kernel
theorem dX9_partsOf_86 : decode cX9_partsOf 86 = .ok (.iload_n 1, 1) := by decide +kernel
theorem dX9_partsOf_87 : decode cX9_partsOf 87 = .ok (.iaload, 1) := by decide +kernel
theorem dX9_partsOf_88 : decode cX9_partsOf 88 = .ok (.iaload, 1) := by decide +kernel
theorem dX9_partsOf_89 : decode cX9_partsOf 89 = .ok (.ireturn, 1) := by decide +kernel
theorem dX9_partsOf_90 : decode cX9_partsOf 90 = .ok (.iconst 2, 1) := by decide +kernel
theorem dX9_partsOf_91 : decode cX9_partsOf 91 = .ok (.ireturn, 1) := by decide +kernel
theorem dX9_goes_0 : decode cX9_goes 0 = .ok (.iconst 0, 1) := by decide +kernel
theorem dX9_goes_1 : decode cX9_goes 1 = .ok (.istore_n 2, 1) := by decide +kernel
theorem dX9_goes_2 : decode cX9_goes 2 = .ok (.iconst 1, 1) := by decide +kernel
theorem dX9_goes_3 : decode cX9_goes 3 = .ok (.istore_n 3, 1) := by decide +kernel
theorem dX9_goes_4 : decode cX9_goes 4 = .ok (.aload_n 0, 1) := by decide +kernel
theorem dX9_goes_5 : decode cX9_goes 5 = .ok (.getfield 40, 3) := by decide +kernel
theorem dX9_goes_8 : decode cX9_goes 8 = .ok (.iconst 0, 1) := by decide +kernel
theorem dX9_goes_9 : decode cX9_goes 9 = .ok (.iload_n 1, 1) := by decide +kernel
theorem dX9_goes_10 : decode cX9_goes 10 = .ok (.iastore, 1) := by decide +kernel
theorem dX9_goes_11 : decode cX9_goes 11 = .ok (.aload_n 0, 1) := by decide +kernel
theorem dX9_goes_12 : decode cX9_goes 12 = .ok (.getfield 37, 3) := by decide +kernel
theorem dX9_goes_15 : decode cX9_goes 15 = .ok (.iload_n 1, 1) := by decide +kernel
theorem dX9_goes_16 : decode cX9_goes 16 = .ok (.iconst 1, 1) := by decide +kernel
theorem dX9_goes_17 : decode cX9_goes 17 = .ok (.iastore, 1) := by decide +kernel
theorem dX9_goes_18 : decode cX9_goes 18 = .ok (.iload_n 3, 1) := by decide +kernel
theorem dX9_goes_19 : decode cX9_goes 19 = .ok (.ifCond .le 90, 3) := by decide +kernel
theorem dX9_goes_22 : decode cX9_goes 22 = .ok (.iinc 3 (-1), 3) := by decide +kernel
theorem dX9_goes_25 : decode cX9_goes 25 = .ok (.aload_n 0, 1) := by decide +kernel
theorem dX9_goes_26 : decode cX9_goes 26 = .ok (.getfield 40, 3) := by decide +kernel
theorem dX9_goes_29 : decode cX9_goes 29 = .ok (.iload_n 3, 1) := by decide +kernel
theorem dX9_goes_30 : decode cX9_goes 30 = .ok (.iaload, 1) := by decide +kernel
theorem dX9_goes_31 : decode cX9_goes 31 = .ok (.istore 4, 2) := by decide +kernel
theorem dX9_goes_33 : decode cX9_goes 33 = .ok (.aload_n 0, 1) := by decide +kernel
theorem dX9_goes_34 : decode cX9_goes 34 = .ok (.getfield 34, 3) := by decide +kernel
theorem dX9_goes_37 : decode cX9_goes 37 = .ok (.iload_n 2, 1) := by decide +kernel
theorem dX9_goes_38 : decode cX9_goes 38 = .ok (.iload 4, 2) := by decide +kernel
theorem dX9_goes_40 : decode cX9_goes 40 = .ok (.iastore, 1) := by decide +kernel
theorem dX9_goes_41 : decode cX9_goes 41 = .ok (.iinc 2 1, 3) := by decide +kernel
theorem dX9_goes_44 : decode cX9_goes 44 = .ok (.aload_n 0, 1) := by decide +kernel
theorem dX9_goes_45 : decode cX9_goes 45 = .ok (.iload 4, 2) := by decide +kernel
theorem dX9_goes_47 : decode cX9_goes 47 = .ok (.invokevirtual 96, 3) := by decide +kernel
theorem dX9_goes_50 : decode cX9_goes 50 = .ok (.iconst 1, 1) := by decide +kernel
theorem dX9_goes_51 : decode cX9_goes 51 = .ok (.isub, 1) := by decide +kernel
theorem dX9_goes_52 : decode cX9_goes 52 = .ok (.istore 5, 2) := by decide +kernel
theorem dX9_goes_54 : decode cX9_goes 54 = .ok (.iload 5, 2) := by decide +kernel
theorem dX9_goes_56 : decode cX9_goes 56 = .ok (.ifCond .lt 50, 3) := by decide +kernel
theorem dX9_goes_59 : decode cX9_goes 59 = .ok (.aload_n 0, 1) := by decide +kernel
theorem dX9_goes_60 : decode cX9_goes 60 = .ok (.getfield 40, 3) := by decide +kernel
theorem dX9_goes_63 : decode cX9_goes 63 = .ok (.iload_n 3, 1) := by decide +kernel
theorem dX9_goes_64 : decode cX9_goes 64 = .ok (.aload_n 0, 1) := by decide +kernel
theorem dX9_goes_65 : decode cX9_goes 65 = .ok (.getfield 16, 3) := by decide +kernel
theorem dX9_goes_68 : decode cX9_goes 68 = .ok (.iconst 3, 1) := by decide +kernel
theorem dX9_goes_69 : decode cX9_goes 69 = .ok (.iload 4, 2) := by decide +kernel
theorem dX9_goes_71 : decode cX9_goes 71 = .ok (.imul, 1) := by decide +kernel
theorem dX9_goes_72 : decode cX9_goes 72 = .ok (.iload 5, 2) := by decide +kernel
theorem dX9_goes_74 : decode cX9_goes 74 = .ok (.iadd, 1) := by decide +kernel
theorem dX9_goes_75 : decode cX9_goes 75 = .ok (.iaload, 1) := by decide +kernel
theorem dX9_goes_76 : decode cX9_goes 76 = .ok (.iastore, 1) := by decide +kernel
theorem dX9_goes_77 : decode cX9_goes 77 = .ok (.aload_n 0, 1) := by decide +kernel
theorem dX9_goes_78 : decode cX9_goes 78 = .ok (.getfield 37, 3) := by decide +kernel
theorem dX9_goes_81 : decode cX9_goes 81 = .ok (.aload_n 0, 1) := by decide +kernel
theorem dX9_goes_82 : decode cX9_goes 82 = .ok (.getfield 40, 3) := by decide +kernel
theorem dX9_goes_85 : decode cX9_goes 85 = .ok (.iload_n 3, 1) := by decide +kernel
theorem dX9_goes_86 : decode cX9_goes 86 = .ok (.iaload, 1) := by decide +kernel
theorem dX9_goes_87 : decode cX9_goes 87 = .ok (.aload_n 0, 1) := by decide +kernel
theorem dX9_goes_88 : decode cX9_goes 88 = .ok (.getfield 37, 3) := by decide +kernel
theorem dX9_goes_91 : decode cX9_goes 91 = .ok (.iload 4, 2) := by decide +kernel
theorem dX9_goes_93 : decode cX9_goes 93 = .ok (.iaload, 1) := by decide +kernel
theorem dX9_goes_94 : decode cX9_goes 94 = .ok (.iconst 1, 1) := by decide +kernel
theorem dX9_goes_95 : decode cX9_goes 95 = .ok (.iadd, 1) := by decide +kernel
theorem dX9_goes_96 : decode cX9_goes 96 = .ok (.iastore, 1) := by decide +kernel
theorem dX9_goes_97 : decode cX9_goes 97 = .ok (.iinc 3 1, 3) := by decide +kernel
theorem dX9_goes_100 : decode cX9_goes 100 = .ok (.iinc 5 (-1), 3) := by decide +kernel
theorem dX9_goes_103 : decode cX9_goes 103 = .ok (.goto (-49), 3) := by decide +kernel
theorem dX9_goes_106 : decode cX9_goes 106 = .ok (.goto (-88), 3) := by decide +kernel
theorem dX9_goes_109 : decode cX9_goes 109 = .ok (.iload_n 2, 1) := by decide +kernel
theorem dX9_goes_110 : decode cX9_goes 110 = .ok (.ireturn, 1) := by decide +kernel
theorem dX9_high_0 : decode cX9_high 0 = .ok (.aload_n 0, 1) := by decide +kernel
theorem dX9_high_1 : decode cX9_high 1 = .ok (.iload_n 1, 1) := by decide +kernel
theorem dX9_high_2 : decode cX9_high 2 = .ok (.invokevirtual 100, 3) := by decide +kernel
theorem dX9_high_5 : decode cX9_high 5 = .ok (.istore_n 2, 1) := by decide +kernel
theorem dX9_high_6 : decode cX9_high 6 = .ok (.iconst 0, 1) := by decide +kernel
theorem dX9_high_7 : decode cX9_high 7 = .ok (.istore_n 3, 1) := by decide +kernel
theorem dX9_high_8 : decode cX9_high 8 = .ok (.iconst 0, 1) := by decide +kernel
theorem dX9_high_9 : decode cX9_high 9 = .ok (.istore 4, 2) := by decide +kernel
theorem dX9_high_11 : decode cX9_high 11 = .ok (.iload 4, 2) := by decide +kernel
theorem dX9_high_13 : decode cX9_high 13 = .ok (.iload_n 2, 1) := by decide +kernel
theorem dX9_high_14 : decode cX9_high 14 = .ok (.if_icmp .ge 42, 3) := by decide +kernel
theorem dX9_high_17 : decode cX9_high 17 = .ok (.aload_n 0, 1) := by decide +kernel
theorem dX9_high_18 : decode cX9_high 18 = .ok (.getfield 37, 3) := by decide +kernel
theorem dX9_high_21 : decode cX9_high 21 = .ok (.aload_n 0, 1) := by decide +kernel
theorem dX9_high_22 : decode cX9_high 22 = .ok (.getfield 34, 3) := by decide +kernel
theorem dX9_high_25 : decode cX9_high 25 = .ok (.iload 4, 2) := by decide +kernel
theorem dX9_high_27 : decode cX9_high 27 = .ok (.iaload, 1) := by decide +kernel
theorem dX9_high_28 : decode cX9_high 28 = .ok (.iaload, 1) := by decide +kernel
theorem dX9_high_29 : decode cX9_high 29 = .ok (.iload_n 3, 1) := by decide +kernel
theorem dX9_high_30 : decode cX9_high 30 = .ok (.if_icmp .le 18, 3) := by decide +kernel
theorem dX9_high_33 : decode cX9_high 33 = .ok (.aload_n 0, 1) := by decide +kernel
theorem dX9_high_34 : decode cX9_high 34 = .ok (.getfield 37, 3) := by decide +kernel
theorem dX9_high_37 : decode cX9_high 37 = .ok (.aload_n 0, 1) := by decide +kernel
theorem dX9_high_38 : decode cX9_high 38 = .ok (.getfield 34, 3) := by decide +kernel
theorem dX9_high_41 : decode cX9_high 41 = .ok (.iload 4, 2) := by decide +kernel
theorem dX9_high_43 : decode cX9_high 43 = .ok (.iaload, 1) := by decide +kernel
theorem dX9_high_44 : decode cX9_high 44 = .ok (.iaload, 1) := by decide +kernel
theorem dX9_high_45 : decode cX9_high 45 = .ok (.goto 4, 3) := by decide +kernel
theorem dX9_high_48 : decode cX9_high 48 = .ok (.iload_n 3, 1) := by decide +kernel
theorem dX9_high_49 : decode cX9_high 49 = .ok (.istore_n 3, 1) := by decide +kernel
theorem dX9_high_50 : decode cX9_high 50 = .ok (.iinc 4 1, 3) := by decide +kernel
theorem dX9_high_53 : decode cX9_high 53 = .ok (.goto (-42), 3) := by decide +kernel
theorem dX9_high_56 : decode cX9_high 56 = .ok (.iload_n 3, 1) := by decide +kernel
theorem dX9_high_57 : decode cX9_high 57 = .ok (.ireturn, 1) := by decide +kernel
theorem dX9_isStep_0 : decode cX9_isStep 0 = .ok (.iload_n 1, 1) := by decide +kernel
theorem dX9_isStep_1 : decode cX9_isStep 1 = .ok (.i2l, 1) := by decide +kernel
theorem dX9_isStep_2 : decode cX9_isStep 2 = .ok (.lconst 0, 1) := by decide +kernel
theorem dX9_isStep_3 : decode cX9_isStep 3 = .ok (.aload_n 0, 1) := by decide +kernel
theorem dX9_isStep_4 : decode cX9_isStep 4 = .ok (.getfield 92, 3) := by decide +kernel
theorem dX9_isStep_7 : decode cX9_isStep 7 = .ok (.iconst 1, 1) := by decide +kernel
theorem dX9_isStep_8 : decode cX9_isStep 8 = .ok (.isub, 1) := by decide +kernel
theorem dX9_isStep_9 : decode cX9_isStep 9 = .ok (.i2l, 1) := by decide +kernel
theorem dX9_isStep_10 : decode cX9_isStep 10 = .ok (.invokestatic 103, 3) := by decide +kernel
theorem dX9_isStep_13 : decode cX9_isStep 13 = .ok (.ifCond .eq 17, 3) := by decide +kernel
theorem dX9_isStep_16 : decode cX9_isStep 16 = .ok (.aload_n 0, 1) := by decide +kernel
theorem dX9_isStep_17 : decode cX9_isStep 17 = .ok (.getfield 7, 3) := by decide +kernel
theorem dX9_isStep_20 : decode cX9_isStep 20 = .ok (.iload_n 1, 1) := by decide +kernel
theorem dX9_isStep_21 : decode cX9_isStep 21 = .ok (.iaload, 1) := by decide +kernel
theorem dX9_isStep_22 : decode cX9_isStep 22 = .ok (.iconst (-1), 1) := by decide +kernel
theorem dX9_isStep_23 : decode cX9_isStep 23 = .ok (.if_icmp .eq 7, 3) := by decide +kernel
theorem dX9_isStep_26 : decode cX9_isStep 26 = .ok (.iconst 1, 1) := by decide +kernel
theorem dX9_isStep_27 : decode cX9_isStep 27 = .ok (.goto 4, 3) := by decide +kernel
theorem dX9_isStep_30 : decode cX9_isStep 30 = .ok (.iconst 0, 1) := by decide +kernel
theorem dX9_isStep_31 : decode cX9_isStep 31 = .ok (.ireturn, 1) := by decide +kernel
theorem dX9_bodyOf_0 : decode cX9_bodyOf 0 = .ok (.bipush (-4), 2) := by decide +kernel
theorem dX9_bodyOf_2 : decode cX9_bodyOf 2 = .ok (.istore_n 2, 1) := by decide +kernel
theorem dX9_bodyOf_3 : decode cX9_bodyOf 3 = .ok (.iconst 0, 1) := by decide +kernel
theorem dX9_bodyOf_4 : decode cX9_bodyOf 4 = .ok (.istore_n 3, 1) := by decide +kernel
theorem dX9_bodyOf_5 : decode cX9_bodyOf 5 = .ok (.iload_n 3, 1) := by decide +kernel
theorem dX9_bodyOf_6 : decode cX9_bodyOf 6 = .ok (.aload_n 0, 1) := by decide +kernel
theorem dX9_bodyOf_7 : decode cX9_bodyOf 7 = .ok (.getfield 107, 3) := by decide +kernel
theorem dX9_bodyOf_10 : decode cX9_bodyOf 10 = .ok (.if_icmp .ge 25, 3) := by decide +kernel
theorem dX9_bodyOf_13 : decode cX9_bodyOf 13 = .ok (.aload_n 0, 1) := by decide +kernel
theorem dX9_bodyOf_14 : decode cX9_bodyOf 14 = .ok (.getfield 28, 3) := by decide +kernel
theorem dX9_bodyOf_17 : decode cX9_bodyOf 17 = .ok (.iload_n 3, 1) := by decide +kernel
theorem dX9_bodyOf_18 : decode cX9_bodyOf 18 = .ok (.iaload, 1) := by decide +kernel
theorem dX9_bodyOf_19 : decode cX9_bodyOf 19 = .ok (.iload_n 1, 1) := by decide +kernel
theorem dX9_bodyOf_20 : decode cX9_bodyOf 20 = .ok (.if_icmp .ne 7, 3) := by decide +kernel
theorem dX9_bodyOf_23 : decode cX9_bodyOf 23 = .ok (.iload_n 3, 1) := by decide +kernel
theorem dX9_bodyOf_24 : decode cX9_bodyOf 24 = .ok (.goto 4, 3) := by decide +kernel
theorem dX9_bodyOf_27 : decode cX9_bodyOf 27 = .ok (.iload_n 2, 1) := by decide +kernel
theorem dX9_bodyOf_28 : decode cX9_bodyOf 28 = .ok (.istore_n 2, 1) := by decide +kernel
theorem dX9_bodyOf_29 : decode cX9_bodyOf 29 = .ok (.iinc 3 1, 3) := by decide +kernel
theorem dX9_bodyOf_32 : decode cX9_bodyOf 32 = .ok (.goto (-27), 3) := by decide +kernel
theorem dX9_bodyOf_35 : decode cX9_bodyOf 35 = .ok (.iload_n 2, 1) := by decide +kernel
theorem dX9_bodyOf_36 : decode cX9_bodyOf 36 = .ok (.ireturn, 1) := by decide +kernel
theorem dX9_isLoose_0 : decode cX9_isLoose 0 = .ok (.aload_n 0, 1) := by decide +kernel
theorem dX9_isLoose_1 : decode cX9_isLoose 1 = .ok (.iload_n 1, 1) := by decide +kernel
theorem dX9_isLoose_2 : decode cX9_isLoose 2 = .ok (.invokevirtual 110, 3) := by decide +kernel
theorem dX9_isLoose_5 : decode cX9_isLoose 5 = .ok (.ifCond .eq 28, 3) := by decide +kernel
theorem dX9_isLoose_8 : decode cX9_isLoose 8 = .ok (.aload_n 0, 1) := by decide +kernel
theorem dX9_isLoose_9 : decode cX9_isLoose 9 = .ok (.getfield 19, 3) := by decide +kernel
theorem dX9_isLoose_12 : decode cX9_isLoose 12 = .ok (.iload_n 1, 1) := by decide +kernel
theorem dX9_isLoose_13 : decode cX9_isLoose 13 = .ok (.iaload, 1) := by decide +kernel
theorem dX9_isLoose_14 : decode cX9_isLoose 14 = .ok (.bipush (-4), 2) := by decide +kernel
theorem dX9_isLoose_16 : decode cX9_isLoose 16 = .ok (.if_icmp .ne 17, 3) := by decide +kernel
theorem dX9_isLoose_19 : decode cX9_isLoose 19 = .ok (.aload_n 0, 1) := by decide +kernel
theorem dX9_isLoose_20 : decode cX9_isLoose 20 = .ok (.iload_n 1, 1) := by decide +kernel
theorem dX9_isLoose_21 : decode cX9_isLoose 21 = .ok (.invokevirtual 114, 3) := by decide +kernel
theorem dX9_isLoose_24 : decode cX9_isLoose 24 = .ok (.bipush (-4), 2) := by decide +kernel
theorem dX9_isLoose_26 : decode cX9_isLoose 26 = .ok (.if_icmp .ne 7, 3) := by decide +kernel
theorem dX9_isLoose_29 : decode cX9_isLoose 29 = .ok (.iconst 1, 1) := by decide +kernel
theorem dX9_isLoose_30 : decode cX9_isLoose 30 = .ok (.goto 4, 3) := by decide +kernel
theorem dX9_isLoose_33 : decode cX9_isLoose 33 = .ok (.iconst 0, 1) := by decide +kernel
theorem dX9_isLoose_34 : decode cX9_isLoose 34 = .ok (.ireturn, 1) := by decide +kernel
theorem dX9_homeOf_0 : decode cX9_homeOf 0 = .ok (.iload_n 1, 1) := by decide +kernel
theorem dX9_homeOf_1 : decode cX9_homeOf 1 = .ok (.istore_n 2, 1) := by decide +kernel
theorem dX9_homeOf_2 : decode cX9_homeOf 2 = .ok (.aload_n 0, 1) := by decide +kernel
theorem dX9_homeOf_3 : decode cX9_homeOf 3 = .ok (.getfield 19, 3) := by decide +kernel
theorem dX9_homeOf_6 : decode cX9_homeOf 6 = .ok (.iload_n 2, 1) := by decide +kernel
theorem dX9_homeOf_7 : decode cX9_homeOf 7 = .ok (.iaload, 1) := by decide +kernel
theorem dX9_homeOf_8 : decode cX9_homeOf 8 = .ok (.bipush (-4), 2) := by decide +kernel
theorem dX9_homeOf_10 : decode cX9_homeOf 10 = .ok (.if_icmp .eq 13, 3) := by decide +kernel
theorem dX9_homeOf_13 : decode cX9_homeOf 13 = .ok (.aload_n 0, 1) := by decide +kernel
theorem dX9_homeOf_14 : decode cX9_homeOf 14 = .ok (.getfield 19, 3) := by decide +kernel
theorem dX9_homeOf_17 : decode cX9_homeOf 17 = .ok (.iload_n 2, 1) := by decide +kernel
theorem dX9_homeOf_18 : decode cX9_homeOf 18 = .ok (.iaload, 1) := by decide +kernel
theorem dX9_homeOf_19 : decode cX9_homeOf 19 = .ok (.istore_n 2, 1) := by decide +kernel
theorem dX9_homeOf_20 : decode cX9_homeOf 20 = .ok (.goto (-18), 3) := by decide +kernel
theorem dX9_homeOf_23 : decode cX9_homeOf 23 = .ok (.aload_n 0, 1) := by decide +kernel
theorem dX9_homeOf_24 : decode cX9_homeOf 24 = .ok (.iload_n 2, 1) := by decide +kernel
theorem dX9_homeOf_25 : decode cX9_homeOf 25 = .ok (.invokevirtual 114, 3) := by decide +kernel
theorem dX9_homeOf_28 : decode cX9_homeOf 28 = .ok (.ireturn, 1) := by decide +kernel
theorem dX9_isRoutine_0 : decode cX9_isRoutine 0 = .ok (.iload_n 1, 1) := by decide +kernel
theorem dX9_isRoutine_1 : decode cX9_isRoutine 1 = .ok (.i2l, 1) := by decide +kernel
theorem dX9_isRoutine_2 : decode cX9_isRoutine 2 = .ok (.lconst 0, 1) := by decide +kernel
theorem dX9_isRoutine_3 : decode cX9_isRoutine 3 = .ok (.aload_n 0, 1) := by decide +kernel
theorem dX9_isRoutine_4 : decode cX9_isRoutine 4 = .ok (.getfield 107, 3) := by decide +kernel
theorem dX9_isRoutine_7 : decode cX9_isRoutine 7 = .ok (.iconst 1, 1) := by decide +kernel
theorem dX9_isRoutine_8 : decode cX9_isRoutine 8 = .ok (.isub, 1) := by decide +kernel
theorem dX9_isRoutine_9 : decode cX9_isRoutine 9 = .ok (.i2l, 1) := by decide +kernel
theorem dX9_isRoutine_10 : decode cX9_isRoutine 10 = .ok (.invokestatic 103, 3) := by decide +kernel
theorem dX9_isRoutine_13 : decode cX9_isRoutine 13 = .ok (.ireturn, 1) := by decide +kernel
theorem dX9_uses_0 : decode cX9_uses 0 = .ok (.aload_n 0, 1) := by decide +kernel
theorem dX9_uses_1 : decode cX9_uses 1 = .ok (.getfield 25, 3) := by decide +kernel
theorem dX9_uses_4 : decode cX9_uses 4 = .ok (.iload_n 1, 1) := by decide +kernel
theorem dX9_uses_5 : decode cX9_uses 5 = .ok (.iaload, 1) := by decide +kernel
theorem dX9_uses_6 : decode cX9_uses 6 = .ok (.istore_n 2, 1) := by decide +kernel
theorem dX9_uses_7 : decode cX9_uses 7 = .ok (.aload_n 0, 1) := by decide +kernel
theorem dX9_uses_8 : decode cX9_uses 8 = .ok (.getfield 28, 3) := by decide +kernel
theorem dX9_uses_11 : decode cX9_uses 11 = .ok (.iload_n 1, 1) := by decide +kernel
theorem dX9_uses_12 : decode cX9_uses 12 = .ok (.iaload, 1) := by decide +kernel
theorem dX9_uses_13 : decode cX9_uses 13 = .ok (.bipush (-4), 2) := by decide +kernel
theorem dX9_uses_15 : decode cX9_uses 15 = .ok (.if_icmp .eq 99, 3) := by decide +kernel
theorem dX9_uses_18 : decode cX9_uses 18 = .ok (.aload_n 0, 1) := by decide +kernel
theorem dX9_uses_19 : decode cX9_uses 19 = .ok (.aload_n 0, 1) := by decide +kernel
theorem dX9_uses_20 : decode cX9_uses 20 = .ok (.getfield 28, 3) := by decide +kernel
theorem dX9_uses_23 : decode cX9_uses 23 = .ok (.iload_n 1, 1) := by decide +kernel
theorem dX9_uses_24 : decode cX9_uses 24 = .ok (.iaload, 1) := by decide +kernel
theorem dX9_uses_25 : decode cX9_uses 25 = .ok (.invokevirtual 100, 3) := by decide +kernel
theorem dX9_uses_28 : decode cX9_uses 28 = .ok (.istore_n 3, 1) := by decide +kernel
theorem dX9_uses_29 : decode cX9_uses 29 = .ok (.iconst 0, 1) := by decide +kernel
theorem dX9_uses_30 : decode cX9_uses 30 = .ok (.istore 4, 2) := by decide +kernel
theorem dX9_uses_32 : decode cX9_uses 32 = .ok (.iload 4, 2) := by decide +kernel
theorem dX9_uses_34 : decode cX9_uses 34 = .ok (.iload_n 3, 1) := by decide +kernel
theorem dX9_uses_35 : decode cX9_uses 35 = .ok (.if_icmp .ge 79, 3) := by decide +kernel
theorem dX9_uses_38 : decode cX9_uses 38 = .ok (.aload_n 0, 1) := by decide +kernel
theorem dX9_uses_39 : decode cX9_uses 39 = .ok (.getfield 34, 3) := by decide +kernel
theorem dX9_uses_42 : decode cX9_uses 42 = .ok (.iload 4, 2) := by decide +kernel
theorem dX9_uses_44 : decode cX9_uses 44 = .ok (.iaload, 1) := by decide +kernel
theorem dX9_uses_45 : decode cX9_uses 45 = .ok (.istore 5, 2) := by decide +kernel
theorem dX9_uses_47 : decode cX9_uses 47 = .ok (.aload_n 0, 1) := by decide +kernel
theorem dX9_uses_48 : decode cX9_uses 48 = .ok (.getfield 7, 3) := by decide +kernel
theorem dX9_uses_51 : decode cX9_uses 51 = .ok (.iload 5, 2) := by decide +kernel
theorem dX9_uses_53 : decode cX9_uses 53 = .ok (.iaload, 1) := by decide +kernel
theorem dX9_uses_54 : decode cX9_uses 54 = .ok (.iconst 1, 1) := by decide +kernel
theorem dX9_uses_55 : decode cX9_uses 55 = .ok (.if_icmp .eq 14, 3) := by decide +kernel
theorem dX9_uses_58 : decode cX9_uses 58 = .ok (.aload_n 0, 1) := by decide +kernel
theorem dX9_uses_59 : decode cX9_uses 59 = .ok (.getfield 7, 3) := by decide +kernel
theorem dX9_uses_62 : decode cX9_uses 62 = .ok (.iload 5, 2) := by decide +kernel
theorem dX9_uses_64 : decode cX9_uses 64 = .ok (.iaload, 1) := by decide +kernel
theorem dX9_uses_65 : decode cX9_uses 65 = .ok (.iconst 4, 1) := by decide +kernel
theorem dX9_uses_66 : decode cX9_uses 66 = .ok (.if_icmp .ne 7, 3) := by decide +kernel
theorem dX9_uses_69 : decode cX9_uses 69 = .ok (.iconst 1, 1) := by decide +kernel
theorem dX9_uses_70 : decode cX9_uses 70 = .ok (.goto 4, 3) := by decide +kernel
theorem dX9_uses_73 : decode cX9_uses 73 = .ok (.iconst 0, 1) := by decide +kernel
theorem dX9_uses_74 : decode cX9_uses 74 = .ok (.istore 6, 2) := by decide +kernel
theorem dX9_uses_76 : decode cX9_uses 76 = .ok (.iload 6, 2) := by decide +kernel
theorem dX9_uses_78 : decode cX9_uses 78 = .ok (.ifCond .eq 28, 3) := by decide +kernel
theorem dX9_uses_81 : decode cX9_uses 81 = .ok (.aload_n 0, 1) := by decide +kernel
theorem dX9_uses_82 : decode cX9_uses 82 = .ok (.getfield 13, 3) := by decide +kernel
theorem dX9_uses_85 : decode cX9_uses 85 = .ok (.iload 5, 2) := by decide +kernel
theorem dX9_uses_87 : decode cX9_uses 87 = .ok (.iaload, 1) := by decide +kernel
theorem dX9_uses_88 : decode cX9_uses 88 = .ok (.iconst 1, 1) := by decide +kernel
theorem dX9_uses_89 : decode cX9_uses 89 = .ok (.iadd, 1) := by decide +kernel
theorem dX9_uses_90 : decode cX9_uses 90 = .ok (.iload_n 2, 1) := by decide +kernel
theorem dX9_uses_91 : decode cX9_uses 91 = .ok (.if_icmp .le 15, 3) := by decide +kernel
theorem dX9_uses_94 : decode cX9_uses 94 = .ok (.aload_n 0, 1) := by decide +kernel
theorem dX9_uses_95 : decode cX9_uses 95 = .ok (.getfield 13, 3) := by decide +kernel
theorem dX9_uses_98 : decode cX9_uses 98 = .ok (.iload 5, 2) := by decide +kernel
theorem dX9_uses_100 : decode cX9_uses 100 = .ok (.iaload, 1) := by decide +kernel
theorem dX9_uses_101 : decode cX9_uses 101 = .ok (.iconst 1, 1) := by decide +kernel
theorem dX9_uses_102 : decode cX9_uses 102 = .ok (.iadd, 1) := by decide +kernel
theorem dX9_uses_103 : decode cX9_uses 103 = .ok (.goto 4, 3) := by decide +kernel
theorem dX9_uses_106 : decode cX9_uses 106 = .ok (.iload_n 2, 1) := by decide +kernel
theorem dX9_uses_107 : decode cX9_uses 107 = .ok (.istore_n 2, 1) := by decide +kernel
theorem dX9_uses_108 : decode cX9_uses 108 = .ok (.iinc 4 1, 3) := by decide +kernel
theorem dX9_uses_111 : decode cX9_uses 111 = .ok (.goto (-79), 3) := by decide +kernel
theorem dX9_uses_114 : decode cX9_uses 114 = .ok (.iload_n 2, 1) := by decide +kernel
theorem dX9_uses_115 : decode cX9_uses 115 = .ok (.ireturn, 1) := by decide +kernel
theorem dX9_make_0 : decode cX9_make 0 = .ok (.aload_n 0, 1) := by decide +kernel
theorem dX9_make_1 : decode cX9_make 1 = .ok (.getfield 92, 3) := by decide +kernel
theorem dX9_make_4 : decode cX9_make 4 = .ok (.istore_n 3, 1) := by decide +kernel
theorem dX9_make_5 : decode cX9_make 5 = .ok (.aload_n 0, 1) := by decide +kernel
theorem dX9_make_6 : decode cX9_make 6 = .ok (.getfield 7, 3) := by decide +kernel
theorem dX9_make_9 : decode cX9_make 9 = .ok (.iload_n 3, 1) := by decide +kernel
theorem dX9_make_10 : decode cX9_make 10 = .ok (.iload_n 1, 1) := by decide +kernel
theorem dX9_make_11 : decode cX9_make 11 = .ok (.iastore, 1) := by decide +kernel
theorem dX9_make_12 : decode cX9_make 12 = .ok (.aload_n 0, 1) := by decide +kernel
theorem dX9_make_13 : decode cX9_make 13 = .ok (.getfield 13, 3) := by decide +kernel
theorem dX9_make_16 : decode cX9_make 16 = .ok (.iload_n 3, 1) := by decide +kernel
theorem dX9_make_17 : decode cX9_make 17 = .ok (.iload_n 2, 1) := by decide +kernel
theorem dX9_make_18 : decode cX9_make 18 = .ok (.iastore, 1) := by decide +kernel
theorem dX9_make_19 : decode cX9_make 19 = .ok (.aload_n 0, 1) := by decide +kernel
theorem dX9_make_20 : decode cX9_make 20 = .ok (.getfield 19, 3) := by decide +kernel
theorem dX9_make_23 : decode cX9_make 23 = .ok (.iload_n 3, 1) := by decide +kernel
theorem dX9_make_24 : decode cX9_make 24 = .ok (.bipush (-4), 2) := by decide +kernel
theorem dX9_make_26 : decode cX9_make 26 = .ok (.iastore, 1) := by decide +kernel
theorem dX9_make_27 : decode cX9_make 27 = .ok (.aload_n 0, 1) := by decide +kernel
theorem dX9_make_28 : decode cX9_make 28 = .ok (.getfield 22, 3) := by decide +kernel
theorem dX9_make_31 : decode cX9_make 31 = .ok (.iload_n 3, 1) := by decide +kernel
theorem dX9_make_32 : decode cX9_make 32 = .ok (.iconst 0, 1) := by decide +kernel
theorem dX9_make_33 : decode cX9_make 33 = .ok (.iastore, 1) := by decide +kernel
theorem dX9_make_34 : decode cX9_make 34 = .ok (.iconst 0, 1) := by decide +kernel
theorem dX9_make_35 : decode cX9_make 35 = .ok (.istore 4, 2) := by decide +kernel
theorem dX9_make_37 : decode cX9_make 37 = .ok (.iload 4, 2) := by decide +kernel
theorem dX9_make_39 : decode cX9_make 39 = .ok (.iconst 3, 1) := by decide +kernel
theorem dX9_make_40 : decode cX9_make 40 = .ok (.if_icmp .ge 22, 3) := by decide +kernel
theorem dX9_make_43 : decode cX9_make 43 = .ok (.aload_n 0, 1) := by decide +kernel
theorem dX9_make_44 : decode cX9_make 44 = .ok (.getfield 16, 3) := by decide +kernel
theorem dX9_make_47 : decode cX9_make 47 = .ok (.iconst 3, 1) := by decide +kernel
theorem dX9_make_48 : decode cX9_make 48 = .ok (.iload_n 3, 1) := by decide +kernel
theorem dX9_make_49 : decode cX9_make 49 = .ok (.imul, 1) := by decide +kernel
theorem dX9_make_50 : decode cX9_make 50 = .ok (.iload 4, 2) := by decide +kernel
theorem dX9_make_52 : decode cX9_make 52 = .ok (.iadd, 1) := by decide +kernel
theorem dX9_make_53 : decode cX9_make 53 = .ok (.bipush (-4), 2) := by decide +kernel
theorem dX9_make_55 : decode cX9_make 55 = .ok (.iastore, 1) := by decide +kernel
theorem dX9_make_56 : decode cX9_make 56 = .ok (.iinc 4 1, 3) := by decide +kernel
theorem dX9_make_59 : decode cX9_make 59 = .ok (.goto (-22), 3) := by decide +kernel
theorem dX9_make_62 : decode cX9_make 62 = .ok (.aload_n 0, 1) := by decide +kernel
theorem dX9_make_63 : decode cX9_make 63 = .ok (.dup, 1) := by decide +kernel
theorem dX9_make_64 : decode cX9_make 64 = .ok (.getfield 92, 3) := by decide +kernel
theorem dX9_make_67 : decode cX9_make 67 = .ok (.iconst 1, 1) := by decide +kernel
theorem dX9_make_68 : decode cX9_make 68 = .ok (.iadd, 1) := by decide +kernel
theorem dX9_make_69 : decode cX9_make 69 = .ok (.putfield 92, 3) := by decide +kernel
theorem dX9_make_72 : decode cX9_make 72 = .ok (.iload_n 3, 1) := by decide +kernel
theorem dX9_make_73 : decode cX9_make 73 = .ok (.ireturn, 1) := by decide +kernel
theorem dX9_setPart_0 : decode cX9_setPart 0 = .ok (.aload_n 0, 1) := by decide +kernel
theorem dX9_setPart_1 : decode cX9_setPart 1 = .ok (.getfield 16, 3) := by decide +kernel
theorem dX9_setPart_4 : decode cX9_setPart 4 = .ok (.iconst 3, 1) := by decide +kernel
theorem dX9_setPart_5 : decode cX9_setPart 5 = .ok (.iload_n 1, 1) := by decide +kernel
theorem dX9_setPart_6 : decode cX9_setPart 6 = .ok (.imul, 1) := by decide +kernel
theorem dX9_setPart_7 : decode cX9_setPart 7 = .ok (.iload_n 2, 1) := by decide +kernel
theorem dX9_setPart_8 : decode cX9_setPart 8 = .ok (.iadd, 1) := by decide +kernel
theorem dX9_setPart_9 : decode cX9_setPart 9 = .ok (.iload_n 3, 1) := by decide +kernel
theorem dX9_setPart_10 : decode cX9_setPart 10 = .ok (.iastore, 1) := by decide +kernel
theorem dX9_setPart_11 : decode cX9_setPart 11 = .ok (.aload_n 0, 1) := by decide +kernel
theorem dX9_setPart_12 : decode cX9_setPart 12 = .ok (.getfield 19, 3) := by decide +kernel
theorem dX9_setPart_15 : decode cX9_setPart 15 = .ok (.iload_n 3, 1) := by decide +kernel
theorem dX9_setPart_16 : decode cX9_setPart 16 = .ok (.iload_n 1, 1) := by decide +kernel
theorem dX9_setPart_17 : decode cX9_setPart 17 = .ok (.iastore, 1) := by decide +kernel
theorem dX9_setPart_18 : decode cX9_setPart 18 = .ok (.return_, 1) := by decide +kernel
theorem dX9_comesUp_0 : decode cX9_comesUp 0 = .ok (.iconst 0, 1) := by decide +kernel
theorem dX9_comesUp_1 : decode cX9_comesUp 1 = .ok (.istore 4, 2) := by decide +kernel
theorem dX9_comesUp_3 : decode cX9_comesUp 3 = .ok (.iconst 0, 1) := by decide +kernel
theorem dX9_comesUp_4 : decode cX9_comesUp 4 = .ok (.istore 5, 2) := by decide +kernel
theorem dX9_comesUp_6 : decode cX9_comesUp 6 = .ok (.iload 5, 2) := by decide +kernel
theorem dX9_comesUp_8 : decode cX9_comesUp 8 = .ok (.iload_n 3, 1) := by decide +kernel
theorem dX9_comesUp_9 : decode cX9_comesUp 9 = .ok (.if_icmp .ge 60, 3) := by decide +kernel
theorem dX9_comesUp_12 : decode cX9_comesUp 12 = .ok (.aload_n 0, 1) := by decide +kernel
theorem dX9_comesUp_13 : decode cX9_comesUp 13 = .ok (.aload_n 0, 1) := by decide +kernel
theorem dX9_comesUp_14 : decode cX9_comesUp 14 = .ok (.getfield 43, 3) := by decide +kernel
theorem dX9_comesUp_17 : decode cX9_comesUp 17 = .ok (.iload 5, 2) := by decide +kernel
