theorem dX0_init_0 : decode cX0_init 0 = .ok (.aload_n 0, 1) := by decide +kernel
theorem dX0_init_1 : decode cX0_init 1 = .ok (.invokespecial 3, 3) := by decide +kernel
theorem dX0_init_4 : decode cX0_init 4 = .ok (.aload_n 0, 1) := by decide +kernel
theorem dX0_init_5 : decode cX0_init 5 = .ok (.bipush 12, 2) := by decide +kernel
theorem dX0_init_7 : decode cX0_init 7 = .ok (.newarray .int, 2) := by decide +kernel
theorem dX0_init_9 : decode cX0_init 9 = .ok (.putfield 9, 3) := by decide +kernel
theorem dX0_init_12 : decode cX0_init 12 = .ok (.aload_n 0, 1) := by decide +kernel
theorem dX0_init_13 : decode cX0_init 13 = .ok (.bipush 12, 2) := by decide +kernel
theorem dX0_init_15 : decode cX0_init 15 = .ok (.newarray .int, 2) := by decide +kernel
theorem dX0_init_17 : decode cX0_init 17 = .ok (.putfield 15, 3) := by decide +kernel
theorem dX0_init_20 : decode cX0_init 20 = .ok (.aload_n 0, 1) := by decide +kernel
theorem dX0_init_21 : decode cX0_init 21 = .ok (.bipush 12, 2) := by decide +kernel
theorem dX0_init_23 : decode cX0_init 23 = .ok (.newarray .int, 2) := by decide +kernel
theorem dX0_init_25 : decode cX0_init 25 = .ok (.putfield 18, 3) := by decide +kernel
theorem dX0_init_28 : decode cX0_init 28 = .ok (.aload_n 0, 1) := by decide +kernel
theorem dX0_init_29 : decode cX0_init 29 = .ok (.bipush 12, 2) := by decide +kernel
theorem dX0_init_31 : decode cX0_init 31 = .ok (.newarray .int, 2) := by decide +kernel
theorem dX0_init_33 : decode cX0_init 33 = .ok (.putfield 21, 3) := by decide +kernel
theorem dX0_init_36 : decode cX0_init 36 = .ok (.aload_n 0, 1) := by decide +kernel
theorem dX0_init_37 : decode cX0_init 37 = .ok (.bipush 12, 2) := by decide +kernel
theorem dX0_init_39 : decode cX0_init 39 = .ok (.newarray .int, 2) := by decide +kernel
theorem dX0_init_41 : decode cX0_init 41 = .ok (.putfield 24, 3) := by decide +kernel
theorem dX0_init_44 : decode cX0_init 44 = .ok (.aload_n 0, 1) := by decide +kernel
theorem dX0_init_45 : decode cX0_init 45 = .ok (.bipush (-4), 2) := by decide +kernel
theorem dX0_init_47 : decode cX0_init 47 = .ok (.putfield 27, 3) := by decide +kernel
theorem dX0_init_50 : decode cX0_init 50 = .ok (.aload_n 0, 1) := by decide +kernel
theorem dX0_init_51 : decode cX0_init 51 = .ok (.aload_n 1, 1) := by decide +kernel
theorem dX0_init_52 : decode cX0_init 52 = .ok (.putfield 31, 3) := by decide +kernel
theorem dX0_init_55 : decode cX0_init 55 = .ok (.aload_n 0, 1) := by decide +kernel
theorem dX0_init_56 : decode cX0_init 56 = .ok (.aload_n 2, 1) := by decide +kernel
theorem dX0_init_57 : decode cX0_init 57 = .ok (.putfield 35, 3) := by decide +kernel
theorem dX0_init_60 : decode cX0_init 60 = .ok (.aload_n 0, 1) := by decide +kernel
theorem dX0_init_61 : decode cX0_init 61 = .ok (.aload_n 3, 1) := by decide +kernel
theorem dX0_init_62 : decode cX0_init 62 = .ok (.putfield 39, 3) := by decide +kernel
theorem dX0_init_65 : decode cX0_init 65 = .ok (.return_, 1) := by decide +kernel
theorem dX0_hasLaidOut_0 : decode cX0_hasLaidOut 0 = .ok (.aload_n 0, 1) := by decide +kernel
theorem dX0_hasLaidOut_1 : decode cX0_hasLaidOut 1 = .ok (.getfield 27, 3) := by decide +kernel
theorem dX0_hasLaidOut_4 : decode cX0_hasLaidOut 4 = .ok (.bipush (-4), 2) := by decide +kernel
theorem dX0_hasLaidOut_6 : decode cX0_hasLaidOut 6 = .ok (.if_icmp .eq 7, 3) := by decide +kernel
theorem dX0_hasLaidOut_9 : decode cX0_hasLaidOut 9 = .ok (.iconst 1, 1) := by decide +kernel
theorem dX0_hasLaidOut_10 : decode cX0_hasLaidOut 10 = .ok (.goto 4, 3) := by decide +kernel
theorem dX0_hasLaidOut_13 : decode cX0_hasLaidOut 13 = .ok (.iconst 0, 1) := by decide +kernel
theorem dX0_hasLaidOut_14 : decode cX0_hasLaidOut 14 = .ok (.ireturn, 1) := by decide +kernel
theorem dX0_latest_0 : decode cX0_latest 0 = .ok (.iload_n 1, 1) := by decide +kernel
theorem dX0_latest_1 : decode cX0_latest 1 = .ok (.lookupswitch 37 #[(0, 27), (1, 32)], 27) := by decide +kernel
theorem dX0_latest_28 : decode cX0_latest 28 = .ok (.aload_n 0, 1) := by decide +kernel
theorem dX0_latest_29 : decode cX0_latest 29 = .ok (.getfield 43, 3) := by decide +kernel
theorem dX0_latest_32 : decode cX0_latest 32 = .ok (.ireturn, 1) := by decide +kernel
theorem dX0_latest_33 : decode cX0_latest 33 = .ok (.aload_n 0, 1) := by decide +kernel
theorem dX0_latest_34 : decode cX0_latest 34 = .ok (.getfield 46, 3) := by decide +kernel
theorem dX0_latest_37 : decode cX0_latest 37 = .ok (.ireturn, 1) := by decide +kernel
theorem dX0_latest_38 : decode cX0_latest 38 = .ok (.iload_n 1, 1) := by decide +kernel
theorem dX0_latest_39 : decode cX0_latest 39 = .ok (.iconst 2, 1) := by decide +kernel
theorem dX0_latest_40 : decode cX0_latest 40 = .ok (.if_icmp .lt 24, 3) := by decide +kernel
theorem dX0_latest_43 : decode cX0_latest 43 = .ok (.iload_n 1, 1) := by decide +kernel
theorem dX0_latest_44 : decode cX0_latest 44 = .ok (.iconst 2, 1) := by decide +kernel
theorem dX0_latest_45 : decode cX0_latest 45 = .ok (.isub, 1) := by decide +kernel
theorem dX0_latest_46 : decode cX0_latest 46 = .ok (.aload_n 0, 1) := by decide +kernel
theorem dX0_latest_47 : decode cX0_latest 47 = .ok (.getfield 27, 3) := by decide +kernel
theorem dX0_latest_50 : decode cX0_latest 50 = .ok (.if_icmp .ge 14, 3) := by decide +kernel
theorem dX0_latest_53 : decode cX0_latest 53 = .ok (.aload_n 0, 1) := by decide +kernel
theorem dX0_latest_54 : decode cX0_latest 54 = .ok (.getfield 21, 3) := by decide +kernel
theorem dX0_latest_57 : decode cX0_latest 57 = .ok (.iload_n 1, 1) := by decide +kernel
theorem dX0_latest_58 : decode cX0_latest 58 = .ok (.iconst 2, 1) := by decide +kernel
theorem dX0_latest_59 : decode cX0_latest 59 = .ok (.isub, 1) := by decide +kernel
theorem dX0_latest_60 : decode cX0_latest 60 = .ok (.iaload, 1) := by decide +kernel
theorem dX0_latest_61 : decode cX0_latest 61 = .ok (.goto 5, 3) := by decide +kernel
theorem dX0_latest_64 : decode cX0_latest 64 = .ok (.bipush (-4), 2) := by decide +kernel
theorem dX0_latest_66 : decode cX0_latest 66 = .ok (.ireturn, 1) := by decide +kernel
theorem dX0_layOut_0 : decode cX0_layOut 0 = .ok (.aload_n 0, 1) := by decide +kernel
theorem dX0_layOut_1 : decode cX0_layOut 1 = .ok (.iload_n 1, 1) := by decide +kernel
theorem dX0_layOut_2 : decode cX0_layOut 2 = .ok (.invokevirtual 49, 3) := by decide +kernel
theorem dX0_layOut_5 : decode cX0_layOut 5 = .ok (.aload_n 0, 1) := by decide +kernel
theorem dX0_layOut_6 : decode cX0_layOut 6 = .ok (.iconst 0, 1) := by decide +kernel
theorem dX0_layOut_7 : decode cX0_layOut 7 = .ok (.putfield 53, 3) := by decide +kernel
theorem dX0_layOut_10 : decode cX0_layOut 10 = .ok (.aload_n 0, 1) := by decide +kernel
theorem dX0_layOut_11 : decode cX0_layOut 11 = .ok (.iconst 0, 1) := by decide +kernel
theorem dX0_layOut_12 : decode cX0_layOut 12 = .ok (.iconst 0, 1) := by decide +kernel
theorem dX0_layOut_13 : decode cX0_layOut 13 = .ok (.invokevirtual 56, 3) := by decide +kernel
theorem dX0_layOut_16 : decode cX0_layOut 16 = .ok (.iconst 0, 1) := by decide +kernel
theorem dX0_layOut_17 : decode cX0_layOut 17 = .ok (.istore_n 3, 1) := by decide +kernel
theorem dX0_layOut_18 : decode cX0_layOut 18 = .ok (.iconst 0, 1) := by decide +kernel
theorem dX0_layOut_19 : decode cX0_layOut 19 = .ok (.istore 4, 2) := by decide +kernel
theorem dX0_layOut_21 : decode cX0_layOut 21 = .ok (.iconst 0, 1) := by decide +kernel
theorem dX0_layOut_22 : decode cX0_layOut 22 = .ok (.istore 5, 2) := by decide +kernel
theorem dX0_layOut_24 : decode cX0_layOut 24 = .ok (.iconst 0, 1) := by decide +kernel
theorem dX0_layOut_25 : decode cX0_layOut 25 = .ok (.istore 6, 2) := by decide +kernel
theorem dX0_layOut_27 : decode cX0_layOut 27 = .ok (.iload 6, 2) := by decide +kernel
theorem dX0_layOut_29 : decode cX0_layOut 29 = .ok (.ldc 60, 2) := by decide +kernel
theorem dX0_layOut_31 : decode cX0_layOut 31 = .ok (.if_icmp .ge 172, 3) := by decide +kernel
theorem dX0_layOut_34 : decode cX0_layOut 34 = .ok (.iload 5, 2) := by decide +kernel
theorem dX0_layOut_36 : decode cX0_layOut 36 = .ok (.aload_n 0, 1) := by decide +kernel
theorem dX0_layOut_37 : decode cX0_layOut 37 = .ok (.getfield 61, 3) := by decide +kernel
theorem dX0_layOut_40 : decode cX0_layOut 40 = .ok (.if_icmp .lt 10, 3) := by decide +kernel
theorem dX0_layOut_43 : decode cX0_layOut 43 = .ok (.aload_n 0, 1) := by decide +kernel
theorem dX0_layOut_44 : decode cX0_layOut 44 = .ok (.getfield 53, 3) := by decide +kernel
theorem dX0_layOut_47 : decode cX0_layOut 47 = .ok (.ifCond .le 156, 3) := by decide +kernel
theorem dX0_layOut_50 : decode cX0_layOut 50 = .ok (.iload 5, 2) := by decide +kernel
theorem dX0_layOut_52 : decode cX0_layOut 52 = .ok (.aload_n 0, 1) := by decide +kernel
theorem dX0_layOut_53 : decode cX0_layOut 53 = .ok (.getfield 61, 3) := by decide +kernel
theorem dX0_layOut_56 : decode cX0_layOut 56 = .ok (.if_icmp .lt 49, 3) := by decide +kernel
theorem dX0_layOut_59 : decode cX0_layOut 59 = .ok (.aload_n 0, 1) := by decide +kernel
theorem dX0_layOut_60 : decode cX0_layOut 60 = .ok (.dup, 1) := by decide +kernel
theorem dX0_layOut_61 : decode cX0_layOut 61 = .ok (.getfield 53, 3) := by decide +kernel
theorem dX0_layOut_64 : decode cX0_layOut 64 = .ok (.iconst 1, 1) := by decide +kernel
theorem dX0_layOut_65 : decode cX0_layOut 65 = .ok (.isub, 1) := by decide +kernel
theorem dX0_layOut_66 : decode cX0_layOut 66 = .ok (.putfield 53, 3) := by decide +kernel
theorem dX0_layOut_69 : decode cX0_layOut 69 = .ok (.aload_n 0, 1) := by decide +kernel
theorem dX0_layOut_70 : decode cX0_layOut 70 = .ok (.getfield 24, 3) := by decide +kernel
theorem dX0_layOut_73 : decode cX0_layOut 73 = .ok (.aload_n 0, 1) := by decide +kernel
theorem dX0_layOut_74 : decode cX0_layOut 74 = .ok (.getfield 53, 3) := by decide +kernel
theorem dX0_layOut_77 : decode cX0_layOut 77 = .ok (.iaload, 1) := by decide +kernel
theorem dX0_layOut_78 : decode cX0_layOut 78 = .ok (.istore 5, 2) := by decide +kernel
theorem dX0_layOut_80 : decode cX0_layOut 80 = .ok (.iload_n 3, 1) := by decide +kernel
theorem dX0_layOut_81 : decode cX0_layOut 81 = .ok (.aload_n 0, 1) := by decide +kernel
theorem dX0_layOut_82 : decode cX0_layOut 82 = .ok (.getfield 15, 3) := by decide +kernel
theorem dX0_layOut_85 : decode cX0_layOut 85 = .ok (.iload 5, 2) := by decide +kernel
theorem dX0_layOut_87 : decode cX0_layOut 87 = .ok (.iaload, 1) := by decide +kernel
theorem dX0_layOut_88 : decode cX0_layOut 88 = .ok (.isub, 1) := by decide +kernel
theorem dX0_layOut_89 : decode cX0_layOut 89 = .ok (.istore_n 3, 1) := by decide +kernel
theorem dX0_layOut_90 : decode cX0_layOut 90 = .ok (.iload 4, 2) := by decide +kernel
theorem dX0_layOut_92 : decode cX0_layOut 92 = .ok (.aload_n 0, 1) := by decide +kernel
theorem dX0_layOut_93 : decode cX0_layOut 93 = .ok (.getfield 18, 3) := by decide +kernel
theorem dX0_layOut_96 : decode cX0_layOut 96 = .ok (.iload 5, 2) := by decide +kernel
theorem dX0_layOut_98 : decode cX0_layOut 98 = .ok (.iaload, 1) := by decide +kernel
theorem dX0_layOut_99 : decode cX0_layOut 99 = .ok (.isub, 1) := by decide +kernel
theorem dX0_layOut_100 : decode cX0_layOut 100 = .ok (.istore 4, 2) := by decide +kernel
theorem dX0_layOut_102 : decode cX0_layOut 102 = .ok (.goto 92, 3) := by decide +kernel
theorem dX0_layOut_105 : decode cX0_layOut 105 = .ok (.iload 4, 2) := by decide +kernel
theorem dX0_layOut_107 : decode cX0_layOut 107 = .ok (.aload_n 0, 1) := by decide +kernel
theorem dX0_layOut_108 : decode cX0_layOut 108 = .ok (.getfield 18, 3) := by decide +kernel
theorem dX0_layOut_111 : decode cX0_layOut 111 = .ok (.iload 5, 2) := by decide +kernel
theorem dX0_layOut_113 : decode cX0_layOut 113 = .ok (.iaload, 1) := by decide +kernel
theorem dX0_layOut_114 : decode cX0_layOut 114 = .ok (.iadd, 1) := by decide +kernel
theorem dX0_layOut_115 : decode cX0_layOut 115 = .ok (.iload_n 2, 1) := by decide +kernel
theorem dX0_layOut_116 : decode cX0_layOut 116 = .ok (.if_icmp .gt 78, 3) := by decide +kernel
theorem dX0_layOut_119 : decode cX0_layOut 119 = .ok (.aload_n 0, 1) := by decide +kernel
theorem dX0_layOut_120 : decode cX0_layOut 120 = .ok (.getfield 24, 3) := by decide +kernel
theorem dX0_layOut_123 : decode cX0_layOut 123 = .ok (.aload_n 0, 1) := by decide +kernel
theorem dX0_layOut_124 : decode cX0_layOut 124 = .ok (.getfield 53, 3) := by decide +kernel
theorem dX0_layOut_127 : decode cX0_layOut 127 = .ok (.iload 5, 2) := by decide +kernel
theorem dX0_layOut_129 : decode cX0_layOut 129 = .ok (.iastore, 1) := by decide +kernel
theorem dX0_layOut_130 : decode cX0_layOut 130 = .ok (.aload_n 0, 1) := by decide +kernel
theorem dX0_layOut_131 : decode cX0_layOut 131 = .ok (.dup, 1) := by decide +kernel
theorem dX0_layOut_132 : decode cX0_layOut 132 = .ok (.getfield 53, 3) := by decide +kernel
theorem dX0_layOut_135 : decode cX0_layOut 135 = .ok (.iconst 1, 1) := by decide +kernel
theorem dX0_layOut_136 : decode cX0_layOut 136 = .ok (.iadd, 1) := by decide +kernel
theorem dX0_layOut_137 : decode cX0_layOut 137 = .ok (.putfield 53, 3) := by decide +kernel
theorem dX0_layOut_140 : decode cX0_layOut 140 = .ok (.iload_n 3, 1) := by decide +kernel
theorem dX0_layOut_141 : decode cX0_layOut 141 = .ok (.aload_n 0, 1) := by decide +kernel
theorem dX0_layOut_142 : decode cX0_layOut 142 = .ok (.getfield 15, 3) := by decide +kernel
theorem dX0_layOut_145 : decode cX0_layOut 145 = .ok (.iload 5, 2) := by decide +kernel
theorem dX0_layOut_147 : decode cX0_layOut 147 = .ok (.iaload, 1) := by decide +kernel
theorem dX0_layOut_148 : decode cX0_layOut 148 = .ok (.iadd, 1) := by decide +kernel
theorem dX0_layOut_149 : decode cX0_layOut 149 = .ok (.istore_n 3, 1) := by decide +kernel
theorem dX0_layOut_150 : decode cX0_layOut 150 = .ok (.iload 4, 2) := by decide +kernel
theorem dX0_layOut_152 : decode cX0_layOut 152 = .ok (.aload_n 0, 1) := by decide +kernel
theorem dX0_layOut_153 : decode cX0_layOut 153 = .ok (.getfield 18, 3) := by decide +kernel
theorem dX0_layOut_156 : decode cX0_layOut 156 = .ok (.iload 5, 2) := by decide +kernel
theorem dX0_layOut_158 : decode cX0_layOut 158 = .ok (.iaload, 1) := by decide +kernel
theorem dX0_layOut_159 : decode cX0_layOut 159 = .ok (.iadd, 1) := by decide +kernel
theorem dX0_layOut_160 : decode cX0_layOut 160 = .ok (.istore 4, 2) := by decide +kernel
theorem dX0_layOut_162 : decode cX0_layOut 162 = .ok (.iload_n 3, 1) := by decide +kernel
theorem dX0_layOut_163 : decode cX0_layOut 163 = .ok (.aload_n 0, 1) := by decide +kernel
theorem dX0_layOut_164 : decode cX0_layOut 164 = .ok (.getfield 43, 3) := by decide +kernel
theorem dX0_layOut_167 : decode cX0_layOut 167 = .ok (.if_icmp .gt 20, 3) := by decide +kernel
theorem dX0_layOut_170 : decode cX0_layOut 170 = .ok (.iload_n 3, 1) := by decide +kernel
theorem dX0_layOut_171 : decode cX0_layOut 171 = .ok (.aload_n 0, 1) := by decide +kernel
theorem dX0_layOut_172 : decode cX0_layOut 172 = .ok (.getfield 43, 3) := by decide +kernel
theorem dX0_layOut_175 : decode cX0_layOut 175 = .ok (.if_icmp .ne 19, 3) := by decide +kernel
theorem dX0_layOut_178 : decode cX0_layOut 178 = .ok (.iload 4, 2) := by decide +kernel
theorem dX0_layOut_180 : decode cX0_layOut 180 = .ok (.aload_n 0, 1) := by decide +kernel
theorem dX0_layOut_181 : decode cX0_layOut 181 = .ok (.getfield 46, 3) := by decide +kernel
theorem dX0_layOut_184 : decode cX0_layOut 184 = .ok (.if_icmp .ge 10, 3) := by decide +kernel
theorem dX0_layOut_187 : decode cX0_layOut 187 = .ok (.aload_n 0, 1) := by decide +kernel
theorem dX0_layOut_188 : decode cX0_layOut 188 = .ok (.iload_n 3, 1) := by decide +kernel
theorem dX0_layOut_189 : decode cX0_layOut 189 = .ok (.iload 4, 2) := by decide +kernel
theorem dX0_layOut_191 : decode cX0_layOut 191 = .ok (.invokevirtual 56, 3) := by decide +kernel
theorem dX0_layOut_194 : decode cX0_layOut 194 = .ok (.iinc 5 1, 3) := by decide +kernel
theorem dX0_layOut_197 : decode cX0_layOut 197 = .ok (.iinc 6 1, 3) := by decide +kernel
theorem dX0_layOut_200 : decode cX0_layOut 200 = .ok (.goto (-173), 3) := by decide +kernel
theorem dX0_layOut_203 : decode cX0_layOut 203 = .ok (.aload_n 0, 1) := by decide +kernel
theorem dX0_layOut_204 : decode cX0_layOut 204 = .ok (.getfield 27, 3) := by decide +kernel
theorem dX0_layOut_207 : decode cX0_layOut 207 = .ok (.ireturn, 1) := by decide +kernel
theorem dX0_takePicked_0 : decode cX0_takePicked 0 = .ok (.aload_n 0, 1) := by decide +kernel
theorem dX0_takePicked_1 : decode cX0_takePicked 1 = .ok (.iload_n 1, 1) := by decide +kernel
theorem dX0_takePicked_2 : decode cX0_takePicked 2 = .ok (.putfield 43, 3) := by decide +kernel
theorem dX0_takePicked_5 : decode cX0_takePicked 5 = .ok (.aload_n 0, 1) := by decide +kernel
theorem dX0_takePicked_6 : decode cX0_takePicked 6 = .ok (.iload_n 2, 1) := by decide +kernel
theorem dX0_takePicked_7 : decode cX0_takePicked 7 = .ok (.putfield 46, 3) := by decide +kernel
theorem dX0_takePicked_10 : decode cX0_takePicked 10 = .ok (.aload_n 0, 1) := by decide +kernel
theorem dX0_takePicked_11 : decode cX0_takePicked 11 = .ok (.aload_n 0, 1) := by decide +kernel
theorem dX0_takePicked_12 : decode cX0_takePicked 12 = .ok (.getfield 53, 3) := by decide +kernel
theorem dX0_takePicked_15 : decode cX0_takePicked 15 = .ok (.putfield 27, 3) := by decide +kernel
theorem dX0_takePicked_18 : decode cX0_takePicked 18 = .ok (.iconst 0, 1) := by decide +kernel
theorem dX0_takePicked_19 : decode cX0_takePicked 19 = .ok (.istore_n 3, 1) := by decide +kernel
theorem dX0_takePicked_20 : decode cX0_takePicked 20 = .ok (.iload_n 3, 1) := by decide +kernel
theorem dX0_takePicked_21 : decode cX0_takePicked 21 = .ok (.aload_n 0, 1) := by decide +kernel
theorem dX0_takePicked_22 : decode cX0_takePicked 22 = .ok (.getfield 53, 3) := by decide +kernel
theorem dX0_takePicked_25 : decode cX0_takePicked 25 = .ok (.if_icmp .ge 26, 3) := by decide +kernel
theorem dX0_takePicked_28 : decode cX0_takePicked 28 = .ok (.aload_n 0, 1) := by decide +kernel
theorem dX0_takePicked_29 : decode cX0_takePicked 29 = .ok (.getfield 21, 3) := by decide +kernel
theorem dX0_takePicked_32 : decode cX0_takePicked 32 = .ok (.iload_n 3, 1) := by decide +kernel
theorem dX0_takePicked_33 : decode cX0_takePicked 33 = .ok (.aload_n 0, 1) := by decide +kernel
theorem dX0_takePicked_34 : decode cX0_takePicked 34 = .ok (.getfield 9, 3) := by decide +kernel
theorem dX0_takePicked_37 : decode cX0_takePicked 37 = .ok (.aload_n 0, 1) := by decide +kernel
theorem dX0_takePicked_38 : decode cX0_takePicked 38 = .ok (.getfield 24, 3) := by decide +kernel
theorem dX0_takePicked_41 : decode cX0_takePicked 41 = .ok (.iload_n 3, 1) := by decide +kernel
theorem dX0_takePicked_42 : decode cX0_takePicked 42 = .ok (.iaload, 1) := by decide +kernel
theorem dX0_takePicked_43 : decode cX0_takePicked 43 = .ok (.iaload, 1) := by decide +kernel
theorem dX0_takePicked_44 : decode cX0_takePicked 44 = .ok (.iastore, 1) := by decide +kernel
theorem dX0_takePicked_45 : decode cX0_takePicked 45 = .ok (.iinc 3 1, 3) := by decide +kernel
theorem dX0_takePicked_48 : decode cX0_takePicked 48 = .ok (.goto (-28), 3) := by decide +kernel
theorem dX0_takePicked_51 : decode cX0_takePicked 51 = .ok (.return_, 1) := by decide +kernel
theorem dX0_bestNext_0 : decode cX0_bestNext 0 = .ok (.aload_n 0, 1) := by decide +kernel
theorem dX0_bestNext_1 : decode cX0_bestNext 1 = .ok (.iload_n 1, 1) := by decide +kernel
theorem dX0_bestNext_2 : decode cX0_bestNext 2 = .ok (.invokevirtual 49, 3) := by decide +kernel
theorem dX0_bestNext_5 : decode cX0_bestNext 5 = .ok (.bipush (-4), 2) := by decide +kernel
theorem dX0_bestNext_7 : decode cX0_bestNext 7 = .ok (.istore_n 3, 1) := by decide +kernel
theorem dX0_bestNext_8 : decode cX0_bestNext 8 = .ok (.iconst 0, 1) := by decide +kernel
theorem dX0_bestNext_9 : decode cX0_bestNext 9 = .ok (.istore 4, 2) := by decide +kernel
theorem dX0_bestNext_11 : decode cX0_bestNext 11 = .ok (.iload 4, 2) := by decide +kernel
theorem dX0_bestNext_13 : decode cX0_bestNext 13 = .ok (.aload_n 0, 1) := by decide +kernel
theorem dX0_bestNext_14 : decode cX0_bestNext 14 = .ok (.getfield 61, 3) := by decide +kernel
theorem dX0_bestNext_17 : decode cX0_bestNext 17 = .ok (.if_icmp .ge 39, 3) := by decide +kernel
theorem dX0_bestNext_20 : decode cX0_bestNext 20 = .ok (.aload_n 0, 1) := by decide +kernel
theorem dX0_bestNext_21 : decode cX0_bestNext 21 = .ok (.getfield 18, 3) := by decide +kernel
theorem dX0_bestNext_24 : decode cX0_bestNext 24 = .ok (.iload 4, 2) := by decide +kernel
theorem dX0_bestNext_26 : decode cX0_bestNext 26 = .ok (.iaload, 1) := by decide +kernel
theorem dX0_bestNext_27 : decode cX0_bestNext 27 = .ok (.iload_n 2, 1) := by decide +kernel
theorem dX0_bestNext_28 : decode cX0_bestNext 28 = .ok (.if_icmp .gt 22, 3) := by decide +kernel
theorem dX0_bestNext_31 : decode cX0_bestNext 31 = .ok (.iload_n 3, 1) := by decide +kernel
theorem dX0_bestNext_32 : decode cX0_bestNext 32 = .ok (.bipush (-4), 2) := by decide +kernel
theorem dX0_bestNext_34 : decode cX0_bestNext 34 = .ok (.if_icmp .eq 13, 3) := by decide +kernel
theorem dX0_bestNext_37 : decode cX0_bestNext 37 = .ok (.aload_n 0, 1) := by decide +kernel
theorem dX0_bestNext_38 : decode cX0_bestNext 38 = .ok (.iload 4, 2) := by decide +kernel
theorem dX0_bestNext_40 : decode cX0_bestNext 40 = .ok (.iload_n 3, 1) := by decide +kernel
theorem dX0_bestNext_41 : decode cX0_bestNext 41 = .ok (.invokevirtual 64, 3) := by decide +kernel
theorem dX0_bestNext_44 : decode cX0_bestNext 44 = .ok (.ifCond .eq 6, 3) := by decide +kernel
theorem dX0_bestNext_47 : decode cX0_bestNext 47 = .ok (.iload 4, 2) := by decide +kernel
theorem dX0_bestNext_49 : decode cX0_bestNext 49 = .ok (.istore_n 3, 1) := by decide +kernel
theorem dX0_bestNext_50 : decode cX0_bestNext 50 = .ok (.iinc 4 1, 3) := by decide +kernel
theorem dX0_bestNext_53 : decode cX0_bestNext 53 = .ok (.goto (-42), 3) := by decide +kernel
theorem dX0_bestNext_56 : decode cX0_bestNext 56 = .ok (.iload_n 3, 1) := by decide +kernel
theorem dX0_bestNext_57 : decode cX0_bestNext 57 = .ok (.bipush (-4), 2) := by decide +kernel
theorem dX0_bestNext_59 : decode cX0_bestNext 59 = .ok (.if_icmp .ne 8, 3) := by decide +kernel
theorem dX0_bestNext_62 : decode cX0_bestNext 62 = .ok (.bipush (-4), 2) := by decide +kernel
theorem dX0_bestNext_64 : decode cX0_bestNext 64 = .ok (.goto 9, 3) := by decide +kernel
theorem dX0_bestNext_67 : decode cX0_bestNext 67 = .ok (.aload_n 0, 1) := by decide +kernel
theorem dX0_bestNext_68 : decode cX0_bestNext 68 = .ok (.getfield 9, 3) := by decide +kernel
theorem dX0_bestNext_71 : decode cX0_bestNext 71 = .ok (.iload_n 3, 1) := by decide +kernel
theorem dX0_bestNext_72 : decode cX0_bestNext 72 = .ok (.iaload, 1) := by decide +kernel
theorem dX0_bestNext_73 : decode cX0_bestNext 73 = .ok (.ireturn, 1) := by decide +kernel
theorem dX0_isBetter_0 : decode cX0_isBetter 0 = .ok (.aload_n 0, 1) := by decide +kernel
theorem dX0_isBetter_1 : decode cX0_isBetter 1 = .ok (.getfield 15, 3) := by decide +kernel
theorem dX0_isBetter_4 : decode cX0_isBetter 4 = .ok (.iload_n 1, 1) := by decide +kernel
theorem dX0_isBetter_5 : decode cX0_isBetter 5 = .ok (.iaload, 1) := by decide +kernel
theorem dX0_isBetter_6 : decode cX0_isBetter 6 = .ok (.i2l, 1) := by decide +kernel
theorem dX0_isBetter_7 : decode cX0_isBetter 7 = .ok (.aload_n 0, 1) := by decide +kernel
theorem dX0_isBetter_8 : decode cX0_isBetter 8 = .ok (.getfield 18, 3) := by decide +kernel
theorem dX0_isBetter_11 : decode cX0_isBetter 11 = .ok (.iload_n 2, 1) := by decide +kernel
theorem dX0_isBetter_12 : decode cX0_isBetter 12 = .ok (.iaload, 1) := by decide +kernel
theorem dX0_isBetter_13 : decode cX0_isBetter 13 = .ok (.i2l, 1) := by decide +kernel
theorem dX0_isBetter_14 : decode cX0_isBetter 14 = .ok (.lmul, 1) := by decide +kernel
theorem dX0_isBetter_15 : decode cX0_isBetter 15 = .ok (.aload_n 0, 1) := by decide +kernel
theorem dX0_isBetter_16 : decode cX0_isBetter 16 = .ok (.getfield 15, 3) := by decide +kernel
theorem dX0_isBetter_19 : decode cX0_isBetter 19 = .ok (.iload_n 2, 1) := by decide +kernel
theorem dX0_isBetter_20 : decode cX0_isBetter 20 = .ok (.iaload, 1) := by decide +kernel
theorem dX0_isBetter_21 : decode cX0_isBetter 21 = .ok (.i2l, 1) := by decide +kernel
theorem dX0_isBetter_22 : decode cX0_isBetter 22 = .ok (.aload_n 0, 1) := by decide +kernel
theorem dX0_isBetter_23 : decode cX0_isBetter 23 = .ok (.getfield 18, 3) := by decide +kernel
theorem dX0_isBetter_26 : decode cX0_isBetter 26 = .ok (.iload_n 1, 1) := by decide +kernel
theorem dX0_isBetter_27 : decode cX0_isBetter 27 = .ok (.iaload, 1) := by decide +kernel
theorem dX0_isBetter_28 : decode cX0_isBetter 28 = .ok (.i2l, 1) := by decide +kernel
theorem dX0_isBetter_29 : decode cX0_isBetter 29 = .ok (.lmul, 1) := by decide +kernel
theorem dX0_isBetter_30 : decode cX0_isBetter 30 = .ok (.lcmp, 1) := by decide +kernel
theorem dX0_isBetter_31 : decode cX0_isBetter 31 = .ok (.ifCond .le 7, 3) := by decide +kernel
theorem dX0_isBetter_34 : decode cX0_isBetter 34 = .ok (.iconst 1, 1) := by decide +kernel
theorem dX0_isBetter_35 : decode cX0_isBetter 35 = .ok (.goto 4, 3) := by decide +kernel
theorem dX0_isBetter_38 : decode cX0_isBetter 38 = .ok (.iconst 0, 1) := by decide +kernel
theorem dX0_isBetter_39 : decode cX0_isBetter 39 = .ok (.ireturn, 1) := by decide +kernel
theorem dX0_lookAt_0 : decode cX0_lookAt 0 = .ok (.aload_n 0, 1) := by decide +kernel
theorem dX0_lookAt_1 : decode cX0_lookAt 1 = .ok (.iconst 0, 1) := by decide +kernel
theorem dX0_lookAt_2 : decode cX0_lookAt 2 = .ok (.putfield 61, 3) := by decide +kernel
theorem dX0_lookAt_5 : decode cX0_lookAt 5 = .ok (.iconst 0, 1) := by decide +kernel
theorem dX0_lookAt_6 : decode cX0_lookAt 6 = .ok (.istore_n 2, 1) := by decide +kernel
theorem dX0_lookAt_7 : decode cX0_lookAt 7 = .ok (.iload_n 2, 1) := by decide +kernel
theorem dX0_lookAt_8 : decode cX0_lookAt 8 = .ok (.aload_n 0, 1) := by decide +kernel
theorem dX0_lookAt_9 : decode cX0_lookAt 9 = .ok (.getfield 31, 3) := by decide +kernel
theorem dX0_lookAt_12 : decode cX0_lookAt 12 = .ok (.getfield 68, 3) := by decide +kernel
theorem dX0_lookAt_15 : decode cX0_lookAt 15 = .ok (.getfield 74, 3) := by decide +kernel
theorem dX0_lookAt_18 : decode cX0_lookAt 18 = .ok (.if_icmp .ge 137, 3) := by decide +kernel
theorem dX0_lookAt_21 : decode cX0_lookAt 21 = .ok (.aload_n 0, 1) := by decide +kernel
theorem dX0_lookAt_22 : decode cX0_lookAt 22 = .ok (.getfield 61, 3) := by decide +kernel
theorem dX0_lookAt_25 : decode cX0_lookAt 25 = .ok (.bipush 12, 2) := by decide +kernel
theorem dX0_lookAt_27 : decode cX0_lookAt 27 = .ok (.if_icmp .ge 128, 3) := by decide +kernel
theorem dX0_lookAt_30 : decode cX0_lookAt 30 = .ok (.aload_n 0, 1) := by decide +kernel
theorem dX0_lookAt_31 : decode cX0_lookAt 31 = .ok (.getfield 31, 3) := by decide +kernel
theorem dX0_lookAt_34 : decode cX0_lookAt 34 = .ok (.iload_n 2, 1) := by decide +kernel
theorem dX0_lookAt_35 : decode cX0_lookAt 35 = .ok (.invokevirtual 79, 3) := by decide +kernel
theorem dX0_lookAt_38 : decode cX0_lookAt 38 = .ok (.bipush 6, 2) := by decide +kernel
theorem dX0_lookAt_40 : decode cX0_lookAt 40 = .ok (.if_icmp .ne 19, 3) := by decide +kernel
theorem dX0_lookAt_43 : decode cX0_lookAt 43 = .ok (.aload_n 0, 1) := by decide +kernel
theorem dX0_lookAt_44 : decode cX0_lookAt 44 = .ok (.getfield 31, 3) := by decide +kernel
theorem dX0_lookAt_47 : decode cX0_lookAt 47 = .ok (.iload_n 2, 1) := by decide +kernel
theorem dX0_lookAt_48 : decode cX0_lookAt 48 = .ok (.invokevirtual 83, 3) := by decide +kernel
theorem dX0_lookAt_51 : decode cX0_lookAt 51 = .ok (.iload_n 1, 1) := by decide +kernel
theorem dX0_lookAt_52 : decode cX0_lookAt 52 = .ok (.if_icmp .eq 7, 3) := by decide +kernel
theorem dX0_lookAt_55 : decode cX0_lookAt 55 = .ok (.iconst 1, 1) := by decide +kernel
theorem dX0_lookAt_56 : decode cX0_lookAt 56 = .ok (.goto 4, 3) := by decide +kernel
theorem dX0_lookAt_59 : decode cX0_lookAt 59 = .ok (.iconst 0, 1) := by decide +kernel
theorem dX0_lookAt_60 : decode cX0_lookAt 60 = .ok (.istore_n 3, 1) := by decide +kernel
theorem dX0_lookAt_61 : decode cX0_lookAt 61 = .ok (.iload_n 3, 1) := by decide +kernel
theorem dX0_lookAt_62 : decode cX0_lookAt 62 = .ok (.ifCond .eq 87, 3) := by decide +kernel
theorem dX0_lookAt_65 : decode cX0_lookAt 65 = .ok (.aload_n 0, 1) := by decide +kernel
theorem dX0_lookAt_66 : decode cX0_lookAt 66 = .ok (.getfield 31, 3) := by decide +kernel
theorem dX0_lookAt_69 : decode cX0_lookAt 69 = .ok (.aload_n 0, 1) := by decide +kernel
theorem dX0_lookAt_70 : decode cX0_lookAt 70 = .ok (.getfield 31, 3) := by decide +kernel
theorem dX0_lookAt_73 : decode cX0_lookAt 73 = .ok (.iload_n 2, 1) := by decide +kernel
theorem dX0_lookAt_74 : decode cX0_lookAt 74 = .ok (.invokevirtual 83, 3) := by decide +kernel
theorem dX0_lookAt_77 : decode cX0_lookAt 77 = .ok (.invokevirtual 86, 3) := by decide +kernel
theorem dX0_lookAt_80 : decode cX0_lookAt 80 = .ok (.ifCond .ne 69, 3) := by decide +kernel
theorem dX0_lookAt_83 : decode cX0_lookAt 83 = .ok (.aload_n 0, 1) := by decide +kernel
theorem dX0_lookAt_84 : decode cX0_lookAt 84 = .ok (.getfield 31, 3) := by decide +kernel
theorem dX0_lookAt_87 : decode cX0_lookAt 87 = .ok (.iload_n 2, 1) := by decide +kernel
theorem dX0_lookAt_88 : decode cX0_lookAt 88 = .ok (.invokevirtual 90, 3) := by decide +kernel
theorem dX0_lookAt_91 : decode cX0_lookAt 91 = .ok (.iload_n 1, 1) := by decide +kernel
theorem dX0_lookAt_92 : decode cX0_lookAt 92 = .ok (.if_icmp .ne 57, 3) := by decide +kernel
theorem dX0_lookAt_95 : decode cX0_lookAt 95 = .ok (.aload_n 0, 1) := by decide +kernel
theorem dX0_lookAt_96 : decode cX0_lookAt 96 = .ok (.getfield 9, 3) := by decide +kernel
theorem dX0_lookAt_99 : decode cX0_lookAt 99 = .ok (.aload_n 0, 1) := by decide +kernel
theorem dX0_lookAt_100 : decode cX0_lookAt 100 = .ok (.getfield 61, 3) := by decide +kernel
theorem dX0_lookAt_103 : decode cX0_lookAt 103 = .ok (.iload_n 2, 1) := by decide +kernel
theorem dX0_lookAt_104 : decode cX0_lookAt 104 = .ok (.iastore, 1) := by decide +kernel
theorem dX0_lookAt_105 : decode cX0_lookAt 105 = .ok (.aload_n 0, 1) := by decide +kernel
theorem dX0_lookAt_106 : decode cX0_lookAt 106 = .ok (.getfield 15, 3) := by decide +kernel
theorem dX0_lookAt_109 : decode cX0_lookAt 109 = .ok (.aload_n 0, 1) := by decide +kernel
theorem dX0_lookAt_110 : decode cX0_lookAt 110 = .ok (.getfield 61, 3) := by decide +kernel
theorem dX0_lookAt_113 : decode cX0_lookAt 113 = .ok (.aload_n 0, 1) := by decide +kernel
theorem dX0_lookAt_114 : decode cX0_lookAt 114 = .ok (.getfield 39, 3) := by decide +kernel
theorem dX0_lookAt_117 : decode cX0_lookAt 117 = .ok (.iload_n 2, 1) := by decide +kernel
theorem dX0_lookAt_118 : decode cX0_lookAt 118 = .ok (.invokevirtual 93, 3) := by decide +kernel
theorem dX0_lookAt_121 : decode cX0_lookAt 121 = .ok (.iastore, 1) := by decide +kernel
theorem dX0_lookAt_122 : decode cX0_lookAt 122 = .ok (.aload_n 0, 1) := by decide +kernel
theorem dX0_lookAt_123 : decode cX0_lookAt 123 = .ok (.getfield 18, 3) := by decide +kernel
theorem dX0_lookAt_126 : decode cX0_lookAt 126 = .ok (.aload_n 0, 1) := by decide +kernel
theorem dX0_lookAt_127 : decode cX0_lookAt 127 = .ok (.getfield 61, 3) := by decide +kernel
theorem dX0_lookAt_130 : decode cX0_lookAt 130 = .ok (.aload_n 0, 1) := by decide +kernel
theorem dX0_lookAt_131 : decode cX0_lookAt 131 = .ok (.getfield 35, 3) := by decide +kernel
theorem dX0_lookAt_134 : decode cX0_lookAt 134 = .ok (.iload_n 2, 1) := by decide +kernel
theorem dX0_lookAt_135 : decode cX0_lookAt 135 = .ok (.invokevirtual 98, 3) := by decide +kernel
theorem dX0_lookAt_138 : decode cX0_lookAt 138 = .ok (.iastore, 1) := by decide +kernel
theorem dX0_lookAt_139 : decode cX0_lookAt 139 = .ok (.aload_n 0, 1) := by decide +kernel
theorem dX0_lookAt_140 : decode cX0_lookAt 140 = .ok (.dup, 1) := by decide +kernel
theorem dX0_lookAt_141 : decode cX0_lookAt 141 = .ok (.getfield 61, 3) := by decide +kernel
theorem dX0_lookAt_144 : decode cX0_lookAt 144 = .ok (.iconst 1, 1) := by decide +kernel
theorem dX0_lookAt_145 : decode cX0_lookAt 145 = .ok (.iadd, 1) := by decide +kernel
theorem dX0_lookAt_146 : decode cX0_lookAt 146 = .ok (.putfield 61, 3) := by decide +kernel
theorem dX0_lookAt_149 : decode cX0_lookAt 149 = .ok (.iinc 2 1, 3) := by decide +kernel
theorem dX0_lookAt_152 : decode cX0_lookAt 152 = .ok (.goto (-145), 3) := by decide +kernel
theorem dX0_lookAt_155 : decode cX0_lookAt 155 = .ok (.return_, 1) := by decide +kernel
theorem dX1_init_0 : decode cX1_init 0 = .ok (.aload_n 0, 1) := by decide +kernel
theorem dX1_init_1 : decode cX1_init 1 = .ok (.invokespecial 3, 3) := by decide +kernel
theorem dX1_init_4 : decode cX1_init 4 = .ok (.aload_n 0, 1) := by decide +kernel
theorem dX1_init_5 : decode cX1_init 5 = .ok (.new 9, 3) := by decide +kernel
theorem dX1_init_8 : decode cX1_init 8 = .ok (.dup, 1) := by decide +kernel
theorem dX1_init_9 : decode cX1_init 9 = .ok (.invokespecial 11, 3) := by decide +kernel
theorem dX1_init_12 : decode cX1_init 12 = .ok (.putfield 12, 3) := by decide +kernel
theorem dX1_init_15 : decode cX1_init 15 = .ok (.aload_n 0, 1) := by decide +kernel
theorem dX1_init_16 : decode cX1_init 16 = .ok (.new 18, 3) := by decide +kernel
theorem dX1_init_19 : decode cX1_init 19 = .ok (.dup, 1) := by decide +kernel
theorem dX1_init_20 : decode cX1_init 20 = .ok (.invokespecial 20, 3) := by decide +kernel
theorem dX1_init_23 : decode cX1_init 23 = .ok (.putfield 21, 3) := by decide +kernel
theorem dX1_init_26 : decode cX1_init 26 = .ok (.aload_n 0, 1) := by decide +kernel
theorem dX1_init_27 : decode cX1_init 27 = .ok (.new 18, 3) := by decide +kernel
theorem dX1_init_30 : decode cX1_init 30 = .ok (.dup, 1) := by decide +kernel
theorem dX1_init_31 : decode cX1_init 31 = .ok (.invokespecial 20, 3) := by decide +kernel
theorem dX1_init_34 : decode cX1_init 34 = .ok (.putfield 25, 3) := by decide +kernel
theorem dX1_init_37 : decode cX1_init 37 = .ok (.return_, 1) := by decide +kernel
theorem dX1_isMade_0 : decode cX1_isMade 0 = .ok (.iload_n 1, 1) := by decide +kernel
theorem dX1_isMade_1 : decode cX1_isMade 1 = .ok (.ifCond .lt 18, 3) := by decide +kernel
theorem dX1_isMade_4 : decode cX1_isMade 4 = .ok (.iload_n 1, 1) := by decide +kernel
theorem dX1_isMade_5 : decode cX1_isMade 5 = .ok (.aload_n 0, 1) := by decide +kernel
theorem dX1_isMade_6 : decode cX1_isMade 6 = .ok (.getfield 12, 3) := by decide +kernel
theorem dX1_isMade_9 : decode cX1_isMade 9 = .ok (.getfield 28, 3) := by decide +kernel
theorem dX1_isMade_12 : decode cX1_isMade 12 = .ok (.if_icmp .ge 7, 3) := by decide +kernel
theorem dX1_isMade_15 : decode cX1_isMade 15 = .ok (.iconst 1, 1) := by decide +kernel
theorem dX1_isMade_16 : decode cX1_isMade 16 = .ok (.goto 4, 3) := by decide +kernel
theorem dX1_isMade_19 : decode cX1_isMade 19 = .ok (.iconst 0, 1) := by decide +kernel
theorem dX1_isMade_20 : decode cX1_isMade 20 = .ok (.ireturn, 1) := by decide +kernel
theorem dX1_isStep_0 : decode cX1_isStep 0 = .ok (.aload_n 0, 1) := by decide +kernel
theorem dX1_isStep_1 : decode cX1_isStep 1 = .ok (.getfield 12, 3) := by decide +kernel
theorem dX1_isStep_4 : decode cX1_isStep 4 = .ok (.iload_n 1, 1) := by decide +kernel
theorem dX1_isStep_5 : decode cX1_isStep 5 = .ok (.invokevirtual 32, 3) := by decide +kernel
theorem dX1_isStep_8 : decode cX1_isStep 8 = .ok (.ireturn, 1) := by decide +kernel
theorem dX1_isLoose_0 : decode cX1_isLoose 0 = .ok (.aload_n 0, 1) := by decide +kernel
theorem dX1_isLoose_1 : decode cX1_isLoose 1 = .ok (.getfield 12, 3) := by decide +kernel
theorem dX1_isLoose_4 : decode cX1_isLoose 4 = .ok (.iload_n 1, 1) := by decide +kernel
theorem dX1_isLoose_5 : decode cX1_isLoose 5 = .ok (.invokevirtual 32, 3) := by decide +kernel
theorem dX1_isLoose_8 : decode cX1_isLoose 8 = .ok (.ifCond .eq 31, 3) := by decide +kernel
theorem dX1_isLoose_11 : decode cX1_isLoose 11 = .ok (.aload_n 0, 1) := by decide +kernel
theorem dX1_isLoose_12 : decode cX1_isLoose 12 = .ok (.getfield 12, 3) := by decide +kernel
theorem dX1_isLoose_15 : decode cX1_isLoose 15 = .ok (.getfield 36, 3) := by decide +kernel
theorem dX1_isLoose_18 : decode cX1_isLoose 18 = .ok (.iload_n 1, 1) := by decide +kernel
theorem dX1_isLoose_19 : decode cX1_isLoose 19 = .ok (.iaload, 1) := by decide +kernel
theorem dX1_isLoose_20 : decode cX1_isLoose 20 = .ok (.bipush (-4), 2) := by decide +kernel
theorem dX1_isLoose_22 : decode cX1_isLoose 22 = .ok (.if_icmp .ne 17, 3) := by decide +kernel
theorem dX1_isLoose_25 : decode cX1_isLoose 25 = .ok (.aload_n 0, 1) := by decide +kernel
theorem dX1_isLoose_26 : decode cX1_isLoose 26 = .ok (.iload_n 1, 1) := by decide +kernel
theorem dX1_isLoose_27 : decode cX1_isLoose 27 = .ok (.invokevirtual 40, 3) := by decide +kernel
theorem dX1_isLoose_30 : decode cX1_isLoose 30 = .ok (.bipush (-4), 2) := by decide +kernel
theorem dX1_isLoose_32 : decode cX1_isLoose 32 = .ok (.if_icmp .ne 7, 3) := by decide +kernel
theorem dX1_isLoose_35 : decode cX1_isLoose 35 = .ok (.iconst 1, 1) := by decide +kernel
theorem dX1_isLoose_36 : decode cX1_isLoose 36 = .ok (.goto 4, 3) := by decide +kernel
theorem dX1_isLoose_39 : decode cX1_isLoose 39 = .ok (.iconst 0, 1) := by decide +kernel
theorem dX1_isLoose_40 : decode cX1_isLoose 40 = .ok (.ireturn, 1) := by decide +kernel
theorem dX1_isRoutine_0 : decode cX1_isRoutine 0 = .ok (.iload_n 1, 1) := by decide +kernel
theorem dX1_isRoutine_1 : decode cX1_isRoutine 1 = .ok (.ifCond .lt 18, 3) := by decide +kernel
theorem dX1_isRoutine_4 : decode cX1_isRoutine 4 = .ok (.iload_n 1, 1) := by decide +kernel
theorem dX1_isRoutine_5 : decode cX1_isRoutine 5 = .ok (.aload_n 0, 1) := by decide +kernel
theorem dX1_isRoutine_6 : decode cX1_isRoutine 6 = .ok (.getfield 12, 3) := by decide +kernel
theorem dX1_isRoutine_9 : decode cX1_isRoutine 9 = .ok (.getfield 44, 3) := by decide +kernel
theorem dX1_isRoutine_12 : decode cX1_isRoutine 12 = .ok (.if_icmp .ge 7, 3) := by decide +kernel
theorem dX1_isRoutine_15 : decode cX1_isRoutine 15 = .ok (.iconst 1, 1) := by decide +kernel
theorem dX1_isRoutine_16 : decode cX1_isRoutine 16 = .ok (.goto 4, 3) := by decide +kernel
theorem dX1_isRoutine_19 : decode cX1_isRoutine 19 = .ok (.iconst 0, 1) := by decide +kernel
theorem dX1_isRoutine_20 : decode cX1_isRoutine 20 = .ok (.ireturn, 1) := by decide +kernel
theorem dX1_isMissing_0 : decode cX1_isMissing 0 = .ok (.aload_n 0, 1) := by decide +kernel
theorem dX1_isMissing_1 : decode cX1_isMissing 1 = .ok (.iload_n 1, 1) := by decide +kernel
theorem dX1_isMissing_2 : decode cX1_isMissing 2 = .ok (.invokevirtual 47, 3) := by decide +kernel
theorem dX1_isMissing_5 : decode cX1_isMissing 5 = .ok (.bipush (-4), 2) := by decide +kernel
theorem dX1_isMissing_7 : decode cX1_isMissing 7 = .ok (.if_icmp .ne 7, 3) := by decide +kernel
theorem dX1_isMissing_10 : decode cX1_isMissing 10 = .ok (.iconst 1, 1) := by decide +kernel
theorem dX1_isMissing_11 : decode cX1_isMissing 11 = .ok (.goto 4, 3) := by decide +kernel
theorem dX1_isMissing_14 : decode cX1_isMissing 14 = .ok (.iconst 0, 1) := by decide +kernel
theorem dX1_isMissing_15 : decode cX1_isMissing 15 = .ok (.ireturn, 1) := by decide +kernel
theorem dX1_isCallInBody_0 : decode cX1_isCallInBody 0 = .ok (.aload_n 0, 1) := by decide +kernel
theorem dX1_isCallInBody_1 : decode cX1_isCallInBody 1 = .ok (.iload_n 1, 1) := by decide +kernel
theorem dX1_isCallInBody_2 : decode cX1_isCallInBody 2 = .ok (.invokevirtual 50, 3) := by decide +kernel
theorem dX1_isCallInBody_5 : decode cX1_isCallInBody 5 = .ok (.bipush 6, 2) := by decide +kernel
theorem dX1_isCallInBody_7 : decode cX1_isCallInBody 7 = .ok (.if_icmp .ne 17, 3) := by decide +kernel
theorem dX1_isCallInBody_10 : decode cX1_isCallInBody 10 = .ok (.aload_n 0, 1) := by decide +kernel
theorem dX1_isCallInBody_11 : decode cX1_isCallInBody 11 = .ok (.iload_n 1, 1) := by decide +kernel
theorem dX1_isCallInBody_12 : decode cX1_isCallInBody 12 = .ok (.invokevirtual 53, 3) := by decide +kernel
theorem dX1_isCallInBody_15 : decode cX1_isCallInBody 15 = .ok (.bipush (-4), 2) := by decide +kernel
theorem dX1_isCallInBody_17 : decode cX1_isCallInBody 17 = .ok (.if_icmp .eq 7, 3) := by decide +kernel
theorem dX1_isCallInBody_20 : decode cX1_isCallInBody 20 = .ok (.iconst 1, 1) := by decide +kernel
theorem dX1_isCallInBody_21 : decode cX1_isCallInBody 21 = .ok (.goto 4, 3) := by decide +kernel
theorem dX1_isCallInBody_24 : decode cX1_isCallInBody 24 = .ok (.iconst 0, 1) := by decide +kernel
theorem dX1_isCallInBody_25 : decode cX1_isCallInBody 25 = .ok (.ireturn, 1) := by decide +kernel
theorem dX1_kindOf_0 : decode cX1_kindOf 0 = .ok (.iload_n 1, 1) := by decide +kernel
theorem dX1_kindOf_1 : decode cX1_kindOf 1 = .ok (.ifCond .lt 26, 3) := by decide +kernel
theorem dX1_kindOf_4 : decode cX1_kindOf 4 = .ok (.iload_n 1, 1) := by decide +kernel
theorem dX1_kindOf_5 : decode cX1_kindOf 5 = .ok (.aload_n 0, 1) := by decide +kernel
theorem dX1_kindOf_6 : decode cX1_kindOf 6 = .ok (.getfield 12, 3) := by decide +kernel
theorem dX1_kindOf_9 : decode cX1_kindOf 9 = .ok (.getfield 28, 3) := by decide +kernel
theorem dX1_kindOf_12 : decode cX1_kindOf 12 = .ok (.if_icmp .ge 15, 3) := by decide +kernel
theorem dX1_kindOf_15 : decode cX1_kindOf 15 = .ok (.aload_n 0, 1) := by decide +kernel
theorem dX1_kindOf_16 : decode cX1_kindOf 16 = .ok (.getfield 12, 3) := by decide +kernel
theorem dX1_kindOf_19 : decode cX1_kindOf 19 = .ok (.getfield 56, 3) := by decide +kernel
theorem dX1_kindOf_22 : decode cX1_kindOf 22 = .ok (.iload_n 1, 1) := by decide +kernel
theorem dX1_kindOf_23 : decode cX1_kindOf 23 = .ok (.iaload, 1) := by decide +kernel
theorem dX1_kindOf_24 : decode cX1_kindOf 24 = .ok (.goto 4, 3) := by decide +kernel
theorem dX1_kindOf_27 : decode cX1_kindOf 27 = .ok (.iconst (-1), 1) := by decide +kernel
theorem dX1_kindOf_28 : decode cX1_kindOf 28 = .ok (.ireturn, 1) := by decide +kernel
theorem dX1_numberOf_0 : decode cX1_numberOf 0 = .ok (.iload_n 1, 1) := by decide +kernel
theorem dX1_numberOf_1 : decode cX1_numberOf 1 = .ok (.ifCond .lt 26, 3) := by decide +kernel
theorem dX1_numberOf_4 : decode cX1_numberOf 4 = .ok (.iload_n 1, 1) := by decide +kernel
theorem dX1_numberOf_5 : decode cX1_numberOf 5 = .ok (.aload_n 0, 1) := by decide +kernel
theorem dX1_numberOf_6 : decode cX1_numberOf 6 = .ok (.getfield 12, 3) := by decide +kernel
theorem dX1_numberOf_9 : decode cX1_numberOf 9 = .ok (.getfield 28, 3) := by decide +kernel
theorem dX1_numberOf_12 : decode cX1_numberOf 12 = .ok (.if_icmp .ge 15, 3) := by decide +kernel
theorem dX1_numberOf_15 : decode cX1_numberOf 15 = .ok (.aload_n 0, 1) := by decide +kernel
theorem dX1_numberOf_16 : decode cX1_numberOf 16 = .ok (.getfield 12, 3) := by decide +kernel
theorem dX1_numberOf_19 : decode cX1_numberOf 19 = .ok (.getfield 59, 3) := by decide +kernel
theorem dX1_numberOf_22 : decode cX1_numberOf 22 = .ok (.iload_n 1, 1) := by decide +kernel
theorem dX1_numberOf_23 : decode cX1_numberOf 23 = .ok (.iaload, 1) := by decide +kernel
theorem dX1_numberOf_24 : decode cX1_numberOf 24 = .ok (.goto 4, 3) := by decide +kernel
theorem dX1_numberOf_27 : decode cX1_numberOf 27 = .ok (.iconst 0, 1) := by decide +kernel
theorem dX1_numberOf_28 : decode cX1_numberOf 28 = .ok (.ireturn, 1) := by decide +kernel
theorem dX1_partOf_0 : decode cX1_partOf 0 = .ok (.iload_n 1, 1) := by decide +kernel
theorem dX1_partOf_1 : decode cX1_partOf 1 = .ok (.ifCond .lt 23, 3) := by decide +kernel
theorem dX1_partOf_4 : decode cX1_partOf 4 = .ok (.iload_n 1, 1) := by decide +kernel
theorem dX1_partOf_5 : decode cX1_partOf 5 = .ok (.aload_n 0, 1) := by decide +kernel
theorem dX1_partOf_6 : decode cX1_partOf 6 = .ok (.getfield 12, 3) := by decide +kernel
theorem dX1_partOf_9 : decode cX1_partOf 9 = .ok (.getfield 28, 3) := by decide +kernel
theorem dX1_partOf_12 : decode cX1_partOf 12 = .ok (.if_icmp .ge 12, 3) := by decide +kernel
theorem dX1_partOf_15 : decode cX1_partOf 15 = .ok (.iload_n 2, 1) := by decide +kernel
theorem dX1_partOf_16 : decode cX1_partOf 16 = .ok (.ifCond .lt 8, 3) := by decide +kernel
theorem dX1_partOf_19 : decode cX1_partOf 19 = .ok (.iload_n 2, 1) := by decide +kernel
theorem dX1_partOf_20 : decode cX1_partOf 20 = .ok (.iconst 3, 1) := by decide +kernel
theorem dX1_partOf_21 : decode cX1_partOf 21 = .ok (.if_icmp .lt 6, 3) := by decide +kernel
theorem dX1_partOf_24 : decode cX1_partOf 24 = .ok (.bipush (-4), 2) := by decide +kernel
theorem dX1_partOf_26 : decode cX1_partOf 26 = .ok (.ireturn, 1) := by decide +kernel
theorem dX1_partOf_27 : decode cX1_partOf 27 = .ok (.aload_n 0, 1) := by decide +kernel
theorem dX1_partOf_28 : decode cX1_partOf 28 = .ok (.getfield 12, 3) := by decide +kernel
theorem dX1_partOf_31 : decode cX1_partOf 31 = .ok (.getfield 62, 3) := by decide +kernel
theorem dX1_partOf_34 : decode cX1_partOf 34 = .ok (.iload_n 1, 1) := by decide +kernel
theorem dX1_partOf_35 : decode cX1_partOf 35 = .ok (.iconst 3, 1) := by decide +kernel
theorem dX1_partOf_36 : decode cX1_partOf 36 = .ok (.imul, 1) := by decide +kernel
theorem dX1_partOf_37 : decode cX1_partOf 37 = .ok (.iload_n 2, 1) := by decide +kernel
theorem dX1_partOf_38 : decode cX1_partOf 38 = .ok (.iadd, 1) := by decide +kernel
theorem dX1_partOf_39 : decode cX1_partOf 39 = .ok (.iaload, 1) := by decide +kernel
theorem dX1_partOf_40 : decode cX1_partOf 40 = .ok (.ireturn, 1) := by decide +kernel
theorem dX1_parentOf_0 : decode cX1_parentOf 0 = .ok (.iload_n 1, 1) := by decide +kernel
theorem dX1_parentOf_1 : decode cX1_parentOf 1 = .ok (.ifCond .lt 26, 3) := by decide +kernel
theorem dX1_parentOf_4 : decode cX1_parentOf 4 = .ok (.iload_n 1, 1) := by decide +kernel
theorem dX1_parentOf_5 : decode cX1_parentOf 5 = .ok (.aload_n 0, 1) := by decide +kernel
theorem dX1_parentOf_6 : decode cX1_parentOf 6 = .ok (.getfield 12, 3) := by decide +kernel
theorem dX1_parentOf_9 : decode cX1_parentOf 9 = .ok (.getfield 28, 3) := by decide +kernel
theorem dX1_parentOf_12 : decode cX1_parentOf 12 = .ok (.if_icmp .ge 15, 3) := by decide +kernel
theorem dX1_parentOf_15 : decode cX1_parentOf 15 = .ok (.aload_n 0, 1) := by decide +kernel
theorem dX1_parentOf_16 : decode cX1_parentOf 16 = .ok (.getfield 12, 3) := by decide +kernel
theorem dX1_parentOf_19 : decode cX1_parentOf 19 = .ok (.getfield 36, 3) := by decide +kernel
theorem dX1_parentOf_22 : decode cX1_parentOf 22 = .ok (.iload_n 1, 1) := by decide +kernel
theorem dX1_parentOf_23 : decode cX1_parentOf 23 = .ok (.iaload, 1) := by decide +kernel
theorem dX1_parentOf_24 : decode cX1_parentOf 24 = .ok (.goto 5, 3) := by decide +kernel
theorem dX1_parentOf_27 : decode cX1_parentOf 27 = .ok (.bipush (-4), 2) := by decide +kernel
theorem dX1_parentOf_29 : decode cX1_parentOf 29 = .ok (.ireturn, 1) := by decide +kernel
theorem dX1_paramsOf_0 : decode cX1_paramsOf 0 = .ok (.iload_n 1, 1) := by decide +kernel
theorem dX1_paramsOf_1 : decode cX1_paramsOf 1 = .ok (.ifCond .lt 26, 3) := by decide +kernel
theorem dX1_paramsOf_4 : decode cX1_paramsOf 4 = .ok (.iload_n 1, 1) := by decide +kernel
theorem dX1_paramsOf_5 : decode cX1_paramsOf 5 = .ok (.aload_n 0, 1) := by decide +kernel
theorem dX1_paramsOf_6 : decode cX1_paramsOf 6 = .ok (.getfield 12, 3) := by decide +kernel
theorem dX1_paramsOf_9 : decode cX1_paramsOf 9 = .ok (.getfield 44, 3) := by decide +kernel
theorem dX1_paramsOf_12 : decode cX1_paramsOf 12 = .ok (.if_icmp .ge 15, 3) := by decide +kernel
theorem dX1_paramsOf_15 : decode cX1_paramsOf 15 = .ok (.aload_n 0, 1) := by decide +kernel
theorem dX1_paramsOf_16 : decode cX1_paramsOf 16 = .ok (.getfield 12, 3) := by decide +kernel
theorem dX1_paramsOf_19 : decode cX1_paramsOf 19 = .ok (.getfield 65, 3) := by decide +kernel
theorem dX1_paramsOf_22 : decode cX1_paramsOf 22 = .ok (.iload_n 1, 1) := by decide +kernel
theorem dX1_paramsOf_23 : decode cX1_paramsOf 23 = .ok (.iaload, 1) := by decide +kernel
theorem dX1_paramsOf_24 : decode cX1_paramsOf 24 = .ok (.goto 4, 3) := by decide +kernel
theorem dX1_paramsOf_27 : decode cX1_paramsOf 27 = .ok (.iconst 0, 1) := by decide +kernel
theorem dX1_paramsOf_28 : decode cX1_paramsOf 28 = .ok (.ireturn, 1) := by decide +kernel
theorem dX1_bodyOf_0 : decode cX1_bodyOf 0 = .ok (.iload_n 1, 1) := by decide +kernel
theorem dX1_bodyOf_1 : decode cX1_bodyOf 1 = .ok (.ifCond .lt 26, 3) := by decide +kernel
theorem dX1_bodyOf_4 : decode cX1_bodyOf 4 = .ok (.iload_n 1, 1) := by decide +kernel
theorem dX1_bodyOf_5 : decode cX1_bodyOf 5 = .ok (.aload_n 0, 1) := by decide +kernel
theorem dX1_bodyOf_6 : decode cX1_bodyOf 6 = .ok (.getfield 12, 3) := by decide +kernel
theorem dX1_bodyOf_9 : decode cX1_bodyOf 9 = .ok (.getfield 44, 3) := by decide +kernel
theorem dX1_bodyOf_12 : decode cX1_bodyOf 12 = .ok (.if_icmp .ge 15, 3) := by decide +kernel
theorem dX1_bodyOf_15 : decode cX1_bodyOf 15 = .ok (.aload_n 0, 1) := by decide +kernel
theorem dX1_bodyOf_16 : decode cX1_bodyOf 16 = .ok (.getfield 12, 3) := by decide +kernel
theorem dX1_bodyOf_19 : decode cX1_bodyOf 19 = .ok (.getfield 68, 3) := by decide +kernel
theorem dX1_bodyOf_22 : decode cX1_bodyOf 22 = .ok (.iload_n 1, 1) := by decide +kernel
theorem dX1_bodyOf_23 : decode cX1_bodyOf 23 = .ok (.iaload, 1) := by decide +kernel
theorem dX1_bodyOf_24 : decode cX1_bodyOf 24 = .ok (.goto 5, 3) := by decide +kernel
theorem dX1_bodyOf_27 : decode cX1_bodyOf 27 = .ok (.bipush (-4), 2) := by decide +kernel
theorem dX1_bodyOf_29 : decode cX1_bodyOf 29 = .ok (.ireturn, 1) := by decide +kernel
theorem dX1_ownerOf_0 : decode cX1_ownerOf 0 = .ok (.iconst 0, 1) := by decide +kernel
theorem dX1_ownerOf_1 : decode cX1_ownerOf 1 = .ok (.istore_n 2, 1) := by decide +kernel
theorem dX1_ownerOf_2 : decode cX1_ownerOf 2 = .ok (.iload_n 2, 1) := by decide +kernel
theorem dX1_ownerOf_3 : decode cX1_ownerOf 3 = .ok (.aload_n 0, 1) := by decide +kernel
theorem dX1_ownerOf_4 : decode cX1_ownerOf 4 = .ok (.getfield 12, 3) := by decide +kernel
theorem dX1_ownerOf_7 : decode cX1_ownerOf 7 = .ok (.getfield 44, 3) := by decide +kernel
theorem dX1_ownerOf_10 : decode cX1_ownerOf 10 = .ok (.if_icmp .ge 24, 3) := by decide +kernel
theorem dX1_ownerOf_13 : decode cX1_ownerOf 13 = .ok (.aload_n 0, 1) := by decide +kernel
theorem dX1_ownerOf_14 : decode cX1_ownerOf 14 = .ok (.getfield 12, 3) := by decide +kernel
theorem dX1_ownerOf_17 : decode cX1_ownerOf 17 = .ok (.getfield 68, 3) := by decide +kernel
theorem dX1_ownerOf_20 : decode cX1_ownerOf 20 = .ok (.iload_n 2, 1) := by decide +kernel
theorem dX1_ownerOf_21 : decode cX1_ownerOf 21 = .ok (.iaload, 1) := by decide +kernel
theorem dX1_ownerOf_22 : decode cX1_ownerOf 22 = .ok (.iload_n 1, 1) := by decide +kernel
theorem dX1_ownerOf_23 : decode cX1_ownerOf 23 = .ok (.if_icmp .ne 5, 3) := by decide +kernel
theorem dX1_ownerOf_26 : decode cX1_ownerOf 26 = .ok (.iload_n 2, 1) := by decide +kernel
theorem dX1_ownerOf_27 : decode cX1_ownerOf 27 = .ok (.ireturn, 1) := by decide +kernel
theorem dX1_ownerOf_28 : decode cX1_ownerOf 28 = .ok (.iinc 2 1, 3) := by decide +kernel
theorem dX1_ownerOf_31 : decode cX1_ownerOf 31 = .ok (.goto (-29), 3) := by decide +kernel
theorem dX1_ownerOf_34 : decode cX1_ownerOf 34 = .ok (.bipush (-4), 2) := by decide +kernel
theorem dX1_ownerOf_36 : decode cX1_ownerOf 36 = .ok (.ireturn, 1) := by decide +kernel
theorem dX1_routineOf_0 : decode cX1_routineOf 0 = .ok (.aload_n 0, 1) := by decide +kernel
theorem dX1_routineOf_1 : decode cX1_routineOf 1 = .ok (.iload_n 1, 1) := by decide +kernel
theorem dX1_routineOf_2 : decode cX1_routineOf 2 = .ok (.invokevirtual 71, 3) := by decide +kernel
theorem dX1_routineOf_5 : decode cX1_routineOf 5 = .ok (.ifCond .ne 6, 3) := by decide +kernel
theorem dX1_routineOf_8 : decode cX1_routineOf 8 = .ok (.bipush (-4), 2) := by decide +kernel
theorem dX1_routineOf_10 : decode cX1_routineOf 10 = .ok (.ireturn, 1) := by decide +kernel
theorem dX1_routineOf_11 : decode cX1_routineOf 11 = .ok (.iload_n 1, 1) := by decide +kernel
theorem dX1_routineOf_12 : decode cX1_routineOf 12 = .ok (.istore_n 2, 1) := by decide +kernel
theorem dX1_routineOf_13 : decode cX1_routineOf 13 = .ok (.iconst 0, 1) := by decide +kernel
theorem dX1_routineOf_14 : decode cX1_routineOf 14 = .ok (.istore_n 3, 1) := by decide +kernel
theorem dX1_routineOf_15 : decode cX1_routineOf 15 = .ok (.iload_n 3, 1) := by decide +kernel
theorem dX1_routineOf_16 : decode cX1_routineOf 16 = .ok (.bipush 40, 2) := by decide +kernel
theorem dX1_routineOf_18 : decode cX1_routineOf 18 = .ok (.if_icmp .ge 25, 3) := by decide +kernel
theorem dX1_routineOf_21 : decode cX1_routineOf 21 = .ok (.aload_n 0, 1) := by decide +kernel
theorem dX1_routineOf_22 : decode cX1_routineOf 22 = .ok (.iload_n 2, 1) := by decide +kernel
theorem dX1_routineOf_23 : decode cX1_routineOf 23 = .ok (.invokevirtual 72, 3) := by decide +kernel
theorem dX1_routineOf_26 : decode cX1_routineOf 26 = .ok (.bipush (-4), 2) := by decide +kernel
theorem dX1_routineOf_28 : decode cX1_routineOf 28 = .ok (.if_icmp .eq 15, 3) := by decide +kernel
theorem dX1_routineOf_31 : decode cX1_routineOf 31 = .ok (.aload_n 0, 1) := by decide +kernel
theorem dX1_routineOf_32 : decode cX1_routineOf 32 = .ok (.iload_n 2, 1) := by decide +kernel
theorem dX1_routineOf_33 : decode cX1_routineOf 33 = .ok (.invokevirtual 72, 3) := by decide +kernel
theorem dX1_routineOf_36 : decode cX1_routineOf 36 = .ok (.istore_n 2, 1) := by decide +kernel
theorem dX1_routineOf_37 : decode cX1_routineOf 37 = .ok (.iinc 3 1, 3) := by decide +kernel
theorem dX1_routineOf_40 : decode cX1_routineOf 40 = .ok (.goto (-25), 3) := by decide +kernel
theorem dX1_routineOf_43 : decode cX1_routineOf 43 = .ok (.aload_n 0, 1) := by decide +kernel
theorem dX1_routineOf_44 : decode cX1_routineOf 44 = .ok (.iload_n 2, 1) := by decide +kernel
theorem dX1_routineOf_45 : decode cX1_routineOf 45 = .ok (.invokevirtual 40, 3) := by decide +kernel
theorem dX1_routineOf_48 : decode cX1_routineOf 48 = .ok (.ireturn, 1) := by decide +kernel
theorem dX1_stepsAbove_0 : decode cX1_stepsAbove 0 = .ok (.iconst 0, 1) := by decide +kernel
theorem dX1_stepsAbove_1 : decode cX1_stepsAbove 1 = .ok (.istore_n 2, 1) := by decide +kernel
theorem dX1_stepsAbove_2 : decode cX1_stepsAbove 2 = .ok (.aload_n 0, 1) := by decide +kernel
theorem dX1_stepsAbove_3 : decode cX1_stepsAbove 3 = .ok (.iload_n 1, 1) := by decide +kernel
theorem dX1_stepsAbove_4 : decode cX1_stepsAbove 4 = .ok (.invokevirtual 72, 3) := by decide +kernel
theorem dX1_stepsAbove_7 : decode cX1_stepsAbove 7 = .ok (.istore_n 3, 1) := by decide +kernel
theorem dX1_stepsAbove_8 : decode cX1_stepsAbove 8 = .ok (.iload_n 3, 1) := by decide +kernel
theorem dX1_stepsAbove_9 : decode cX1_stepsAbove 9 = .ok (.bipush (-4), 2) := by decide +kernel
theorem dX1_stepsAbove_11 : decode cX1_stepsAbove 11 = .ok (.if_icmp .eq 21, 3) := by decide +kernel
theorem dX1_stepsAbove_14 : decode cX1_stepsAbove 14 = .ok (.iload_n 2, 1) := by decide +kernel
theorem dX1_stepsAbove_15 : decode cX1_stepsAbove 15 = .ok (.bipush 40, 2) := by decide +kernel
theorem dX1_stepsAbove_17 : decode cX1_stepsAbove 17 = .ok (.if_icmp .ge 15, 3) := by decide +kernel
theorem dX1_stepsAbove_20 : decode cX1_stepsAbove 20 = .ok (.iinc 2 1, 3) := by decide +kernel
theorem dX1_stepsAbove_23 : decode cX1_stepsAbove 23 = .ok (.aload_n 0, 1) := by decide +kernel
theorem dX1_stepsAbove_24 : decode cX1_stepsAbove 24 = .ok (.iload_n 3, 1) := by decide +kernel
theorem dX1_stepsAbove_25 : decode cX1_stepsAbove 25 = .ok (.invokevirtual 72, 3) := by decide +kernel
theorem dX1_stepsAbove_28 : decode cX1_stepsAbove 28 = .ok (.istore_n 3, 1) := by decide +kernel
theorem dX1_stepsAbove_29 : decode cX1_stepsAbove 29 = .ok (.goto (-21), 3) := by decide +kernel
theorem dX1_stepsAbove_32 : decode cX1_stepsAbove 32 = .ok (.iload_n 2, 1) := by decide +kernel
theorem dX1_stepsAbove_33 : decode cX1_stepsAbove 33 = .ok (.ireturn, 1) := by decide +kernel
theorem dX1_sizeOf_0 : decode cX1_sizeOf 0 = .ok (.aload_n 0, 1) := by decide +kernel
theorem dX1_sizeOf_1 : decode cX1_sizeOf 1 = .ok (.getfield 21, 3) := by decide +kernel
theorem dX1_sizeOf_4 : decode cX1_sizeOf 4 = .ok (.aload_n 0, 1) := by decide +kernel
theorem dX1_sizeOf_5 : decode cX1_sizeOf 5 = .ok (.getfield 12, 3) := by decide +kernel
theorem dX1_sizeOf_8 : decode cX1_sizeOf 8 = .ok (.iload_n 1, 1) := by decide +kernel
theorem dX1_sizeOf_9 : decode cX1_sizeOf 9 = .ok (.invokevirtual 75, 3) := by decide +kernel
theorem dX1_sizeOf_12 : decode cX1_sizeOf 12 = .ok (.aload_n 0, 1) := by decide +kernel
theorem dX1_sizeOf_13 : decode cX1_sizeOf 13 = .ok (.getfield 21, 3) := by decide +kernel
theorem dX1_sizeOf_16 : decode cX1_sizeOf 16 = .ok (.getfield 79, 3) := by decide +kernel
theorem dX1_sizeOf_19 : decode cX1_sizeOf 19 = .ok (.ireturn, 1) := by decide +kernel
theorem dX1_highOf_0 : decode cX1_highOf 0 = .ok (.aload_n 0, 1) := by decide +kernel
theorem dX1_highOf_1 : decode cX1_highOf 1 = .ok (.getfield 21, 3) := by decide +kernel
theorem dX1_highOf_4 : decode cX1_highOf 4 = .ok (.aload_n 0, 1) := by decide +kernel
theorem dX1_highOf_5 : decode cX1_highOf 5 = .ok (.getfield 12, 3) := by decide +kernel
theorem dX1_highOf_8 : decode cX1_highOf 8 = .ok (.iload_n 1, 1) := by decide +kernel
theorem dX1_highOf_9 : decode cX1_highOf 9 = .ok (.invokevirtual 75, 3) := by decide +kernel
theorem dX1_highOf_12 : decode cX1_highOf 12 = .ok (.iconst 0, 1) := by decide +kernel
theorem dX1_highOf_13 : decode cX1_highOf 13 = .ok (.istore_n 2, 1) := by decide +kernel
theorem dX1_highOf_14 : decode cX1_highOf 14 = .ok (.iconst 0, 1) := by decide +kernel
theorem dX1_highOf_15 : decode cX1_highOf 15 = .ok (.istore_n 3, 1) := by decide +kernel
theorem dX1_highOf_16 : decode cX1_highOf 16 = .ok (.iload_n 3, 1) := by decide +kernel
theorem dX1_highOf_17 : decode cX1_highOf 17 = .ok (.aload_n 0, 1) := by decide +kernel
theorem dX1_highOf_18 : decode cX1_highOf 18 = .ok (.getfield 21, 3) := by decide +kernel
theorem dX1_highOf_21 : decode cX1_highOf 21 = .ok (.getfield 79, 3) := by decide +kernel
theorem dX1_highOf_24 : decode cX1_highOf 24 = .ok (.if_icmp .ge 23, 3) := by decide +kernel
theorem dX1_highOf_27 : decode cX1_highOf 27 = .ok (.iload_n 2, 1) := by decide +kernel
theorem dX1_highOf_28 : decode cX1_highOf 28 = .ok (.aload_n 0, 1) := by decide +kernel
theorem dX1_highOf_29 : decode cX1_highOf 29 = .ok (.getfield 21, 3) := by decide +kernel
theorem dX1_highOf_32 : decode cX1_highOf 32 = .ok (.getfield 82, 3) := by decide +kernel
theorem dX1_highOf_35 : decode cX1_highOf 35 = .ok (.iload_n 3, 1) := by decide +kernel
theorem dX1_highOf_36 : decode cX1_highOf 36 = .ok (.iaload, 1) := by decide +kernel
theorem dX1_highOf_37 : decode cX1_highOf 37 = .ok (.invokestatic 85, 3) := by decide +kernel
theorem dX1_highOf_40 : decode cX1_highOf 40 = .ok (.istore_n 2, 1) := by decide +kernel
theorem dX1_highOf_41 : decode cX1_highOf 41 = .ok (.iinc 3 1, 3) := by decide +kernel
theorem dX1_highOf_44 : decode cX1_highOf 44 = .ok (.goto (-28), 3) := by decide +kernel
theorem dX1_highOf_47 : decode cX1_highOf 47 = .ok (.iload_n 2, 1) := by decide +kernel
theorem dX1_highOf_48 : decode cX1_highOf 48 = .ok (.ireturn, 1) := by decide +kernel
theorem dX1_usesOf_0 : decode cX1_usesOf 0 = .ok (.aload_n 0, 1) := by decide +kernel
theorem dX1_usesOf_1 : decode cX1_usesOf 1 = .ok (.getfield 21, 3) := by decide +kernel
theorem dX1_usesOf_4 : decode cX1_usesOf 4 = .ok (.aload_n 0, 1) := by decide +kernel
theorem dX1_usesOf_5 : decode cX1_usesOf 5 = .ok (.getfield 12, 3) := by decide +kernel
theorem dX1_usesOf_8 : decode cX1_usesOf 8 = .ok (.aload_n 0, 1) := by decide +kernel
theorem dX1_usesOf_9 : decode cX1_usesOf 9 = .ok (.iload_n 1, 1) := by decide +kernel
theorem dX1_usesOf_10 : decode cX1_usesOf 10 = .ok (.invokevirtual 47, 3) := by decide +kernel
theorem dX1_usesOf_13 : decode cX1_usesOf 13 = .ok (.invokevirtual 75, 3) := by decide +kernel
theorem dX1_usesOf_16 : decode cX1_usesOf 16 = .ok (.aload_n 0, 1) := by decide +kernel
theorem dX1_usesOf_17 : decode cX1_usesOf 17 = .ok (.iload_n 1, 1) := by decide +kernel
theorem dX1_usesOf_18 : decode cX1_usesOf 18 = .ok (.invokevirtual 91, 3) := by decide +kernel
theorem dX1_usesOf_21 : decode cX1_usesOf 21 = .ok (.istore_n 2, 1) := by decide +kernel
theorem dX1_usesOf_22 : decode cX1_usesOf 22 = .ok (.iconst 0, 1) := by decide +kernel
theorem dX1_usesOf_23 : decode cX1_usesOf 23 = .ok (.istore_n 3, 1) := by decide +kernel
theorem dX1_usesOf_24 : decode cX1_usesOf 24 = .ok (.iload_n 3, 1) := by decide +kernel
theorem dX1_usesOf_25 : decode cX1_usesOf 25 = .ok (.aload_n 0, 1) := by decide +kernel
theorem dX1_usesOf_26 : decode cX1_usesOf 26 = .ok (.getfield 21, 3) := by decide +kernel
theorem dX1_usesOf_29 : decode cX1_usesOf 29 = .ok (.getfield 79, 3) := by decide +kernel
theorem dX1_usesOf_32 : decode cX1_usesOf 32 = .ok (.if_icmp .ge 56, 3) := by decide +kernel
theorem dX1_usesOf_35 : decode cX1_usesOf 35 = .ok (.aload_n 0, 1) := by decide +kernel
theorem dX1_usesOf_36 : decode cX1_usesOf 36 = .ok (.aload_n 0, 1) := by decide +kernel
theorem dX1_usesOf_37 : decode cX1_usesOf 37 = .ok (.getfield 21, 3) := by decide +kernel
theorem dX1_usesOf_40 : decode cX1_usesOf 40 = .ok (.getfield 94, 3) := by decide +kernel
theorem dX1_usesOf_43 : decode cX1_usesOf 43 = .ok (.iload_n 3, 1) := by decide +kernel
theorem dX1_usesOf_44 : decode cX1_usesOf 44 = .ok (.iaload, 1) := by decide +kernel
theorem dX1_usesOf_45 : decode cX1_usesOf 45 = .ok (.invokevirtual 50, 3) := by decide +kernel
theorem dX1_usesOf_48 : decode cX1_usesOf 48 = .ok (.istore 4, 2) := by decide +kernel
theorem dX1_usesOf_50 : decode cX1_usesOf 50 = .ok (.iload 4, 2) := by decide +kernel
theorem dX1_usesOf_52 : decode cX1_usesOf 52 = .ok (.iconst 1, 1) := by decide +kernel
theorem dX1_usesOf_53 : decode cX1_usesOf 53 = .ok (.if_icmp .eq 9, 3) := by decide +kernel
theorem dX1_usesOf_56 : decode cX1_usesOf 56 = .ok (.iload 4, 2) := by decide +kernel
theorem dX1_usesOf_58 : decode cX1_usesOf 58 = .ok (.iconst 4, 1) := by decide +kernel
theorem dX1_usesOf_59 : decode cX1_usesOf 59 = .ok (.if_icmp .ne 23, 3) := by decide +kernel
theorem dX1_usesOf_62 : decode cX1_usesOf 62 = .ok (.iload_n 2, 1) := by decide +kernel
theorem dX1_usesOf_63 : decode cX1_usesOf 63 = .ok (.aload_n 0, 1) := by decide +kernel
theorem dX1_usesOf_64 : decode cX1_usesOf 64 = .ok (.aload_n 0, 1) := by decide +kernel
theorem dX1_usesOf_65 : decode cX1_usesOf 65 = .ok (.getfield 21, 3) := by decide +kernel
theorem dX1_usesOf_68 : decode cX1_usesOf 68 = .ok (.getfield 94, 3) := by decide +kernel
theorem dX1_usesOf_71 : decode cX1_usesOf 71 = .ok (.iload_n 3, 1) := by decide +kernel
theorem dX1_usesOf_72 : decode cX1_usesOf 72 = .ok (.iaload, 1) := by decide +kernel
theorem dX1_usesOf_73 : decode cX1_usesOf 73 = .ok (.invokevirtual 97, 3) := by decide +kernel
theorem dX1_usesOf_76 : decode cX1_usesOf 76 = .ok (.iconst 1, 1) := by decide +kernel
theorem dX1_usesOf_77 : decode cX1_usesOf 77 = .ok (.iadd, 1) := by decide +kernel
theorem dX1_usesOf_78 : decode cX1_usesOf 78 = .ok (.invokestatic 85, 3) := by decide +kernel
theorem dX1_usesOf_81 : decode cX1_usesOf 81 = .ok (.istore_n 2, 1) := by decide +kernel
theorem dX1_usesOf_82 : decode cX1_usesOf 82 = .ok (.iinc 3 1, 3) := by decide +kernel
theorem dX1_usesOf_85 : decode cX1_usesOf 85 = .ok (.goto (-61), 3) := by decide +kernel
theorem dX1_usesOf_88 : decode cX1_usesOf 88 = .ok (.iload_n 2, 1) := by decide +kernel
theorem dX1_usesOf_89 : decode cX1_usesOf 89 = .ok (.ireturn, 1) := by decide +kernel
theorem dX1_callsIn_0 : decode cX1_callsIn 0 = .ok (.aload_n 0, 1) := by decide +kernel
theorem dX1_callsIn_1 : decode cX1_callsIn 1 = .ok (.getfield 21, 3) := by decide +kernel
theorem dX1_callsIn_4 : decode cX1_callsIn 4 = .ok (.aload_n 0, 1) := by decide +kernel
theorem dX1_callsIn_5 : decode cX1_callsIn 5 = .ok (.getfield 12, 3) := by decide +kernel
theorem dX1_callsIn_8 : decode cX1_callsIn 8 = .ok (.aload_n 0, 1) := by decide +kernel
theorem dX1_callsIn_9 : decode cX1_callsIn 9 = .ok (.iload_n 1, 1) := by decide +kernel
theorem dX1_callsIn_10 : decode cX1_callsIn 10 = .ok (.invokevirtual 47, 3) := by decide +kernel
theorem dX1_callsIn_13 : decode cX1_callsIn 13 = .ok (.invokevirtual 75, 3) := by decide +kernel
theorem dX1_callsIn_16 : decode cX1_callsIn 16 = .ok (.iconst 0, 1) := by decide +kernel
theorem dX1_callsIn_17 : decode cX1_callsIn 17 = .ok (.istore_n 2, 1) := by decide +kernel
theorem dX1_callsIn_18 : decode cX1_callsIn 18 = .ok (.iconst 0, 1) := by decide +kernel
theorem dX1_callsIn_19 : decode cX1_callsIn 19 = .ok (.istore_n 3, 1) := by decide +kernel
theorem dX1_callsIn_20 : decode cX1_callsIn 20 = .ok (.iload_n 3, 1) := by decide +kernel
theorem dX1_callsIn_21 : decode cX1_callsIn 21 = .ok (.aload_n 0, 1) := by decide +kernel
theorem dX1_callsIn_22 : decode cX1_callsIn 22 = .ok (.getfield 21, 3) := by decide +kernel
theorem dX1_callsIn_25 : decode cX1_callsIn 25 = .ok (.getfield 79, 3) := by decide +kernel
theorem dX1_callsIn_28 : decode cX1_callsIn 28 = .ok (.if_icmp .ge 35, 3) := by decide +kernel
theorem dX1_callsIn_31 : decode cX1_callsIn 31 = .ok (.iload_n 2, 1) := by decide +kernel
theorem dX1_callsIn_32 : decode cX1_callsIn 32 = .ok (.aload_n 0, 1) := by decide +kernel
theorem dX1_callsIn_33 : decode cX1_callsIn 33 = .ok (.aload_n 0, 1) := by decide +kernel
theorem dX1_callsIn_34 : decode cX1_callsIn 34 = .ok (.getfield 21, 3) := by decide +kernel
theorem dX1_callsIn_37 : decode cX1_callsIn 37 = .ok (.getfield 94, 3) := by decide +kernel
theorem dX1_callsIn_40 : decode cX1_callsIn 40 = .ok (.iload_n 3, 1) := by decide +kernel
theorem dX1_callsIn_41 : decode cX1_callsIn 41 = .ok (.iaload, 1) := by decide +kernel
theorem dX1_callsIn_42 : decode cX1_callsIn 42 = .ok (.invokevirtual 50, 3) := by decide +kernel
theorem dX1_callsIn_45 : decode cX1_callsIn 45 = .ok (.bipush 6, 2) := by decide +kernel
theorem dX1_callsIn_47 : decode cX1_callsIn 47 = .ok (.if_icmp .ne 7, 3) := by decide +kernel
theorem dX1_callsIn_50 : decode cX1_callsIn 50 = .ok (.iconst 1, 1) := by decide +kernel
theorem dX1_callsIn_51 : decode cX1_callsIn 51 = .ok (.goto 4, 3) := by decide +kernel
theorem dX1_callsIn_54 : decode cX1_callsIn 54 = .ok (.iconst 0, 1) := by decide +kernel
theorem dX1_callsIn_55 : decode cX1_callsIn 55 = .ok (.iadd, 1) := by decide +kernel
theorem dX1_callsIn_56 : decode cX1_callsIn 56 = .ok (.istore_n 2, 1) := by decide +kernel
theorem dX1_callsIn_57 : decode cX1_callsIn 57 = .ok (.iinc 3 1, 3) := by decide +kernel
theorem dX1_callsIn_60 : decode cX1_callsIn 60 = .ok (.goto (-40), 3) := by decide +kernel
theorem dX1_callsIn_63 : decode cX1_callsIn 63 = .ok (.iload_n 2, 1) := by decide +kernel
theorem dX1_callsIn_64 : decode cX1_callsIn 64 = .ok (.ireturn, 1) := by decide +kernel
theorem dX1_callsOf_0 : decode cX1_callsOf 0 = .ok (.iconst 0, 1) := by decide +kernel
theorem dX1_callsOf_1 : decode cX1_callsOf 1 = .ok (.istore_n 2, 1) := by decide +kernel
theorem dX1_callsOf_2 : decode cX1_callsOf 2 = .ok (.iconst 0, 1) := by decide +kernel
theorem dX1_callsOf_3 : decode cX1_callsOf 3 = .ok (.istore_n 3, 1) := by decide +kernel
theorem dX1_callsOf_4 : decode cX1_callsOf 4 = .ok (.iload_n 3, 1) := by decide +kernel
theorem dX1_callsOf_5 : decode cX1_callsOf 5 = .ok (.aload_n 0, 1) := by decide +kernel
theorem dX1_callsOf_6 : decode cX1_callsOf 6 = .ok (.getfield 12, 3) := by decide +kernel
theorem dX1_callsOf_9 : decode cX1_callsOf 9 = .ok (.getfield 28, 3) := by decide +kernel
theorem dX1_callsOf_12 : decode cX1_callsOf 12 = .ok (.if_icmp .ge 34, 3) := by decide +kernel
theorem dX1_callsOf_15 : decode cX1_callsOf 15 = .ok (.iload_n 2, 1) := by decide +kernel
theorem dX1_callsOf_16 : decode cX1_callsOf 16 = .ok (.aload_n 0, 1) := by decide +kernel
theorem dX1_callsOf_17 : decode cX1_callsOf 17 = .ok (.iload_n 3, 1) := by decide +kernel
theorem dX1_callsOf_18 : decode cX1_callsOf 18 = .ok (.invokevirtual 97, 3) := by decide +kernel
theorem dX1_callsOf_21 : decode cX1_callsOf 21 = .ok (.iload_n 1, 1) := by decide +kernel
theorem dX1_callsOf_22 : decode cX1_callsOf 22 = .ok (.if_icmp .ne 15, 3) := by decide +kernel
theorem dX1_callsOf_25 : decode cX1_callsOf 25 = .ok (.aload_n 0, 1) := by decide +kernel
theorem dX1_callsOf_26 : decode cX1_callsOf 26 = .ok (.iload_n 3, 1) := by decide +kernel
theorem dX1_callsOf_27 : decode cX1_callsOf 27 = .ok (.invokevirtual 100, 3) := by decide +kernel
theorem dX1_callsOf_30 : decode cX1_callsOf 30 = .ok (.ifCond .eq 7, 3) := by decide +kernel
theorem dX1_callsOf_33 : decode cX1_callsOf 33 = .ok (.iconst 1, 1) := by decide +kernel
theorem dX1_callsOf_34 : decode cX1_callsOf 34 = .ok (.goto 4, 3) := by decide +kernel
theorem dX1_callsOf_37 : decode cX1_callsOf 37 = .ok (.iconst 0, 1) := by decide +kernel
theorem dX1_callsOf_38 : decode cX1_callsOf 38 = .ok (.iadd, 1) := by decide +kernel
theorem dX1_callsOf_39 : decode cX1_callsOf 39 = .ok (.istore_n 2, 1) := by decide +kernel
theorem dX1_callsOf_40 : decode cX1_callsOf 40 = .ok (.iinc 3 1, 3) := by decide +kernel
theorem dX1_callsOf_43 : decode cX1_callsOf 43 = .ok (.goto (-39), 3) := by decide +kernel
theorem dX1_callsOf_46 : decode cX1_callsOf 46 = .ok (.iload_n 2, 1) := by decide +kernel
theorem dX1_callsOf_47 : decode cX1_callsOf 47 = .ok (.ireturn, 1) := by decide +kernel
theorem dX1_areAlike_0 : decode cX1_areAlike 0 = .ok (.aload_n 0, 1) := by decide +kernel
theorem dX1_areAlike_1 : decode cX1_areAlike 1 = .ok (.getfield 21, 3) := by decide +kernel
theorem dX1_areAlike_4 : decode cX1_areAlike 4 = .ok (.aload_n 0, 1) := by decide +kernel
theorem dX1_areAlike_5 : decode cX1_areAlike 5 = .ok (.getfield 12, 3) := by decide +kernel
theorem dX1_areAlike_8 : decode cX1_areAlike 8 = .ok (.iload_n 1, 1) := by decide +kernel
theorem dX1_areAlike_9 : decode cX1_areAlike 9 = .ok (.invokevirtual 75, 3) := by decide +kernel
theorem dX1_areAlike_12 : decode cX1_areAlike 12 = .ok (.aload_n 0, 1) := by decide +kernel
theorem dX1_areAlike_13 : decode cX1_areAlike 13 = .ok (.getfield 25, 3) := by decide +kernel
theorem dX1_areAlike_16 : decode cX1_areAlike 16 = .ok (.aload_n 0, 1) := by decide +kernel
theorem dX1_areAlike_17 : decode cX1_areAlike 17 = .ok (.getfield 12, 3) := by decide +kernel
theorem dX1_areAlike_20 : decode cX1_areAlike 20 = .ok (.iload_n 2, 1) := by decide +kernel
theorem dX1_areAlike_21 : decode cX1_areAlike 21 = .ok (.invokevirtual 75, 3) := by decide +kernel
theorem dX1_areAlike_24 : decode cX1_areAlike 24 = .ok (.aload_n 0, 1) := by decide +kernel
theorem dX1_areAlike_25 : decode cX1_areAlike 25 = .ok (.getfield 21, 3) := by decide +kernel
theorem dX1_areAlike_28 : decode cX1_areAlike 28 = .ok (.getfield 79, 3) := by decide +kernel
theorem dX1_areAlike_31 : decode cX1_areAlike 31 = .ok (.aload_n 0, 1) := by decide +kernel
theorem dX1_areAlike_32 : decode cX1_areAlike 32 = .ok (.getfield 25, 3) := by decide +kernel
theorem dX1_areAlike_35 : decode cX1_areAlike 35 = .ok (.getfield 79, 3) := by decide +kernel
theorem dX1_areAlike_38 : decode cX1_areAlike 38 = .ok (.if_icmp .eq 5, 3) := by decide +kernel
theorem dX1_areAlike_41 : decode cX1_areAlike 41 = .ok (.iconst 0, 1) := by decide +kernel
theorem dX1_areAlike_42 : decode cX1_areAlike 42 = .ok (.ireturn, 1) := by decide +kernel
theorem dX1_areAlike_43 : decode cX1_areAlike 43 = .ok (.iconst 0, 1) := by decide +kernel
theorem dX1_areAlike_44 : decode cX1_areAlike 44 = .ok (.istore_n 3, 1) := by decide +kernel
theorem dX1_areAlike_45 : decode cX1_areAlike 45 = .ok (.iload_n 3, 1) := by decide +kernel
theorem dX1_areAlike_46 : decode cX1_areAlike 46 = .ok (.aload_n 0, 1) := by decide +kernel
theorem dX1_areAlike_47 : decode cX1_areAlike 47 = .ok (.getfield 21, 3) := by decide +kernel
theorem dX1_areAlike_50 : decode cX1_areAlike 50 = .ok (.getfield 79, 3) := by decide +kernel
theorem dX1_areAlike_53 : decode cX1_areAlike 53 = .ok (.if_icmp .ge 84, 3) := by decide +kernel
theorem dX1_areAlike_56 : decode cX1_areAlike 56 = .ok (.aload_n 0, 1) := by decide +kernel
theorem dX1_areAlike_57 : decode cX1_areAlike 57 = .ok (.getfield 21, 3) := by decide +kernel
theorem dX1_areAlike_60 : decode cX1_areAlike 60 = .ok (.getfield 94, 3) := by decide +kernel
theorem dX1_areAlike_63 : decode cX1_areAlike 63 = .ok (.iload_n 3, 1) := by decide +kernel
theorem dX1_areAlike_64 : decode cX1_areAlike 64 = .ok (.iaload, 1) := by decide +kernel
theorem dX1_areAlike_65 : decode cX1_areAlike 65 = .ok (.istore 4, 2) := by decide +kernel
theorem dX1_areAlike_67 : decode cX1_areAlike 67 = .ok (.aload_n 0, 1) := by decide +kernel
theorem dX1_areAlike_68 : decode cX1_areAlike 68 = .ok (.getfield 25, 3) := by decide +kernel
theorem dX1_areAlike_71 : decode cX1_areAlike 71 = .ok (.getfield 94, 3) := by decide +kernel
theorem dX1_areAlike_74 : decode cX1_areAlike 74 = .ok (.iload_n 3, 1) := by decide +kernel
theorem dX1_areAlike_75 : decode cX1_areAlike 75 = .ok (.iaload, 1) := by decide +kernel
theorem dX1_areAlike_76 : decode cX1_areAlike 76 = .ok (.istore 5, 2) := by decide +kernel
theorem dX1_areAlike_78 : decode cX1_areAlike 78 = .ok (.aload_n 0, 1) := by decide +kernel
theorem dX1_areAlike_79 : decode cX1_areAlike 79 = .ok (.getfield 21, 3) := by decide +kernel
theorem dX1_areAlike_82 : decode cX1_areAlike 82 = .ok (.getfield 82, 3) := by decide +kernel
theorem dX1_areAlike_85 : decode cX1_areAlike 85 = .ok (.iload_n 3, 1) := by decide +kernel
theorem dX1_areAlike_86 : decode cX1_areAlike 86 = .ok (.iaload, 1) := by decide +kernel
theorem dX1_areAlike_87 : decode cX1_areAlike 87 = .ok (.aload_n 0, 1) := by decide +kernel
theorem dX1_areAlike_88 : decode cX1_areAlike 88 = .ok (.getfield 25, 3) := by decide +kernel
theorem dX1_areAlike_91 : decode cX1_areAlike 91 = .ok (.getfield 82, 3) := by decide +kernel
theorem dX1_areAlike_94 : decode cX1_areAlike 94 = .ok (.iload_n 3, 1) := by decide +kernel
theorem dX1_areAlike_95 : decode cX1_areAlike 95 = .ok (.iaload, 1) := by decide +kernel
theorem dX1_areAlike_96 : decode cX1_areAlike 96 = .ok (.if_icmp .ne 33, 3) := by decide +kernel
theorem dX1_areAlike_99 : decode cX1_areAlike 99 = .ok (.aload_n 0, 1) := by decide +kernel
theorem dX1_areAlike_100 : decode cX1_areAlike 100 = .ok (.iload 4, 2) := by decide +kernel
theorem dX1_areAlike_102 : decode cX1_areAlike 102 = .ok (.invokevirtual 50, 3) := by decide +kernel
theorem dX1_areAlike_105 : decode cX1_areAlike 105 = .ok (.aload_n 0, 1) := by decide +kernel
theorem dX1_areAlike_106 : decode cX1_areAlike 106 = .ok (.iload 5, 2) := by decide +kernel
theorem dX1_areAlike_108 : decode cX1_areAlike 108 = .ok (.invokevirtual 50, 3) := by decide +kernel
theorem dX1_areAlike_111 : decode cX1_areAlike 111 = .ok (.if_icmp .ne 18, 3) := by decide +kernel
theorem dX1_areAlike_114 : decode cX1_areAlike 114 = .ok (.aload_n 0, 1) := by decide +kernel
theorem dX1_areAlike_115 : decode cX1_areAlike 115 = .ok (.iload 4, 2) := by decide +kernel
theorem dX1_areAlike_117 : decode cX1_areAlike 117 = .ok (.invokevirtual 97, 3) := by decide +kernel
theorem dX1_areAlike_120 : decode cX1_areAlike 120 = .ok (.aload_n 0, 1) := by decide +kernel
theorem dX1_areAlike_121 : decode cX1_areAlike 121 = .ok (.iload 5, 2) := by decide +kernel
theorem dX1_areAlike_123 : decode cX1_areAlike 123 = .ok (.invokevirtual 97, 3) := by decide +kernel
theorem dX1_areAlike_126 : decode cX1_areAlike 126 = .ok (.if_icmp .eq 5, 3) := by decide +kernel
theorem dX1_areAlike_129 : decode cX1_areAlike 129 = .ok (.iconst 0, 1) := by decide +kernel
theorem dX1_areAlike_130 : decode cX1_areAlike 130 = .ok (.ireturn, 1) := by decide +kernel
theorem dX1_areAlike_131 : decode cX1_areAlike 131 = .ok (.iinc 3 1, 3) := by decide +kernel
theorem dX1_areAlike_134 : decode cX1_areAlike 134 = .ok (.goto (-89), 3) := by decide +kernel
theorem dX1_areAlike_137 : decode cX1_areAlike 137 = .ok (.iconst 1, 1) := by decide +kernel
theorem dX1_areAlike_138 : decode cX1_areAlike 138 = .ok (.ireturn, 1) := by decide +kernel
theorem dX1_goneSteps_0 : decode cX1_goneSteps 0 = .ok (.iconst 0, 1) := by decide +kernel
theorem dX1_goneSteps_1 : decode cX1_goneSteps 1 = .ok (.istore_n 1, 1) := by decide +kernel
theorem dX1_goneSteps_2 : decode cX1_goneSteps 2 = .ok (.iconst 0, 1) := by decide +kernel
theorem dX1_goneSteps_3 : decode cX1_goneSteps 3 = .ok (.istore_n 2, 1) := by decide +kernel
theorem dX1_goneSteps_4 : decode cX1_goneSteps 4 = .ok (.iload_n 2, 1) := by decide +kernel
theorem dX1_goneSteps_5 : decode cX1_goneSteps 5 = .ok (.aload_n 0, 1) := by decide +kernel
theorem dX1_goneSteps_6 : decode cX1_goneSteps 6 = .ok (.getfield 12, 3) := by decide +kernel
theorem dX1_goneSteps_9 : decode cX1_goneSteps 9 = .ok (.getfield 28, 3) := by decide +kernel
theorem dX1_goneSteps_12 : decode cX1_goneSteps 12 = .ok (.if_icmp .ge 25, 3) := by decide +kernel
theorem dX1_goneSteps_15 : decode cX1_goneSteps 15 = .ok (.iload_n 1, 1) := by decide +kernel
theorem dX1_goneSteps_16 : decode cX1_goneSteps 16 = .ok (.aload_n 0, 1) := by decide +kernel
theorem dX1_goneSteps_17 : decode cX1_goneSteps 17 = .ok (.iload_n 2, 1) := by decide +kernel
theorem dX1_goneSteps_18 : decode cX1_goneSteps 18 = .ok (.invokevirtual 71, 3) := by decide +kernel
theorem dX1_goneSteps_21 : decode cX1_goneSteps 21 = .ok (.ifCond .eq 7, 3) := by decide +kernel
theorem dX1_goneSteps_24 : decode cX1_goneSteps 24 = .ok (.iconst 0, 1) := by decide +kernel
theorem dX1_goneSteps_25 : decode cX1_goneSteps 25 = .ok (.goto 4, 3) := by decide +kernel
theorem dX1_goneSteps_28 : decode cX1_goneSteps 28 = .ok (.iconst 1, 1) := by decide +kernel
theorem dX1_goneSteps_29 : decode cX1_goneSteps 29 = .ok (.iadd, 1) := by decide +kernel
theorem dX1_goneSteps_30 : decode cX1_goneSteps 30 = .ok (.istore_n 1, 1) := by decide +kernel
theorem dX1_goneSteps_31 : decode cX1_goneSteps 31 = .ok (.iinc 2 1, 3) := by decide +kernel
theorem dX1_goneSteps_34 : decode cX1_goneSteps 34 = .ok (.goto (-30), 3) := by decide +kernel
theorem dX1_goneSteps_37 : decode cX1_goneSteps 37 = .ok (.iload_n 1, 1) := by decide +kernel
theorem dX1_goneSteps_38 : decode cX1_goneSteps 38 = .ok (.ireturn, 1) := by decide +kernel
theorem dX1_looseSteps_0 : decode cX1_looseSteps 0 = .ok (.iconst 0, 1) := by decide +kernel
theorem dX1_looseSteps_1 : decode cX1_looseSteps 1 = .ok (.istore_n 1, 1) := by decide +kernel
theorem dX1_looseSteps_2 : decode cX1_looseSteps 2 = .ok (.iconst 0, 1) := by decide +kernel
theorem dX1_looseSteps_3 : decode cX1_looseSteps 3 = .ok (.istore_n 2, 1) := by decide +kernel
theorem dX1_looseSteps_4 : decode cX1_looseSteps 4 = .ok (.iload_n 2, 1) := by decide +kernel
theorem dX1_looseSteps_5 : decode cX1_looseSteps 5 = .ok (.aload_n 0, 1) := by decide +kernel
theorem dX1_looseSteps_6 : decode cX1_looseSteps 6 = .ok (.getfield 12, 3) := by decide +kernel
theorem dX1_looseSteps_9 : decode cX1_looseSteps 9 = .ok (.getfield 28, 3) := by decide +kernel
theorem dX1_looseSteps_12 : decode cX1_looseSteps 12 = .ok (.if_icmp .ge 25, 3) := by decide +kernel
theorem dX1_looseSteps_15 : decode cX1_looseSteps 15 = .ok (.iload_n 1, 1) := by decide +kernel
theorem dX1_looseSteps_16 : decode cX1_looseSteps 16 = .ok (.aload_n 0, 1) := by decide +kernel
theorem dX1_looseSteps_17 : decode cX1_looseSteps 17 = .ok (.iload_n 2, 1) := by decide +kernel
theorem dX1_looseSteps_18 : decode cX1_looseSteps 18 = .ok (.invokevirtual 103, 3) := by decide +kernel
theorem dX1_looseSteps_21 : decode cX1_looseSteps 21 = .ok (.ifCond .eq 7, 3) := by decide +kernel
theorem dX1_looseSteps_24 : decode cX1_looseSteps 24 = .ok (.iconst 1, 1) := by decide +kernel
theorem dX1_looseSteps_25 : decode cX1_looseSteps 25 = .ok (.goto 4, 3) := by decide +kernel
theorem dX1_looseSteps_28 : decode cX1_looseSteps 28 = .ok (.iconst 0, 1) := by decide +kernel
theorem dX1_looseSteps_29 : decode cX1_looseSteps 29 = .ok (.iadd, 1) := by decide +kernel
theorem dX1_looseSteps_30 : decode cX1_looseSteps 30 = .ok (.istore_n 1, 1) := by decide +kernel
theorem dX1_looseSteps_31 : decode cX1_looseSteps 31 = .ok (.iinc 2 1, 3) := by decide +kernel
theorem dX1_looseSteps_34 : decode cX1_looseSteps 34 = .ok (.goto (-30), 3) := by decide +kernel
theorem dX1_looseSteps_37 : decode cX1_looseSteps 37 = .ok (.iload_n 1, 1) := by decide +kernel
theorem dX1_looseSteps_38 : decode cX1_looseSteps 38 = .ok (.ireturn, 1) := by decide +kernel
theorem dX1_missingRoutines_0 : decode cX1_missingRoutines 0 = .ok (.iconst 0, 1) := by decide +kernel
theorem dX1_missingRoutines_1 : decode cX1_missingRoutines 1 = .ok (.istore_n 1, 1) := by decide +kernel
theorem dX1_missingRoutines_2 : decode cX1_missingRoutines 2 = .ok (.iconst 0, 1) := by decide +kernel
theorem dX1_missingRoutines_3 : decode cX1_missingRoutines 3 = .ok (.istore_n 2, 1) := by decide +kernel
theorem dX1_missingRoutines_4 : decode cX1_missingRoutines 4 = .ok (.iload_n 2, 1) := by decide +kernel
theorem dX1_missingRoutines_5 : decode cX1_missingRoutines 5 = .ok (.aload_n 0, 1) := by decide +kernel
theorem dX1_missingRoutines_6 : decode cX1_missingRoutines 6 = .ok (.getfield 12, 3) := by decide +kernel
theorem dX1_missingRoutines_9 : decode cX1_missingRoutines 9 = .ok (.getfield 44, 3) := by decide +kernel
theorem dX1_missingRoutines_12 : decode cX1_missingRoutines 12 = .ok (.if_icmp .ge 25, 3) := by decide +kernel
theorem dX1_missingRoutines_15 : decode cX1_missingRoutines 15 = .ok (.iload_n 1, 1) := by decide +kernel
theorem dX1_missingRoutines_16 : decode cX1_missingRoutines 16 = .ok (.aload_n 0, 1) := by decide +kernel
theorem dX1_missingRoutines_17 : decode cX1_missingRoutines 17 = .ok (.iload_n 2, 1) := by decide +kernel
theorem dX1_missingRoutines_18 : decode cX1_missingRoutines 18 = .ok (.invokevirtual 106, 3) := by decide +kernel
theorem dX1_missingRoutines_21 : decode cX1_missingRoutines 21 = .ok (.ifCond .eq 7, 3) := by decide +kernel
theorem dX1_missingRoutines_24 : decode cX1_missingRoutines 24 = .ok (.iconst 1, 1) := by decide +kernel
theorem dX1_missingRoutines_25 : decode cX1_missingRoutines 25 = .ok (.goto 4, 3) := by decide +kernel
theorem dX1_missingRoutines_28 : decode cX1_missingRoutines 28 = .ok (.iconst 0, 1) := by decide +kernel
theorem dX1_missingRoutines_29 : decode cX1_missingRoutines 29 = .ok (.iadd, 1) := by decide +kernel
theorem dX1_missingRoutines_30 : decode cX1_missingRoutines 30 = .ok (.istore_n 1, 1) := by decide +kernel
theorem dX1_missingRoutines_31 : decode cX1_missingRoutines 31 = .ok (.iinc 2 1, 3) := by decide +kernel
theorem dX1_missingRoutines_34 : decode cX1_missingRoutines 34 = .ok (.goto (-30), 3) := by decide +kernel
theorem dX1_missingRoutines_37 : decode cX1_missingRoutines 37 = .ok (.iload_n 1, 1) := by decide +kernel
theorem dX1_missingRoutines_38 : decode cX1_missingRoutines 38 = .ok (.ireturn, 1) := by decide +kernel
theorem dX1_addRoutine_0 : decode cX1_addRoutine 0 = .ok (.aload_n 0, 1) := by decide +kernel
theorem dX1_addRoutine_1 : decode cX1_addRoutine 1 = .ok (.getfield 12, 3) := by decide +kernel
theorem dX1_addRoutine_4 : decode cX1_addRoutine 4 = .ok (.getfield 44, 3) := by decide +kernel
theorem dX1_addRoutine_7 : decode cX1_addRoutine 7 = .ok (.istore_n 2, 1) := by decide +kernel
theorem dX1_addRoutine_8 : decode cX1_addRoutine 8 = .ok (.iload_n 2, 1) := by decide +kernel
theorem dX1_addRoutine_9 : decode cX1_addRoutine 9 = .ok (.bipush 10, 2) := by decide +kernel
theorem dX1_addRoutine_11 : decode cX1_addRoutine 11 = .ok (.if_icmp .lt 6, 3) := by decide +kernel
theorem dX1_addRoutine_14 : decode cX1_addRoutine 14 = .ok (.bipush (-4), 2) := by decide +kernel
theorem dX1_addRoutine_16 : decode cX1_addRoutine 16 = .ok (.ireturn, 1) := by decide +kernel
theorem dX1_addRoutine_17 : decode cX1_addRoutine 17 = .ok (.aload_n 0, 1) := by decide +kernel
theorem dX1_addRoutine_18 : decode cX1_addRoutine 18 = .ok (.getfield 12, 3) := by decide +kernel
theorem dX1_addRoutine_21 : decode cX1_addRoutine 21 = .ok (.getfield 65, 3) := by decide +kernel
theorem dX1_addRoutine_24 : decode cX1_addRoutine 24 = .ok (.iload_n 2, 1) := by decide +kernel
theorem dX1_addRoutine_25 : decode cX1_addRoutine 25 = .ok (.iload_n 1, 1) := by decide +kernel
theorem dX1_addRoutine_26 : decode cX1_addRoutine 26 = .ok (.iastore, 1) := by decide +kernel
theorem dX1_addRoutine_27 : decode cX1_addRoutine 27 = .ok (.aload_n 0, 1) := by decide +kernel
theorem dX1_addRoutine_28 : decode cX1_addRoutine 28 = .ok (.getfield 12, 3) := by decide +kernel
theorem dX1_addRoutine_31 : decode cX1_addRoutine 31 = .ok (.getfield 68, 3) := by decide +kernel
theorem dX1_addRoutine_34 : decode cX1_addRoutine 34 = .ok (.iload_n 2, 1) := by decide +kernel
theorem dX1_addRoutine_35 : decode cX1_addRoutine 35 = .ok (.bipush (-4), 2) := by decide +kernel
theorem dX1_addRoutine_37 : decode cX1_addRoutine 37 = .ok (.iastore, 1) := by decide +kernel
theorem dX1_addRoutine_38 : decode cX1_addRoutine 38 = .ok (.aload_n 0, 1) := by decide +kernel
theorem dX1_addRoutine_39 : decode cX1_addRoutine 39 = .ok (.getfield 12, 3) := by decide +kernel
theorem dX1_addRoutine_42 : decode cX1_addRoutine 42 = .ok (.iload_n 2, 1) := by decide +kernel
theorem dX1_addRoutine_43 : decode cX1_addRoutine 43 = .ok (.iconst 1, 1) := by decide +kernel
theorem dX1_addRoutine_44 : decode cX1_addRoutine 44 = .ok (.iadd, 1) := by decide +kernel
theorem dX1_addRoutine_45 : decode cX1_addRoutine 45 = .ok (.putfield 44, 3) := by decide +kernel
theorem dX1_addRoutine_48 : decode cX1_addRoutine 48 = .ok (.iload_n 2, 1) := by decide +kernel
theorem dX1_addRoutine_49 : decode cX1_addRoutine 49 = .ok (.ireturn, 1) := by decide +kernel
theorem dX1_setBody_0 : decode cX1_setBody 0 = .ok (.iload_n 1, 1) := by decide +kernel
theorem dX1_setBody_1 : decode cX1_setBody 1 = .ok (.ifCond .lt 24, 3) := by decide +kernel
theorem dX1_setBody_4 : decode cX1_setBody 4 = .ok (.iload_n 1, 1) := by decide +kernel
theorem dX1_setBody_5 : decode cX1_setBody 5 = .ok (.aload_n 0, 1) := by decide +kernel
theorem dX1_setBody_6 : decode cX1_setBody 6 = .ok (.getfield 12, 3) := by decide +kernel
theorem dX1_setBody_9 : decode cX1_setBody 9 = .ok (.getfield 44, 3) := by decide +kernel
theorem dX1_setBody_12 : decode cX1_setBody 12 = .ok (.if_icmp .ge 13, 3) := by decide +kernel
theorem dX1_setBody_15 : decode cX1_setBody 15 = .ok (.aload_n 0, 1) := by decide +kernel
theorem dX1_setBody_16 : decode cX1_setBody 16 = .ok (.getfield 12, 3) := by decide +kernel
theorem dX1_setBody_19 : decode cX1_setBody 19 = .ok (.getfield 68, 3) := by decide +kernel
theorem dX1_setBody_22 : decode cX1_setBody 22 = .ok (.iload_n 1, 1) := by decide +kernel
theorem dX1_setBody_23 : decode cX1_setBody 23 = .ok (.iload_n 2, 1) := by decide +kernel
theorem dX1_setBody_24 : decode cX1_setBody 24 = .ok (.iastore, 1) := by decide +kernel
theorem dX1_setBody_25 : decode cX1_setBody 25 = .ok (.return_, 1) := by decide +kernel
theorem dX1_add_0 : decode cX1_add 0 = .ok (.aload_n 0, 1) := by decide +kernel
theorem dX1_add_1 : decode cX1_add 1 = .ok (.getfield 12, 3) := by decide +kernel
theorem dX1_add_4 : decode cX1_add 4 = .ok (.getfield 28, 3) := by decide +kernel
theorem dX1_add_7 : decode cX1_add 7 = .ok (.istore_n 3, 1) := by decide +kernel
theorem dX1_add_8 : decode cX1_add 8 = .ok (.iload_n 3, 1) := by decide +kernel
theorem dX1_add_9 : decode cX1_add 9 = .ok (.sipush 600, 3) := by decide +kernel
theorem dX1_add_12 : decode cX1_add 12 = .ok (.if_icmp .lt 6, 3) := by decide +kernel
theorem dX1_add_15 : decode cX1_add 15 = .ok (.bipush (-4), 2) := by decide +kernel
theorem dX1_add_17 : decode cX1_add 17 = .ok (.ireturn, 1) := by decide +kernel
theorem dX1_add_18 : decode cX1_add 18 = .ok (.aload_n 0, 1) := by decide +kernel
theorem dX1_add_19 : decode cX1_add 19 = .ok (.getfield 12, 3) := by decide +kernel
theorem dX1_add_22 : decode cX1_add 22 = .ok (.iload_n 3, 1) := by decide +kernel
theorem dX1_add_23 : decode cX1_add 23 = .ok (.iload_n 1, 1) := by decide +kernel
theorem dX1_add_24 : decode cX1_add 24 = .ok (.iload_n 2, 1) := by decide +kernel
theorem dX1_add_25 : decode cX1_add 25 = .ok (.invokevirtual 109, 3) := by decide +kernel
theorem dX1_add_28 : decode cX1_add 28 = .ok (.aload_n 0, 1) := by decide +kernel
theorem dX1_add_29 : decode cX1_add 29 = .ok (.getfield 12, 3) := by decide +kernel
theorem dX1_add_32 : decode cX1_add 32 = .ok (.iload_n 3, 1) := by decide +kernel
theorem dX1_add_33 : decode cX1_add 33 = .ok (.iconst 1, 1) := by decide +kernel
theorem dX1_add_34 : decode cX1_add 34 = .ok (.iadd, 1) := by decide +kernel
theorem dX1_add_35 : decode cX1_add 35 = .ok (.putfield 28, 3) := by decide +kernel
theorem dX1_add_38 : decode cX1_add 38 = .ok (.iload_n 3, 1) := by decide +kernel
theorem dX1_add_39 : decode cX1_add 39 = .ok (.ireturn, 1) := by decide +kernel
theorem dX1_append_0 : decode cX1_append 0 = .ok (.iconst 0, 1) := by decide +kernel
theorem dX1_append_1 : decode cX1_append 1 = .ok (.istore_n 3, 1) := by decide +kernel
theorem dX1_append_2 : decode cX1_append 2 = .ok (.iload_n 3, 1) := by decide +kernel
theorem dX1_append_3 : decode cX1_append 3 = .ok (.iconst 3, 1) := by decide +kernel
theorem dX1_append_4 : decode cX1_append 4 = .ok (.if_icmp .ge 61, 3) := by decide +kernel
theorem dX1_append_7 : decode cX1_append 7 = .ok (.aload_n 0, 1) := by decide +kernel
theorem dX1_append_8 : decode cX1_append 8 = .ok (.iload_n 1, 1) := by decide +kernel
theorem dX1_append_9 : decode cX1_append 9 = .ok (.invokevirtual 71, 3) := by decide +kernel
theorem dX1_append_12 : decode cX1_append 12 = .ok (.ifCond .eq 53, 3) := by decide +kernel
theorem dX1_append_15 : decode cX1_append 15 = .ok (.aload_n 0, 1) := by decide +kernel
theorem dX1_append_16 : decode cX1_append 16 = .ok (.iload_n 2, 1) := by decide +kernel
theorem dX1_append_17 : decode cX1_append 17 = .ok (.invokevirtual 71, 3) := by decide +kernel
theorem dX1_append_20 : decode cX1_append 20 = .ok (.ifCond .eq 45, 3) := by decide +kernel
theorem dX1_append_23 : decode cX1_append 23 = .ok (.aload_n 0, 1) := by decide +kernel
theorem dX1_append_24 : decode cX1_append 24 = .ok (.iload_n 1, 1) := by decide +kernel
theorem dX1_append_25 : decode cX1_append 25 = .ok (.iload_n 3, 1) := by decide +kernel
theorem dX1_append_26 : decode cX1_append 26 = .ok (.invokevirtual 113, 3) := by decide +kernel
theorem dX1_append_29 : decode cX1_append 29 = .ok (.bipush (-4), 2) := by decide +kernel
theorem dX1_append_31 : decode cX1_append 31 = .ok (.if_icmp .ne 28, 3) := by decide +kernel
theorem dX1_append_34 : decode cX1_append 34 = .ok (.aload_n 0, 1) := by decide +kernel
theorem dX1_append_35 : decode cX1_append 35 = .ok (.getfield 12, 3) := by decide +kernel
theorem dX1_append_38 : decode cX1_append 38 = .ok (.getfield 62, 3) := by decide +kernel
theorem dX1_append_41 : decode cX1_append 41 = .ok (.iload_n 1, 1) := by decide +kernel
theorem dX1_append_42 : decode cX1_append 42 = .ok (.iconst 3, 1) := by decide +kernel
theorem dX1_append_43 : decode cX1_append 43 = .ok (.imul, 1) := by decide +kernel
theorem dX1_append_44 : decode cX1_append 44 = .ok (.iload_n 3, 1) := by decide +kernel
theorem dX1_append_45 : decode cX1_append 45 = .ok (.iadd, 1) := by decide +kernel
theorem dX1_append_46 : decode cX1_append 46 = .ok (.iload_n 2, 1) := by decide +kernel
theorem dX1_append_47 : decode cX1_append 47 = .ok (.iastore, 1) := by decide +kernel
theorem dX1_append_48 : decode cX1_append 48 = .ok (.aload_n 0, 1) := by decide +kernel
theorem dX1_append_49 : decode cX1_append 49 = .ok (.getfield 12, 3) := by decide +kernel
theorem dX1_append_52 : decode cX1_append 52 = .ok (.getfield 36, 3) := by decide +kernel
theorem dX1_append_55 : decode cX1_append 55 = .ok (.iload_n 2, 1) := by decide +kernel
theorem dX1_append_56 : decode cX1_append 56 = .ok (.iload_n 1, 1) := by decide +kernel
theorem dX1_append_57 : decode cX1_append 57 = .ok (.iastore, 1) := by decide +kernel
theorem dX1_append_58 : decode cX1_append 58 = .ok (.return_, 1) := by decide +kernel
theorem dX1_append_59 : decode cX1_append 59 = .ok (.iinc 3 1, 3) := by decide +kernel
theorem dX1_append_62 : decode cX1_append 62 = .ok (.goto (-60), 3) := by decide +kernel
theorem dX1_append_65 : decode cX1_append 65 = .ok (.return_, 1) := by decide +kernel
theorem dX1_loosen_0 : decode cX1_loosen 0 = .ok (.aload_n 0, 1) := by decide +kernel
theorem dX1_loosen_1 : decode cX1_loosen 1 = .ok (.iload_n 1, 1) := by decide +kernel
theorem dX1_loosen_2 : decode cX1_loosen 2 = .ok (.invokevirtual 72, 3) := by decide +kernel
theorem dX1_loosen_5 : decode cX1_loosen 5 = .ok (.istore_n 2, 1) := by decide +kernel
theorem dX1_loosen_6 : decode cX1_loosen 6 = .ok (.iload_n 2, 1) := by decide +kernel
theorem dX1_loosen_7 : decode cX1_loosen 7 = .ok (.bipush (-4), 2) := by decide +kernel
theorem dX1_loosen_9 : decode cX1_loosen 9 = .ok (.if_icmp .ne 4, 3) := by decide +kernel
theorem dX1_loosen_12 : decode cX1_loosen 12 = .ok (.return_, 1) := by decide +kernel
theorem dX1_loosen_13 : decode cX1_loosen 13 = .ok (.iconst 0, 1) := by decide +kernel
theorem dX1_loosen_14 : decode cX1_loosen 14 = .ok (.istore_n 3, 1) := by decide +kernel
theorem dX1_loosen_15 : decode cX1_loosen 15 = .ok (.iload_n 3, 1) := by decide +kernel
theorem dX1_loosen_16 : decode cX1_loosen 16 = .ok (.iconst 3, 1) := by decide +kernel
theorem dX1_loosen_17 : decode cX1_loosen 17 = .ok (.if_icmp .ge 34, 3) := by decide +kernel
theorem dX1_loosen_20 : decode cX1_loosen 20 = .ok (.aload_n 0, 1) := by decide +kernel
theorem dX1_loosen_21 : decode cX1_loosen 21 = .ok (.iload_n 2, 1) := by decide +kernel
theorem dX1_loosen_22 : decode cX1_loosen 22 = .ok (.iload_n 3, 1) := by decide +kernel
theorem dX1_loosen_23 : decode cX1_loosen 23 = .ok (.invokevirtual 113, 3) := by decide +kernel
theorem dX1_loosen_26 : decode cX1_loosen 26 = .ok (.iload_n 1, 1) := by decide +kernel
theorem dX1_loosen_27 : decode cX1_loosen 27 = .ok (.if_icmp .ne 18, 3) := by decide +kernel
theorem dX1_loosen_30 : decode cX1_loosen 30 = .ok (.aload_n 0, 1) := by decide +kernel
theorem dX1_loosen_31 : decode cX1_loosen 31 = .ok (.getfield 12, 3) := by decide +kernel
theorem dX1_loosen_34 : decode cX1_loosen 34 = .ok (.getfield 62, 3) := by decide +kernel
theorem dX1_loosen_37 : decode cX1_loosen 37 = .ok (.iload_n 2, 1) := by decide +kernel
theorem dX1_loosen_38 : decode cX1_loosen 38 = .ok (.iconst 3, 1) := by decide +kernel
theorem dX1_loosen_39 : decode cX1_loosen 39 = .ok (.imul, 1) := by decide +kernel
theorem dX1_loosen_40 : decode cX1_loosen 40 = .ok (.iload_n 3, 1) := by decide +kernel
theorem dX1_loosen_41 : decode cX1_loosen 41 = .ok (.iadd, 1) := by decide +kernel
theorem dX1_loosen_42 : decode cX1_loosen 42 = .ok (.bipush (-4), 2) := by decide +kernel
theorem dX1_loosen_44 : decode cX1_loosen 44 = .ok (.iastore, 1) := by decide +kernel
theorem dX1_loosen_45 : decode cX1_loosen 45 = .ok (.iinc 3 1, 3) := by decide +kernel
theorem dX1_loosen_48 : decode cX1_loosen 48 = .ok (.goto (-33), 3) := by decide +kernel
theorem dX1_loosen_51 : decode cX1_loosen 51 = .ok (.aload_n 0, 1) := by decide +kernel
theorem dX1_loosen_52 : decode cX1_loosen 52 = .ok (.getfield 12, 3) := by decide +kernel
theorem dX1_loosen_55 : decode cX1_loosen 55 = .ok (.getfield 36, 3) := by decide +kernel
theorem dX1_loosen_58 : decode cX1_loosen 58 = .ok (.iload_n 1, 1) := by decide +kernel
theorem dX1_loosen_59 : decode cX1_loosen 59 = .ok (.bipush (-4), 2) := by decide +kernel
theorem dX1_loosen_61 : decode cX1_loosen 61 = .ok (.iastore, 1) := by decide +kernel
theorem dX1_loosen_62 : decode cX1_loosen 62 = .ok (.return_, 1) := by decide +kernel
theorem dX1_takePlace_0 : decode cX1_takePlace 0 = .ok (.aload_n 0, 1) := by decide +kernel
theorem dX1_takePlace_1 : decode cX1_takePlace 1 = .ok (.getfield 12, 3) := by decide +kernel
theorem dX1_takePlace_4 : decode cX1_takePlace 4 = .ok (.iload_n 1, 1) := by decide +kernel
theorem dX1_takePlace_5 : decode cX1_takePlace 5 = .ok (.invokevirtual 32, 3) := by decide +kernel
theorem dX1_takePlace_8 : decode cX1_takePlace 8 = .ok (.ifCond .eq 14, 3) := by decide +kernel
theorem dX1_takePlace_11 : decode cX1_takePlace 11 = .ok (.aload_n 0, 1) := by decide +kernel
theorem dX1_takePlace_12 : decode cX1_takePlace 12 = .ok (.getfield 12, 3) := by decide +kernel
theorem dX1_takePlace_15 : decode cX1_takePlace 15 = .ok (.iload_n 2, 1) := by decide +kernel
theorem dX1_takePlace_16 : decode cX1_takePlace 16 = .ok (.invokevirtual 32, 3) := by decide +kernel
theorem dX1_takePlace_19 : decode cX1_takePlace 19 = .ok (.ifCond .ne 4, 3) := by decide +kernel
theorem dX1_takePlace_22 : decode cX1_takePlace 22 = .ok (.return_, 1) := by decide +kernel
theorem dX1_takePlace_23 : decode cX1_takePlace 23 = .ok (.aload_n 0, 1) := by decide +kernel
theorem dX1_takePlace_24 : decode cX1_takePlace 24 = .ok (.iload_n 2, 1) := by decide +kernel
theorem dX1_takePlace_25 : decode cX1_takePlace 25 = .ok (.invokevirtual 116, 3) := by decide +kernel
theorem dX1_takePlace_28 : decode cX1_takePlace 28 = .ok (.aload_n 0, 1) := by decide +kernel
theorem dX1_takePlace_29 : decode cX1_takePlace 29 = .ok (.getfield 12, 3) := by decide +kernel
theorem dX1_takePlace_32 : decode cX1_takePlace 32 = .ok (.getfield 36, 3) := by decide +kernel
theorem dX1_takePlace_35 : decode cX1_takePlace 35 = .ok (.iload_n 1, 1) := by decide +kernel
theorem dX1_takePlace_36 : decode cX1_takePlace 36 = .ok (.iaload, 1) := by decide +kernel
theorem dX1_takePlace_37 : decode cX1_takePlace 37 = .ok (.istore_n 3, 1) := by decide +kernel
theorem dX1_takePlace_38 : decode cX1_takePlace 38 = .ok (.iload_n 3, 1) := by decide +kernel
theorem dX1_takePlace_39 : decode cX1_takePlace 39 = .ok (.bipush (-4), 2) := by decide +kernel
theorem dX1_takePlace_41 : decode cX1_takePlace 41 = .ok (.if_icmp .ne 14, 3) := by decide +kernel
theorem dX1_takePlace_44 : decode cX1_takePlace 44 = .ok (.aload_n 0, 1) := by decide +kernel
theorem dX1_takePlace_45 : decode cX1_takePlace 45 = .ok (.aload_n 0, 1) := by decide +kernel
theorem dX1_takePlace_46 : decode cX1_takePlace 46 = .ok (.iload_n 1, 1) := by decide +kernel
theorem dX1_takePlace_47 : decode cX1_takePlace 47 = .ok (.invokevirtual 40, 3) := by decide +kernel
theorem dX1_takePlace_50 : decode cX1_takePlace 50 = .ok (.iload_n 2, 1) := by decide +kernel
theorem dX1_takePlace_51 : decode cX1_takePlace 51 = .ok (.invokevirtual 120, 3) := by decide +kernel
theorem dX1_takePlace_54 : decode cX1_takePlace 54 = .ok (.return_, 1) := by decide +kernel
theorem dX1_takePlace_55 : decode cX1_takePlace 55 = .ok (.iconst 0, 1) := by decide +kernel
theorem dX1_takePlace_56 : decode cX1_takePlace 56 = .ok (.istore 4, 2) := by decide +kernel
theorem dX1_takePlace_58 : decode cX1_takePlace 58 = .ok (.iload 4, 2) := by decide +kernel
theorem dX1_takePlace_60 : decode cX1_takePlace 60 = .ok (.iconst 3, 1) := by decide +kernel
theorem dX1_takePlace_61 : decode cX1_takePlace 61 = .ok (.if_icmp .ge 35, 3) := by decide +kernel
theorem dX1_takePlace_64 : decode cX1_takePlace 64 = .ok (.aload_n 0, 1) := by decide +kernel
theorem dX1_takePlace_65 : decode cX1_takePlace 65 = .ok (.iload_n 3, 1) := by decide +kernel
theorem dX1_takePlace_66 : decode cX1_takePlace 66 = .ok (.iload 4, 2) := by decide +kernel
theorem dX1_takePlace_68 : decode cX1_takePlace 68 = .ok (.invokevirtual 113, 3) := by decide +kernel
theorem dX1_takePlace_71 : decode cX1_takePlace 71 = .ok (.iload_n 1, 1) := by decide +kernel
theorem dX1_takePlace_72 : decode cX1_takePlace 72 = .ok (.if_icmp .ne 18, 3) := by decide +kernel
theorem dX1_takePlace_75 : decode cX1_takePlace 75 = .ok (.aload_n 0, 1) := by decide +kernel
theorem dX1_takePlace_76 : decode cX1_takePlace 76 = .ok (.getfield 12, 3) := by decide +kernel
theorem dX1_takePlace_79 : decode cX1_takePlace 79 = .ok (.getfield 62, 3) := by decide +kernel
theorem dX1_takePlace_82 : decode cX1_takePlace 82 = .ok (.iload_n 3, 1) := by decide +kernel
theorem dX1_takePlace_83 : decode cX1_takePlace 83 = .ok (.iconst 3, 1) := by decide +kernel
theorem dX1_takePlace_84 : decode cX1_takePlace 84 = .ok (.imul, 1) := by decide +kernel
theorem dX1_takePlace_85 : decode cX1_takePlace 85 = .ok (.iload 4, 2) := by decide +kernel
theorem dX1_takePlace_87 : decode cX1_takePlace 87 = .ok (.iadd, 1) := by decide +kernel
theorem dX1_takePlace_88 : decode cX1_takePlace 88 = .ok (.iload_n 2, 1) := by decide +kernel
theorem dX1_takePlace_89 : decode cX1_takePlace 89 = .ok (.iastore, 1) := by decide +kernel
theorem dX1_takePlace_90 : decode cX1_takePlace 90 = .ok (.iinc 4 1, 3) := by decide +kernel
theorem dX1_takePlace_93 : decode cX1_takePlace 93 = .ok (.goto (-35), 3) := by decide +kernel
theorem dX1_takePlace_96 : decode cX1_takePlace 96 = .ok (.aload_n 0, 1) := by decide +kernel
theorem dX1_takePlace_97 : decode cX1_takePlace 97 = .ok (.getfield 12, 3) := by decide +kernel
theorem dX1_takePlace_100 : decode cX1_takePlace 100 = .ok (.getfield 36, 3) := by decide +kernel
theorem dX1_takePlace_103 : decode cX1_takePlace 103 = .ok (.iload_n 2, 1) := by decide +kernel
theorem dX1_takePlace_104 : decode cX1_takePlace 104 = .ok (.iload_n 3, 1) := by decide +kernel
theorem dX1_takePlace_105 : decode cX1_takePlace 105 = .ok (.iastore, 1) := by decide +kernel
theorem dX1_takePlace_106 : decode cX1_takePlace 106 = .ok (.aload_n 0, 1) := by decide +kernel
theorem dX1_takePlace_107 : decode cX1_takePlace 107 = .ok (.getfield 12, 3) := by decide +kernel
theorem dX1_takePlace_110 : decode cX1_takePlace 110 = .ok (.getfield 36, 3) := by decide +kernel
theorem dX1_takePlace_113 : decode cX1_takePlace 113 = .ok (.iload_n 1, 1) := by decide +kernel
theorem dX1_takePlace_114 : decode cX1_takePlace 114 = .ok (.bipush (-4), 2) := by decide +kernel
theorem dX1_takePlace_116 : decode cX1_takePlace 116 = .ok (.iastore, 1) := by decide +kernel
theorem dX1_takePlace_117 : decode cX1_takePlace 117 = .ok (.return_, 1) := by decide +kernel
theorem dX1_endTree_0 : decode cX1_endTree 0 = .ok (.aload_n 0, 1) := by decide +kernel
theorem dX1_endTree_1 : decode cX1_endTree 1 = .ok (.getfield 21, 3) := by decide +kernel
theorem dX1_endTree_4 : decode cX1_endTree 4 = .ok (.aload_n 0, 1) := by decide +kernel
theorem dX1_endTree_5 : decode cX1_endTree 5 = .ok (.getfield 12, 3) := by decide +kernel
theorem dX1_endTree_8 : decode cX1_endTree 8 = .ok (.iload_n 1, 1) := by decide +kernel
theorem dX1_endTree_9 : decode cX1_endTree 9 = .ok (.invokevirtual 75, 3) := by decide +kernel
theorem dX1_endTree_12 : decode cX1_endTree 12 = .ok (.iconst 0, 1) := by decide +kernel
theorem dX1_endTree_13 : decode cX1_endTree 13 = .ok (.istore_n 2, 1) := by decide +kernel
theorem dX1_endTree_14 : decode cX1_endTree 14 = .ok (.iload_n 2, 1) := by decide +kernel
theorem dX1_endTree_15 : decode cX1_endTree 15 = .ok (.aload_n 0, 1) := by decide +kernel
theorem dX1_endTree_16 : decode cX1_endTree 16 = .ok (.getfield 21, 3) := by decide +kernel
theorem dX1_endTree_19 : decode cX1_endTree 19 = .ok (.getfield 79, 3) := by decide +kernel
theorem dX1_endTree_22 : decode cX1_endTree 22 = .ok (.if_icmp .ge 27, 3) := by decide +kernel
theorem dX1_endTree_25 : decode cX1_endTree 25 = .ok (.aload_n 0, 1) := by decide +kernel
theorem dX1_endTree_26 : decode cX1_endTree 26 = .ok (.getfield 12, 3) := by decide +kernel
theorem dX1_endTree_29 : decode cX1_endTree 29 = .ok (.aload_n 0, 1) := by decide +kernel
theorem dX1_endTree_30 : decode cX1_endTree 30 = .ok (.getfield 21, 3) := by decide +kernel
theorem dX1_endTree_33 : decode cX1_endTree 33 = .ok (.getfield 94, 3) := by decide +kernel
theorem dX1_endTree_36 : decode cX1_endTree 36 = .ok (.iload_n 2, 1) := by decide +kernel
theorem dX1_endTree_37 : decode cX1_endTree 37 = .ok (.iaload, 1) := by decide +kernel
theorem dX1_endTree_38 : decode cX1_endTree 38 = .ok (.iconst (-1), 1) := by decide +kernel
theorem dX1_endTree_39 : decode cX1_endTree 39 = .ok (.iconst 0, 1) := by decide +kernel
theorem dX1_endTree_40 : decode cX1_endTree 40 = .ok (.invokevirtual 109, 3) := by decide +kernel
theorem dX1_endTree_43 : decode cX1_endTree 43 = .ok (.iinc 2 1, 3) := by decide +kernel
theorem dX1_endTree_46 : decode cX1_endTree 46 = .ok (.goto (-32), 3) := by decide +kernel
theorem dX1_endTree_49 : decode cX1_endTree 49 = .ok (.return_, 1) := by decide +kernel
theorem dX1_dropUncalled_0 : decode cX1_dropUncalled 0 = .ok (.iconst 1, 1) := by decide +kernel
theorem dX1_dropUncalled_1 : decode cX1_dropUncalled 1 = .ok (.istore_n 1, 1) := by decide +kernel
theorem dX1_dropUncalled_2 : decode cX1_dropUncalled 2 = .ok (.iconst 0, 1) := by decide +kernel
theorem dX1_dropUncalled_3 : decode cX1_dropUncalled 3 = .ok (.istore_n 2, 1) := by decide +kernel
theorem dX1_dropUncalled_4 : decode cX1_dropUncalled 4 = .ok (.iconst 0, 1) := by decide +kernel
theorem dX1_dropUncalled_5 : decode cX1_dropUncalled 5 = .ok (.istore_n 3, 1) := by decide +kernel
theorem dX1_dropUncalled_6 : decode cX1_dropUncalled 6 = .ok (.iload_n 3, 1) := by decide +kernel
theorem dX1_dropUncalled_7 : decode cX1_dropUncalled 7 = .ok (.bipush 10, 2) := by decide +kernel
theorem dX1_dropUncalled_9 : decode cX1_dropUncalled 9 = .ok (.if_icmp .ge 24, 3) := by decide +kernel
theorem dX1_dropUncalled_12 : decode cX1_dropUncalled 12 = .ok (.iload_n 1, 1) := by decide +kernel
theorem dX1_dropUncalled_13 : decode cX1_dropUncalled 13 = .ok (.iload_n 2, 1) := by decide +kernel
theorem dX1_dropUncalled_14 : decode cX1_dropUncalled 14 = .ok (.if_icmp .eq 19, 3) := by decide +kernel
theorem dX1_dropUncalled_17 : decode cX1_dropUncalled 17 = .ok (.iload_n 1, 1) := by decide +kernel
theorem dX1_dropUncalled_18 : decode cX1_dropUncalled 18 = .ok (.istore_n 2, 1) := by decide +kernel
theorem dX1_dropUncalled_19 : decode cX1_dropUncalled 19 = .ok (.iload_n 2, 1) := by decide +kernel
theorem dX1_dropUncalled_20 : decode cX1_dropUncalled 20 = .ok (.aload_n 0, 1) := by decide +kernel
theorem dX1_dropUncalled_21 : decode cX1_dropUncalled 21 = .ok (.iload_n 2, 1) := by decide +kernel
theorem dX1_dropUncalled_22 : decode cX1_dropUncalled 22 = .ok (.invokevirtual 124, 3) := by decide +kernel
theorem dX1_dropUncalled_25 : decode cX1_dropUncalled 25 = .ok (.ior, 1) := by decide +kernel
theorem dX1_dropUncalled_26 : decode cX1_dropUncalled 26 = .ok (.istore_n 1, 1) := by decide +kernel
theorem dX1_dropUncalled_27 : decode cX1_dropUncalled 27 = .ok (.iinc 3 1, 3) := by decide +kernel
theorem dX1_dropUncalled_30 : decode cX1_dropUncalled 30 = .ok (.goto (-24), 3) := by decide +kernel
theorem dX1_dropUncalled_33 : decode cX1_dropUncalled 33 = .ok (.iconst 0, 1) := by decide +kernel
theorem dX1_dropUncalled_34 : decode cX1_dropUncalled 34 = .ok (.istore_n 3, 1) := by decide +kernel
theorem dX1_dropUncalled_35 : decode cX1_dropUncalled 35 = .ok (.iconst 0, 1) := by decide +kernel
theorem dX1_dropUncalled_36 : decode cX1_dropUncalled 36 = .ok (.istore 4, 2) := by decide +kernel
theorem dX1_dropUncalled_38 : decode cX1_dropUncalled 38 = .ok (.iload 4, 2) := by decide +kernel
theorem dX1_dropUncalled_40 : decode cX1_dropUncalled 40 = .ok (.aload_n 0, 1) := by decide +kernel
theorem dX1_dropUncalled_41 : decode cX1_dropUncalled 41 = .ok (.getfield 12, 3) := by decide +kernel
theorem dX1_dropUncalled_44 : decode cX1_dropUncalled 44 = .ok (.getfield 44, 3) := by decide +kernel
theorem dX1_dropUncalled_47 : decode cX1_dropUncalled 47 = .ok (.if_icmp .ge 42, 3) := by decide +kernel
theorem dX1_dropUncalled_50 : decode cX1_dropUncalled 50 = .ok (.iload_n 1, 1) := by decide +kernel
theorem dX1_dropUncalled_51 : decode cX1_dropUncalled 51 = .ok (.iload 4, 2) := by decide +kernel
theorem dX1_dropUncalled_53 : decode cX1_dropUncalled 53 = .ok (.ishr, 1) := by decide +kernel
theorem dX1_dropUncalled_54 : decode cX1_dropUncalled 54 = .ok (.iconst 1, 1) := by decide +kernel
theorem dX1_dropUncalled_55 : decode cX1_dropUncalled 55 = .ok (.iand, 1) := by decide +kernel
theorem dX1_dropUncalled_56 : decode cX1_dropUncalled 56 = .ok (.ifCond .ne 27, 3) := by decide +kernel
theorem dX1_dropUncalled_59 : decode cX1_dropUncalled 59 = .ok (.aload_n 0, 1) := by decide +kernel
theorem dX1_dropUncalled_60 : decode cX1_dropUncalled 60 = .ok (.iload 4, 2) := by decide +kernel
theorem dX1_dropUncalled_62 : decode cX1_dropUncalled 62 = .ok (.invokevirtual 106, 3) := by decide +kernel
theorem dX1_dropUncalled_65 : decode cX1_dropUncalled 65 = .ok (.ifCond .ne 18, 3) := by decide +kernel
theorem dX1_dropUncalled_68 : decode cX1_dropUncalled 68 = .ok (.aload_n 0, 1) := by decide +kernel
theorem dX1_dropUncalled_69 : decode cX1_dropUncalled 69 = .ok (.getfield 12, 3) := by decide +kernel
theorem dX1_dropUncalled_72 : decode cX1_dropUncalled 72 = .ok (.getfield 68, 3) := by decide +kernel
theorem dX1_dropUncalled_75 : decode cX1_dropUncalled 75 = .ok (.iload 4, 2) := by decide +kernel
theorem dX1_dropUncalled_77 : decode cX1_dropUncalled 77 = .ok (.bipush (-4), 2) := by decide +kernel
theorem dX1_dropUncalled_79 : decode cX1_dropUncalled 79 = .ok (.iastore, 1) := by decide +kernel
theorem dX1_dropUncalled_80 : decode cX1_dropUncalled 80 = .ok (.iinc 3 1, 3) := by decide +kernel
theorem dX1_dropUncalled_83 : decode cX1_dropUncalled 83 = .ok (.iinc 4 1, 3) := by decide +kernel
theorem dX1_dropUncalled_86 : decode cX1_dropUncalled 86 = .ok (.goto (-48), 3) := by decide +kernel
theorem dX1_dropUncalled_89 : decode cX1_dropUncalled 89 = .ok (.iload_n 3, 1) := by decide +kernel
theorem dX1_dropUncalled_90 : decode cX1_dropUncalled 90 = .ok (.ireturn, 1) := by decide +kernel
theorem dX1_calledBy_0 : decode cX1_calledBy 0 = .ok (.iconst 0, 1) := by decide +kernel
theorem dX1_calledBy_1 : decode cX1_calledBy 1 = .ok (.istore_n 2, 1) := by decide +kernel
theorem dX1_calledBy_2 : decode cX1_calledBy 2 = .ok (.iconst 0, 1) := by decide +kernel
theorem dX1_calledBy_3 : decode cX1_calledBy 3 = .ok (.istore_n 3, 1) := by decide +kernel
theorem dX1_calledBy_4 : decode cX1_calledBy 4 = .ok (.iload_n 3, 1) := by decide +kernel
theorem dX1_calledBy_5 : decode cX1_calledBy 5 = .ok (.aload_n 0, 1) := by decide +kernel
theorem dX1_calledBy_6 : decode cX1_calledBy 6 = .ok (.getfield 12, 3) := by decide +kernel
theorem dX1_calledBy_9 : decode cX1_calledBy 9 = .ok (.getfield 44, 3) := by decide +kernel
theorem dX1_calledBy_12 : decode cX1_calledBy 12 = .ok (.if_icmp .ge 98, 3) := by decide +kernel
theorem dX1_calledBy_15 : decode cX1_calledBy 15 = .ok (.aload_n 0, 1) := by decide +kernel
theorem dX1_calledBy_16 : decode cX1_calledBy 16 = .ok (.getfield 21, 3) := by decide +kernel
theorem dX1_calledBy_19 : decode cX1_calledBy 19 = .ok (.aload_n 0, 1) := by decide +kernel
theorem dX1_calledBy_20 : decode cX1_calledBy 20 = .ok (.getfield 12, 3) := by decide +kernel
theorem dX1_calledBy_23 : decode cX1_calledBy 23 = .ok (.iload_n 1, 1) := by decide +kernel
theorem dX1_calledBy_24 : decode cX1_calledBy 24 = .ok (.iload_n 3, 1) := by decide +kernel
theorem dX1_calledBy_25 : decode cX1_calledBy 25 = .ok (.ishr, 1) := by decide +kernel
theorem dX1_calledBy_26 : decode cX1_calledBy 26 = .ok (.iconst 1, 1) := by decide +kernel
theorem dX1_calledBy_27 : decode cX1_calledBy 27 = .ok (.iand, 1) := by decide +kernel
theorem dX1_calledBy_28 : decode cX1_calledBy 28 = .ok (.iconst 1, 1) := by decide +kernel
theorem dX1_calledBy_29 : decode cX1_calledBy 29 = .ok (.if_icmp .ne 11, 3) := by decide +kernel
theorem dX1_calledBy_32 : decode cX1_calledBy 32 = .ok (.aload_n 0, 1) := by decide +kernel
theorem dX1_calledBy_33 : decode cX1_calledBy 33 = .ok (.iload_n 3, 1) := by decide +kernel
theorem dX1_calledBy_34 : decode cX1_calledBy 34 = .ok (.invokevirtual 47, 3) := by decide +kernel
theorem dX1_calledBy_37 : decode cX1_calledBy 37 = .ok (.goto 5, 3) := by decide +kernel
theorem dX1_calledBy_40 : decode cX1_calledBy 40 = .ok (.bipush (-4), 2) := by decide +kernel
theorem dX1_calledBy_42 : decode cX1_calledBy 42 = .ok (.invokevirtual 75, 3) := by decide +kernel
theorem dX1_calledBy_45 : decode cX1_calledBy 45 = .ok (.iconst 0, 1) := by decide +kernel
theorem dX1_calledBy_46 : decode cX1_calledBy 46 = .ok (.istore 4, 2) := by decide +kernel
theorem dX1_calledBy_48 : decode cX1_calledBy 48 = .ok (.iload 4, 2) := by decide +kernel
theorem dX1_calledBy_50 : decode cX1_calledBy 50 = .ok (.aload_n 0, 1) := by decide +kernel
theorem dX1_calledBy_51 : decode cX1_calledBy 51 = .ok (.getfield 21, 3) := by decide +kernel
theorem dX1_calledBy_54 : decode cX1_calledBy 54 = .ok (.getfield 79, 3) := by decide +kernel
theorem dX1_calledBy_57 : decode cX1_calledBy 57 = .ok (.if_icmp .ge 47, 3) := by decide +kernel
theorem dX1_calledBy_60 : decode cX1_calledBy 60 = .ok (.aload_n 0, 1) := by decide +kernel
theorem dX1_calledBy_61 : decode cX1_calledBy 61 = .ok (.getfield 21, 3) := by decide +kernel
theorem dX1_calledBy_64 : decode cX1_calledBy 64 = .ok (.getfield 94, 3) := by decide +kernel
theorem dX1_calledBy_67 : decode cX1_calledBy 67 = .ok (.iload 4, 2) := by decide +kernel
theorem dX1_calledBy_69 : decode cX1_calledBy 69 = .ok (.iaload, 1) := by decide +kernel
theorem dX1_calledBy_70 : decode cX1_calledBy 70 = .ok (.istore 5, 2) := by decide +kernel
theorem dX1_calledBy_72 : decode cX1_calledBy 72 = .ok (.iload_n 2, 1) := by decide +kernel
theorem dX1_calledBy_73 : decode cX1_calledBy 73 = .ok (.aload_n 0, 1) := by decide +kernel
theorem dX1_calledBy_74 : decode cX1_calledBy 74 = .ok (.iload 5, 2) := by decide +kernel
theorem dX1_calledBy_76 : decode cX1_calledBy 76 = .ok (.invokevirtual 50, 3) := by decide +kernel
theorem dX1_calledBy_79 : decode cX1_calledBy 79 = .ok (.bipush 6, 2) := by decide +kernel
theorem dX1_calledBy_81 : decode cX1_calledBy 81 = .ok (.if_icmp .ne 14, 3) := by decide +kernel
theorem dX1_calledBy_84 : decode cX1_calledBy 84 = .ok (.iconst 1, 1) := by decide +kernel
theorem dX1_calledBy_85 : decode cX1_calledBy 85 = .ok (.aload_n 0, 1) := by decide +kernel
theorem dX1_calledBy_86 : decode cX1_calledBy 86 = .ok (.iload 5, 2) := by decide +kernel
theorem dX1_calledBy_88 : decode cX1_calledBy 88 = .ok (.invokevirtual 97, 3) := by decide +kernel
theorem dX1_calledBy_91 : decode cX1_calledBy 91 = .ok (.ishl, 1) := by decide +kernel
theorem dX1_calledBy_92 : decode cX1_calledBy 92 = .ok (.goto 4, 3) := by decide +kernel
theorem dX1_calledBy_95 : decode cX1_calledBy 95 = .ok (.iconst 0, 1) := by decide +kernel
theorem dX1_calledBy_96 : decode cX1_calledBy 96 = .ok (.ior, 1) := by decide +kernel
theorem dX1_calledBy_97 : decode cX1_calledBy 97 = .ok (.istore_n 2, 1) := by decide +kernel
theorem dX1_calledBy_98 : decode cX1_calledBy 98 = .ok (.iinc 4 1, 3) := by decide +kernel
theorem dX1_calledBy_101 : decode cX1_calledBy 101 = .ok (.goto (-53), 3) := by decide +kernel
theorem dX1_calledBy_104 : decode cX1_calledBy 104 = .ok (.iinc 3 1, 3) := by decide +kernel
theorem dX1_calledBy_107 : decode cX1_calledBy 107 = .ok (.goto (-103), 3) := by decide +kernel
theorem dX1_calledBy_110 : decode cX1_calledBy 110 = .ok (.iload_n 2, 1) := by decide +kernel
theorem dX1_calledBy_111 : decode cX1_calledBy 111 = .ok (.ireturn, 1) := by decide +kernel
theorem dX2_init_0 : decode cX2_init 0 = .ok (.aload_n 0, 1) := by decide +kernel
theorem dX2_init_1 : decode cX2_init 1 = .ok (.invokespecial 3, 3) := by decide +kernel
theorem dX2_init_4 : decode cX2_init 4 = .ok (.aload_n 0, 1) := by decide +kernel
theorem dX2_init_5 : decode cX2_init 5 = .ok (.sipush 600, 3) := by decide +kernel
theorem dX2_init_8 : decode cX2_init 8 = .ok (.newarray .int, 2) := by decide +kernel
theorem dX2_init_10 : decode cX2_init 10 = .ok (.putfield 9, 3) := by decide +kernel
theorem dX2_init_13 : decode cX2_init 13 = .ok (.aload_n 0, 1) := by decide +kernel
theorem dX2_init_14 : decode cX2_init 14 = .ok (.bipush 8, 2) := by decide +kernel
theorem dX2_init_16 : decode cX2_init 16 = .ok (.newarray .int, 2) := by decide +kernel
theorem dX2_init_18 : decode cX2_init 18 = .ok (.putfield 15, 3) := by decide +kernel
theorem dX2_init_21 : decode cX2_init 21 = .ok (.aload_n 0, 1) := by decide +kernel
theorem dX2_init_22 : decode cX2_init 22 = .ok (.bipush 10, 2) := by decide +kernel
theorem dX2_init_24 : decode cX2_init 24 = .ok (.newarray .int, 2) := by decide +kernel
theorem dX2_init_26 : decode cX2_init 26 = .ok (.putfield 18, 3) := by decide +kernel
theorem dX2_init_29 : decode cX2_init 29 = .ok (.aload_n 0, 1) := by decide +kernel
theorem dX2_init_30 : decode cX2_init 30 = .ok (.sipush 480, 3) := by decide +kernel
theorem dX2_init_33 : decode cX2_init 33 = .ok (.newarray .int, 2) := by decide +kernel
theorem dX2_init_35 : decode cX2_init 35 = .ok (.putfield 21, 3) := by decide +kernel
theorem dX2_init_38 : decode cX2_init 38 = .ok (.aload_n 0, 1) := by decide +kernel
theorem dX2_init_39 : decode cX2_init 39 = .ok (.bipush 12, 2) := by decide +kernel
theorem dX2_init_41 : decode cX2_init 41 = .ok (.newarray .int, 2) := by decide +kernel
theorem dX2_init_43 : decode cX2_init 43 = .ok (.putfield 24, 3) := by decide +kernel
theorem dX2_init_46 : decode cX2_init 46 = .ok (.aload_n 0, 1) := by decide +kernel
theorem dX2_init_47 : decode cX2_init 47 = .ok (.sipush 480, 3) := by decide +kernel
theorem dX2_init_50 : decode cX2_init 50 = .ok (.newarray .int, 2) := by decide +kernel
theorem dX2_init_52 : decode cX2_init 52 = .ok (.putfield 27, 3) := by decide +kernel
theorem dX2_init_55 : decode cX2_init 55 = .ok (.aload_n 0, 1) := by decide +kernel
theorem dX2_init_56 : decode cX2_init 56 = .ok (.sipush 480, 3) := by decide +kernel
theorem dX2_init_59 : decode cX2_init 59 = .ok (.newarray .int, 2) := by decide +kernel
theorem dX2_init_61 : decode cX2_init 61 = .ok (.putfield 30, 3) := by decide +kernel
theorem dX2_init_64 : decode cX2_init 64 = .ok (.aload_n 0, 1) := by decide +kernel
theorem dX2_init_65 : decode cX2_init 65 = .ok (.sipush 1920, 3) := by decide +kernel
theorem dX2_init_68 : decode cX2_init 68 = .ok (.newarray .int, 2) := by decide +kernel
theorem dX2_init_70 : decode cX2_init 70 = .ok (.putfield 33, 3) := by decide +kernel
theorem dX2_init_73 : decode cX2_init 73 = .ok (.aload_n 0, 1) := by decide +kernel
theorem dX2_init_74 : decode cX2_init 74 = .ok (.aload_n 1, 1) := by decide +kernel
theorem dX2_init_75 : decode cX2_init 75 = .ok (.putfield 36, 3) := by decide +kernel
theorem dX2_init_78 : decode cX2_init 78 = .ok (.return_, 1) := by decide +kernel
theorem dX2_isSpent_0 : decode cX2_isSpent 0 = .ok (.aload_n 0, 1) := by decide +kernel
theorem dX2_isSpent_1 : decode cX2_isSpent 1 = .ok (.getfield 40, 3) := by decide +kernel
theorem dX2_isSpent_4 : decode cX2_isSpent 4 = .ok (.ldc 44, 2) := by decide +kernel
theorem dX2_isSpent_6 : decode cX2_isSpent 6 = .ok (.if_icmp .lt 7, 3) := by decide +kernel
theorem dX2_isSpent_9 : decode cX2_isSpent 9 = .ok (.iconst 1, 1) := by decide +kernel
theorem dX2_isSpent_10 : decode cX2_isSpent 10 = .ok (.goto 4, 3) := by decide +kernel
theorem dX2_isSpent_13 : decode cX2_isSpent 13 = .ok (.iconst 0, 1) := by decide +kernel
theorem dX2_isSpent_14 : decode cX2_isSpent 14 = .ok (.ireturn, 1) := by decide +kernel
theorem dX2_countOf_0 : decode cX2_countOf 0 = .ok (.iload_n 1, 1) := by decide +kernel
theorem dX2_countOf_1 : decode cX2_countOf 1 = .ok (.ifCond .lt 19, 3) := by decide +kernel
theorem dX2_countOf_4 : decode cX2_countOf 4 = .ok (.iload_n 1, 1) := by decide +kernel
theorem dX2_countOf_5 : decode cX2_countOf 5 = .ok (.sipush 600, 3) := by decide +kernel
theorem dX2_countOf_8 : decode cX2_countOf 8 = .ok (.if_icmp .ge 12, 3) := by decide +kernel
theorem dX2_countOf_11 : decode cX2_countOf 11 = .ok (.aload_n 0, 1) := by decide +kernel
theorem dX2_countOf_12 : decode cX2_countOf 12 = .ok (.getfield 9, 3) := by decide +kernel
theorem dX2_countOf_15 : decode cX2_countOf 15 = .ok (.iload_n 1, 1) := by decide +kernel
theorem dX2_countOf_16 : decode cX2_countOf 16 = .ok (.iaload, 1) := by decide +kernel
theorem dX2_countOf_17 : decode cX2_countOf 17 = .ok (.goto 4, 3) := by decide +kernel
theorem dX2_countOf_20 : decode cX2_countOf 20 = .ok (.iconst 0, 1) := by decide +kernel
theorem dX2_countOf_21 : decode cX2_countOf 21 = .ok (.ireturn, 1) := by decide +kernel
theorem dX2_gainOf_0 : decode cX2_gainOf 0 = .ok (.iconst 4, 1) := by decide +kernel
theorem dX2_gainOf_1 : decode cX2_gainOf 1 = .ok (.aload_n 0, 1) := by decide +kernel
theorem dX2_gainOf_2 : decode cX2_gainOf 2 = .ok (.iload_n 1, 1) := by decide +kernel
theorem dX2_gainOf_3 : decode cX2_gainOf 3 = .ok (.invokevirtual 45, 3) := by decide +kernel
theorem dX2_gainOf_6 : decode cX2_gainOf 6 = .ok (.imul, 1) := by decide +kernel
theorem dX2_gainOf_7 : decode cX2_gainOf 7 = .ok (.ireturn, 1) := by decide +kernel
theorem dX2_forgetCounts_0 : decode cX2_forgetCounts 0 = .ok (.aload_n 0, 1) := by decide +kernel
theorem dX2_forgetCounts_1 : decode cX2_forgetCounts 1 = .ok (.getfield 9, 3) := by decide +kernel
theorem dX2_forgetCounts_4 : decode cX2_forgetCounts 4 = .ok (.iconst 0, 1) := by decide +kernel
theorem dX2_forgetCounts_5 : decode cX2_forgetCounts 5 = .ok (.invokestatic 49, 3) := by decide +kernel
theorem dX2_forgetCounts_8 : decode cX2_forgetCounts 8 = .ok (.return_, 1) := by decide +kernel
theorem dX2_reach_0 : decode cX2_reach 0 = .ok (.iload_n 1, 1) := by decide +kernel
theorem dX2_reach_1 : decode cX2_reach 1 = .ok (.ifCond .lt 18, 3) := by decide +kernel
theorem dX2_reach_4 : decode cX2_reach 4 = .ok (.iload_n 1, 1) := by decide +kernel
theorem dX2_reach_5 : decode cX2_reach 5 = .ok (.bipush 8, 2) := by decide +kernel
theorem dX2_reach_7 : decode cX2_reach 7 = .ok (.if_icmp .ge 12, 3) := by decide +kernel
theorem dX2_reach_10 : decode cX2_reach 10 = .ok (.aload_n 0, 1) := by decide +kernel
theorem dX2_reach_11 : decode cX2_reach 11 = .ok (.getfield 15, 3) := by decide +kernel
theorem dX2_reach_14 : decode cX2_reach 14 = .ok (.iload_n 1, 1) := by decide +kernel
theorem dX2_reach_15 : decode cX2_reach 15 = .ok (.iaload, 1) := by decide +kernel
theorem dX2_reach_16 : decode cX2_reach 16 = .ok (.goto 4, 3) := by decide +kernel
theorem dX2_reach_19 : decode cX2_reach 19 = .ok (.iconst 0, 1) := by decide +kernel
theorem dX2_reach_20 : decode cX2_reach 20 = .ok (.ireturn, 1) := by decide +kernel
theorem dX2_put_0 : decode cX2_put 0 = .ok (.iload_n 1, 1) := by decide +kernel
theorem dX2_put_1 : decode cX2_put 1 = .ok (.ifCond .lt 9, 3) := by decide +kernel
theorem dX2_put_4 : decode cX2_put 4 = .ok (.iload_n 1, 1) := by decide +kernel
theorem dX2_put_5 : decode cX2_put 5 = .ok (.bipush 8, 2) := by decide +kernel
theorem dX2_put_7 : decode cX2_put 7 = .ok (.if_icmp .lt 5, 3) := by decide +kernel
theorem dX2_put_10 : decode cX2_put 10 = .ok (.iconst 0, 1) := by decide +kernel
theorem dX2_put_11 : decode cX2_put 11 = .ok (.ireturn, 1) := by decide +kernel
theorem dX2_put_12 : decode cX2_put 12 = .ok (.aload_n 0, 1) := by decide +kernel
theorem dX2_put_13 : decode cX2_put 13 = .ok (.getfield 15, 3) := by decide +kernel
theorem dX2_put_16 : decode cX2_put 16 = .ok (.iload_n 1, 1) := by decide +kernel
theorem dX2_put_17 : decode cX2_put 17 = .ok (.iload_n 2, 1) := by decide +kernel
theorem dX2_put_18 : decode cX2_put 18 = .ok (.iastore, 1) := by decide +kernel
theorem dX2_put_19 : decode cX2_put 19 = .ok (.iconst 1, 1) := by decide +kernel
theorem dX2_put_20 : decode cX2_put 20 = .ok (.ireturn, 1) := by decide +kernel
theorem dX2_latest_0 : decode cX2_latest 0 = .ok (.iload_n 1, 1) := by decide +kernel
theorem dX2_latest_1 : decode cX2_latest 1 = .ok (.tableswitch 42 0 2 #[27, 32, 37], 27) := by decide +kernel
theorem dX2_latest_28 : decode cX2_latest 28 = .ok (.aload_n 0, 1) := by decide +kernel
theorem dX2_latest_29 : decode cX2_latest 29 = .ok (.getfield 55, 3) := by decide +kernel
theorem dX2_latest_32 : decode cX2_latest 32 = .ok (.ireturn, 1) := by decide +kernel
theorem dX2_latest_33 : decode cX2_latest 33 = .ok (.aload_n 0, 1) := by decide +kernel
theorem dX2_latest_34 : decode cX2_latest 34 = .ok (.getfield 58, 3) := by decide +kernel
theorem dX2_latest_37 : decode cX2_latest 37 = .ok (.ireturn, 1) := by decide +kernel
theorem dX2_latest_38 : decode cX2_latest 38 = .ok (.aload_n 0, 1) := by decide +kernel
theorem dX2_latest_39 : decode cX2_latest 39 = .ok (.getfield 61, 3) := by decide +kernel
theorem dX2_latest_42 : decode cX2_latest 42 = .ok (.ireturn, 1) := by decide +kernel
theorem dX2_latest_43 : decode cX2_latest 43 = .ok (.aload_n 0, 1) := by decide +kernel
theorem dX2_latest_44 : decode cX2_latest 44 = .ok (.getfield 64, 3) := by decide +kernel
theorem dX2_latest_47 : decode cX2_latest 47 = .ok (.ireturn, 1) := by decide +kernel
theorem dX2_start_0 : decode cX2_start 0 = .ok (.aload_n 0, 1) := by decide +kernel
theorem dX2_start_1 : decode cX2_start 1 = .ok (.iconst 0, 1) := by decide +kernel
theorem dX2_start_2 : decode cX2_start 2 = .ok (.putfield 67, 3) := by decide +kernel
theorem dX2_start_5 : decode cX2_start 5 = .ok (.aload_n 0, 1) := by decide +kernel
theorem dX2_start_6 : decode cX2_start 6 = .ok (.iconst 0, 1) := by decide +kernel
theorem dX2_start_7 : decode cX2_start 7 = .ok (.putfield 70, 3) := by decide +kernel
theorem dX2_start_10 : decode cX2_start 10 = .ok (.aload_n 0, 1) := by decide +kernel
theorem dX2_start_11 : decode cX2_start 11 = .ok (.iload 5, 2) := by decide +kernel
theorem dX2_start_13 : decode cX2_start 13 = .ok (.putfield 73, 3) := by decide +kernel
theorem dX2_start_16 : decode cX2_start 16 = .ok (.aload_n 0, 1) := by decide +kernel
theorem dX2_start_17 : decode cX2_start 17 = .ok (.iconst 0, 1) := by decide +kernel
theorem dX2_start_18 : decode cX2_start 18 = .ok (.putfield 76, 3) := by decide +kernel
theorem dX2_start_21 : decode cX2_start 21 = .ok (.aload_n 0, 1) := by decide +kernel
theorem dX2_start_22 : decode cX2_start 22 = .ok (.iconst 0, 1) := by decide +kernel
theorem dX2_start_23 : decode cX2_start 23 = .ok (.putfield 55, 3) := by decide +kernel
theorem dX2_start_26 : decode cX2_start 26 = .ok (.aload_n 0, 1) := by decide +kernel
theorem dX2_start_27 : decode cX2_start 27 = .ok (.iconst 0, 1) := by decide +kernel
theorem dX2_start_28 : decode cX2_start 28 = .ok (.putfield 61, 3) := by decide +kernel
theorem dX2_start_31 : decode cX2_start 31 = .ok (.aload_n 0, 1) := by decide +kernel
theorem dX2_start_32 : decode cX2_start 32 = .ok (.bipush (-4), 2) := by decide +kernel
theorem dX2_start_34 : decode cX2_start 34 = .ok (.putfield 64, 3) := by decide +kernel
theorem dX2_start_37 : decode cX2_start 37 = .ok (.iconst 0, 1) := by decide +kernel
theorem dX2_start_38 : decode cX2_start 38 = .ok (.istore 6, 2) := by decide +kernel
theorem dX2_start_40 : decode cX2_start 40 = .ok (.iload 6, 2) := by decide +kernel
theorem dX2_start_42 : decode cX2_start 42 = .ok (.bipush 10, 2) := by decide +kernel
theorem dX2_start_44 : decode cX2_start 44 = .ok (.if_icmp .ge 25, 3) := by decide +kernel
theorem dX2_start_47 : decode cX2_start 47 = .ok (.aload_n 0, 1) := by decide +kernel
theorem dX2_start_48 : decode cX2_start 48 = .ok (.getfield 18, 3) := by decide +kernel
theorem dX2_start_51 : decode cX2_start 51 = .ok (.iload 6, 2) := by decide +kernel
theorem dX2_start_53 : decode cX2_start 53 = .ok (.aload_n 0, 1) := by decide +kernel
theorem dX2_start_54 : decode cX2_start 54 = .ok (.getfield 36, 3) := by decide +kernel
theorem dX2_start_57 : decode cX2_start 57 = .ok (.iload 6, 2) := by decide +kernel
theorem dX2_start_59 : decode cX2_start 59 = .ok (.invokevirtual 79, 3) := by decide +kernel
theorem dX2_start_62 : decode cX2_start 62 = .ok (.iastore, 1) := by decide +kernel
theorem dX2_start_63 : decode cX2_start 63 = .ok (.iinc 6 1, 3) := by decide +kernel
theorem dX2_start_66 : decode cX2_start 66 = .ok (.goto (-26), 3) := by decide +kernel
theorem dX2_start_69 : decode cX2_start 69 = .ok (.aload_n 0, 1) := by decide +kernel
theorem dX2_start_70 : decode cX2_start 70 = .ok (.getfield 36, 3) := by decide +kernel
theorem dX2_start_73 : decode cX2_start 73 = .ok (.iload_n 1, 1) := by decide +kernel
theorem dX2_start_74 : decode cX2_start 74 = .ok (.invokevirtual 84, 3) := by decide +kernel
theorem dX2_start_77 : decode cX2_start 77 = .ok (.ifCond .eq 13, 3) := by decide +kernel
theorem dX2_start_80 : decode cX2_start 80 = .ok (.aload_n 0, 1) := by decide +kernel
theorem dX2_start_81 : decode cX2_start 81 = .ok (.iconst 3, 1) := by decide +kernel
theorem dX2_start_82 : decode cX2_start 82 = .ok (.bipush (-4), 2) := by decide +kernel
theorem dX2_start_84 : decode cX2_start 84 = .ok (.invokevirtual 88, 3) := by decide +kernel
theorem dX2_start_87 : decode cX2_start 87 = .ok (.goto 32, 3) := by decide +kernel
theorem dX2_start_90 : decode cX2_start 90 = .ok (.aload_n 0, 1) := by decide +kernel
theorem dX2_start_91 : decode cX2_start 91 = .ok (.iconst (-1), 1) := by decide +kernel
theorem dX2_start_92 : decode cX2_start 92 = .ok (.aload_n 0, 1) := by decide +kernel
theorem dX2_start_93 : decode cX2_start 93 = .ok (.getfield 36, 3) := by decide +kernel
theorem dX2_start_96 : decode cX2_start 96 = .ok (.iload_n 1, 1) := by decide +kernel
theorem dX2_start_97 : decode cX2_start 97 = .ok (.invokevirtual 92, 3) := by decide +kernel
theorem dX2_start_100 : decode cX2_start 100 = .ok (.iload_n 2, 1) := by decide +kernel
theorem dX2_start_101 : decode cX2_start 101 = .ok (.iload_n 3, 1) := by decide +kernel
theorem dX2_start_102 : decode cX2_start 102 = .ok (.iload 4, 2) := by decide +kernel
theorem dX2_start_104 : decode cX2_start 104 = .ok (.invokevirtual 95, 3) := by decide +kernel
theorem dX2_start_107 : decode cX2_start 107 = .ok (.aload_n 0, 1) := by decide +kernel
theorem dX2_start_108 : decode cX2_start 108 = .ok (.aload_n 0, 1) := by decide +kernel
theorem dX2_start_109 : decode cX2_start 109 = .ok (.getfield 36, 3) := by decide +kernel
theorem dX2_start_112 : decode cX2_start 112 = .ok (.iload_n 1, 1) := by decide +kernel
theorem dX2_start_113 : decode cX2_start 113 = .ok (.invokevirtual 99, 3) := by decide +kernel
theorem dX2_start_116 : decode cX2_start 116 = .ok (.invokevirtual 102, 3) := by decide +kernel
theorem dX2_start_119 : decode cX2_start 119 = .ok (.iconst 0, 1) := by decide +kernel
theorem dX2_start_120 : decode cX2_start 120 = .ok (.istore 6, 2) := by decide +kernel
theorem dX2_start_122 : decode cX2_start 122 = .ok (.iload 6, 2) := by decide +kernel
theorem dX2_start_124 : decode cX2_start 124 = .ok (.ldc 106, 2) := by decide +kernel
theorem dX2_start_126 : decode cX2_start 126 = .ok (.if_icmp .ge 48, 3) := by decide +kernel
theorem dX2_start_129 : decode cX2_start 129 = .ok (.aload_n 0, 1) := by decide +kernel
theorem dX2_start_130 : decode cX2_start 130 = .ok (.getfield 67, 3) := by decide +kernel
theorem dX2_start_133 : decode cX2_start 133 = .ok (.ifCond .le 41, 3) := by decide +kernel
theorem dX2_start_136 : decode cX2_start 136 = .ok (.aload_n 0, 1) := by decide +kernel
theorem dX2_start_137 : decode cX2_start 137 = .ok (.getfield 76, 3) := by decide +kernel
theorem dX2_start_140 : decode cX2_start 140 = .ok (.ifCond .ne 34, 3) := by decide +kernel
theorem dX2_start_143 : decode cX2_start 143 = .ok (.aload_n 0, 1) := by decide +kernel
theorem dX2_start_144 : decode cX2_start 144 = .ok (.aload_n 0, 1) := by decide +kernel
theorem dX2_start_145 : decode cX2_start 145 = .ok (.getfield 67, 3) := by decide +kernel
theorem dX2_start_148 : decode cX2_start 148 = .ok (.iconst 1, 1) := by decide +kernel
theorem dX2_start_149 : decode cX2_start 149 = .ok (.isub, 1) := by decide +kernel
theorem dX2_start_150 : decode cX2_start 150 = .ok (.invokevirtual 107, 3) := by decide +kernel
theorem dX2_start_153 : decode cX2_start 153 = .ok (.istore 7, 2) := by decide +kernel
theorem dX2_start_155 : decode cX2_start 155 = .ok (.iload 7, 2) := by decide +kernel
theorem dX2_start_157 : decode cX2_start 157 = .ok (.bipush (-4), 2) := by decide +kernel
theorem dX2_start_159 : decode cX2_start 159 = .ok (.if_icmp .eq 9, 3) := by decide +kernel
theorem dX2_start_162 : decode cX2_start 162 = .ok (.aload_n 0, 1) := by decide +kernel
theorem dX2_start_163 : decode cX2_start 163 = .ok (.iload 7, 2) := by decide +kernel
theorem dX2_start_165 : decode cX2_start 165 = .ok (.invokevirtual 102, 3) := by decide +kernel
theorem dX2_start_168 : decode cX2_start 168 = .ok (.iinc 6 1, 3) := by decide +kernel
theorem dX2_start_171 : decode cX2_start 171 = .ok (.goto (-49), 3) := by decide +kernel
theorem dX2_start_174 : decode cX2_start 174 = .ok (.aload_n 0, 1) := by decide +kernel
theorem dX2_start_175 : decode cX2_start 175 = .ok (.iload 5, 2) := by decide +kernel
theorem dX2_start_177 : decode cX2_start 177 = .ok (.aload_n 0, 1) := by decide +kernel
theorem dX2_start_178 : decode cX2_start 178 = .ok (.getfield 73, 3) := by decide +kernel
theorem dX2_start_181 : decode cX2_start 181 = .ok (.isub, 1) := by decide +kernel
theorem dX2_start_182 : decode cX2_start 182 = .ok (.putfield 58, 3) := by decide +kernel
theorem dX2_start_185 : decode cX2_start 185 = .ok (.aload_n 0, 1) := by decide +kernel
theorem dX2_start_186 : decode cX2_start 186 = .ok (.dup, 1) := by decide +kernel
theorem dX2_start_187 : decode cX2_start 187 = .ok (.getfield 40, 3) := by decide +kernel
theorem dX2_start_190 : decode cX2_start 190 = .ok (.aload_n 0, 1) := by decide +kernel
theorem dX2_start_191 : decode cX2_start 191 = .ok (.getfield 58, 3) := by decide +kernel
theorem dX2_start_194 : decode cX2_start 194 = .ok (.iadd, 1) := by decide +kernel
theorem dX2_start_195 : decode cX2_start 195 = .ok (.putfield 40, 3) := by decide +kernel
theorem dX2_start_198 : decode cX2_start 198 = .ok (.aload_n 0, 1) := by decide +kernel
theorem dX2_start_199 : decode cX2_start 199 = .ok (.getfield 76, 3) := by decide +kernel
theorem dX2_start_202 : decode cX2_start 202 = .ok (.ireturn, 1) := by decide +kernel
theorem dX2_refuse_0 : decode cX2_refuse 0 = .ok (.aload_n 0, 1) := by decide +kernel
theorem dX2_refuse_1 : decode cX2_refuse 1 = .ok (.iload_n 1, 1) := by decide +kernel
theorem dX2_refuse_2 : decode cX2_refuse 2 = .ok (.putfield 76, 3) := by decide +kernel
theorem dX2_refuse_5 : decode cX2_refuse 5 = .ok (.aload_n 0, 1) := by decide +kernel
theorem dX2_refuse_6 : decode cX2_refuse 6 = .ok (.iload_n 2, 1) := by decide +kernel
theorem dX2_refuse_7 : decode cX2_refuse 7 = .ok (.putfield 64, 3) := by decide +kernel
theorem dX2_refuse_10 : decode cX2_refuse 10 = .ok (.return_, 1) := by decide +kernel
theorem dX2_pay_0 : decode cX2_pay 0 = .ok (.iload_n 2, 1) := by decide +kernel
theorem dX2_pay_1 : decode cX2_pay 1 = .ok (.aload_n 0, 1) := by decide +kernel
theorem dX2_pay_2 : decode cX2_pay 2 = .ok (.getfield 73, 3) := by decide +kernel
theorem dX2_pay_5 : decode cX2_pay 5 = .ok (.if_icmp .le 11, 3) := by decide +kernel
theorem dX2_pay_8 : decode cX2_pay 8 = .ok (.aload_n 0, 1) := by decide +kernel
theorem dX2_pay_9 : decode cX2_pay 9 = .ok (.iconst 4, 1) := by decide +kernel
theorem dX2_pay_10 : decode cX2_pay 10 = .ok (.iload_n 1, 1) := by decide +kernel
theorem dX2_pay_11 : decode cX2_pay 11 = .ok (.invokevirtual 88, 3) := by decide +kernel
theorem dX2_pay_14 : decode cX2_pay 14 = .ok (.iconst 0, 1) := by decide +kernel
theorem dX2_pay_15 : decode cX2_pay 15 = .ok (.ireturn, 1) := by decide +kernel
theorem dX2_pay_16 : decode cX2_pay 16 = .ok (.aload_n 0, 1) := by decide +kernel
theorem dX2_pay_17 : decode cX2_pay 17 = .ok (.dup, 1) := by decide +kernel
theorem dX2_pay_18 : decode cX2_pay 18 = .ok (.getfield 73, 3) := by decide +kernel
theorem dX2_pay_21 : decode cX2_pay 21 = .ok (.iload_n 2, 1) := by decide +kernel
theorem dX2_pay_22 : decode cX2_pay 22 = .ok (.isub, 1) := by decide +kernel
theorem dX2_pay_23 : decode cX2_pay 23 = .ok (.putfield 73, 3) := by decide +kernel
theorem dX2_pay_26 : decode cX2_pay 26 = .ok (.iconst 1, 1) := by decide +kernel
theorem dX2_pay_27 : decode cX2_pay 27 = .ok (.ireturn, 1) := by decide +kernel
theorem dX2_countOne_0 : decode cX2_countOne 0 = .ok (.iload_n 1, 1) := by decide +kernel
theorem dX2_countOne_1 : decode cX2_countOne 1 = .ok (.ifCond .lt 20, 3) := by decide +kernel
theorem dX2_countOne_4 : decode cX2_countOne 4 = .ok (.iload_n 1, 1) := by decide +kernel
theorem dX2_countOne_5 : decode cX2_countOne 5 = .ok (.sipush 600, 3) := by decide +kernel
theorem dX2_countOne_8 : decode cX2_countOne 8 = .ok (.if_icmp .ge 13, 3) := by decide +kernel
theorem dX2_countOne_11 : decode cX2_countOne 11 = .ok (.aload_n 0, 1) := by decide +kernel
theorem dX2_countOne_12 : decode cX2_countOne 12 = .ok (.getfield 9, 3) := by decide +kernel
theorem dX2_countOne_15 : decode cX2_countOne 15 = .ok (.iload_n 1, 1) := by decide +kernel
theorem dX2_countOne_16 : decode cX2_countOne 16 = .ok (.dup2, 1) := by decide +kernel
theorem dX2_countOne_17 : decode cX2_countOne 17 = .ok (.iaload, 1) := by decide +kernel
theorem dX2_countOne_18 : decode cX2_countOne 18 = .ok (.iconst 1, 1) := by decide +kernel
theorem dX2_countOne_19 : decode cX2_countOne 19 = .ok (.iadd, 1) := by decide +kernel
theorem dX2_countOne_20 : decode cX2_countOne 20 = .ok (.iastore, 1) := by decide +kernel
theorem dX2_countOne_21 : decode cX2_countOne 21 = .ok (.return_, 1) := by decide +kernel
theorem dX2_begin_0 : decode cX2_begin 0 = .ok (.aload_n 0, 1) := by decide +kernel
theorem dX2_begin_1 : decode cX2_begin 1 = .ok (.getfield 36, 3) := by decide +kernel
theorem dX2_begin_4 : decode cX2_begin 4 = .ok (.iload_n 1, 1) := by decide +kernel
theorem dX2_begin_5 : decode cX2_begin 5 = .ok (.invokevirtual 110, 3) := by decide +kernel
theorem dX2_begin_8 : decode cX2_begin 8 = .ok (.istore_n 2, 1) := by decide +kernel
theorem dX2_begin_9 : decode cX2_begin 9 = .ok (.iload_n 2, 1) := by decide +kernel
theorem dX2_begin_10 : decode cX2_begin 10 = .ok (.ifCond .lt 19, 3) := by decide +kernel
theorem dX2_begin_13 : decode cX2_begin 13 = .ok (.iload_n 2, 1) := by decide +kernel
theorem dX2_begin_14 : decode cX2_begin 14 = .ok (.getstatic 113, 3) := by decide +kernel
theorem dX2_begin_17 : decode cX2_begin 17 = .ok (.arraylength, 1) := by decide +kernel
theorem dX2_begin_18 : decode cX2_begin 18 = .ok (.if_icmp .ge 11, 3) := by decide +kernel
theorem dX2_begin_21 : decode cX2_begin 21 = .ok (.getstatic 113, 3) := by decide +kernel
theorem dX2_begin_24 : decode cX2_begin 24 = .ok (.iload_n 2, 1) := by decide +kernel
theorem dX2_begin_25 : decode cX2_begin 25 = .ok (.iaload, 1) := by decide +kernel
theorem dX2_begin_26 : decode cX2_begin 26 = .ok (.goto 4, 3) := by decide +kernel
theorem dX2_begin_29 : decode cX2_begin 29 = .ok (.iconst 0, 1) := by decide +kernel
theorem dX2_begin_30 : decode cX2_begin 30 = .ok (.istore_n 3, 1) := by decide +kernel
theorem dX2_begin_31 : decode cX2_begin 31 = .ok (.iload_n 2, 1) := by decide +kernel
theorem dX2_begin_32 : decode cX2_begin 32 = .ok (.bipush 6, 2) := by decide +kernel
theorem dX2_begin_34 : decode cX2_begin 34 = .ok (.if_icmp .eq 13, 3) := by decide +kernel
theorem dX2_begin_37 : decode cX2_begin 37 = .ok (.aload_n 0, 1) := by decide +kernel
theorem dX2_begin_38 : decode cX2_begin 38 = .ok (.iload_n 1, 1) := by decide +kernel
theorem dX2_begin_39 : decode cX2_begin 39 = .ok (.iload_n 3, 1) := by decide +kernel
theorem dX2_begin_40 : decode cX2_begin 40 = .ok (.invokevirtual 116, 3) := by decide +kernel
theorem dX2_begin_43 : decode cX2_begin 43 = .ok (.ifCond .ne 4, 3) := by decide +kernel
theorem dX2_begin_46 : decode cX2_begin 46 = .ok (.return_, 1) := by decide +kernel
theorem dX2_begin_47 : decode cX2_begin 47 = .ok (.iload_n 2, 1) := by decide +kernel
theorem dX2_begin_48 : decode cX2_begin 48 = .ok (.bipush 6, 2) := by decide +kernel
theorem dX2_begin_50 : decode cX2_begin 50 = .ok (.if_icmp .eq 8, 3) := by decide +kernel
theorem dX2_begin_53 : decode cX2_begin 53 = .ok (.aload_n 0, 1) := by decide +kernel
theorem dX2_begin_54 : decode cX2_begin 54 = .ok (.iload_n 1, 1) := by decide +kernel
theorem dX2_begin_55 : decode cX2_begin 55 = .ok (.invokevirtual 120, 3) := by decide +kernel
theorem dX2_begin_58 : decode cX2_begin 58 = .ok (.iload_n 2, 1) := by decide +kernel
theorem dX2_begin_59 : decode cX2_begin 59 = .ok (.ifCond .ne 18, 3) := by decide +kernel
theorem dX2_begin_62 : decode cX2_begin 62 = .ok (.aload_n 0, 1) := by decide +kernel
theorem dX2_begin_63 : decode cX2_begin 63 = .ok (.aload_n 0, 1) := by decide +kernel
theorem dX2_begin_64 : decode cX2_begin 64 = .ok (.getfield 36, 3) := by decide +kernel
theorem dX2_begin_67 : decode cX2_begin 67 = .ok (.iload_n 1, 1) := by decide +kernel
theorem dX2_begin_68 : decode cX2_begin 68 = .ok (.invokevirtual 123, 3) := by decide +kernel
theorem dX2_begin_71 : decode cX2_begin 71 = .ok (.invokevirtual 126, 3) := by decide +kernel
theorem dX2_begin_74 : decode cX2_begin 74 = .ok (.goto 76, 3) := by decide +kernel
theorem dX2_begin_77 : decode cX2_begin 77 = .ok (.iload_n 2, 1) := by decide +kernel
theorem dX2_begin_78 : decode cX2_begin 78 = .ok (.iconst 1, 1) := by decide +kernel
theorem dX2_begin_79 : decode cX2_begin 79 = .ok (.if_icmp .ne 22, 3) := by decide +kernel
theorem dX2_begin_82 : decode cX2_begin 82 = .ok (.aload_n 0, 1) := by decide +kernel
theorem dX2_begin_83 : decode cX2_begin 83 = .ok (.aload_n 0, 1) := by decide +kernel
theorem dX2_begin_84 : decode cX2_begin 84 = .ok (.aload_n 0, 1) := by decide +kernel
theorem dX2_begin_85 : decode cX2_begin 85 = .ok (.getfield 36, 3) := by decide +kernel
theorem dX2_begin_88 : decode cX2_begin 88 = .ok (.iload_n 1, 1) := by decide +kernel
theorem dX2_begin_89 : decode cX2_begin 89 = .ok (.invokevirtual 123, 3) := by decide +kernel
theorem dX2_begin_92 : decode cX2_begin 92 = .ok (.invokevirtual 129, 3) := by decide +kernel
theorem dX2_begin_95 : decode cX2_begin 95 = .ok (.invokevirtual 126, 3) := by decide +kernel
theorem dX2_begin_98 : decode cX2_begin 98 = .ok (.goto 52, 3) := by decide +kernel
theorem dX2_begin_101 : decode cX2_begin 101 = .ok (.aload_n 0, 1) := by decide +kernel
theorem dX2_begin_102 : decode cX2_begin 102 = .ok (.getfield 67, 3) := by decide +kernel
theorem dX2_begin_105 : decode cX2_begin 105 = .ok (.sipush 480, 3) := by decide +kernel
theorem dX2_begin_108 : decode cX2_begin 108 = .ok (.if_icmp .ge 36, 3) := by decide +kernel
theorem dX2_begin_111 : decode cX2_begin 111 = .ok (.aload_n 0, 1) := by decide +kernel
theorem dX2_begin_112 : decode cX2_begin 112 = .ok (.getfield 27, 3) := by decide +kernel
theorem dX2_begin_115 : decode cX2_begin 115 = .ok (.aload_n 0, 1) := by decide +kernel
theorem dX2_begin_116 : decode cX2_begin 116 = .ok (.getfield 67, 3) := by decide +kernel
theorem dX2_begin_119 : decode cX2_begin 119 = .ok (.iload_n 1, 1) := by decide +kernel
theorem dX2_begin_120 : decode cX2_begin 120 = .ok (.iastore, 1) := by decide +kernel
theorem dX2_begin_121 : decode cX2_begin 121 = .ok (.aload_n 0, 1) := by decide +kernel
theorem dX2_begin_122 : decode cX2_begin 122 = .ok (.getfield 30, 3) := by decide +kernel
theorem dX2_begin_125 : decode cX2_begin 125 = .ok (.aload_n 0, 1) := by decide +kernel
theorem dX2_begin_126 : decode cX2_begin 126 = .ok (.getfield 67, 3) := by decide +kernel
theorem dX2_begin_129 : decode cX2_begin 129 = .ok (.iconst 0, 1) := by decide +kernel
theorem dX2_begin_130 : decode cX2_begin 130 = .ok (.iastore, 1) := by decide +kernel
theorem dX2_begin_131 : decode cX2_begin 131 = .ok (.aload_n 0, 1) := by decide +kernel
theorem dX2_begin_132 : decode cX2_begin 132 = .ok (.dup, 1) := by decide +kernel
theorem dX2_begin_133 : decode cX2_begin 133 = .ok (.getfield 67, 3) := by decide +kernel
theorem dX2_begin_136 : decode cX2_begin 136 = .ok (.iconst 1, 1) := by decide +kernel
theorem dX2_begin_137 : decode cX2_begin 137 = .ok (.iadd, 1) := by decide +kernel
theorem dX2_begin_138 : decode cX2_begin 138 = .ok (.putfield 67, 3) := by decide +kernel
theorem dX2_begin_141 : decode cX2_begin 141 = .ok (.goto 9, 3) := by decide +kernel
theorem dX2_begin_144 : decode cX2_begin 144 = .ok (.aload_n 0, 1) := by decide +kernel
theorem dX2_begin_145 : decode cX2_begin 145 = .ok (.iconst 5, 1) := by decide +kernel
theorem dX2_begin_146 : decode cX2_begin 146 = .ok (.iload_n 1, 1) := by decide +kernel
theorem dX2_begin_147 : decode cX2_begin 147 = .ok (.invokevirtual 88, 3) := by decide +kernel
theorem dX2_begin_150 : decode cX2_begin 150 = .ok (.return_, 1) := by decide +kernel
theorem dX2_deliver_0 : decode cX2_deliver 0 = .ok (.aload_n 0, 1) := by decide +kernel
theorem dX2_deliver_1 : decode cX2_deliver 1 = .ok (.getfield 67, 3) := by decide +kernel
theorem dX2_deliver_4 : decode cX2_deliver 4 = .ok (.iconst 1, 1) := by decide +kernel
theorem dX2_deliver_5 : decode cX2_deliver 5 = .ok (.isub, 1) := by decide +kernel
theorem dX2_deliver_6 : decode cX2_deliver 6 = .ok (.istore_n 2, 1) := by decide +kernel
theorem dX2_deliver_7 : decode cX2_deliver 7 = .ok (.iload_n 2, 1) := by decide +kernel
theorem dX2_deliver_8 : decode cX2_deliver 8 = .ok (.ifCond .ge 11, 3) := by decide +kernel
theorem dX2_deliver_11 : decode cX2_deliver 11 = .ok (.aload_n 0, 1) := by decide +kernel
theorem dX2_deliver_12 : decode cX2_deliver 12 = .ok (.iload_n 1, 1) := by decide +kernel
theorem dX2_deliver_13 : decode cX2_deliver 13 = .ok (.putfield 55, 3) := by decide +kernel
theorem dX2_deliver_16 : decode cX2_deliver 16 = .ok (.goto 39, 3) := by decide +kernel
theorem dX2_deliver_19 : decode cX2_deliver 19 = .ok (.aload_n 0, 1) := by decide +kernel
theorem dX2_deliver_20 : decode cX2_deliver 20 = .ok (.getfield 30, 3) := by decide +kernel
