theorem dX9_comesUp_19 : decode cX9_comesUp 19 = .ok (.iaload, 1) := by decide +kernel
theorem dX9_comesUp_20 : decode cX9_comesUp 20 = .ok (.invokevirtual 117, 3) := by decide +kernel
theorem dX9_comesUp_23 : decode cX9_comesUp 23 = .ok (.ifCond .ne 5, 3) := by decide +kernel
theorem dX9_comesUp_26 : decode cX9_comesUp 26 = .ok (.iconst (-1), 1) := by decide +kernel
theorem dX9_comesUp_27 : decode cX9_comesUp 27 = .ok (.ireturn, 1) := by decide +kernel
theorem dX9_comesUp_28 : decode cX9_comesUp 28 = .ok (.iconst 0, 1) := by decide +kernel
theorem dX9_comesUp_29 : decode cX9_comesUp 29 = .ok (.istore 6, 2) := by decide +kernel
theorem dX9_comesUp_31 : decode cX9_comesUp 31 = .ok (.iload 6, 2) := by decide +kernel
theorem dX9_comesUp_33 : decode cX9_comesUp 33 = .ok (.iload 5, 2) := by decide +kernel
theorem dX9_comesUp_35 : decode cX9_comesUp 35 = .ok (.if_icmp .ge 28, 3) := by decide +kernel
theorem dX9_comesUp_38 : decode cX9_comesUp 38 = .ok (.aload_n 0, 1) := by decide +kernel
theorem dX9_comesUp_39 : decode cX9_comesUp 39 = .ok (.getfield 43, 3) := by decide +kernel
theorem dX9_comesUp_42 : decode cX9_comesUp 42 = .ok (.iload 5, 2) := by decide +kernel
theorem dX9_comesUp_44 : decode cX9_comesUp 44 = .ok (.iaload, 1) := by decide +kernel
theorem dX9_comesUp_45 : decode cX9_comesUp 45 = .ok (.aload_n 0, 1) := by decide +kernel
theorem dX9_comesUp_46 : decode cX9_comesUp 46 = .ok (.getfield 43, 3) := by decide +kernel
theorem dX9_comesUp_49 : decode cX9_comesUp 49 = .ok (.iload 6, 2) := by decide +kernel
theorem dX9_comesUp_51 : decode cX9_comesUp 51 = .ok (.iaload, 1) := by decide +kernel
theorem dX9_comesUp_52 : decode cX9_comesUp 52 = .ok (.if_icmp .ne 5, 3) := by decide +kernel
theorem dX9_comesUp_55 : decode cX9_comesUp 55 = .ok (.iconst (-1), 1) := by decide +kernel
theorem dX9_comesUp_56 : decode cX9_comesUp 56 = .ok (.ireturn, 1) := by decide +kernel
theorem dX9_comesUp_57 : decode cX9_comesUp 57 = .ok (.iinc 6 1, 3) := by decide +kernel
theorem dX9_comesUp_60 : decode cX9_comesUp 60 = .ok (.goto (-29), 3) := by decide +kernel
theorem dX9_comesUp_63 : decode cX9_comesUp 63 = .ok (.iinc 5 1, 3) := by decide +kernel
theorem dX9_comesUp_66 : decode cX9_comesUp 66 = .ok (.goto (-60), 3) := by decide +kernel
theorem dX9_comesUp_69 : decode cX9_comesUp 69 = .ok (.iconst 0, 1) := by decide +kernel
theorem dX9_comesUp_70 : decode cX9_comesUp 70 = .ok (.istore 5, 2) := by decide +kernel
theorem dX9_comesUp_72 : decode cX9_comesUp 72 = .ok (.iload 5, 2) := by decide +kernel
theorem dX9_comesUp_74 : decode cX9_comesUp 74 = .ok (.iload_n 3, 1) := by decide +kernel
theorem dX9_comesUp_75 : decode cX9_comesUp 75 = .ok (.if_icmp .ge 38, 3) := by decide +kernel
theorem dX9_comesUp_78 : decode cX9_comesUp 78 = .ok (.aload_n 0, 1) := by decide +kernel
theorem dX9_comesUp_79 : decode cX9_comesUp 79 = .ok (.aload_n 0, 1) := by decide +kernel
theorem dX9_comesUp_80 : decode cX9_comesUp 80 = .ok (.getfield 43, 3) := by decide +kernel
theorem dX9_comesUp_83 : decode cX9_comesUp 83 = .ok (.iload 5, 2) := by decide +kernel
theorem dX9_comesUp_85 : decode cX9_comesUp 85 = .ok (.iaload, 1) := by decide +kernel
theorem dX9_comesUp_86 : decode cX9_comesUp 86 = .ok (.invokevirtual 120, 3) := by decide +kernel
theorem dX9_comesUp_89 : decode cX9_comesUp 89 = .ok (.istore 6, 2) := by decide +kernel
theorem dX9_comesUp_91 : decode cX9_comesUp 91 = .ok (.iload 6, 2) := by decide +kernel
theorem dX9_comesUp_93 : decode cX9_comesUp 93 = .ok (.iload 4, 2) := by decide +kernel
theorem dX9_comesUp_95 : decode cX9_comesUp 95 = .ok (.if_icmp .le 8, 3) := by decide +kernel
theorem dX9_comesUp_98 : decode cX9_comesUp 98 = .ok (.iload 6, 2) := by decide +kernel
theorem dX9_comesUp_100 : decode cX9_comesUp 100 = .ok (.goto 5, 3) := by decide +kernel
theorem dX9_comesUp_103 : decode cX9_comesUp 103 = .ok (.iload 4, 2) := by decide +kernel
theorem dX9_comesUp_105 : decode cX9_comesUp 105 = .ok (.istore 4, 2) := by decide +kernel
theorem dX9_comesUp_107 : decode cX9_comesUp 107 = .ok (.iinc 5 1, 3) := by decide +kernel
theorem dX9_comesUp_110 : decode cX9_comesUp 110 = .ok (.goto (-38), 3) := by decide +kernel
theorem dX9_comesUp_113 : decode cX9_comesUp 113 = .ok (.aload_n 0, 1) := by decide +kernel
theorem dX9_comesUp_114 : decode cX9_comesUp 114 = .ok (.getfield 92, 3) := by decide +kernel
theorem dX9_comesUp_117 : decode cX9_comesUp 117 = .ok (.sipush 600, 3) := by decide +kernel
theorem dX9_comesUp_120 : decode cX9_comesUp 120 = .ok (.if_icmp .eq 10, 3) := by decide +kernel
theorem dX9_comesUp_123 : decode cX9_comesUp 123 = .ok (.iload 4, 2) := by decide +kernel
theorem dX9_comesUp_125 : decode cX9_comesUp 125 = .ok (.bipush 40, 2) := by decide +kernel
theorem dX9_comesUp_127 : decode cX9_comesUp 127 = .ok (.if_icmp .ne 6, 3) := by decide +kernel
theorem dX9_comesUp_130 : decode cX9_comesUp 130 = .ok (.bipush (-3), 2) := by decide +kernel
theorem dX9_comesUp_132 : decode cX9_comesUp 132 = .ok (.ireturn, 1) := by decide +kernel
theorem dX9_comesUp_133 : decode cX9_comesUp 133 = .ok (.aload_n 0, 1) := by decide +kernel
theorem dX9_comesUp_134 : decode cX9_comesUp 134 = .ok (.iload_n 1, 1) := by decide +kernel
theorem dX9_comesUp_135 : decode cX9_comesUp 135 = .ok (.iload_n 2, 1) := by decide +kernel
theorem dX9_comesUp_136 : decode cX9_comesUp 136 = .ok (.invokevirtual 123, 3) := by decide +kernel
theorem dX9_comesUp_139 : decode cX9_comesUp 139 = .ok (.istore 5, 2) := by decide +kernel
theorem dX9_comesUp_141 : decode cX9_comesUp 141 = .ok (.iconst 0, 1) := by decide +kernel
theorem dX9_comesUp_142 : decode cX9_comesUp 142 = .ok (.istore 6, 2) := by decide +kernel
theorem dX9_comesUp_144 : decode cX9_comesUp 144 = .ok (.iload 6, 2) := by decide +kernel
theorem dX9_comesUp_146 : decode cX9_comesUp 146 = .ok (.iload_n 3, 1) := by decide +kernel
theorem dX9_comesUp_147 : decode cX9_comesUp 147 = .ok (.if_icmp .ge 24, 3) := by decide +kernel
theorem dX9_comesUp_150 : decode cX9_comesUp 150 = .ok (.aload_n 0, 1) := by decide +kernel
theorem dX9_comesUp_151 : decode cX9_comesUp 151 = .ok (.iload 5, 2) := by decide +kernel
theorem dX9_comesUp_153 : decode cX9_comesUp 153 = .ok (.iload 6, 2) := by decide +kernel
theorem dX9_comesUp_155 : decode cX9_comesUp 155 = .ok (.aload_n 0, 1) := by decide +kernel
theorem dX9_comesUp_156 : decode cX9_comesUp 156 = .ok (.getfield 43, 3) := by decide +kernel
theorem dX9_comesUp_159 : decode cX9_comesUp 159 = .ok (.iload 6, 2) := by decide +kernel
theorem dX9_comesUp_161 : decode cX9_comesUp 161 = .ok (.iaload, 1) := by decide +kernel
theorem dX9_comesUp_162 : decode cX9_comesUp 162 = .ok (.invokevirtual 127, 3) := by decide +kernel
theorem dX9_comesUp_165 : decode cX9_comesUp 165 = .ok (.iinc 6 1, 3) := by decide +kernel
theorem dX9_comesUp_168 : decode cX9_comesUp 168 = .ok (.goto (-24), 3) := by decide +kernel
theorem dX9_comesUp_171 : decode cX9_comesUp 171 = .ok (.aload_n 0, 1) := by decide +kernel
theorem dX9_comesUp_172 : decode cX9_comesUp 172 = .ok (.iconst 0, 1) := by decide +kernel
theorem dX9_comesUp_173 : decode cX9_comesUp 173 = .ok (.putfield 131, 3) := by decide +kernel
theorem dX9_comesUp_176 : decode cX9_comesUp 176 = .ok (.iload 5, 2) := by decide +kernel
theorem dX9_comesUp_178 : decode cX9_comesUp 178 = .ok (.ireturn, 1) := by decide +kernel
theorem dX9_give_0 : decode cX9_give 0 = .ok (.aload_n 0, 1) := by decide +kernel
theorem dX9_give_1 : decode cX9_give 1 = .ok (.getfield 43, 3) := by decide +kernel
theorem dX9_give_4 : decode cX9_give 4 = .ok (.iconst 0, 1) := by decide +kernel
theorem dX9_give_5 : decode cX9_give 5 = .ok (.iload_n 1, 1) := by decide +kernel
theorem dX9_give_6 : decode cX9_give 6 = .ok (.iastore, 1) := by decide +kernel
theorem dX9_give_7 : decode cX9_give 7 = .ok (.aload_n 0, 1) := by decide +kernel
theorem dX9_give_8 : decode cX9_give 8 = .ok (.getfield 43, 3) := by decide +kernel
theorem dX9_give_11 : decode cX9_give 11 = .ok (.iconst 1, 1) := by decide +kernel
theorem dX9_give_12 : decode cX9_give 12 = .ok (.iload_n 2, 1) := by decide +kernel
theorem dX9_give_13 : decode cX9_give 13 = .ok (.iastore, 1) := by decide +kernel
theorem dX9_give_14 : decode cX9_give 14 = .ok (.aload_n 0, 1) := by decide +kernel
theorem dX9_give_15 : decode cX9_give 15 = .ok (.getfield 43, 3) := by decide +kernel
theorem dX9_give_18 : decode cX9_give 18 = .ok (.iconst 2, 1) := by decide +kernel
theorem dX9_give_19 : decode cX9_give 19 = .ok (.iload_n 3, 1) := by decide +kernel
theorem dX9_give_20 : decode cX9_give 20 = .ok (.iastore, 1) := by decide +kernel
theorem dX9_give_21 : decode cX9_give 21 = .ok (.return_, 1) := by decide +kernel
theorem dX9_number_0 : decode cX9_number 0 = .ok (.aload_n 0, 1) := by decide +kernel
theorem dX9_number_1 : decode cX9_number 1 = .ok (.iconst 0, 1) := by decide +kernel
theorem dX9_number_2 : decode cX9_number 2 = .ok (.iload_n 1, 1) := by decide +kernel
theorem dX9_number_3 : decode cX9_number 3 = .ok (.iconst 0, 1) := by decide +kernel
theorem dX9_number_4 : decode cX9_number 4 = .ok (.invokevirtual 134, 3) := by decide +kernel
theorem dX9_number_7 : decode cX9_number 7 = .ok (.ireturn, 1) := by decide +kernel
theorem dX9_name_0 : decode cX9_name 0 = .ok (.iload_n 1, 1) := by decide +kernel
theorem dX9_name_1 : decode cX9_name 1 = .ok (.i2l, 1) := by decide +kernel
theorem dX9_name_2 : decode cX9_name 2 = .ok (.lconst 0, 1) := by decide +kernel
theorem dX9_name_3 : decode cX9_name 3 = .ok (.ldc2_w 138, 3) := by decide +kernel
theorem dX9_name_6 : decode cX9_name 6 = .ok (.invokestatic 103, 3) := by decide +kernel
theorem dX9_name_9 : decode cX9_name 9 = .ok (.ifCond .eq 13, 3) := by decide +kernel
theorem dX9_name_12 : decode cX9_name 12 = .ok (.aload_n 0, 1) := by decide +kernel
theorem dX9_name_13 : decode cX9_name 13 = .ok (.iconst 1, 1) := by decide +kernel
theorem dX9_name_14 : decode cX9_name 14 = .ok (.iload_n 1, 1) := by decide +kernel
theorem dX9_name_15 : decode cX9_name 15 = .ok (.iconst 0, 1) := by decide +kernel
theorem dX9_name_16 : decode cX9_name 16 = .ok (.invokevirtual 134, 3) := by decide +kernel
theorem dX9_name_19 : decode cX9_name 19 = .ok (.goto 4, 3) := by decide +kernel
theorem dX9_name_22 : decode cX9_name 22 = .ok (.iconst (-1), 1) := by decide +kernel
theorem dX9_name_23 : decode cX9_name 23 = .ok (.ireturn, 1) := by decide +kernel
theorem dX9_act_0 : decode cX9_act 0 = .ok (.aload_n 0, 1) := by decide +kernel
theorem dX9_act_1 : decode cX9_act 1 = .ok (.iload_n 2, 1) := by decide +kernel
theorem dX9_act_2 : decode cX9_act 2 = .ok (.iload_n 3, 1) := by decide +kernel
theorem dX9_act_3 : decode cX9_act 3 = .ok (.bipush (-4), 2) := by decide +kernel
theorem dX9_act_5 : decode cX9_act 5 = .ok (.invokevirtual 140, 3) := by decide +kernel
theorem dX9_act_8 : decode cX9_act 8 = .ok (.iload_n 1, 1) := by decide +kernel
theorem dX9_act_9 : decode cX9_act 9 = .ok (.i2l, 1) := by decide +kernel
theorem dX9_act_10 : decode cX9_act 10 = .ok (.lconst 0, 1) := by decide +kernel
theorem dX9_act_11 : decode cX9_act 11 = .ok (.ldc2_w 143, 3) := by decide +kernel
theorem dX9_act_14 : decode cX9_act 14 = .ok (.invokestatic 103, 3) := by decide +kernel
theorem dX9_act_17 : decode cX9_act 17 = .ok (.ifCond .eq 13, 3) := by decide +kernel
theorem dX9_act_20 : decode cX9_act 20 = .ok (.aload_n 0, 1) := by decide +kernel
theorem dX9_act_21 : decode cX9_act 21 = .ok (.iconst 2, 1) := by decide +kernel
theorem dX9_act_22 : decode cX9_act 22 = .ok (.iload_n 1, 1) := by decide +kernel
theorem dX9_act_23 : decode cX9_act 23 = .ok (.iconst 2, 1) := by decide +kernel
theorem dX9_act_24 : decode cX9_act 24 = .ok (.invokevirtual 134, 3) := by decide +kernel
theorem dX9_act_27 : decode cX9_act 27 = .ok (.goto 4, 3) := by decide +kernel
theorem dX9_act_30 : decode cX9_act 30 = .ok (.iconst (-1), 1) := by decide +kernel
theorem dX9_act_31 : decode cX9_act 31 = .ok (.ireturn, 1) := by decide +kernel
theorem dX9_join_0 : decode cX9_join 0 = .ok (.iload_n 1, 1) := by decide +kernel
theorem dX9_join_1 : decode cX9_join 1 = .ok (.tableswitch 111 3 11 #[51, 111, 67, 111, 84, 67, 84, 67, 84], 51) := by decide +kernel
theorem dX9_join_52 : decode cX9_join 52 = .ok (.aload_n 0, 1) := by decide +kernel
theorem dX9_join_53 : decode cX9_join 53 = .ok (.iload_n 2, 1) := by decide +kernel
theorem dX9_join_54 : decode cX9_join 54 = .ok (.iload_n 3, 1) := by decide +kernel
theorem dX9_join_55 : decode cX9_join 55 = .ok (.iload 4, 2) := by decide +kernel
theorem dX9_join_57 : decode cX9_join 57 = .ok (.invokevirtual 140, 3) := by decide +kernel
theorem dX9_join_60 : decode cX9_join 60 = .ok (.aload_n 0, 1) := by decide +kernel
theorem dX9_join_61 : decode cX9_join 61 = .ok (.iload_n 1, 1) := by decide +kernel
theorem dX9_join_62 : decode cX9_join 62 = .ok (.iconst 0, 1) := by decide +kernel
theorem dX9_join_63 : decode cX9_join 63 = .ok (.iconst 3, 1) := by decide +kernel
theorem dX9_join_64 : decode cX9_join 64 = .ok (.invokevirtual 134, 3) := by decide +kernel
theorem dX9_join_67 : decode cX9_join 67 = .ok (.ireturn, 1) := by decide +kernel
theorem dX9_join_68 : decode cX9_join 68 = .ok (.aload_n 0, 1) := by decide +kernel
theorem dX9_join_69 : decode cX9_join 69 = .ok (.iload_n 3, 1) := by decide +kernel
theorem dX9_join_70 : decode cX9_join 70 = .ok (.iload 4, 2) := by decide +kernel
theorem dX9_join_72 : decode cX9_join 72 = .ok (.bipush (-4), 2) := by decide +kernel
theorem dX9_join_74 : decode cX9_join 74 = .ok (.invokevirtual 140, 3) := by decide +kernel
theorem dX9_join_77 : decode cX9_join 77 = .ok (.aload_n 0, 1) := by decide +kernel
theorem dX9_join_78 : decode cX9_join 78 = .ok (.iload_n 1, 1) := by decide +kernel
theorem dX9_join_79 : decode cX9_join 79 = .ok (.iconst 0, 1) := by decide +kernel
theorem dX9_join_80 : decode cX9_join 80 = .ok (.iconst 2, 1) := by decide +kernel
theorem dX9_join_81 : decode cX9_join 81 = .ok (.invokevirtual 134, 3) := by decide +kernel
theorem dX9_join_84 : decode cX9_join 84 = .ok (.ireturn, 1) := by decide +kernel
theorem dX9_join_85 : decode cX9_join 85 = .ok (.aload_n 0, 1) := by decide +kernel
theorem dX9_join_86 : decode cX9_join 86 = .ok (.iload_n 3, 1) := by decide +kernel
theorem dX9_join_87 : decode cX9_join 87 = .ok (.bipush (-4), 2) := by decide +kernel
theorem dX9_join_89 : decode cX9_join 89 = .ok (.bipush (-4), 2) := by decide +kernel
theorem dX9_join_91 : decode cX9_join 91 = .ok (.invokevirtual 140, 3) := by decide +kernel
theorem dX9_join_94 : decode cX9_join 94 = .ok (.iload_n 1, 1) := by decide +kernel
theorem dX9_join_95 : decode cX9_join 95 = .ok (.bipush 11, 2) := by decide +kernel
theorem dX9_join_97 : decode cX9_join 97 = .ok (.if_icmp .ne 7, 3) := by decide +kernel
theorem dX9_join_100 : decode cX9_join 100 = .ok (.iconst (-1), 1) := by decide +kernel
theorem dX9_join_101 : decode cX9_join 101 = .ok (.goto 10, 3) := by decide +kernel
theorem dX9_join_104 : decode cX9_join 104 = .ok (.aload_n 0, 1) := by decide +kernel
theorem dX9_join_105 : decode cX9_join 105 = .ok (.iload_n 1, 1) := by decide +kernel
theorem dX9_join_106 : decode cX9_join 106 = .ok (.iconst 0, 1) := by decide +kernel
theorem dX9_join_107 : decode cX9_join 107 = .ok (.iconst 1, 1) := by decide +kernel
theorem dX9_join_108 : decode cX9_join 108 = .ok (.invokevirtual 134, 3) := by decide +kernel
theorem dX9_join_111 : decode cX9_join 111 = .ok (.ireturn, 1) := by decide +kernel
theorem dX9_join_112 : decode cX9_join 112 = .ok (.iconst (-1), 1) := by decide +kernel
theorem dX9_join_113 : decode cX9_join 113 = .ok (.ireturn, 1) := by decide +kernel
theorem dX9_set_0 : decode cX9_set 0 = .ok (.aload_n 0, 1) := by decide +kernel
theorem dX9_set_1 : decode cX9_set 1 = .ok (.iload_n 2, 1) := by decide +kernel
theorem dX9_set_2 : decode cX9_set 2 = .ok (.bipush (-4), 2) := by decide +kernel
theorem dX9_set_4 : decode cX9_set 4 = .ok (.bipush (-4), 2) := by decide +kernel
theorem dX9_set_6 : decode cX9_set 6 = .ok (.invokevirtual 140, 3) := by decide +kernel
theorem dX9_set_9 : decode cX9_set 9 = .ok (.iload_n 1, 1) := by decide +kernel
theorem dX9_set_10 : decode cX9_set 10 = .ok (.i2l, 1) := by decide +kernel
theorem dX9_set_11 : decode cX9_set 11 = .ok (.lconst 0, 1) := by decide +kernel
theorem dX9_set_12 : decode cX9_set 12 = .ok (.ldc2_w 138, 3) := by decide +kernel
theorem dX9_set_15 : decode cX9_set 15 = .ok (.invokestatic 103, 3) := by decide +kernel
theorem dX9_set_18 : decode cX9_set 18 = .ok (.ifCond .eq 13, 3) := by decide +kernel
theorem dX9_set_21 : decode cX9_set 21 = .ok (.aload_n 0, 1) := by decide +kernel
theorem dX9_set_22 : decode cX9_set 22 = .ok (.iconst 4, 1) := by decide +kernel
theorem dX9_set_23 : decode cX9_set 23 = .ok (.iload_n 1, 1) := by decide +kernel
theorem dX9_set_24 : decode cX9_set 24 = .ok (.iconst 1, 1) := by decide +kernel
theorem dX9_set_25 : decode cX9_set 25 = .ok (.invokevirtual 134, 3) := by decide +kernel
theorem dX9_set_28 : decode cX9_set 28 = .ok (.goto 4, 3) := by decide +kernel
theorem dX9_set_31 : decode cX9_set 31 = .ok (.iconst (-1), 1) := by decide +kernel
theorem dX9_set_32 : decode cX9_set 32 = .ok (.ireturn, 1) := by decide +kernel
theorem dX9_call_0 : decode cX9_call 0 = .ok (.aload_n 0, 1) := by decide +kernel
theorem dX9_call_1 : decode cX9_call 1 = .ok (.iload_n 2, 1) := by decide +kernel
theorem dX9_call_2 : decode cX9_call 2 = .ok (.iload_n 3, 1) := by decide +kernel
theorem dX9_call_3 : decode cX9_call 3 = .ok (.iload 4, 2) := by decide +kernel
theorem dX9_call_5 : decode cX9_call 5 = .ok (.invokevirtual 140, 3) := by decide +kernel
theorem dX9_call_8 : decode cX9_call 8 = .ok (.aload_n 0, 1) := by decide +kernel
theorem dX9_call_9 : decode cX9_call 9 = .ok (.iload_n 1, 1) := by decide +kernel
theorem dX9_call_10 : decode cX9_call 10 = .ok (.invokevirtual 145, 3) := by decide +kernel
theorem dX9_call_13 : decode cX9_call 13 = .ok (.ifCond .eq 19, 3) := by decide +kernel
theorem dX9_call_16 : decode cX9_call 16 = .ok (.aload_n 0, 1) := by decide +kernel
theorem dX9_call_17 : decode cX9_call 17 = .ok (.bipush 6, 2) := by decide +kernel
theorem dX9_call_19 : decode cX9_call 19 = .ok (.iload_n 1, 1) := by decide +kernel
theorem dX9_call_20 : decode cX9_call 20 = .ok (.aload_n 0, 1) := by decide +kernel
theorem dX9_call_21 : decode cX9_call 21 = .ok (.getfield 25, 3) := by decide +kernel
theorem dX9_call_24 : decode cX9_call 24 = .ok (.iload_n 1, 1) := by decide +kernel
theorem dX9_call_25 : decode cX9_call 25 = .ok (.iaload, 1) := by decide +kernel
theorem dX9_call_26 : decode cX9_call 26 = .ok (.invokevirtual 134, 3) := by decide +kernel
theorem dX9_call_29 : decode cX9_call 29 = .ok (.goto 4, 3) := by decide +kernel
theorem dX9_call_32 : decode cX9_call 32 = .ok (.iconst (-1), 1) := by decide +kernel
theorem dX9_call_33 : decode cX9_call 33 = .ok (.ireturn, 1) := by decide +kernel
theorem dX9_routine_0 : decode cX9_routine 0 = .ok (.iload_n 1, 1) := by decide +kernel
theorem dX9_routine_1 : decode cX9_routine 1 = .ok (.i2l, 1) := by decide +kernel
theorem dX9_routine_2 : decode cX9_routine 2 = .ok (.lconst 0, 1) := by decide +kernel
theorem dX9_routine_3 : decode cX9_routine 3 = .ok (.ldc2_w 148, 3) := by decide +kernel
theorem dX9_routine_6 : decode cX9_routine 6 = .ok (.invokestatic 103, 3) := by decide +kernel
theorem dX9_routine_9 : decode cX9_routine 9 = .ok (.ifCond .ne 5, 3) := by decide +kernel
theorem dX9_routine_12 : decode cX9_routine 12 = .ok (.iconst (-1), 1) := by decide +kernel
theorem dX9_routine_13 : decode cX9_routine 13 = .ok (.ireturn, 1) := by decide +kernel
theorem dX9_routine_14 : decode cX9_routine 14 = .ok (.aload_n 0, 1) := by decide +kernel
theorem dX9_routine_15 : decode cX9_routine 15 = .ok (.getfield 107, 3) := by decide +kernel
theorem dX9_routine_18 : decode cX9_routine 18 = .ok (.bipush 10, 2) := by decide +kernel
theorem dX9_routine_20 : decode cX9_routine 20 = .ok (.if_icmp .ne 6, 3) := by decide +kernel
theorem dX9_routine_23 : decode cX9_routine 23 = .ok (.bipush (-3), 2) := by decide +kernel
theorem dX9_routine_25 : decode cX9_routine 25 = .ok (.ireturn, 1) := by decide +kernel
theorem dX9_routine_26 : decode cX9_routine 26 = .ok (.aload_n 0, 1) := by decide +kernel
theorem dX9_routine_27 : decode cX9_routine 27 = .ok (.getfield 25, 3) := by decide +kernel
theorem dX9_routine_30 : decode cX9_routine 30 = .ok (.aload_n 0, 1) := by decide +kernel
theorem dX9_routine_31 : decode cX9_routine 31 = .ok (.getfield 107, 3) := by decide +kernel
theorem dX9_routine_34 : decode cX9_routine 34 = .ok (.iload_n 1, 1) := by decide +kernel
theorem dX9_routine_35 : decode cX9_routine 35 = .ok (.iastore, 1) := by decide +kernel
theorem dX9_routine_36 : decode cX9_routine 36 = .ok (.aload_n 0, 1) := by decide +kernel
theorem dX9_routine_37 : decode cX9_routine 37 = .ok (.getfield 28, 3) := by decide +kernel
theorem dX9_routine_40 : decode cX9_routine 40 = .ok (.aload_n 0, 1) := by decide +kernel
theorem dX9_routine_41 : decode cX9_routine 41 = .ok (.getfield 107, 3) := by decide +kernel
theorem dX9_routine_44 : decode cX9_routine 44 = .ok (.bipush (-4), 2) := by decide +kernel
theorem dX9_routine_46 : decode cX9_routine 46 = .ok (.iastore, 1) := by decide +kernel
theorem dX9_routine_47 : decode cX9_routine 47 = .ok (.aload_n 0, 1) := by decide +kernel
theorem dX9_routine_48 : decode cX9_routine 48 = .ok (.dup, 1) := by decide +kernel
theorem dX9_routine_49 : decode cX9_routine 49 = .ok (.getfield 107, 3) := by decide +kernel
theorem dX9_routine_52 : decode cX9_routine 52 = .ok (.iconst 1, 1) := by decide +kernel
theorem dX9_routine_53 : decode cX9_routine 53 = .ok (.iadd, 1) := by decide +kernel
theorem dX9_routine_54 : decode cX9_routine 54 = .ok (.putfield 107, 3) := by decide +kernel
theorem dX9_routine_57 : decode cX9_routine 57 = .ok (.aload_n 0, 1) := by decide +kernel
theorem dX9_routine_58 : decode cX9_routine 58 = .ok (.iconst 0, 1) := by decide +kernel
theorem dX9_routine_59 : decode cX9_routine 59 = .ok (.putfield 131, 3) := by decide +kernel
theorem dX9_routine_62 : decode cX9_routine 62 = .ok (.aload_n 0, 1) := by decide +kernel
theorem dX9_routine_63 : decode cX9_routine 63 = .ok (.getfield 107, 3) := by decide +kernel
theorem dX9_routine_66 : decode cX9_routine 66 = .ok (.iconst 1, 1) := by decide +kernel
theorem dX9_routine_67 : decode cX9_routine 67 = .ok (.isub, 1) := by decide +kernel
theorem dX9_routine_68 : decode cX9_routine 68 = .ok (.ireturn, 1) := by decide +kernel
theorem dX9_body_0 : decode cX9_body 0 = .ok (.aload_n 0, 1) := by decide +kernel
theorem dX9_body_1 : decode cX9_body 1 = .ok (.iload_n 1, 1) := by decide +kernel
theorem dX9_body_2 : decode cX9_body 2 = .ok (.invokevirtual 145, 3) := by decide +kernel
theorem dX9_body_5 : decode cX9_body 5 = .ok (.ifCond .eq 16, 3) := by decide +kernel
theorem dX9_body_8 : decode cX9_body 8 = .ok (.iload_n 2, 1) := by decide +kernel
theorem dX9_body_9 : decode cX9_body 9 = .ok (.iconst (-1), 1) := by decide +kernel
theorem dX9_body_10 : decode cX9_body 10 = .ok (.if_icmp .eq 13, 3) := by decide +kernel
theorem dX9_body_13 : decode cX9_body 13 = .ok (.aload_n 0, 1) := by decide +kernel
theorem dX9_body_14 : decode cX9_body 14 = .ok (.iload_n 2, 1) := by decide +kernel
theorem dX9_body_15 : decode cX9_body 15 = .ok (.invokevirtual 117, 3) := by decide +kernel
theorem dX9_body_18 : decode cX9_body 18 = .ok (.ifCond .ne 5, 3) := by decide +kernel
theorem dX9_body_21 : decode cX9_body 21 = .ok (.iconst (-1), 1) := by decide +kernel
theorem dX9_body_22 : decode cX9_body 22 = .ok (.ireturn, 1) := by decide +kernel
theorem dX9_body_23 : decode cX9_body 23 = .ok (.aload_n 0, 1) := by decide +kernel
theorem dX9_body_24 : decode cX9_body 24 = .ok (.invokevirtual 150, 3) := by decide +kernel
theorem dX9_body_27 : decode cX9_body 27 = .ok (.aload_n 0, 1) := by decide +kernel
theorem dX9_body_28 : decode cX9_body 28 = .ok (.getfield 28, 3) := by decide +kernel
theorem dX9_body_31 : decode cX9_body 31 = .ok (.iload_n 1, 1) := by decide +kernel
theorem dX9_body_32 : decode cX9_body 32 = .ok (.iload_n 2, 1) := by decide +kernel
theorem dX9_body_33 : decode cX9_body 33 = .ok (.iconst (-1), 1) := by decide +kernel
theorem dX9_body_34 : decode cX9_body 34 = .ok (.if_icmp .ne 8, 3) := by decide +kernel
theorem dX9_body_37 : decode cX9_body 37 = .ok (.bipush (-4), 2) := by decide +kernel
theorem dX9_body_39 : decode cX9_body 39 = .ok (.goto 4, 3) := by decide +kernel
theorem dX9_body_42 : decode cX9_body 42 = .ok (.iload_n 2, 1) := by decide +kernel
theorem dX9_body_43 : decode cX9_body 43 = .ok (.iastore, 1) := by decide +kernel
theorem dX9_body_44 : decode cX9_body 44 = .ok (.aload_n 0, 1) := by decide +kernel
theorem dX9_body_45 : decode cX9_body 45 = .ok (.iload_n 1, 1) := by decide +kernel
theorem dX9_body_46 : decode cX9_body 46 = .ok (.invokevirtual 153, 3) := by decide +kernel
theorem dX9_body_49 : decode cX9_body 49 = .ok (.ireturn, 1) := by decide +kernel
theorem dX9_told_0 : decode cX9_told 0 = .ok (.iload_n 1, 1) := by decide +kernel
theorem dX9_told_1 : decode cX9_told 1 = .ok (.i2l, 1) := by decide +kernel
theorem dX9_told_2 : decode cX9_told 2 = .ok (.lconst 0, 1) := by decide +kernel
theorem dX9_told_3 : decode cX9_told 3 = .ok (.aload_n 0, 1) := by decide +kernel
theorem dX9_told_4 : decode cX9_told 4 = .ok (.getfield 92, 3) := by decide +kernel
theorem dX9_told_7 : decode cX9_told 7 = .ok (.iconst 1, 1) := by decide +kernel
theorem dX9_told_8 : decode cX9_told 8 = .ok (.isub, 1) := by decide +kernel
theorem dX9_told_9 : decode cX9_told 9 = .ok (.i2l, 1) := by decide +kernel
theorem dX9_told_10 : decode cX9_told 10 = .ok (.invokestatic 103, 3) := by decide +kernel
theorem dX9_told_13 : decode cX9_told 13 = .ok (.ifCond .eq 15, 3) := by decide +kernel
theorem dX9_told_16 : decode cX9_told 16 = .ok (.iload_n 2, 1) := by decide +kernel
theorem dX9_told_17 : decode cX9_told 17 = .ok (.i2l, 1) := by decide +kernel
theorem dX9_told_18 : decode cX9_told 18 = .ok (.lconst 0, 1) := by decide +kernel
theorem dX9_told_19 : decode cX9_told 19 = .ok (.ldc2_w 156, 3) := by decide +kernel
theorem dX9_told_22 : decode cX9_told 22 = .ok (.invokestatic 103, 3) := by decide +kernel
theorem dX9_told_25 : decode cX9_told 25 = .ok (.ifCond .ne 6, 3) := by decide +kernel
theorem dX9_told_28 : decode cX9_told 28 = .ok (.ldc 158, 2) := by decide +kernel
theorem dX9_told_30 : decode cX9_told 30 = .ok (.ireturn, 1) := by decide +kernel
theorem dX9_told_31 : decode cX9_told 31 = .ok (.aload_n 0, 1) := by decide +kernel
theorem dX9_told_32 : decode cX9_told 32 = .ok (.getfield 7, 3) := by decide +kernel
theorem dX9_told_35 : decode cX9_told 35 = .ok (.iload_n 1, 1) := by decide +kernel
theorem dX9_told_36 : decode cX9_told 36 = .ok (.iaload, 1) := by decide +kernel
theorem dX9_told_37 : decode cX9_told 37 = .ok (.iconst (-1), 1) := by decide +kernel
theorem dX9_told_38 : decode cX9_told 38 = .ok (.if_icmp .ne 29, 3) := by decide +kernel
theorem dX9_told_41 : decode cX9_told 41 = .ok (.iload_n 2, 1) := by decide +kernel
theorem dX9_told_42 : decode cX9_told 42 = .ok (.ifCond .ne 7, 3) := by decide +kernel
theorem dX9_told_45 : decode cX9_told 45 = .ok (.iconst (-1), 1) := by decide +kernel
theorem dX9_told_46 : decode cX9_told 46 = .ok (.goto 20, 3) := by decide +kernel
theorem dX9_told_49 : decode cX9_told 49 = .ok (.iload_n 2, 1) := by decide +kernel
theorem dX9_told_50 : decode cX9_told 50 = .ok (.iconst 1, 1) := by decide +kernel
theorem dX9_told_51 : decode cX9_told 51 = .ok (.if_icmp .eq 9, 3) := by decide +kernel
theorem dX9_told_54 : decode cX9_told 54 = .ok (.iload_n 2, 1) := by decide +kernel
theorem dX9_told_55 : decode cX9_told 55 = .ok (.bipush 6, 2) := by decide +kernel
theorem dX9_told_57 : decode cX9_told 57 = .ok (.if_icmp .le 7, 3) := by decide +kernel
theorem dX9_told_60 : decode cX9_told 60 = .ok (.iconst 0, 1) := by decide +kernel
theorem dX9_told_61 : decode cX9_told 61 = .ok (.goto 5, 3) := by decide +kernel
theorem dX9_told_64 : decode cX9_told 64 = .ok (.bipush (-4), 2) := by decide +kernel
theorem dX9_told_66 : decode cX9_told 66 = .ok (.ireturn, 1) := by decide +kernel
theorem dX9_told_67 : decode cX9_told 67 = .ok (.iload_n 2, 1) := by decide +kernel
theorem dX9_told_68 : decode cX9_told 68 = .ok (.tableswitch 92 0 8 #[52, 59, 92, 92, 92, 66, 73, 79, 86], 52) := by decide +kernel
theorem dX9_told_120 : decode cX9_told 120 = .ok (.aload_n 0, 1) := by decide +kernel
theorem dX9_told_121 : decode cX9_told 121 = .ok (.getfield 7, 3) := by decide +kernel
theorem dX9_told_124 : decode cX9_told 124 = .ok (.iload_n 1, 1) := by decide +kernel
theorem dX9_told_125 : decode cX9_told 125 = .ok (.iaload, 1) := by decide +kernel
theorem dX9_told_126 : decode cX9_told 126 = .ok (.ireturn, 1) := by decide +kernel
theorem dX9_told_127 : decode cX9_told 127 = .ok (.aload_n 0, 1) := by decide +kernel
theorem dX9_told_128 : decode cX9_told 128 = .ok (.getfield 13, 3) := by decide +kernel
theorem dX9_told_131 : decode cX9_told 131 = .ok (.iload_n 1, 1) := by decide +kernel
theorem dX9_told_132 : decode cX9_told 132 = .ok (.iaload, 1) := by decide +kernel
theorem dX9_told_133 : decode cX9_told 133 = .ok (.ireturn, 1) := by decide +kernel
theorem dX9_told_134 : decode cX9_told 134 = .ok (.aload_n 0, 1) := by decide +kernel
theorem dX9_told_135 : decode cX9_told 135 = .ok (.getfield 19, 3) := by decide +kernel
theorem dX9_told_138 : decode cX9_told 138 = .ok (.iload_n 1, 1) := by decide +kernel
theorem dX9_told_139 : decode cX9_told 139 = .ok (.iaload, 1) := by decide +kernel
theorem dX9_told_140 : decode cX9_told 140 = .ok (.ireturn, 1) := by decide +kernel
theorem dX9_told_141 : decode cX9_told 141 = .ok (.aload_n 0, 1) := by decide +kernel
theorem dX9_told_142 : decode cX9_told 142 = .ok (.iload_n 1, 1) := by decide +kernel
theorem dX9_told_143 : decode cX9_told 143 = .ok (.invokevirtual 159, 3) := by decide +kernel
theorem dX9_told_146 : decode cX9_told 146 = .ok (.ireturn, 1) := by decide +kernel
theorem dX9_told_147 : decode cX9_told 147 = .ok (.aload_n 0, 1) := by decide +kernel
theorem dX9_told_148 : decode cX9_told 148 = .ok (.getfield 22, 3) := by decide +kernel
theorem dX9_told_151 : decode cX9_told 151 = .ok (.iload_n 1, 1) := by decide +kernel
theorem dX9_told_152 : decode cX9_told 152 = .ok (.iaload, 1) := by decide +kernel
theorem dX9_told_153 : decode cX9_told 153 = .ok (.ireturn, 1) := by decide +kernel
theorem dX9_told_154 : decode cX9_told 154 = .ok (.aload_n 0, 1) := by decide +kernel
theorem dX9_told_155 : decode cX9_told 155 = .ok (.iload_n 1, 1) := by decide +kernel
theorem dX9_told_156 : decode cX9_told 156 = .ok (.invokevirtual 100, 3) := by decide +kernel
theorem dX9_told_159 : decode cX9_told 159 = .ok (.ireturn, 1) := by decide +kernel
theorem dX9_told_160 : decode cX9_told 160 = .ok (.iload_n 2, 1) := by decide +kernel
theorem dX9_told_161 : decode cX9_told 161 = .ok (.iconst 2, 1) := by decide +kernel
theorem dX9_told_162 : decode cX9_told 162 = .ok (.isub, 1) := by decide +kernel
theorem dX9_told_163 : decode cX9_told 163 = .ok (.aload_n 0, 1) := by decide +kernel
theorem dX9_told_164 : decode cX9_told 164 = .ok (.iload_n 1, 1) := by decide +kernel
theorem dX9_told_165 : decode cX9_told 165 = .ok (.invokevirtual 96, 3) := by decide +kernel
theorem dX9_told_168 : decode cX9_told 168 = .ok (.if_icmp .ge 18, 3) := by decide +kernel
theorem dX9_told_171 : decode cX9_told 171 = .ok (.aload_n 0, 1) := by decide +kernel
theorem dX9_told_172 : decode cX9_told 172 = .ok (.getfield 16, 3) := by decide +kernel
theorem dX9_told_175 : decode cX9_told 175 = .ok (.iconst 3, 1) := by decide +kernel
theorem dX9_told_176 : decode cX9_told 176 = .ok (.iload_n 1, 1) := by decide +kernel
theorem dX9_told_177 : decode cX9_told 177 = .ok (.imul, 1) := by decide +kernel
theorem dX9_told_178 : decode cX9_told 178 = .ok (.iload_n 2, 1) := by decide +kernel
theorem dX9_told_179 : decode cX9_told 179 = .ok (.iadd, 1) := by decide +kernel
theorem dX9_told_180 : decode cX9_told 180 = .ok (.iconst 2, 1) := by decide +kernel
theorem dX9_told_181 : decode cX9_told 181 = .ok (.isub, 1) := by decide +kernel
theorem dX9_told_182 : decode cX9_told 182 = .ok (.iaload, 1) := by decide +kernel
theorem dX9_told_183 : decode cX9_told 183 = .ok (.goto 5, 3) := by decide +kernel
theorem dX9_told_186 : decode cX9_told 186 = .ok (.bipush (-4), 2) := by decide +kernel
theorem dX9_told_188 : decode cX9_told 188 = .ok (.ireturn, 1) := by decide +kernel
theorem dX9_callsIn_0 : decode cX9_callsIn 0 = .ok (.aload_n 0, 1) := by decide +kernel
theorem dX9_callsIn_1 : decode cX9_callsIn 1 = .ok (.iload_n 1, 1) := by decide +kernel
theorem dX9_callsIn_2 : decode cX9_callsIn 2 = .ok (.invokevirtual 100, 3) := by decide +kernel
theorem dX9_callsIn_5 : decode cX9_callsIn 5 = .ok (.istore_n 3, 1) := by decide +kernel
theorem dX9_callsIn_6 : decode cX9_callsIn 6 = .ok (.iconst 0, 1) := by decide +kernel
theorem dX9_callsIn_7 : decode cX9_callsIn 7 = .ok (.istore 4, 2) := by decide +kernel
theorem dX9_callsIn_9 : decode cX9_callsIn 9 = .ok (.iconst 0, 1) := by decide +kernel
theorem dX9_callsIn_10 : decode cX9_callsIn 10 = .ok (.istore 5, 2) := by decide +kernel
theorem dX9_callsIn_12 : decode cX9_callsIn 12 = .ok (.iload 5, 2) := by decide +kernel
theorem dX9_callsIn_14 : decode cX9_callsIn 14 = .ok (.iload_n 3, 1) := by decide +kernel
theorem dX9_callsIn_15 : decode cX9_callsIn 15 = .ok (.if_icmp .ge 56, 3) := by decide +kernel
theorem dX9_callsIn_18 : decode cX9_callsIn 18 = .ok (.iload 4, 2) := by decide +kernel
theorem dX9_callsIn_20 : decode cX9_callsIn 20 = .ok (.aload_n 0, 1) := by decide +kernel
theorem dX9_callsIn_21 : decode cX9_callsIn 21 = .ok (.getfield 7, 3) := by decide +kernel
theorem dX9_callsIn_24 : decode cX9_callsIn 24 = .ok (.aload_n 0, 1) := by decide +kernel
theorem dX9_callsIn_25 : decode cX9_callsIn 25 = .ok (.getfield 34, 3) := by decide +kernel
theorem dX9_callsIn_28 : decode cX9_callsIn 28 = .ok (.iload 5, 2) := by decide +kernel
theorem dX9_callsIn_30 : decode cX9_callsIn 30 = .ok (.iaload, 1) := by decide +kernel
theorem dX9_callsIn_31 : decode cX9_callsIn 31 = .ok (.iaload, 1) := by decide +kernel
theorem dX9_callsIn_32 : decode cX9_callsIn 32 = .ok (.bipush 6, 2) := by decide +kernel
theorem dX9_callsIn_34 : decode cX9_callsIn 34 = .ok (.if_icmp .ne 27, 3) := by decide +kernel
theorem dX9_callsIn_37 : decode cX9_callsIn 37 = .ok (.iload_n 2, 1) := by decide +kernel
theorem dX9_callsIn_38 : decode cX9_callsIn 38 = .ok (.ifCond .lt 19, 3) := by decide +kernel
theorem dX9_callsIn_41 : decode cX9_callsIn 41 = .ok (.aload_n 0, 1) := by decide +kernel
theorem dX9_callsIn_42 : decode cX9_callsIn 42 = .ok (.getfield 13, 3) := by decide +kernel
theorem dX9_callsIn_45 : decode cX9_callsIn 45 = .ok (.aload_n 0, 1) := by decide +kernel
theorem dX9_callsIn_46 : decode cX9_callsIn 46 = .ok (.getfield 34, 3) := by decide +kernel
theorem dX9_callsIn_49 : decode cX9_callsIn 49 = .ok (.iload 5, 2) := by decide +kernel
theorem dX9_callsIn_51 : decode cX9_callsIn 51 = .ok (.iaload, 1) := by decide +kernel
theorem dX9_callsIn_52 : decode cX9_callsIn 52 = .ok (.iaload, 1) := by decide +kernel
theorem dX9_callsIn_53 : decode cX9_callsIn 53 = .ok (.iload_n 2, 1) := by decide +kernel
theorem dX9_callsIn_54 : decode cX9_callsIn 54 = .ok (.if_icmp .ne 7, 3) := by decide +kernel
theorem dX9_callsIn_57 : decode cX9_callsIn 57 = .ok (.iconst 1, 1) := by decide +kernel
theorem dX9_callsIn_58 : decode cX9_callsIn 58 = .ok (.goto 4, 3) := by decide +kernel
theorem dX9_callsIn_61 : decode cX9_callsIn 61 = .ok (.iconst 0, 1) := by decide +kernel
theorem dX9_callsIn_62 : decode cX9_callsIn 62 = .ok (.iadd, 1) := by decide +kernel
theorem dX9_callsIn_63 : decode cX9_callsIn 63 = .ok (.istore 4, 2) := by decide +kernel
theorem dX9_callsIn_65 : decode cX9_callsIn 65 = .ok (.iinc 5 1, 3) := by decide +kernel
theorem dX9_callsIn_68 : decode cX9_callsIn 68 = .ok (.goto (-56), 3) := by decide +kernel
theorem dX9_callsIn_71 : decode cX9_callsIn 71 = .ok (.iload 4, 2) := by decide +kernel
theorem dX9_callsIn_73 : decode cX9_callsIn 73 = .ok (.ireturn, 1) := by decide +kernel
theorem dX9_about_0 : decode cX9_about 0 = .ok (.aload_n 0, 1) := by decide +kernel
theorem dX9_about_1 : decode cX9_about 1 = .ok (.iload_n 1, 1) := by decide +kernel
theorem dX9_about_2 : decode cX9_about 2 = .ok (.invokevirtual 145, 3) := by decide +kernel
theorem dX9_about_5 : decode cX9_about 5 = .ok (.ifCond .ne 5, 3) := by decide +kernel
theorem dX9_about_8 : decode cX9_about 8 = .ok (.iconst (-1), 1) := by decide +kernel
theorem dX9_about_9 : decode cX9_about 9 = .ok (.ireturn, 1) := by decide +kernel
theorem dX9_about_10 : decode cX9_about 10 = .ok (.iload_n 2, 1) := by decide +kernel
theorem dX9_about_11 : decode cX9_about 11 = .ok (.tableswitch 163 0 5 #[37, 44, 51, 77, 83, 110], 37) := by decide +kernel
theorem dX9_about_48 : decode cX9_about 48 = .ok (.aload_n 0, 1) := by decide +kernel
theorem dX9_about_49 : decode cX9_about 49 = .ok (.getfield 25, 3) := by decide +kernel
theorem dX9_about_52 : decode cX9_about 52 = .ok (.iload_n 1, 1) := by decide +kernel
theorem dX9_about_53 : decode cX9_about 53 = .ok (.iaload, 1) := by decide +kernel
theorem dX9_about_54 : decode cX9_about 54 = .ok (.ireturn, 1) := by decide +kernel
theorem dX9_about_55 : decode cX9_about 55 = .ok (.aload_n 0, 1) := by decide +kernel
theorem dX9_about_56 : decode cX9_about 56 = .ok (.getfield 28, 3) := by decide +kernel
theorem dX9_about_59 : decode cX9_about 59 = .ok (.iload_n 1, 1) := by decide +kernel
theorem dX9_about_60 : decode cX9_about 60 = .ok (.iaload, 1) := by decide +kernel
theorem dX9_about_61 : decode cX9_about 61 = .ok (.ireturn, 1) := by decide +kernel
theorem dX9_about_62 : decode cX9_about 62 = .ok (.aload_n 0, 1) := by decide +kernel
theorem dX9_about_63 : decode cX9_about 63 = .ok (.getfield 28, 3) := by decide +kernel
theorem dX9_about_66 : decode cX9_about 66 = .ok (.iload_n 1, 1) := by decide +kernel
theorem dX9_about_67 : decode cX9_about 67 = .ok (.iaload, 1) := by decide +kernel
theorem dX9_about_68 : decode cX9_about 68 = .ok (.bipush (-4), 2) := by decide +kernel
theorem dX9_about_70 : decode cX9_about 70 = .ok (.if_icmp .ne 7, 3) := by decide +kernel
theorem dX9_about_73 : decode cX9_about 73 = .ok (.iconst 0, 1) := by decide +kernel
theorem dX9_about_74 : decode cX9_about 74 = .ok (.goto 13, 3) := by decide +kernel
theorem dX9_about_77 : decode cX9_about 77 = .ok (.aload_n 0, 1) := by decide +kernel
theorem dX9_about_78 : decode cX9_about 78 = .ok (.aload_n 0, 1) := by decide +kernel
theorem dX9_about_79 : decode cX9_about 79 = .ok (.getfield 28, 3) := by decide +kernel
theorem dX9_about_82 : decode cX9_about 82 = .ok (.iload_n 1, 1) := by decide +kernel
theorem dX9_about_83 : decode cX9_about 83 = .ok (.iaload, 1) := by decide +kernel
theorem dX9_about_84 : decode cX9_about 84 = .ok (.invokevirtual 100, 3) := by decide +kernel
theorem dX9_about_87 : decode cX9_about 87 = .ok (.ireturn, 1) := by decide +kernel
theorem dX9_about_88 : decode cX9_about 88 = .ok (.aload_n 0, 1) := by decide +kernel
theorem dX9_about_89 : decode cX9_about 89 = .ok (.iload_n 1, 1) := by decide +kernel
theorem dX9_about_90 : decode cX9_about 90 = .ok (.invokevirtual 153, 3) := by decide +kernel
theorem dX9_about_93 : decode cX9_about 93 = .ok (.ireturn, 1) := by decide +kernel
theorem dX9_about_94 : decode cX9_about 94 = .ok (.aload_n 0, 1) := by decide +kernel
theorem dX9_about_95 : decode cX9_about 95 = .ok (.getfield 28, 3) := by decide +kernel
theorem dX9_about_98 : decode cX9_about 98 = .ok (.iload_n 1, 1) := by decide +kernel
theorem dX9_about_99 : decode cX9_about 99 = .ok (.iaload, 1) := by decide +kernel
theorem dX9_about_100 : decode cX9_about 100 = .ok (.bipush (-4), 2) := by decide +kernel
theorem dX9_about_102 : decode cX9_about 102 = .ok (.if_icmp .ne 7, 3) := by decide +kernel
theorem dX9_about_105 : decode cX9_about 105 = .ok (.iconst 0, 1) := by decide +kernel
theorem dX9_about_106 : decode cX9_about 106 = .ok (.goto 14, 3) := by decide +kernel
theorem dX9_about_109 : decode cX9_about 109 = .ok (.aload_n 0, 1) := by decide +kernel
theorem dX9_about_110 : decode cX9_about 110 = .ok (.aload_n 0, 1) := by decide +kernel
theorem dX9_about_111 : decode cX9_about 111 = .ok (.getfield 28, 3) := by decide +kernel
theorem dX9_about_114 : decode cX9_about 114 = .ok (.iload_n 1, 1) := by decide +kernel
theorem dX9_about_115 : decode cX9_about 115 = .ok (.iaload, 1) := by decide +kernel
theorem dX9_about_116 : decode cX9_about 116 = .ok (.iconst (-1), 1) := by decide +kernel
theorem dX9_about_117 : decode cX9_about 117 = .ok (.invokevirtual 162, 3) := by decide +kernel
theorem dX9_about_120 : decode cX9_about 120 = .ok (.ireturn, 1) := by decide +kernel
theorem dX9_about_121 : decode cX9_about 121 = .ok (.iconst 0, 1) := by decide +kernel
theorem dX9_about_122 : decode cX9_about 122 = .ok (.istore_n 3, 1) := by decide +kernel
theorem dX9_about_123 : decode cX9_about 123 = .ok (.iconst 0, 1) := by decide +kernel
theorem dX9_about_124 : decode cX9_about 124 = .ok (.istore 4, 2) := by decide +kernel
theorem dX9_about_126 : decode cX9_about 126 = .ok (.iload 4, 2) := by decide +kernel
theorem dX9_about_128 : decode cX9_about 128 = .ok (.aload_n 0, 1) := by decide +kernel
theorem dX9_about_129 : decode cX9_about 129 = .ok (.getfield 107, 3) := by decide +kernel
theorem dX9_about_132 : decode cX9_about 132 = .ok (.if_icmp .ge 40, 3) := by decide +kernel
theorem dX9_about_135 : decode cX9_about 135 = .ok (.iload_n 3, 1) := by decide +kernel
theorem dX9_about_136 : decode cX9_about 136 = .ok (.aload_n 0, 1) := by decide +kernel
theorem dX9_about_137 : decode cX9_about 137 = .ok (.getfield 28, 3) := by decide +kernel
theorem dX9_about_140 : decode cX9_about 140 = .ok (.iload 4, 2) := by decide +kernel
theorem dX9_about_142 : decode cX9_about 142 = .ok (.iaload, 1) := by decide +kernel
theorem dX9_about_143 : decode cX9_about 143 = .ok (.bipush (-4), 2) := by decide +kernel
theorem dX9_about_145 : decode cX9_about 145 = .ok (.if_icmp .ne 7, 3) := by decide +kernel
theorem dX9_about_148 : decode cX9_about 148 = .ok (.iconst 0, 1) := by decide +kernel
theorem dX9_about_149 : decode cX9_about 149 = .ok (.goto 15, 3) := by decide +kernel
theorem dX9_about_152 : decode cX9_about 152 = .ok (.aload_n 0, 1) := by decide +kernel
theorem dX9_about_153 : decode cX9_about 153 = .ok (.aload_n 0, 1) := by decide +kernel
theorem dX9_about_154 : decode cX9_about 154 = .ok (.getfield 28, 3) := by decide +kernel
theorem dX9_about_157 : decode cX9_about 157 = .ok (.iload 4, 2) := by decide +kernel
theorem dX9_about_159 : decode cX9_about 159 = .ok (.iaload, 1) := by decide +kernel
theorem dX9_about_160 : decode cX9_about 160 = .ok (.iload_n 1, 1) := by decide +kernel
theorem dX9_about_161 : decode cX9_about 161 = .ok (.invokevirtual 162, 3) := by decide +kernel
theorem dX9_about_164 : decode cX9_about 164 = .ok (.iadd, 1) := by decide +kernel
theorem dX9_about_165 : decode cX9_about 165 = .ok (.istore_n 3, 1) := by decide +kernel
theorem dX9_about_166 : decode cX9_about 166 = .ok (.iinc 4 1, 3) := by decide +kernel
theorem dX9_about_169 : decode cX9_about 169 = .ok (.goto (-43), 3) := by decide +kernel
theorem dX9_about_172 : decode cX9_about 172 = .ok (.iload_n 3, 1) := by decide +kernel
theorem dX9_about_173 : decode cX9_about 173 = .ok (.ireturn, 1) := by decide +kernel
theorem dX9_about_174 : decode cX9_about 174 = .ok (.iconst (-1), 1) := by decide +kernel
theorem dX9_about_175 : decode cX9_about 175 = .ok (.ireturn, 1) := by decide +kernel
theorem dX9_same_0 : decode cX9_same 0 = .ok (.aload_n 0, 1) := by decide +kernel
theorem dX9_same_1 : decode cX9_same 1 = .ok (.iload_n 1, 1) := by decide +kernel
theorem dX9_same_2 : decode cX9_same 2 = .ok (.invokevirtual 110, 3) := by decide +kernel
theorem dX9_same_5 : decode cX9_same 5 = .ok (.ifCond .eq 11, 3) := by decide +kernel
theorem dX9_same_8 : decode cX9_same 8 = .ok (.aload_n 0, 1) := by decide +kernel
theorem dX9_same_9 : decode cX9_same 9 = .ok (.iload_n 2, 1) := by decide +kernel
theorem dX9_same_10 : decode cX9_same 10 = .ok (.invokevirtual 110, 3) := by decide +kernel
theorem dX9_same_13 : decode cX9_same 13 = .ok (.ifCond .ne 5, 3) := by decide +kernel
theorem dX9_same_16 : decode cX9_same 16 = .ok (.iconst (-1), 1) := by decide +kernel
theorem dX9_same_17 : decode cX9_same 17 = .ok (.ireturn, 1) := by decide +kernel
theorem dX9_same_18 : decode cX9_same 18 = .ok (.aload_n 0, 1) := by decide +kernel
theorem dX9_same_19 : decode cX9_same 19 = .ok (.iload_n 1, 1) := by decide +kernel
theorem dX9_same_20 : decode cX9_same 20 = .ok (.invokevirtual 100, 3) := by decide +kernel
theorem dX9_same_23 : decode cX9_same 23 = .ok (.istore_n 3, 1) := by decide +kernel
theorem dX9_same_24 : decode cX9_same 24 = .ok (.iconst 0, 1) := by decide +kernel
theorem dX9_same_25 : decode cX9_same 25 = .ok (.istore 4, 2) := by decide +kernel
theorem dX9_same_27 : decode cX9_same 27 = .ok (.iload 4, 2) := by decide +kernel
theorem dX9_same_29 : decode cX9_same 29 = .ok (.iload_n 3, 1) := by decide +kernel
theorem dX9_same_30 : decode cX9_same 30 = .ok (.if_icmp .ge 23, 3) := by decide +kernel
theorem dX9_same_33 : decode cX9_same 33 = .ok (.aload_n 0, 1) := by decide +kernel
theorem dX9_same_34 : decode cX9_same 34 = .ok (.getfield 46, 3) := by decide +kernel
theorem dX9_same_37 : decode cX9_same 37 = .ok (.iload 4, 2) := by decide +kernel
theorem dX9_same_39 : decode cX9_same 39 = .ok (.aload_n 0, 1) := by decide +kernel
theorem dX9_same_40 : decode cX9_same 40 = .ok (.getfield 34, 3) := by decide +kernel
theorem dX9_same_43 : decode cX9_same 43 = .ok (.iload 4, 2) := by decide +kernel
theorem dX9_same_45 : decode cX9_same 45 = .ok (.iaload, 1) := by decide +kernel
theorem dX9_same_46 : decode cX9_same 46 = .ok (.iastore, 1) := by decide +kernel
theorem dX9_same_47 : decode cX9_same 47 = .ok (.iinc 4 1, 3) := by decide +kernel
theorem dX9_same_50 : decode cX9_same 50 = .ok (.goto (-23), 3) := by decide +kernel
theorem dX9_same_53 : decode cX9_same 53 = .ok (.aload_n 0, 1) := by decide +kernel
theorem dX9_same_54 : decode cX9_same 54 = .ok (.iload_n 2, 1) := by decide +kernel
theorem dX9_same_55 : decode cX9_same 55 = .ok (.invokevirtual 100, 3) := by decide +kernel
theorem dX9_same_58 : decode cX9_same 58 = .ok (.iload_n 3, 1) := by decide +kernel
theorem dX9_same_59 : decode cX9_same 59 = .ok (.if_icmp .ne 7, 3) := by decide +kernel
theorem dX9_same_62 : decode cX9_same 62 = .ok (.iconst 1, 1) := by decide +kernel
theorem dX9_same_63 : decode cX9_same 63 = .ok (.goto 4, 3) := by decide +kernel
theorem dX9_same_66 : decode cX9_same 66 = .ok (.iconst 0, 1) := by decide +kernel
theorem dX9_same_67 : decode cX9_same 67 = .ok (.istore 4, 2) := by decide +kernel
theorem dX9_same_69 : decode cX9_same 69 = .ok (.iconst 0, 1) := by decide +kernel
theorem dX9_same_70 : decode cX9_same 70 = .ok (.istore 5, 2) := by decide +kernel
theorem dX9_same_72 : decode cX9_same 72 = .ok (.iload 5, 2) := by decide +kernel
theorem dX9_same_74 : decode cX9_same 74 = .ok (.iload_n 3, 1) := by decide +kernel
theorem dX9_same_75 : decode cX9_same 75 = .ok (.if_icmp .ge 75, 3) := by decide +kernel
theorem dX9_same_78 : decode cX9_same 78 = .ok (.iload 4, 2) := by decide +kernel
theorem dX9_same_80 : decode cX9_same 80 = .ok (.ifCond .eq 70, 3) := by decide +kernel
theorem dX9_same_83 : decode cX9_same 83 = .ok (.aload_n 0, 1) := by decide +kernel
theorem dX9_same_84 : decode cX9_same 84 = .ok (.getfield 7, 3) := by decide +kernel
theorem dX9_same_87 : decode cX9_same 87 = .ok (.aload_n 0, 1) := by decide +kernel
theorem dX9_same_88 : decode cX9_same 88 = .ok (.getfield 46, 3) := by decide +kernel
theorem dX9_same_91 : decode cX9_same 91 = .ok (.iload 5, 2) := by decide +kernel
theorem dX9_same_93 : decode cX9_same 93 = .ok (.iaload, 1) := by decide +kernel
theorem dX9_same_94 : decode cX9_same 94 = .ok (.iaload, 1) := by decide +kernel
theorem dX9_same_95 : decode cX9_same 95 = .ok (.aload_n 0, 1) := by decide +kernel
theorem dX9_same_96 : decode cX9_same 96 = .ok (.getfield 7, 3) := by decide +kernel
theorem dX9_same_99 : decode cX9_same 99 = .ok (.aload_n 0, 1) := by decide +kernel
theorem dX9_same_100 : decode cX9_same 100 = .ok (.getfield 34, 3) := by decide +kernel
theorem dX9_same_103 : decode cX9_same 103 = .ok (.iload 5, 2) := by decide +kernel
theorem dX9_same_105 : decode cX9_same 105 = .ok (.iaload, 1) := by decide +kernel
theorem dX9_same_106 : decode cX9_same 106 = .ok (.iaload, 1) := by decide +kernel
theorem dX9_same_107 : decode cX9_same 107 = .ok (.if_icmp .ne 34, 3) := by decide +kernel
theorem dX9_same_110 : decode cX9_same 110 = .ok (.aload_n 0, 1) := by decide +kernel
theorem dX9_same_111 : decode cX9_same 111 = .ok (.getfield 13, 3) := by decide +kernel
theorem dX9_same_114 : decode cX9_same 114 = .ok (.aload_n 0, 1) := by decide +kernel
theorem dX9_same_115 : decode cX9_same 115 = .ok (.getfield 46, 3) := by decide +kernel
theorem dX9_same_118 : decode cX9_same 118 = .ok (.iload 5, 2) := by decide +kernel
theorem dX9_same_120 : decode cX9_same 120 = .ok (.iaload, 1) := by decide +kernel
theorem dX9_same_121 : decode cX9_same 121 = .ok (.iaload, 1) := by decide +kernel
theorem dX9_same_122 : decode cX9_same 122 = .ok (.aload_n 0, 1) := by decide +kernel
theorem dX9_same_123 : decode cX9_same 123 = .ok (.getfield 13, 3) := by decide +kernel
theorem dX9_same_126 : decode cX9_same 126 = .ok (.aload_n 0, 1) := by decide +kernel
theorem dX9_same_127 : decode cX9_same 127 = .ok (.getfield 34, 3) := by decide +kernel
theorem dX9_same_130 : decode cX9_same 130 = .ok (.iload 5, 2) := by decide +kernel
theorem dX9_same_132 : decode cX9_same 132 = .ok (.iaload, 1) := by decide +kernel
theorem dX9_same_133 : decode cX9_same 133 = .ok (.iaload, 1) := by decide +kernel
theorem dX9_same_134 : decode cX9_same 134 = .ok (.if_icmp .ne 7, 3) := by decide +kernel
theorem dX9_same_137 : decode cX9_same 137 = .ok (.iconst 1, 1) := by decide +kernel
theorem dX9_same_138 : decode cX9_same 138 = .ok (.goto 4, 3) := by decide +kernel
theorem dX9_same_141 : decode cX9_same 141 = .ok (.iconst 0, 1) := by decide +kernel
theorem dX9_same_142 : decode cX9_same 142 = .ok (.istore 4, 2) := by decide +kernel
theorem dX9_same_144 : decode cX9_same 144 = .ok (.iinc 5 1, 3) := by decide +kernel
theorem dX9_same_147 : decode cX9_same 147 = .ok (.goto (-75), 3) := by decide +kernel
theorem dX9_same_150 : decode cX9_same 150 = .ok (.iload 4, 2) := by decide +kernel
theorem dX9_same_152 : decode cX9_same 152 = .ok (.ifCond .eq 7, 3) := by decide +kernel
theorem dX9_same_155 : decode cX9_same 155 = .ok (.iconst 1, 1) := by decide +kernel
theorem dX9_same_156 : decode cX9_same 156 = .ok (.goto 4, 3) := by decide +kernel
theorem dX9_same_159 : decode cX9_same 159 = .ok (.iconst 0, 1) := by decide +kernel
theorem dX9_same_160 : decode cX9_same 160 = .ok (.ireturn, 1) := by decide +kernel
theorem dX9_refuses_0 : decode cX9_refuses 0 = .ok (.aload_n 0, 1) := by decide +kernel
theorem dX9_refuses_1 : decode cX9_refuses 1 = .ok (.iload_n 1, 1) := by decide +kernel
theorem dX9_refuses_2 : decode cX9_refuses 2 = .ok (.putfield 165, 3) := by decide +kernel
theorem dX9_refuses_5 : decode cX9_refuses 5 = .ok (.aload_n 0, 1) := by decide +kernel
theorem dX9_refuses_6 : decode cX9_refuses 6 = .ok (.iload_n 2, 1) := by decide +kernel
theorem dX9_refuses_7 : decode cX9_refuses 7 = .ok (.putfield 168, 3) := by decide +kernel
theorem dX9_refuses_10 : decode cX9_refuses 10 = .ok (.aload_n 0, 1) := by decide +kernel
theorem dX9_refuses_11 : decode cX9_refuses 11 = .ok (.iconst 0, 1) := by decide +kernel
theorem dX9_refuses_12 : decode cX9_refuses 12 = .ok (.putfield 171, 3) := by decide +kernel
theorem dX9_refuses_15 : decode cX9_refuses 15 = .ok (.aload_n 0, 1) := by decide +kernel
theorem dX9_refuses_16 : decode cX9_refuses 16 = .ok (.iconst 1, 1) := by decide +kernel
theorem dX9_refuses_17 : decode cX9_refuses 17 = .ok (.putfield 174, 3) := by decide +kernel
theorem dX9_refuses_20 : decode cX9_refuses 20 = .ok (.return_, 1) := by decide +kernel
theorem dX9_pays_0 : decode cX9_pays 0 = .ok (.iload_n 1, 1) := by decide +kernel
theorem dX9_pays_1 : decode cX9_pays 1 = .ok (.aload_n 0, 1) := by decide +kernel
theorem dX9_pays_2 : decode cX9_pays 2 = .ok (.getfield 178, 3) := by decide +kernel
theorem dX9_pays_5 : decode cX9_pays 5 = .ok (.if_icmp .le 11, 3) := by decide +kernel
theorem dX9_pays_8 : decode cX9_pays 8 = .ok (.aload_n 0, 1) := by decide +kernel
theorem dX9_pays_9 : decode cX9_pays 9 = .ok (.iconst 4, 1) := by decide +kernel
theorem dX9_pays_10 : decode cX9_pays 10 = .ok (.iload_n 2, 1) := by decide +kernel
theorem dX9_pays_11 : decode cX9_pays 11 = .ok (.invokevirtual 181, 3) := by decide +kernel
theorem dX9_pays_14 : decode cX9_pays 14 = .ok (.iconst 0, 1) := by decide +kernel
theorem dX9_pays_15 : decode cX9_pays 15 = .ok (.ireturn, 1) := by decide +kernel
theorem dX9_pays_16 : decode cX9_pays 16 = .ok (.aload_n 0, 1) := by decide +kernel
theorem dX9_pays_17 : decode cX9_pays 17 = .ok (.dup, 1) := by decide +kernel
theorem dX9_pays_18 : decode cX9_pays 18 = .ok (.getfield 178, 3) := by decide +kernel
theorem dX9_pays_21 : decode cX9_pays 21 = .ok (.iload_n 1, 1) := by decide +kernel
theorem dX9_pays_22 : decode cX9_pays 22 = .ok (.isub, 1) := by decide +kernel
theorem dX9_pays_23 : decode cX9_pays 23 = .ok (.putfield 178, 3) := by decide +kernel
theorem dX9_pays_26 : decode cX9_pays 26 = .ok (.aload_n 0, 1) := by decide +kernel
theorem dX9_pays_27 : decode cX9_pays 27 = .ok (.dup, 1) := by decide +kernel
theorem dX9_pays_28 : decode cX9_pays 28 = .ok (.getfield 185, 3) := by decide +kernel
theorem dX9_pays_31 : decode cX9_pays 31 = .ok (.iload_n 1, 1) := by decide +kernel
theorem dX9_pays_32 : decode cX9_pays 32 = .ok (.iadd, 1) := by decide +kernel
theorem dX9_pays_33 : decode cX9_pays 33 = .ok (.putfield 185, 3) := by decide +kernel
theorem dX9_pays_36 : decode cX9_pays 36 = .ok (.iconst 1, 1) := by decide +kernel
theorem dX9_pays_37 : decode cX9_pays 37 = .ok (.ireturn, 1) := by decide +kernel
theorem dX9_costOf_0 : decode cX9_costOf 0 = .ok (.iload_n 0, 1) := by decide +kernel
theorem dX9_costOf_1 : decode cX9_costOf 1 = .ok (.ifCond .eq 25, 3) := by decide +kernel
theorem dX9_costOf_4 : decode cX9_costOf 4 = .ok (.iload_n 0, 1) := by decide +kernel
theorem dX9_costOf_5 : decode cX9_costOf 5 = .ok (.iconst 1, 1) := by decide +kernel
theorem dX9_costOf_6 : decode cX9_costOf 6 = .ok (.if_icmp .eq 20, 3) := by decide +kernel
theorem dX9_costOf_9 : decode cX9_costOf 9 = .ok (.iload_n 0, 1) := by decide +kernel
theorem dX9_costOf_10 : decode cX9_costOf 10 = .ok (.iconst 5, 1) := by decide +kernel
theorem dX9_costOf_11 : decode cX9_costOf 11 = .ok (.if_icmp .eq 15, 3) := by decide +kernel
theorem dX9_costOf_14 : decode cX9_costOf 14 = .ok (.iload_n 0, 1) := by decide +kernel
theorem dX9_costOf_15 : decode cX9_costOf 15 = .ok (.bipush 11, 2) := by decide +kernel
theorem dX9_costOf_17 : decode cX9_costOf 17 = .ok (.if_icmp .eq 9, 3) := by decide +kernel
theorem dX9_costOf_20 : decode cX9_costOf 20 = .ok (.iload_n 0, 1) := by decide +kernel
theorem dX9_costOf_21 : decode cX9_costOf 21 = .ok (.bipush 6, 2) := by decide +kernel
theorem dX9_costOf_23 : decode cX9_costOf 23 = .ok (.if_icmp .ne 7, 3) := by decide +kernel
theorem dX9_costOf_26 : decode cX9_costOf 26 = .ok (.iconst 0, 1) := by decide +kernel
theorem dX9_costOf_27 : decode cX9_costOf 27 = .ok (.goto 4, 3) := by decide +kernel
theorem dX9_costOf_30 : decode cX9_costOf 30 = .ok (.iconst 1, 1) := by decide +kernel
theorem dX9_costOf_31 : decode cX9_costOf 31 = .ok (.ireturn, 1) := by decide +kernel
theorem dX9_begins_0 : decode cX9_begins 0 = .ok (.aload_n 0, 1) := by decide +kernel
theorem dX9_begins_1 : decode cX9_begins 1 = .ok (.aload_n 0, 1) := by decide +kernel
theorem dX9_begins_2 : decode cX9_begins 2 = .ok (.getfield 7, 3) := by decide +kernel
theorem dX9_begins_5 : decode cX9_begins 5 = .ok (.iload_n 1, 1) := by decide +kernel
theorem dX9_begins_6 : decode cX9_begins 6 = .ok (.iaload, 1) := by decide +kernel
theorem dX9_begins_7 : decode cX9_begins 7 = .ok (.invokestatic 188, 3) := by decide +kernel
theorem dX9_begins_10 : decode cX9_begins 10 = .ok (.iload_n 1, 1) := by decide +kernel
theorem dX9_begins_11 : decode cX9_begins 11 = .ok (.invokevirtual 191, 3) := by decide +kernel
theorem dX9_begins_14 : decode cX9_begins 14 = .ok (.ifCond .ne 4, 3) := by decide +kernel
theorem dX9_begins_17 : decode cX9_begins 17 = .ok (.return_, 1) := by decide +kernel
theorem dX9_begins_18 : decode cX9_begins 18 = .ok (.aload_n 0, 1) := by decide +kernel
theorem dX9_begins_19 : decode cX9_begins 19 = .ok (.getfield 22, 3) := by decide +kernel
theorem dX9_begins_22 : decode cX9_begins 22 = .ok (.iload_n 1, 1) := by decide +kernel
theorem dX9_begins_23 : decode cX9_begins 23 = .ok (.dup2, 1) := by decide +kernel
theorem dX9_begins_24 : decode cX9_begins 24 = .ok (.iaload, 1) := by decide +kernel
theorem dX9_begins_25 : decode cX9_begins 25 = .ok (.aload_n 0, 1) := by decide +kernel
theorem dX9_begins_26 : decode cX9_begins 26 = .ok (.getfield 7, 3) := by decide +kernel
theorem dX9_begins_29 : decode cX9_begins 29 = .ok (.iload_n 1, 1) := by decide +kernel
theorem dX9_begins_30 : decode cX9_begins 30 = .ok (.iaload, 1) := by decide +kernel
theorem dX9_begins_31 : decode cX9_begins 31 = .ok (.bipush 6, 2) := by decide +kernel
theorem dX9_begins_33 : decode cX9_begins 33 = .ok (.if_icmp .ne 7, 3) := by decide +kernel
theorem dX9_begins_36 : decode cX9_begins 36 = .ok (.iconst 0, 1) := by decide +kernel
theorem dX9_begins_37 : decode cX9_begins 37 = .ok (.goto 4, 3) := by decide +kernel
theorem dX9_begins_40 : decode cX9_begins 40 = .ok (.iconst 1, 1) := by decide +kernel
theorem dX9_begins_41 : decode cX9_begins 41 = .ok (.iadd, 1) := by decide +kernel
theorem dX9_begins_42 : decode cX9_begins 42 = .ok (.iastore, 1) := by decide +kernel
theorem dX9_begins_43 : decode cX9_begins 43 = .ok (.aload_n 0, 1) := by decide +kernel
theorem dX9_begins_44 : decode cX9_begins 44 = .ok (.getfield 49, 3) := by decide +kernel
theorem dX9_begins_47 : decode cX9_begins 47 = .ok (.aload_n 0, 1) := by decide +kernel
theorem dX9_begins_48 : decode cX9_begins 48 = .ok (.getfield 195, 3) := by decide +kernel
theorem dX9_begins_51 : decode cX9_begins 51 = .ok (.iload_n 1, 1) := by decide +kernel
theorem dX9_begins_52 : decode cX9_begins 52 = .ok (.iastore, 1) := by decide +kernel
theorem dX9_begins_53 : decode cX9_begins 53 = .ok (.aload_n 0, 1) := by decide +kernel
theorem dX9_begins_54 : decode cX9_begins 54 = .ok (.getfield 52, 3) := by decide +kernel
theorem dX9_begins_57 : decode cX9_begins 57 = .ok (.aload_n 0, 1) := by decide +kernel
theorem dX9_begins_58 : decode cX9_begins 58 = .ok (.getfield 195, 3) := by decide +kernel
theorem dX9_begins_61 : decode cX9_begins 61 = .ok (.iconst 0, 1) := by decide +kernel
theorem dX9_begins_62 : decode cX9_begins 62 = .ok (.iastore, 1) := by decide +kernel
theorem dX9_begins_63 : decode cX9_begins 63 = .ok (.aload_n 0, 1) := by decide +kernel
theorem dX9_begins_64 : decode cX9_begins 64 = .ok (.getfield 58, 3) := by decide +kernel
theorem dX9_begins_67 : decode cX9_begins 67 = .ok (.aload_n 0, 1) := by decide +kernel
theorem dX9_begins_68 : decode cX9_begins 68 = .ok (.getfield 195, 3) := by decide +kernel
theorem dX9_begins_71 : decode cX9_begins 71 = .ok (.aload_n 0, 1) := by decide +kernel
theorem dX9_begins_72 : decode cX9_begins 72 = .ok (.getfield 198, 3) := by decide +kernel
theorem dX9_begins_75 : decode cX9_begins 75 = .ok (.iastore, 1) := by decide +kernel
theorem dX9_begins_76 : decode cX9_begins 76 = .ok (.aload_n 0, 1) := by decide +kernel
theorem dX9_begins_77 : decode cX9_begins 77 = .ok (.dup, 1) := by decide +kernel
theorem dX9_begins_78 : decode cX9_begins 78 = .ok (.getfield 195, 3) := by decide +kernel
theorem dX9_begins_81 : decode cX9_begins 81 = .ok (.iconst 1, 1) := by decide +kernel
theorem dX9_begins_82 : decode cX9_begins 82 = .ok (.iadd, 1) := by decide +kernel
theorem dX9_begins_83 : decode cX9_begins 83 = .ok (.putfield 195, 3) := by decide +kernel
theorem dX9_begins_86 : decode cX9_begins 86 = .ok (.return_, 1) := by decide +kernel
theorem dX9_ends_0 : decode cX9_ends 0 = .ok (.aload_n 0, 1) := by decide +kernel
theorem dX9_ends_1 : decode cX9_ends 1 = .ok (.dup, 1) := by decide +kernel
theorem dX9_ends_2 : decode cX9_ends 2 = .ok (.getfield 195, 3) := by decide +kernel
theorem dX9_ends_5 : decode cX9_ends 5 = .ok (.iconst 1, 1) := by decide +kernel
theorem dX9_ends_6 : decode cX9_ends 6 = .ok (.isub, 1) := by decide +kernel
theorem dX9_ends_7 : decode cX9_ends 7 = .ok (.putfield 195, 3) := by decide +kernel
theorem dX9_ends_10 : decode cX9_ends 10 = .ok (.aload_n 0, 1) := by decide +kernel
theorem dX9_ends_11 : decode cX9_ends 11 = .ok (.getfield 195, 3) := by decide +kernel
theorem dX9_ends_14 : decode cX9_ends 14 = .ok (.ifCond .ne 14, 3) := by decide +kernel
theorem dX9_ends_17 : decode cX9_ends 17 = .ok (.aload_n 0, 1) := by decide +kernel
theorem dX9_ends_18 : decode cX9_ends 18 = .ok (.iload_n 1, 1) := by decide +kernel
theorem dX9_ends_19 : decode cX9_ends 19 = .ok (.putfield 171, 3) := by decide +kernel
theorem dX9_ends_22 : decode cX9_ends 22 = .ok (.aload_n 0, 1) := by decide +kernel
theorem dX9_ends_23 : decode cX9_ends 23 = .ok (.iconst 1, 1) := by decide +kernel
theorem dX9_ends_24 : decode cX9_ends 24 = .ok (.putfield 174, 3) := by decide +kernel
theorem dX9_ends_27 : decode cX9_ends 27 = .ok (.return_, 1) := by decide +kernel
theorem dX9_ends_28 : decode cX9_ends 28 = .ok (.aload_n 0, 1) := by decide +kernel
theorem dX9_ends_29 : decode cX9_ends 29 = .ok (.getfield 195, 3) := by decide +kernel
theorem dX9_ends_32 : decode cX9_ends 32 = .ok (.iconst 1, 1) := by decide +kernel
theorem dX9_ends_33 : decode cX9_ends 33 = .ok (.isub, 1) := by decide +kernel
theorem dX9_ends_34 : decode cX9_ends 34 = .ok (.istore_n 2, 1) := by decide +kernel
theorem dX9_ends_35 : decode cX9_ends 35 = .ok (.aload_n 0, 1) := by decide +kernel
theorem dX9_ends_36 : decode cX9_ends 36 = .ok (.getfield 52, 3) := by decide +kernel
theorem dX9_ends_39 : decode cX9_ends 39 = .ok (.iload_n 2, 1) := by decide +kernel
theorem dX9_ends_40 : decode cX9_ends 40 = .ok (.iaload, 1) := by decide +kernel
theorem dX9_ends_41 : decode cX9_ends 41 = .ok (.bipush 9, 2) := by decide +kernel
theorem dX9_ends_43 : decode cX9_ends 43 = .ok (.if_icmp .ne 19, 3) := by decide +kernel
theorem dX9_ends_46 : decode cX9_ends 46 = .ok (.aload_n 0, 1) := by decide +kernel
theorem dX9_ends_47 : decode cX9_ends 47 = .ok (.dup, 1) := by decide +kernel
theorem dX9_ends_48 : decode cX9_ends 48 = .ok (.getfield 198, 3) := by decide +kernel
theorem dX9_ends_51 : decode cX9_ends 51 = .ok (.iconst 1, 1) := by decide +kernel
theorem dX9_ends_52 : decode cX9_ends 52 = .ok (.isub, 1) := by decide +kernel
theorem dX9_ends_53 : decode cX9_ends 53 = .ok (.putfield 198, 3) := by decide +kernel
theorem dX9_ends_56 : decode cX9_ends 56 = .ok (.aload_n 0, 1) := by decide +kernel
theorem dX9_ends_57 : decode cX9_ends 57 = .ok (.iload_n 1, 1) := by decide +kernel
theorem dX9_ends_58 : decode cX9_ends 58 = .ok (.invokevirtual 201, 3) := by decide +kernel
theorem dX9_ends_61 : decode cX9_ends 61 = .ok (.return_, 1) := by decide +kernel
theorem dX9_ends_62 : decode cX9_ends 62 = .ok (.aload_n 0, 1) := by decide +kernel
theorem dX9_ends_63 : decode cX9_ends 63 = .ok (.getfield 55, 3) := by decide +kernel
theorem dX9_ends_66 : decode cX9_ends 66 = .ok (.iconst 3, 1) := by decide +kernel
theorem dX9_ends_67 : decode cX9_ends 67 = .ok (.iload_n 2, 1) := by decide +kernel
theorem dX9_ends_68 : decode cX9_ends 68 = .ok (.imul, 1) := by decide +kernel
theorem dX9_ends_69 : decode cX9_ends 69 = .ok (.aload_n 0, 1) := by decide +kernel
theorem dX9_ends_70 : decode cX9_ends 70 = .ok (.getfield 52, 3) := by decide +kernel
theorem dX9_ends_73 : decode cX9_ends 73 = .ok (.iload_n 2, 1) := by decide +kernel
theorem dX9_ends_74 : decode cX9_ends 74 = .ok (.iaload, 1) := by decide +kernel
theorem dX9_ends_75 : decode cX9_ends 75 = .ok (.iadd, 1) := by decide +kernel
theorem dX9_ends_76 : decode cX9_ends 76 = .ok (.iload_n 1, 1) := by decide +kernel
theorem dX9_ends_77 : decode cX9_ends 77 = .ok (.iastore, 1) := by decide +kernel
theorem dX9_ends_78 : decode cX9_ends 78 = .ok (.aload_n 0, 1) := by decide +kernel
theorem dX9_ends_79 : decode cX9_ends 79 = .ok (.getfield 52, 3) := by decide +kernel
theorem dX9_ends_82 : decode cX9_ends 82 = .ok (.iload_n 2, 1) := by decide +kernel
theorem dX9_ends_83 : decode cX9_ends 83 = .ok (.dup2, 1) := by decide +kernel
theorem dX9_ends_84 : decode cX9_ends 84 = .ok (.iaload, 1) := by decide +kernel
theorem dX9_ends_85 : decode cX9_ends 85 = .ok (.iconst 1, 1) := by decide +kernel
theorem dX9_ends_86 : decode cX9_ends 86 = .ok (.iadd, 1) := by decide +kernel
theorem dX9_ends_87 : decode cX9_ends 87 = .ok (.iastore, 1) := by decide +kernel
theorem dX9_ends_88 : decode cX9_ends 88 = .ok (.return_, 1) := by decide +kernel
theorem dX9_ends2_0 : decode cX9_ends2 0 = .ok (.iconst 1, 1) := by decide +kernel
theorem dX9_ends2_1 : decode cX9_ends2 1 = .ok (.istore_n 2, 1) := by decide +kernel
theorem dX9_ends2_2 : decode cX9_ends2 2 = .ok (.iload_n 2, 1) := by decide +kernel
theorem dX9_ends2_3 : decode cX9_ends2 3 = .ok (.ifCond .eq 110, 3) := by decide +kernel
theorem dX9_ends2_6 : decode cX9_ends2 6 = .ok (.aload_n 0, 1) := by decide +kernel
theorem dX9_ends2_7 : decode cX9_ends2 7 = .ok (.dup, 1) := by decide +kernel
theorem dX9_ends2_8 : decode cX9_ends2 8 = .ok (.getfield 195, 3) := by decide +kernel
theorem dX9_ends2_11 : decode cX9_ends2 11 = .ok (.iconst 1, 1) := by decide +kernel
theorem dX9_ends2_12 : decode cX9_ends2 12 = .ok (.isub, 1) := by decide +kernel
theorem dX9_ends2_13 : decode cX9_ends2 13 = .ok (.putfield 195, 3) := by decide +kernel
theorem dX9_ends2_16 : decode cX9_ends2 16 = .ok (.iconst 0, 1) := by decide +kernel
theorem dX9_ends2_17 : decode cX9_ends2 17 = .ok (.istore_n 2, 1) := by decide +kernel
theorem dX9_ends2_18 : decode cX9_ends2 18 = .ok (.aload_n 0, 1) := by decide +kernel
theorem dX9_ends2_19 : decode cX9_ends2 19 = .ok (.getfield 195, 3) := by decide +kernel
theorem dX9_ends2_22 : decode cX9_ends2 22 = .ok (.ifCond .ne 16, 3) := by decide +kernel
theorem dX9_ends2_25 : decode cX9_ends2 25 = .ok (.aload_n 0, 1) := by decide +kernel
theorem dX9_ends2_26 : decode cX9_ends2 26 = .ok (.iload_n 1, 1) := by decide +kernel
theorem dX9_ends2_27 : decode cX9_ends2 27 = .ok (.putfield 171, 3) := by decide +kernel
theorem dX9_ends2_30 : decode cX9_ends2 30 = .ok (.aload_n 0, 1) := by decide +kernel
theorem dX9_ends2_31 : decode cX9_ends2 31 = .ok (.iconst 1, 1) := by decide +kernel
theorem dX9_ends2_32 : decode cX9_ends2 32 = .ok (.putfield 174, 3) := by decide +kernel
theorem dX9_ends2_35 : decode cX9_ends2 35 = .ok (.goto (-33), 3) := by decide +kernel
theorem dX9_ends2_38 : decode cX9_ends2 38 = .ok (.aload_n 0, 1) := by decide +kernel
theorem dX9_ends2_39 : decode cX9_ends2 39 = .ok (.getfield 52, 3) := by decide +kernel
theorem dX9_ends2_42 : decode cX9_ends2 42 = .ok (.aload_n 0, 1) := by decide +kernel
theorem dX9_ends2_43 : decode cX9_ends2 43 = .ok (.getfield 195, 3) := by decide +kernel
theorem dX9_ends2_46 : decode cX9_ends2 46 = .ok (.iconst 1, 1) := by decide +kernel
theorem dX9_ends2_47 : decode cX9_ends2 47 = .ok (.isub, 1) := by decide +kernel
theorem dX9_ends2_48 : decode cX9_ends2 48 = .ok (.iaload, 1) := by decide +kernel
theorem dX9_ends2_49 : decode cX9_ends2 49 = .ok (.bipush 9, 2) := by decide +kernel
theorem dX9_ends2_51 : decode cX9_ends2 51 = .ok (.if_icmp .ne 18, 3) := by decide +kernel
theorem dX9_ends2_54 : decode cX9_ends2 54 = .ok (.aload_n 0, 1) := by decide +kernel
theorem dX9_ends2_55 : decode cX9_ends2 55 = .ok (.dup, 1) := by decide +kernel
theorem dX9_ends2_56 : decode cX9_ends2 56 = .ok (.getfield 198, 3) := by decide +kernel
theorem dX9_ends2_59 : decode cX9_ends2 59 = .ok (.iconst 1, 1) := by decide +kernel
theorem dX9_ends2_60 : decode cX9_ends2 60 = .ok (.isub, 1) := by decide +kernel
theorem dX9_ends2_61 : decode cX9_ends2 61 = .ok (.putfield 198, 3) := by decide +kernel
theorem dX9_ends2_64 : decode cX9_ends2 64 = .ok (.iconst 1, 1) := by decide +kernel
theorem dX9_ends2_65 : decode cX9_ends2 65 = .ok (.istore_n 2, 1) := by decide +kernel
theorem dX9_ends2_66 : decode cX9_ends2 66 = .ok (.goto (-64), 3) := by decide +kernel
theorem dX9_ends2_69 : decode cX9_ends2 69 = .ok (.aload_n 0, 1) := by decide +kernel
theorem dX9_ends2_70 : decode cX9_ends2 70 = .ok (.getfield 55, 3) := by decide +kernel
theorem dX9_ends2_73 : decode cX9_ends2 73 = .ok (.iconst 3, 1) := by decide +kernel
theorem dX9_ends2_74 : decode cX9_ends2 74 = .ok (.aload_n 0, 1) := by decide +kernel
theorem dX9_ends2_75 : decode cX9_ends2 75 = .ok (.getfield 195, 3) := by decide +kernel
theorem dX9_ends2_78 : decode cX9_ends2 78 = .ok (.iconst 1, 1) := by decide +kernel
theorem dX9_ends2_79 : decode cX9_ends2 79 = .ok (.isub, 1) := by decide +kernel
theorem dX9_ends2_80 : decode cX9_ends2 80 = .ok (.imul, 1) := by decide +kernel
theorem dX9_ends2_81 : decode cX9_ends2 81 = .ok (.aload_n 0, 1) := by decide +kernel
theorem dX9_ends2_82 : decode cX9_ends2 82 = .ok (.getfield 52, 3) := by decide +kernel
theorem dX9_ends2_85 : decode cX9_ends2 85 = .ok (.aload_n 0, 1) := by decide +kernel
theorem dX9_ends2_86 : decode cX9_ends2 86 = .ok (.getfield 195, 3) := by decide +kernel
theorem dX9_ends2_89 : decode cX9_ends2 89 = .ok (.iconst 1, 1) := by decide +kernel
theorem dX9_ends2_90 : decode cX9_ends2 90 = .ok (.isub, 1) := by decide +kernel
theorem dX9_ends2_91 : decode cX9_ends2 91 = .ok (.iaload, 1) := by decide +kernel
theorem dX9_ends2_92 : decode cX9_ends2 92 = .ok (.iadd, 1) := by decide +kernel
theorem dX9_ends2_93 : decode cX9_ends2 93 = .ok (.iload_n 1, 1) := by decide +kernel
theorem dX9_ends2_94 : decode cX9_ends2 94 = .ok (.iastore, 1) := by decide +kernel
theorem dX9_ends2_95 : decode cX9_ends2 95 = .ok (.aload_n 0, 1) := by decide +kernel
theorem dX9_ends2_96 : decode cX9_ends2 96 = .ok (.getfield 52, 3) := by decide +kernel
theorem dX9_ends2_99 : decode cX9_ends2 99 = .ok (.aload_n 0, 1) := by decide +kernel
theorem dX9_ends2_100 : decode cX9_ends2 100 = .ok (.getfield 195, 3) := by decide +kernel
theorem dX9_ends2_103 : decode cX9_ends2 103 = .ok (.iconst 1, 1) := by decide +kernel
theorem dX9_ends2_104 : decode cX9_ends2 104 = .ok (.isub, 1) := by decide +kernel
theorem dX9_ends2_105 : decode cX9_ends2 105 = .ok (.dup2, 1) := by decide +kernel
theorem dX9_ends2_106 : decode cX9_ends2 106 = .ok (.iaload, 1) := by decide +kernel
theorem dX9_ends2_107 : decode cX9_ends2 107 = .ok (.iconst 1, 1) := by decide +kernel
theorem dX9_ends2_108 : decode cX9_ends2 108 = .ok (.iadd, 1) := by decide +kernel
theorem dX9_ends2_109 : decode cX9_ends2 109 = .ok (.iastore, 1) := by decide +kernel
theorem dX9_ends2_110 : decode cX9_ends2 110 = .ok (.goto (-108), 3) := by decide +kernel
theorem dX9_ends2_113 : decode cX9_ends2 113 = .ok (.return_, 1) := by decide +kernel
theorem dX9_leaves_0 : decode cX9_leaves 0 = .ok (.aload_n 0, 1) := by decide +kernel
theorem dX9_leaves_1 : decode cX9_leaves 1 = .ok (.getfield 195, 3) := by decide +kernel
theorem dX9_leaves_4 : decode cX9_leaves 4 = .ok (.iconst 2, 1) := by decide +kernel
theorem dX9_leaves_5 : decode cX9_leaves 5 = .ok (.isub, 1) := by decide +kernel
theorem dX9_leaves_6 : decode cX9_leaves 6 = .ok (.istore_n 2, 1) := by decide +kernel
theorem dX9_leaves_7 : decode cX9_leaves 7 = .ok (.iload_n 2, 1) := by decide +kernel
theorem dX9_leaves_8 : decode cX9_leaves 8 = .ok (.ifCond .lt 38, 3) := by decide +kernel
theorem dX9_leaves_11 : decode cX9_leaves 11 = .ok (.aload_n 0, 1) := by decide +kernel
theorem dX9_leaves_12 : decode cX9_leaves 12 = .ok (.getfield 58, 3) := by decide +kernel
theorem dX9_leaves_15 : decode cX9_leaves 15 = .ok (.iload_n 2, 1) := by decide +kernel
theorem dX9_leaves_16 : decode cX9_leaves 16 = .ok (.iaload, 1) := by decide +kernel
theorem dX9_leaves_17 : decode cX9_leaves 17 = .ok (.aload_n 0, 1) := by decide +kernel
theorem dX9_leaves_18 : decode cX9_leaves 18 = .ok (.getfield 198, 3) := by decide +kernel
theorem dX9_leaves_21 : decode cX9_leaves 21 = .ok (.if_icmp .ne 25, 3) := by decide +kernel
theorem dX9_leaves_24 : decode cX9_leaves 24 = .ok (.aload_n 0, 1) := by decide +kernel
theorem dX9_leaves_25 : decode cX9_leaves 25 = .ok (.getfield 7, 3) := by decide +kernel
theorem dX9_leaves_28 : decode cX9_leaves 28 = .ok (.aload_n 0, 1) := by decide +kernel
theorem dX9_leaves_29 : decode cX9_leaves 29 = .ok (.getfield 49, 3) := by decide +kernel
theorem dX9_leaves_32 : decode cX9_leaves 32 = .ok (.iload_n 2, 1) := by decide +kernel
theorem dX9_leaves_33 : decode cX9_leaves 33 = .ok (.iaload, 1) := by decide +kernel
theorem dX9_leaves_34 : decode cX9_leaves 34 = .ok (.iaload, 1) := by decide +kernel
theorem dX9_leaves_35 : decode cX9_leaves 35 = .ok (.bipush 11, 2) := by decide +kernel
theorem dX9_leaves_37 : decode cX9_leaves 37 = .ok (.if_icmp .eq 9, 3) := by decide +kernel
theorem dX9_leaves_40 : decode cX9_leaves 40 = .ok (.iinc 2 (-1), 3) := by decide +kernel
theorem dX9_leaves_43 : decode cX9_leaves 43 = .ok (.goto (-36), 3) := by decide +kernel
theorem dX9_leaves_46 : decode cX9_leaves 46 = .ok (.iload_n 2, 1) := by decide +kernel
theorem dX9_leaves_47 : decode cX9_leaves 47 = .ok (.ifCond .lt 29, 3) := by decide +kernel
theorem dX9_leaves_50 : decode cX9_leaves 50 = .ok (.aload_n 0, 1) := by decide +kernel
theorem dX9_leaves_51 : decode cX9_leaves 51 = .ok (.getfield 58, 3) := by decide +kernel
theorem dX9_leaves_54 : decode cX9_leaves 54 = .ok (.iload_n 2, 1) := by decide +kernel
theorem dX9_leaves_55 : decode cX9_leaves 55 = .ok (.iaload, 1) := by decide +kernel
theorem dX9_leaves_56 : decode cX9_leaves 56 = .ok (.aload_n 0, 1) := by decide +kernel
theorem dX9_leaves_57 : decode cX9_leaves 57 = .ok (.getfield 198, 3) := by decide +kernel
theorem dX9_leaves_60 : decode cX9_leaves 60 = .ok (.if_icmp .ne 16, 3) := by decide +kernel
theorem dX9_leaves_63 : decode cX9_leaves 63 = .ok (.aload_n 0, 1) := by decide +kernel
theorem dX9_leaves_64 : decode cX9_leaves 64 = .ok (.iload_n 2, 1) := by decide +kernel
theorem dX9_leaves_65 : decode cX9_leaves 65 = .ok (.iconst 1, 1) := by decide +kernel
theorem dX9_leaves_66 : decode cX9_leaves 66 = .ok (.iadd, 1) := by decide +kernel
theorem dX9_leaves_67 : decode cX9_leaves 67 = .ok (.putfield 195, 3) := by decide +kernel
theorem dX9_leaves_70 : decode cX9_leaves 70 = .ok (.aload_n 0, 1) := by decide +kernel
theorem dX9_leaves_71 : decode cX9_leaves 71 = .ok (.iload_n 1, 1) := by decide +kernel
theorem dX9_leaves_72 : decode cX9_leaves 72 = .ok (.invokevirtual 205, 3) := by decide +kernel
theorem dX9_leaves_75 : decode cX9_leaves 75 = .ok (.return_, 1) := by decide +kernel
theorem dX9_leaves_76 : decode cX9_leaves 76 = .ok (.aload_n 0, 1) := by decide +kernel
theorem dX9_leaves_77 : decode cX9_leaves 77 = .ok (.iload_n 2, 1) := by decide +kernel
theorem dX9_leaves_78 : decode cX9_leaves 78 = .ok (.iconst 2, 1) := by decide +kernel
theorem dX9_leaves_79 : decode cX9_leaves 79 = .ok (.iadd, 1) := by decide +kernel
theorem dX9_leaves_80 : decode cX9_leaves 80 = .ok (.putfield 195, 3) := by decide +kernel
theorem dX9_leaves_83 : decode cX9_leaves 83 = .ok (.aload_n 0, 1) := by decide +kernel
theorem dX9_leaves_84 : decode cX9_leaves 84 = .ok (.iload_n 1, 1) := by decide +kernel
theorem dX9_leaves_85 : decode cX9_leaves 85 = .ok (.invokevirtual 205, 3) := by decide +kernel
theorem dX9_leaves_88 : decode cX9_leaves 88 = .ok (.return_, 1) := by decide +kernel
theorem dX9_worked_0 : decode cX9_worked 0 = .ok (.iload_n 0, 1) := by decide +kernel
theorem dX9_worked_1 : decode cX9_worked 1 = .ok (.tableswitch 62 0 4 #[35, 39, 43, 47, 51], 35) := by decide +kernel
theorem dX9_worked_36 : decode cX9_worked 36 = .ok (.iload_n 1, 1) := by decide +kernel
theorem dX9_worked_37 : decode cX9_worked 37 = .ok (.iload_n 2, 1) := by decide +kernel
theorem dX9_worked_38 : decode cX9_worked 38 = .ok (.iadd, 1) := by decide +kernel
theorem dX9_worked_39 : decode cX9_worked 39 = .ok (.ireturn, 1) := by decide +kernel
theorem dX9_worked_40 : decode cX9_worked 40 = .ok (.iload_n 1, 1) := by decide +kernel
theorem dX9_worked_41 : decode cX9_worked 41 = .ok (.iload_n 2, 1) := by decide +kernel
theorem dX9_worked_42 : decode cX9_worked 42 = .ok (.isub, 1) := by decide +kernel
theorem dX9_worked_43 : decode cX9_worked 43 = .ok (.ireturn, 1) := by decide +kernel
theorem dX9_worked_44 : decode cX9_worked 44 = .ok (.iload_n 1, 1) := by decide +kernel
theorem dX9_worked_45 : decode cX9_worked 45 = .ok (.iload_n 2, 1) := by decide +kernel
theorem dX9_worked_46 : decode cX9_worked 46 = .ok (.imul, 1) := by decide +kernel
theorem dX9_worked_47 : decode cX9_worked 47 = .ok (.ireturn, 1) := by decide +kernel
theorem dX9_worked_48 : decode cX9_worked 48 = .ok (.iload_n 1, 1) := by decide +kernel
theorem dX9_worked_49 : decode cX9_worked 49 = .ok (.iload_n 2, 1) := by decide +kernel
theorem dX9_worked_50 : decode cX9_worked 50 = .ok (.idiv, 1) := by decide +kernel
theorem dX9_worked_51 : decode cX9_worked 51 = .ok (.ireturn, 1) := by decide +kernel
theorem dX9_worked_52 : decode cX9_worked 52 = .ok (.iload_n 1, 1) := by decide +kernel
theorem dX9_worked_53 : decode cX9_worked 53 = .ok (.iload_n 2, 1) := by decide +kernel
theorem dX9_worked_54 : decode cX9_worked 54 = .ok (.if_icmp .ge 7, 3) := by decide +kernel
theorem dX9_worked_57 : decode cX9_worked 57 = .ok (.iconst 1, 1) := by decide +kernel
theorem dX9_worked_58 : decode cX9_worked 58 = .ok (.goto 4, 3) := by decide +kernel
theorem dX9_worked_61 : decode cX9_worked 61 = .ok (.iconst 0, 1) := by decide +kernel
theorem dX9_worked_62 : decode cX9_worked 62 = .ok (.ireturn, 1) := by decide +kernel
theorem dX9_worked_63 : decode cX9_worked 63 = .ok (.iload_n 1, 1) := by decide +kernel
theorem dX9_worked_64 : decode cX9_worked 64 = .ok (.iload_n 2, 1) := by decide +kernel
theorem dX9_worked_65 : decode cX9_worked 65 = .ok (.if_icmp .ne 7, 3) := by decide +kernel
theorem dX9_worked_68 : decode cX9_worked 68 = .ok (.iconst 1, 1) := by decide +kernel
theorem dX9_worked_69 : decode cX9_worked 69 = .ok (.goto 4, 3) := by decide +kernel
theorem dX9_worked_72 : decode cX9_worked 72 = .ok (.iconst 0, 1) := by decide +kernel
theorem dX9_worked_73 : decode cX9_worked 73 = .ok (.ireturn, 1) := by decide +kernel
theorem dX9_enters_0 : decode cX9_enters 0 = .ok (.aload_n 0, 1) := by decide +kernel
theorem dX9_enters_1 : decode cX9_enters 1 = .ok (.getfield 13, 3) := by decide +kernel
theorem dX9_enters_4 : decode cX9_enters 4 = .ok (.iload_n 2, 1) := by decide +kernel
theorem dX9_enters_5 : decode cX9_enters 5 = .ok (.iaload, 1) := by decide +kernel
theorem dX9_enters_6 : decode cX9_enters 6 = .ok (.istore_n 3, 1) := by decide +kernel
theorem dX9_enters_7 : decode cX9_enters 7 = .ok (.aload_n 0, 1) := by decide +kernel
theorem dX9_enters_8 : decode cX9_enters 8 = .ok (.getfield 28, 3) := by decide +kernel
theorem dX9_enters_11 : decode cX9_enters 11 = .ok (.iload_n 3, 1) := by decide +kernel
theorem dX9_enters_12 : decode cX9_enters 12 = .ok (.iaload, 1) := by decide +kernel
theorem dX9_enters_13 : decode cX9_enters 13 = .ok (.bipush (-4), 2) := by decide +kernel
theorem dX9_enters_15 : decode cX9_enters 15 = .ok (.if_icmp .ne 10, 3) := by decide +kernel
theorem dX9_enters_18 : decode cX9_enters 18 = .ok (.aload_n 0, 1) := by decide +kernel
theorem dX9_enters_19 : decode cX9_enters 19 = .ok (.iconst 3, 1) := by decide +kernel
theorem dX9_enters_20 : decode cX9_enters 20 = .ok (.iload_n 2, 1) := by decide +kernel
theorem dX9_enters_21 : decode cX9_enters 21 = .ok (.invokevirtual 181, 3) := by decide +kernel
theorem dX9_enters_24 : decode cX9_enters 24 = .ok (.return_, 1) := by decide +kernel
theorem dX9_enters_25 : decode cX9_enters 25 = .ok (.aload_n 0, 1) := by decide +kernel
theorem dX9_enters_26 : decode cX9_enters 26 = .ok (.iload_n 3, 1) := by decide +kernel
theorem dX9_enters_27 : decode cX9_enters 27 = .ok (.invokevirtual 153, 3) := by decide +kernel
theorem dX9_enters_30 : decode cX9_enters 30 = .ok (.istore 4, 2) := by decide +kernel
theorem dX9_enters_32 : decode cX9_enters 32 = .ok (.aload_n 0, 1) := by decide +kernel
theorem dX9_enters_33 : decode cX9_enters 33 = .ok (.iconst 4, 1) := by decide +kernel
theorem dX9_enters_34 : decode cX9_enters 34 = .ok (.iload 4, 2) := by decide +kernel
theorem dX9_enters_36 : decode cX9_enters 36 = .ok (.iadd, 1) := by decide +kernel
theorem dX9_enters_37 : decode cX9_enters 37 = .ok (.iload_n 2, 1) := by decide +kernel
theorem dX9_enters_38 : decode cX9_enters 38 = .ok (.invokevirtual 191, 3) := by decide +kernel
theorem dX9_enters_41 : decode cX9_enters 41 = .ok (.ifCond .ne 4, 3) := by decide +kernel
theorem dX9_enters_44 : decode cX9_enters 44 = .ok (.return_, 1) := by decide +kernel
theorem dX9_enters_45 : decode cX9_enters 45 = .ok (.aload_n 0, 1) := by decide +kernel
theorem dX9_enters_46 : decode cX9_enters 46 = .ok (.getfield 22, 3) := by decide +kernel
theorem dX9_enters_49 : decode cX9_enters 49 = .ok (.iload_n 2, 1) := by decide +kernel
theorem dX9_enters_50 : decode cX9_enters 50 = .ok (.dup2, 1) := by decide +kernel
theorem dX9_enters_51 : decode cX9_enters 51 = .ok (.iaload, 1) := by decide +kernel
theorem dX9_enters_52 : decode cX9_enters 52 = .ok (.iconst 1, 1) := by decide +kernel
theorem dX9_enters_53 : decode cX9_enters 53 = .ok (.iadd, 1) := by decide +kernel
theorem dX9_enters_54 : decode cX9_enters 54 = .ok (.iastore, 1) := by decide +kernel
theorem dX9_enters_55 : decode cX9_enters 55 = .ok (.aload_n 0, 1) := by decide +kernel
theorem dX9_enters_56 : decode cX9_enters 56 = .ok (.getfield 198, 3) := by decide +kernel
theorem dX9_enters_59 : decode cX9_enters 59 = .ok (.bipush 12, 2) := by decide +kernel
theorem dX9_enters_61 : decode cX9_enters 61 = .ok (.if_icmp .ne 10, 3) := by decide +kernel
theorem dX9_enters_64 : decode cX9_enters 64 = .ok (.aload_n 0, 1) := by decide +kernel
theorem dX9_enters_65 : decode cX9_enters 65 = .ok (.iconst 5, 1) := by decide +kernel
theorem dX9_enters_66 : decode cX9_enters 66 = .ok (.iload_n 2, 1) := by decide +kernel
theorem dX9_enters_67 : decode cX9_enters 67 = .ok (.invokevirtual 181, 3) := by decide +kernel
theorem dX9_enters_70 : decode cX9_enters 70 = .ok (.return_, 1) := by decide +kernel
theorem dX9_enters_71 : decode cX9_enters 71 = .ok (.aload_n 0, 1) := by decide +kernel
theorem dX9_enters_72 : decode cX9_enters 72 = .ok (.dup, 1) := by decide +kernel
theorem dX9_enters_73 : decode cX9_enters 73 = .ok (.getfield 198, 3) := by decide +kernel
theorem dX9_enters_76 : decode cX9_enters 76 = .ok (.iconst 1, 1) := by decide +kernel
theorem dX9_enters_77 : decode cX9_enters 77 = .ok (.iadd, 1) := by decide +kernel
theorem dX9_enters_78 : decode cX9_enters 78 = .ok (.putfield 198, 3) := by decide +kernel
theorem dX9_enters_81 : decode cX9_enters 81 = .ok (.aload_n 0, 1) := by decide +kernel
theorem dX9_enters_82 : decode cX9_enters 82 = .ok (.aload_n 0, 1) := by decide +kernel
theorem dX9_enters_83 : decode cX9_enters 83 = .ok (.getfield 198, 3) := by decide +kernel
theorem dX9_enters_86 : decode cX9_enters 86 = .ok (.aload_n 0, 1) := by decide +kernel
theorem dX9_enters_87 : decode cX9_enters 87 = .ok (.getfield 208, 3) := by decide +kernel
theorem dX9_enters_90 : decode cX9_enters 90 = .ok (.if_icmp .le 10, 3) := by decide +kernel
theorem dX9_enters_93 : decode cX9_enters 93 = .ok (.aload_n 0, 1) := by decide +kernel
theorem dX9_enters_94 : decode cX9_enters 94 = .ok (.getfield 198, 3) := by decide +kernel
theorem dX9_enters_97 : decode cX9_enters 97 = .ok (.goto 7, 3) := by decide +kernel
theorem dX9_enters_100 : decode cX9_enters 100 = .ok (.aload_n 0, 1) := by decide +kernel
theorem dX9_enters_101 : decode cX9_enters 101 = .ok (.getfield 208, 3) := by decide +kernel
theorem dX9_enters_104 : decode cX9_enters 104 = .ok (.putfield 208, 3) := by decide +kernel
theorem dX9_enters_107 : decode cX9_enters 107 = .ok (.iconst 0, 1) := by decide +kernel
theorem dX9_enters_108 : decode cX9_enters 108 = .ok (.istore 5, 2) := by decide +kernel
theorem dX9_enters_110 : decode cX9_enters 110 = .ok (.iload 5, 2) := by decide +kernel
theorem dX9_enters_112 : decode cX9_enters 112 = .ok (.bipush 40, 2) := by decide +kernel
theorem dX9_enters_114 : decode cX9_enters 114 = .ok (.if_icmp .ge 52, 3) := by decide +kernel
theorem dX9_enters_117 : decode cX9_enters 117 = .ok (.aload_n 0, 1) := by decide +kernel
theorem dX9_enters_118 : decode cX9_enters 118 = .ok (.getfield 61, 3) := by decide +kernel
theorem dX9_enters_121 : decode cX9_enters 121 = .ok (.bipush 40, 2) := by decide +kernel
theorem dX9_enters_123 : decode cX9_enters 123 = .ok (.aload_n 0, 1) := by decide +kernel
theorem dX9_enters_124 : decode cX9_enters 124 = .ok (.getfield 198, 3) := by decide +kernel
theorem dX9_enters_127 : decode cX9_enters 127 = .ok (.iconst 1, 1) := by decide +kernel
theorem dX9_enters_128 : decode cX9_enters 128 = .ok (.isub, 1) := by decide +kernel
theorem dX9_enters_129 : decode cX9_enters 129 = .ok (.imul, 1) := by decide +kernel
theorem dX9_enters_130 : decode cX9_enters 130 = .ok (.iload 5, 2) := by decide +kernel
theorem dX9_enters_132 : decode cX9_enters 132 = .ok (.iadd, 1) := by decide +kernel
theorem dX9_enters_133 : decode cX9_enters 133 = .ok (.iload 5, 2) := by decide +kernel
theorem dX9_enters_135 : decode cX9_enters 135 = .ok (.aload_n 0, 1) := by decide +kernel
theorem dX9_enters_136 : decode cX9_enters 136 = .ok (.getfield 25, 3) := by decide +kernel
theorem dX9_enters_139 : decode cX9_enters 139 = .ok (.iload_n 3, 1) := by decide +kernel
theorem dX9_enters_140 : decode cX9_enters 140 = .ok (.iaload, 1) := by decide +kernel
theorem dX9_enters_141 : decode cX9_enters 141 = .ok (.if_icmp .ge 17, 3) := by decide +kernel
theorem dX9_enters_144 : decode cX9_enters 144 = .ok (.aload_n 0, 1) := by decide +kernel
theorem dX9_enters_145 : decode cX9_enters 145 = .ok (.getfield 55, 3) := by decide +kernel
theorem dX9_enters_148 : decode cX9_enters 148 = .ok (.iconst 3, 1) := by decide +kernel
theorem dX9_enters_149 : decode cX9_enters 149 = .ok (.iload_n 1, 1) := by decide +kernel
theorem dX9_enters_150 : decode cX9_enters 150 = .ok (.imul, 1) := by decide +kernel
theorem dX9_enters_151 : decode cX9_enters 151 = .ok (.iload 5, 2) := by decide +kernel
theorem dX9_enters_153 : decode cX9_enters 153 = .ok (.iadd, 1) := by decide +kernel
theorem dX9_enters_154 : decode cX9_enters 154 = .ok (.iaload, 1) := by decide +kernel
theorem dX9_enters_155 : decode cX9_enters 155 = .ok (.goto 4, 3) := by decide +kernel
theorem dX9_enters_158 : decode cX9_enters 158 = .ok (.iconst 0, 1) := by decide +kernel
theorem dX9_enters_159 : decode cX9_enters 159 = .ok (.iastore, 1) := by decide +kernel
theorem dX9_enters_160 : decode cX9_enters 160 = .ok (.iinc 5 1, 3) := by decide +kernel
theorem dX9_enters_163 : decode cX9_enters 163 = .ok (.goto (-53), 3) := by decide +kernel
theorem dX9_enters_166 : decode cX9_enters 166 = .ok (.aload_n 0, 1) := by decide +kernel
theorem dX9_enters_167 : decode cX9_enters 167 = .ok (.getfield 52, 3) := by decide +kernel
theorem dX9_enters_170 : decode cX9_enters 170 = .ok (.iload_n 1, 1) := by decide +kernel
theorem dX9_enters_171 : decode cX9_enters 171 = .ok (.bipush 9, 2) := by decide +kernel
theorem dX9_enters_173 : decode cX9_enters 173 = .ok (.iastore, 1) := by decide +kernel
theorem dX9_enters_174 : decode cX9_enters 174 = .ok (.aload_n 0, 1) := by decide +kernel
theorem dX9_enters_175 : decode cX9_enters 175 = .ok (.aload_n 0, 1) := by decide +kernel
theorem dX9_enters_176 : decode cX9_enters 176 = .ok (.getfield 28, 3) := by decide +kernel
theorem dX9_enters_179 : decode cX9_enters 179 = .ok (.iload_n 3, 1) := by decide +kernel
theorem dX9_enters_180 : decode cX9_enters 180 = .ok (.iaload, 1) := by decide +kernel
theorem dX9_enters_181 : decode cX9_enters 181 = .ok (.invokevirtual 211, 3) := by decide +kernel
theorem dX9_enters_184 : decode cX9_enters 184 = .ok (.return_, 1) := by decide +kernel
theorem dX9_goesOn_0 : decode cX9_goesOn 0 = .ok (.aload_n 0, 1) := by decide +kernel
theorem dX9_goesOn_1 : decode cX9_goesOn 1 = .ok (.getfield 195, 3) := by decide +kernel
theorem dX9_goesOn_4 : decode cX9_goesOn 4 = .ok (.iconst 1, 1) := by decide +kernel
theorem dX9_goesOn_5 : decode cX9_goesOn 5 = .ok (.isub, 1) := by decide +kernel
theorem dX9_goesOn_6 : decode cX9_goesOn 6 = .ok (.istore_n 1, 1) := by decide +kernel
theorem dX9_goesOn_7 : decode cX9_goesOn 7 = .ok (.aload_n 0, 1) := by decide +kernel
theorem dX9_goesOn_8 : decode cX9_goesOn 8 = .ok (.getfield 49, 3) := by decide +kernel
theorem dX9_goesOn_11 : decode cX9_goesOn 11 = .ok (.iload_n 1, 1) := by decide +kernel
theorem dX9_goesOn_12 : decode cX9_goesOn 12 = .ok (.iaload, 1) := by decide +kernel
theorem dX9_goesOn_13 : decode cX9_goesOn 13 = .ok (.istore_n 2, 1) := by decide +kernel
theorem dX9_goesOn_14 : decode cX9_goesOn 14 = .ok (.aload_n 0, 1) := by decide +kernel
theorem dX9_goesOn_15 : decode cX9_goesOn 15 = .ok (.getfield 52, 3) := by decide +kernel
theorem dX9_goesOn_18 : decode cX9_goesOn 18 = .ok (.iload_n 1, 1) := by decide +kernel
theorem dX9_goesOn_19 : decode cX9_goesOn 19 = .ok (.iaload, 1) := by decide +kernel
theorem dX9_goesOn_20 : decode cX9_goesOn 20 = .ok (.istore_n 3, 1) := by decide +kernel
theorem dX9_goesOn_21 : decode cX9_goesOn 21 = .ok (.aload_n 0, 1) := by decide +kernel
theorem dX9_goesOn_22 : decode cX9_goesOn 22 = .ok (.getfield 55, 3) := by decide +kernel
theorem dX9_goesOn_25 : decode cX9_goesOn 25 = .ok (.iconst 3, 1) := by decide +kernel
theorem dX9_goesOn_26 : decode cX9_goesOn 26 = .ok (.iload_n 1, 1) := by decide +kernel
theorem dX9_goesOn_27 : decode cX9_goesOn 27 = .ok (.imul, 1) := by decide +kernel
theorem dX9_goesOn_28 : decode cX9_goesOn 28 = .ok (.iaload, 1) := by decide +kernel
theorem dX9_goesOn_29 : decode cX9_goesOn 29 = .ok (.istore 4, 2) := by decide +kernel
theorem dX9_goesOn_31 : decode cX9_goesOn 31 = .ok (.aload_n 0, 1) := by decide +kernel
theorem dX9_goesOn_32 : decode cX9_goesOn 32 = .ok (.getfield 55, 3) := by decide +kernel
theorem dX9_goesOn_35 : decode cX9_goesOn 35 = .ok (.iconst 3, 1) := by decide +kernel
theorem dX9_goesOn_36 : decode cX9_goesOn 36 = .ok (.iload_n 1, 1) := by decide +kernel
theorem dX9_goesOn_37 : decode cX9_goesOn 37 = .ok (.imul, 1) := by decide +kernel
theorem dX9_goesOn_38 : decode cX9_goesOn 38 = .ok (.iconst 1, 1) := by decide +kernel
theorem dX9_goesOn_39 : decode cX9_goesOn 39 = .ok (.iadd, 1) := by decide +kernel
theorem dX9_goesOn_40 : decode cX9_goesOn 40 = .ok (.iaload, 1) := by decide +kernel
theorem dX9_goesOn_41 : decode cX9_goesOn 41 = .ok (.istore 5, 2) := by decide +kernel
theorem dX9_goesOn_43 : decode cX9_goesOn 43 = .ok (.aload_n 0, 1) := by decide +kernel
theorem dX9_goesOn_44 : decode cX9_goesOn 44 = .ok (.getfield 7, 3) := by decide +kernel
theorem dX9_goesOn_47 : decode cX9_goesOn 47 = .ok (.iload_n 2, 1) := by decide +kernel
theorem dX9_goesOn_48 : decode cX9_goesOn 48 = .ok (.iaload, 1) := by decide +kernel
theorem dX9_goesOn_49 : decode cX9_goesOn 49 = .ok (.tableswitch 204 0 8 #[51, 64, 204, 92, 204, 204, 163, 204, 151], 51) := by decide +kernel
theorem dX9_goesOn_100 : decode cX9_goesOn 100 = .ok (.aload_n 0, 1) := by decide +kernel
theorem dX9_goesOn_101 : decode cX9_goesOn 101 = .ok (.aload_n 0, 1) := by decide +kernel
theorem dX9_goesOn_102 : decode cX9_goesOn 102 = .ok (.getfield 13, 3) := by decide +kernel
theorem dX9_goesOn_105 : decode cX9_goesOn 105 = .ok (.iload_n 2, 1) := by decide +kernel
theorem dX9_goesOn_106 : decode cX9_goesOn 106 = .ok (.iaload, 1) := by decide +kernel
theorem dX9_goesOn_107 : decode cX9_goesOn 107 = .ok (.invokevirtual 205, 3) := by decide +kernel
theorem dX9_goesOn_110 : decode cX9_goesOn 110 = .ok (.goto 178, 3) := by decide +kernel
theorem dX9_goesOn_113 : decode cX9_goesOn 113 = .ok (.aload_n 0, 1) := by decide +kernel
theorem dX9_goesOn_114 : decode cX9_goesOn 114 = .ok (.aload_n 0, 1) := by decide +kernel
theorem dX9_goesOn_115 : decode cX9_goesOn 115 = .ok (.getfield 61, 3) := by decide +kernel
theorem dX9_goesOn_118 : decode cX9_goesOn 118 = .ok (.bipush 40, 2) := by decide +kernel
theorem dX9_goesOn_120 : decode cX9_goesOn 120 = .ok (.aload_n 0, 1) := by decide +kernel
theorem dX9_goesOn_121 : decode cX9_goesOn 121 = .ok (.getfield 198, 3) := by decide +kernel
theorem dX9_goesOn_124 : decode cX9_goesOn 124 = .ok (.iconst 1, 1) := by decide +kernel
theorem dX9_goesOn_125 : decode cX9_goesOn 125 = .ok (.isub, 1) := by decide +kernel
theorem dX9_goesOn_126 : decode cX9_goesOn 126 = .ok (.imul, 1) := by decide +kernel
theorem dX9_goesOn_127 : decode cX9_goesOn 127 = .ok (.aload_n 0, 1) := by decide +kernel
theorem dX9_goesOn_128 : decode cX9_goesOn 128 = .ok (.getfield 13, 3) := by decide +kernel
theorem dX9_goesOn_131 : decode cX9_goesOn 131 = .ok (.iload_n 2, 1) := by decide +kernel
theorem dX9_goesOn_132 : decode cX9_goesOn 132 = .ok (.iaload, 1) := by decide +kernel
theorem dX9_goesOn_133 : decode cX9_goesOn 133 = .ok (.iadd, 1) := by decide +kernel
theorem dX9_goesOn_134 : decode cX9_goesOn 134 = .ok (.iaload, 1) := by decide +kernel
theorem dX9_goesOn_135 : decode cX9_goesOn 135 = .ok (.invokevirtual 205, 3) := by decide +kernel
theorem dX9_goesOn_138 : decode cX9_goesOn 138 = .ok (.goto 150, 3) := by decide +kernel
theorem dX9_goesOn_141 : decode cX9_goesOn 141 = .ok (.iload_n 3, 1) := by decide +kernel
theorem dX9_goesOn_142 : decode cX9_goesOn 142 = .ok (.ifCond .ne 18, 3) := by decide +kernel
theorem dX9_goesOn_145 : decode cX9_goesOn 145 = .ok (.aload_n 0, 1) := by decide +kernel
theorem dX9_goesOn_146 : decode cX9_goesOn 146 = .ok (.aload_n 0, 1) := by decide +kernel
theorem dX9_goesOn_147 : decode cX9_goesOn 147 = .ok (.getfield 16, 3) := by decide +kernel
theorem dX9_goesOn_150 : decode cX9_goesOn 150 = .ok (.iconst 3, 1) := by decide +kernel
theorem dX9_goesOn_151 : decode cX9_goesOn 151 = .ok (.iload_n 2, 1) := by decide +kernel
theorem dX9_goesOn_152 : decode cX9_goesOn 152 = .ok (.imul, 1) := by decide +kernel
theorem dX9_goesOn_153 : decode cX9_goesOn 153 = .ok (.iaload, 1) := by decide +kernel
theorem dX9_goesOn_154 : decode cX9_goesOn 154 = .ok (.invokevirtual 211, 3) := by decide +kernel
theorem dX9_goesOn_157 : decode cX9_goesOn 157 = .ok (.goto 131, 3) := by decide +kernel
theorem dX9_goesOn_160 : decode cX9_goesOn 160 = .ok (.iload_n 3, 1) := by decide +kernel
theorem dX9_goesOn_161 : decode cX9_goesOn 161 = .ok (.iconst 1, 1) := by decide +kernel
theorem dX9_goesOn_162 : decode cX9_goesOn 162 = .ok (.if_icmp .ne 29, 3) := by decide +kernel
theorem dX9_goesOn_165 : decode cX9_goesOn 165 = .ok (.aload_n 0, 1) := by decide +kernel
theorem dX9_goesOn_166 : decode cX9_goesOn 166 = .ok (.aload_n 0, 1) := by decide +kernel
theorem dX9_goesOn_167 : decode cX9_goesOn 167 = .ok (.getfield 16, 3) := by decide +kernel
theorem dX9_goesOn_170 : decode cX9_goesOn 170 = .ok (.iconst 3, 1) := by decide +kernel
theorem dX9_goesOn_171 : decode cX9_goesOn 171 = .ok (.iload_n 2, 1) := by decide +kernel
theorem dX9_goesOn_172 : decode cX9_goesOn 172 = .ok (.imul, 1) := by decide +kernel
theorem dX9_goesOn_173 : decode cX9_goesOn 173 = .ok (.iload 4, 2) := by decide +kernel
theorem dX9_goesOn_175 : decode cX9_goesOn 175 = .ok (.ifCond .eq 7, 3) := by decide +kernel
theorem dX9_goesOn_178 : decode cX9_goesOn 178 = .ok (.iconst 1, 1) := by decide +kernel
theorem dX9_goesOn_179 : decode cX9_goesOn 179 = .ok (.goto 4, 3) := by decide +kernel
theorem dX9_goesOn_182 : decode cX9_goesOn 182 = .ok (.iconst 2, 1) := by decide +kernel
theorem dX9_goesOn_183 : decode cX9_goesOn 183 = .ok (.iadd, 1) := by decide +kernel
theorem dX9_goesOn_184 : decode cX9_goesOn 184 = .ok (.iaload, 1) := by decide +kernel
theorem dX9_goesOn_185 : decode cX9_goesOn 185 = .ok (.invokevirtual 211, 3) := by decide +kernel
theorem dX9_goesOn_188 : decode cX9_goesOn 188 = .ok (.goto 100, 3) := by decide +kernel
theorem dX9_goesOn_191 : decode cX9_goesOn 191 = .ok (.aload_n 0, 1) := by decide +kernel
theorem dX9_goesOn_192 : decode cX9_goesOn 192 = .ok (.iload 5, 2) := by decide +kernel
theorem dX9_goesOn_194 : decode cX9_goesOn 194 = .ok (.invokevirtual 205, 3) := by decide +kernel
theorem dX9_goesOn_197 : decode cX9_goesOn 197 = .ok (.goto 91, 3) := by decide +kernel
theorem dX9_goesOn_200 : decode cX9_goesOn 200 = .ok (.aload_n 0, 1) := by decide +kernel
theorem dX9_goesOn_201 : decode cX9_goesOn 201 = .ok (.iload_n 1, 1) := by decide +kernel
theorem dX9_goesOn_202 : decode cX9_goesOn 202 = .ok (.iload_n 2, 1) := by decide +kernel
theorem dX9_goesOn_203 : decode cX9_goesOn 203 = .ok (.iload_n 3, 1) := by decide +kernel
theorem dX9_goesOn_204 : decode cX9_goesOn 204 = .ok (.iload 4, 2) := by decide +kernel
theorem dX9_goesOn_206 : decode cX9_goesOn 206 = .ok (.invokevirtual 214, 3) := by decide +kernel
theorem dX9_goesOn_209 : decode cX9_goesOn 209 = .ok (.goto 79, 3) := by decide +kernel
theorem dX9_goesOn_212 : decode cX9_goesOn 212 = .ok (.iload_n 3, 1) := by decide +kernel
theorem dX9_goesOn_213 : decode cX9_goesOn 213 = .ok (.aload_n 0, 1) := by decide +kernel
theorem dX9_goesOn_214 : decode cX9_goesOn 214 = .ok (.getfield 25, 3) := by decide +kernel
theorem dX9_goesOn_217 : decode cX9_goesOn 217 = .ok (.aload_n 0, 1) := by decide +kernel
theorem dX9_goesOn_218 : decode cX9_goesOn 218 = .ok (.getfield 13, 3) := by decide +kernel
theorem dX9_goesOn_221 : decode cX9_goesOn 221 = .ok (.iload_n 2, 1) := by decide +kernel
theorem dX9_goesOn_222 : decode cX9_goesOn 222 = .ok (.iaload, 1) := by decide +kernel
theorem dX9_goesOn_223 : decode cX9_goesOn 223 = .ok (.iaload, 1) := by decide +kernel
theorem dX9_goesOn_224 : decode cX9_goesOn 224 = .ok (.if_icmp .ge 20, 3) := by decide +kernel
theorem dX9_goesOn_227 : decode cX9_goesOn 227 = .ok (.aload_n 0, 1) := by decide +kernel
theorem dX9_goesOn_228 : decode cX9_goesOn 228 = .ok (.aload_n 0, 1) := by decide +kernel
theorem dX9_goesOn_229 : decode cX9_goesOn 229 = .ok (.getfield 16, 3) := by decide +kernel
theorem dX9_goesOn_232 : decode cX9_goesOn 232 = .ok (.iconst 3, 1) := by decide +kernel
theorem dX9_goesOn_233 : decode cX9_goesOn 233 = .ok (.iload_n 2, 1) := by decide +kernel
theorem dX9_goesOn_234 : decode cX9_goesOn 234 = .ok (.imul, 1) := by decide +kernel
theorem dX9_goesOn_235 : decode cX9_goesOn 235 = .ok (.iload_n 3, 1) := by decide +kernel
theorem dX9_goesOn_236 : decode cX9_goesOn 236 = .ok (.iadd, 1) := by decide +kernel
theorem dX9_goesOn_237 : decode cX9_goesOn 237 = .ok (.iaload, 1) := by decide +kernel
theorem dX9_goesOn_238 : decode cX9_goesOn 238 = .ok (.invokevirtual 211, 3) := by decide +kernel
theorem dX9_goesOn_241 : decode cX9_goesOn 241 = .ok (.goto 47, 3) := by decide +kernel
theorem dX9_goesOn_244 : decode cX9_goesOn 244 = .ok (.aload_n 0, 1) := by decide +kernel
theorem dX9_goesOn_245 : decode cX9_goesOn 245 = .ok (.iload_n 1, 1) := by decide +kernel
theorem dX9_goesOn_246 : decode cX9_goesOn 246 = .ok (.iload_n 2, 1) := by decide +kernel
theorem dX9_goesOn_247 : decode cX9_goesOn 247 = .ok (.invokevirtual 218, 3) := by decide +kernel
theorem dX9_goesOn_250 : decode cX9_goesOn 250 = .ok (.goto 38, 3) := by decide +kernel
theorem dX9_goesOn_253 : decode cX9_goesOn 253 = .ok (.iload_n 3, 1) := by decide +kernel
theorem dX9_goesOn_254 : decode cX9_goesOn 254 = .ok (.aload_n 0, 1) := by decide +kernel
theorem dX9_goesOn_255 : decode cX9_goesOn 255 = .ok (.iload_n 2, 1) := by decide +kernel
theorem dX9_goesOn_256 : decode cX9_goesOn 256 = .ok (.invokevirtual 96, 3) := by decide +kernel
theorem dX9_goesOn_259 : decode cX9_goesOn 259 = .ok (.if_icmp .ge 20, 3) := by decide +kernel
theorem dX9_goesOn_262 : decode cX9_goesOn 262 = .ok (.aload_n 0, 1) := by decide +kernel
theorem dX9_goesOn_263 : decode cX9_goesOn 263 = .ok (.aload_n 0, 1) := by decide +kernel
theorem dX9_goesOn_264 : decode cX9_goesOn 264 = .ok (.getfield 16, 3) := by decide +kernel
theorem dX9_goesOn_267 : decode cX9_goesOn 267 = .ok (.iconst 3, 1) := by decide +kernel
theorem dX9_goesOn_268 : decode cX9_goesOn 268 = .ok (.iload_n 2, 1) := by decide +kernel
theorem dX9_goesOn_269 : decode cX9_goesOn 269 = .ok (.imul, 1) := by decide +kernel
theorem dX9_goesOn_270 : decode cX9_goesOn 270 = .ok (.iload_n 3, 1) := by decide +kernel
theorem dX9_goesOn_271 : decode cX9_goesOn 271 = .ok (.iadd, 1) := by decide +kernel
theorem dX9_goesOn_272 : decode cX9_goesOn 272 = .ok (.iaload, 1) := by decide +kernel
theorem dX9_goesOn_273 : decode cX9_goesOn 273 = .ok (.invokevirtual 211, 3) := by decide +kernel
theorem dX9_goesOn_276 : decode cX9_goesOn 276 = .ok (.goto 12, 3) := by decide +kernel
theorem dX9_goesOn_279 : decode cX9_goesOn 279 = .ok (.aload_n 0, 1) := by decide +kernel
theorem dX9_goesOn_280 : decode cX9_goesOn 280 = .ok (.iload_n 2, 1) := by decide +kernel
theorem dX9_goesOn_281 : decode cX9_goesOn 281 = .ok (.iload 4, 2) := by decide +kernel
theorem dX9_goesOn_283 : decode cX9_goesOn 283 = .ok (.iload 5, 2) := by decide +kernel
theorem dX9_goesOn_285 : decode cX9_goesOn 285 = .ok (.invokevirtual 221, 3) := by decide +kernel
theorem dX9_goesOn_288 : decode cX9_goesOn 288 = .ok (.return_, 1) := by decide +kernel
theorem dX9_whiles_0 : decode cX9_whiles 0 = .ok (.iload_n 3, 1) := by decide +kernel
theorem dX9_whiles_1 : decode cX9_whiles 1 = .ok (.ifCond .ne 18, 3) := by decide +kernel
theorem dX9_whiles_4 : decode cX9_whiles 4 = .ok (.aload_n 0, 1) := by decide +kernel
theorem dX9_whiles_5 : decode cX9_whiles 5 = .ok (.aload_n 0, 1) := by decide +kernel
theorem dX9_whiles_6 : decode cX9_whiles 6 = .ok (.getfield 16, 3) := by decide +kernel
theorem dX9_whiles_9 : decode cX9_whiles 9 = .ok (.iconst 3, 1) := by decide +kernel
theorem dX9_whiles_10 : decode cX9_whiles 10 = .ok (.iload_n 2, 1) := by decide +kernel
theorem dX9_whiles_11 : decode cX9_whiles 11 = .ok (.imul, 1) := by decide +kernel
theorem dX9_whiles_12 : decode cX9_whiles 12 = .ok (.iaload, 1) := by decide +kernel
theorem dX9_whiles_13 : decode cX9_whiles 13 = .ok (.invokevirtual 211, 3) := by decide +kernel
theorem dX9_whiles_16 : decode cX9_whiles 16 = .ok (.goto 59, 3) := by decide +kernel
theorem dX9_whiles_19 : decode cX9_whiles 19 = .ok (.iload_n 3, 1) := by decide +kernel
theorem dX9_whiles_20 : decode cX9_whiles 20 = .ok (.iconst 1, 1) := by decide +kernel
theorem dX9_whiles_21 : decode cX9_whiles 21 = .ok (.if_icmp .ne 16, 3) := by decide +kernel
theorem dX9_whiles_24 : decode cX9_whiles 24 = .ok (.iload 4, 2) := by decide +kernel
theorem dX9_whiles_26 : decode cX9_whiles 26 = .ok (.ifCond .ne 11, 3) := by decide +kernel
theorem dX9_whiles_29 : decode cX9_whiles 29 = .ok (.aload_n 0, 1) := by decide +kernel
theorem dX9_whiles_30 : decode cX9_whiles 30 = .ok (.iconst 0, 1) := by decide +kernel
theorem dX9_whiles_31 : decode cX9_whiles 31 = .ok (.invokevirtual 205, 3) := by decide +kernel
theorem dX9_whiles_34 : decode cX9_whiles 34 = .ok (.goto 41, 3) := by decide +kernel
theorem dX9_whiles_37 : decode cX9_whiles 37 = .ok (.iload_n 3, 1) := by decide +kernel
theorem dX9_whiles_38 : decode cX9_whiles 38 = .ok (.iconst 1, 1) := by decide +kernel
theorem dX9_whiles_39 : decode cX9_whiles 39 = .ok (.if_icmp .ne 20, 3) := by decide +kernel
theorem dX9_whiles_42 : decode cX9_whiles 42 = .ok (.aload_n 0, 1) := by decide +kernel
theorem dX9_whiles_43 : decode cX9_whiles 43 = .ok (.aload_n 0, 1) := by decide +kernel
theorem dX9_whiles_44 : decode cX9_whiles 44 = .ok (.getfield 16, 3) := by decide +kernel
theorem dX9_whiles_47 : decode cX9_whiles 47 = .ok (.iconst 3, 1) := by decide +kernel
theorem dX9_whiles_48 : decode cX9_whiles 48 = .ok (.iload_n 2, 1) := by decide +kernel
theorem dX9_whiles_49 : decode cX9_whiles 49 = .ok (.imul, 1) := by decide +kernel
theorem dX9_whiles_50 : decode cX9_whiles 50 = .ok (.iconst 1, 1) := by decide +kernel
theorem dX9_whiles_51 : decode cX9_whiles 51 = .ok (.iadd, 1) := by decide +kernel
theorem dX9_whiles_52 : decode cX9_whiles 52 = .ok (.iaload, 1) := by decide +kernel
theorem dX9_whiles_53 : decode cX9_whiles 53 = .ok (.invokevirtual 211, 3) := by decide +kernel
theorem dX9_whiles_56 : decode cX9_whiles 56 = .ok (.goto 19, 3) := by decide +kernel
theorem dX9_whiles_59 : decode cX9_whiles 59 = .ok (.aload_n 0, 1) := by decide +kernel
theorem dX9_whiles_60 : decode cX9_whiles 60 = .ok (.iconst 1, 1) := by decide +kernel
theorem dX9_whiles_61 : decode cX9_whiles 61 = .ok (.iload_n 2, 1) := by decide +kernel
theorem dX9_whiles_62 : decode cX9_whiles 62 = .ok (.invokevirtual 191, 3) := by decide +kernel
theorem dX9_whiles_65 : decode cX9_whiles 65 = .ok (.ifCond .eq 10, 3) := by decide +kernel
theorem dX9_whiles_68 : decode cX9_whiles 68 = .ok (.aload_n 0, 1) := by decide +kernel
theorem dX9_whiles_69 : decode cX9_whiles 69 = .ok (.getfield 52, 3) := by decide +kernel
theorem dX9_whiles_72 : decode cX9_whiles 72 = .ok (.iload_n 1, 1) := by decide +kernel
theorem dX9_whiles_73 : decode cX9_whiles 73 = .ok (.iconst 0, 1) := by decide +kernel
theorem dX9_whiles_74 : decode cX9_whiles 74 = .ok (.iastore, 1) := by decide +kernel
theorem dX9_whiles_75 : decode cX9_whiles 75 = .ok (.return_, 1) := by decide +kernel
theorem dX9_does_0 : decode cX9_does 0 = .ok (.aload_n 0, 1) := by decide +kernel
theorem dX9_does_1 : decode cX9_does 1 = .ok (.getfield 7, 3) := by decide +kernel
theorem dX9_does_4 : decode cX9_does 4 = .ok (.iload_n 1, 1) := by decide +kernel
theorem dX9_does_5 : decode cX9_does 5 = .ok (.iaload, 1) := by decide +kernel
theorem dX9_does_6 : decode cX9_does 6 = .ok (.tableswitch 149 2 11 #[54, 149, 95, 125, 149, 133, 149, 149, 149, 141], 54) := by decide +kernel
theorem dX9_does_60 : decode cX9_does 60 = .ok (.aload_n 0, 1) := by decide +kernel
theorem dX9_does_61 : decode cX9_does 61 = .ok (.getfield 13, 3) := by decide +kernel
theorem dX9_does_64 : decode cX9_does 64 = .ok (.iload_n 1, 1) := by decide +kernel
theorem dX9_does_65 : decode cX9_does 65 = .ok (.iaload, 1) := by decide +kernel
theorem dX9_does_66 : decode cX9_does 66 = .ok (.iconst 3, 1) := by decide +kernel
theorem dX9_does_67 : decode cX9_does 67 = .ok (.if_icmp .ne 16, 3) := by decide +kernel
theorem dX9_does_70 : decode cX9_does 70 = .ok (.iload_n 3, 1) := by decide +kernel
theorem dX9_does_71 : decode cX9_does 71 = .ok (.ifCond .ne 12, 3) := by decide +kernel
theorem dX9_does_74 : decode cX9_does 74 = .ok (.aload_n 0, 1) := by decide +kernel
theorem dX9_does_75 : decode cX9_does 75 = .ok (.iconst 1, 1) := by decide +kernel
theorem dX9_does_76 : decode cX9_does 76 = .ok (.iload_n 1, 1) := by decide +kernel
theorem dX9_does_77 : decode cX9_does 77 = .ok (.invokevirtual 181, 3) := by decide +kernel
theorem dX9_does_80 : decode cX9_does 80 = .ok (.goto 132, 3) := by decide +kernel
theorem dX9_does_83 : decode cX9_does 83 = .ok (.aload_n 0, 1) := by decide +kernel
theorem dX9_does_84 : decode cX9_does 84 = .ok (.aload_n 0, 1) := by decide +kernel
theorem dX9_does_85 : decode cX9_does 85 = .ok (.getfield 13, 3) := by decide +kernel
theorem dX9_does_88 : decode cX9_does 88 = .ok (.iload_n 1, 1) := by decide +kernel
theorem dX9_does_89 : decode cX9_does 89 = .ok (.iaload, 1) := by decide +kernel
theorem dX9_does_90 : decode cX9_does 90 = .ok (.iload_n 2, 1) := by decide +kernel
theorem dX9_does_91 : decode cX9_does 91 = .ok (.iload_n 3, 1) := by decide +kernel
theorem dX9_does_92 : decode cX9_does 92 = .ok (.invokestatic 224, 3) := by decide +kernel
theorem dX9_does_95 : decode cX9_does 95 = .ok (.invokevirtual 205, 3) := by decide +kernel
theorem dX9_does_98 : decode cX9_does 98 = .ok (.goto 114, 3) := by decide +kernel
theorem dX9_does_101 : decode cX9_does 101 = .ok (.aload_n 0, 1) := by decide +kernel
theorem dX9_does_102 : decode cX9_does 102 = .ok (.getfield 61, 3) := by decide +kernel
theorem dX9_does_105 : decode cX9_does 105 = .ok (.bipush 40, 2) := by decide +kernel
theorem dX9_does_107 : decode cX9_does 107 = .ok (.aload_n 0, 1) := by decide +kernel
theorem dX9_does_108 : decode cX9_does 108 = .ok (.getfield 198, 3) := by decide +kernel
theorem dX9_does_111 : decode cX9_does 111 = .ok (.iconst 1, 1) := by decide +kernel
theorem dX9_does_112 : decode cX9_does 112 = .ok (.isub, 1) := by decide +kernel
theorem dX9_does_113 : decode cX9_does 113 = .ok (.imul, 1) := by decide +kernel
theorem dX9_does_114 : decode cX9_does 114 = .ok (.aload_n 0, 1) := by decide +kernel
theorem dX9_does_115 : decode cX9_does 115 = .ok (.getfield 13, 3) := by decide +kernel
theorem dX9_does_118 : decode cX9_does 118 = .ok (.iload_n 1, 1) := by decide +kernel
theorem dX9_does_119 : decode cX9_does 119 = .ok (.iaload, 1) := by decide +kernel
theorem dX9_does_120 : decode cX9_does 120 = .ok (.iadd, 1) := by decide +kernel
theorem dX9_does_121 : decode cX9_does 121 = .ok (.iload_n 2, 1) := by decide +kernel
theorem dX9_does_122 : decode cX9_does 122 = .ok (.iastore, 1) := by decide +kernel
theorem dX9_does_123 : decode cX9_does 123 = .ok (.aload_n 0, 1) := by decide +kernel
theorem dX9_does_124 : decode cX9_does 124 = .ok (.iload_n 2, 1) := by decide +kernel
theorem dX9_does_125 : decode cX9_does 125 = .ok (.invokevirtual 205, 3) := by decide +kernel
theorem dX9_does_128 : decode cX9_does 128 = .ok (.goto 84, 3) := by decide +kernel
theorem dX9_does_131 : decode cX9_does 131 = .ok (.aload_n 0, 1) := by decide +kernel
theorem dX9_does_132 : decode cX9_does 132 = .ok (.iload_n 3, 1) := by decide +kernel
theorem dX9_does_133 : decode cX9_does 133 = .ok (.invokevirtual 205, 3) := by decide +kernel
theorem dX9_does_136 : decode cX9_does 136 = .ok (.goto 76, 3) := by decide +kernel
theorem dX9_does_139 : decode cX9_does 139 = .ok (.aload_n 0, 1) := by decide +kernel
theorem dX9_does_140 : decode cX9_does 140 = .ok (.iload_n 2, 1) := by decide +kernel
theorem dX9_does_141 : decode cX9_does 141 = .ok (.invokevirtual 227, 3) := by decide +kernel
theorem dX9_does_144 : decode cX9_does 144 = .ok (.goto 68, 3) := by decide +kernel
theorem dX9_does_147 : decode cX9_does 147 = .ok (.aload_n 0, 1) := by decide +kernel
theorem dX9_does_148 : decode cX9_does 148 = .ok (.iload_n 2, 1) := by decide +kernel
theorem dX9_does_149 : decode cX9_does 149 = .ok (.invokevirtual 205, 3) := by decide +kernel
theorem dX9_does_152 : decode cX9_does 152 = .ok (.goto 60, 3) := by decide +kernel
theorem dX9_does_155 : decode cX9_does 155 = .ok (.iload_n 2, 1) := by decide +kernel
theorem dX9_does_156 : decode cX9_does 156 = .ok (.i2l, 1) := by decide +kernel
theorem dX9_does_157 : decode cX9_does 157 = .ok (.lconst 0, 1) := by decide +kernel
theorem dX9_does_158 : decode cX9_does 158 = .ok (.ldc2_w 230, 3) := by decide +kernel
theorem dX9_does_161 : decode cX9_does 161 = .ok (.invokestatic 103, 3) := by decide +kernel
theorem dX9_does_164 : decode cX9_does 164 = .ok (.ifCond .ne 12, 3) := by decide +kernel
theorem dX9_does_167 : decode cX9_does 167 = .ok (.aload_n 0, 1) := by decide +kernel
theorem dX9_does_168 : decode cX9_does 168 = .ok (.iconst 2, 1) := by decide +kernel
theorem dX9_does_169 : decode cX9_does 169 = .ok (.iload_n 1, 1) := by decide +kernel
theorem dX9_does_170 : decode cX9_does 170 = .ok (.invokevirtual 181, 3) := by decide +kernel
theorem dX9_does_173 : decode cX9_does 173 = .ok (.goto 39, 3) := by decide +kernel
theorem dX9_does_176 : decode cX9_does 176 = .ok (.aload_n 0, 1) := by decide +kernel
theorem dX9_does_177 : decode cX9_does 177 = .ok (.getfield 7, 3) := by decide +kernel
theorem dX9_does_180 : decode cX9_does 180 = .ok (.iload_n 1, 1) := by decide +kernel
theorem dX9_does_181 : decode cX9_does 181 = .ok (.iaload, 1) := by decide +kernel
theorem dX9_does_182 : decode cX9_does 182 = .ok (.bipush 9, 2) := by decide +kernel
theorem dX9_does_184 : decode cX9_does 184 = .ok (.if_icmp .ne 16, 3) := by decide +kernel
theorem dX9_does_187 : decode cX9_does 187 = .ok (.aload_n 0, 1) := by decide +kernel
theorem dX9_does_188 : decode cX9_does 188 = .ok (.aload_n 0, 1) := by decide +kernel
theorem dX9_does_189 : decode cX9_does 189 = .ok (.getfield 31, 3) := by decide +kernel
theorem dX9_does_192 : decode cX9_does 192 = .ok (.iload_n 2, 1) := by decide +kernel
theorem dX9_does_193 : decode cX9_does 193 = .ok (.iaload, 1) := by decide +kernel
theorem dX9_does_194 : decode cX9_does 194 = .ok (.invokevirtual 205, 3) := by decide +kernel
theorem dX9_does_197 : decode cX9_does 197 = .ok (.goto 15, 3) := by decide +kernel
theorem dX9_does_200 : decode cX9_does 200 = .ok (.aload_n 0, 1) := by decide +kernel
theorem dX9_does_201 : decode cX9_does 201 = .ok (.getfield 31, 3) := by decide +kernel
theorem dX9_does_204 : decode cX9_does 204 = .ok (.iload_n 2, 1) := by decide +kernel
theorem dX9_does_205 : decode cX9_does 205 = .ok (.iload_n 3, 1) := by decide +kernel
theorem dX9_does_206 : decode cX9_does 206 = .ok (.iastore, 1) := by decide +kernel
theorem dX9_does_207 : decode cX9_does 207 = .ok (.aload_n 0, 1) := by decide +kernel
theorem dX9_does_208 : decode cX9_does 208 = .ok (.iload_n 3, 1) := by decide +kernel
theorem dX9_does_209 : decode cX9_does 209 = .ok (.invokevirtual 205, 3) := by decide +kernel
theorem dX9_does_212 : decode cX9_does 212 = .ok (.return_, 1) := by decide +kernel
theorem dX9_run_0 : decode cX9_run 0 = .ok (.aload_n 0, 1) := by decide +kernel
theorem dX9_run_1 : decode cX9_run 1 = .ok (.iload_n 1, 1) := by decide +kernel
theorem dX9_run_2 : decode cX9_run 2 = .ok (.invokevirtual 145, 3) := by decide +kernel
theorem dX9_run_5 : decode cX9_run 5 = .ok (.ifCond .eq 16, 3) := by decide +kernel
theorem dX9_run_8 : decode cX9_run 8 = .ok (.iload 5, 2) := by decide +kernel
theorem dX9_run_10 : decode cX9_run 10 = .ok (.i2l, 1) := by decide +kernel
theorem dX9_run_11 : decode cX9_run 11 = .ok (.lconst 0, 1) := by decide +kernel
theorem dX9_run_12 : decode cX9_run 12 = .ok (.ldc2_w 232, 3) := by decide +kernel
theorem dX9_run_15 : decode cX9_run 15 = .ok (.invokestatic 103, 3) := by decide +kernel
theorem dX9_run_18 : decode cX9_run 18 = .ok (.ifCond .ne 5, 3) := by decide +kernel
theorem dX9_run_21 : decode cX9_run 21 = .ok (.iconst (-1), 1) := by decide +kernel
theorem dX9_run_22 : decode cX9_run 22 = .ok (.ireturn, 1) := by decide +kernel
theorem dX9_run_23 : decode cX9_run 23 = .ok (.aload_n 0, 1) := by decide +kernel
theorem dX9_run_24 : decode cX9_run 24 = .ok (.getfield 234, 3) := by decide +kernel
theorem dX9_run_27 : decode cX9_run 27 = .ok (.ldc 237, 2) := by decide +kernel
theorem dX9_run_29 : decode cX9_run 29 = .ok (.if_icmp .lt 6, 3) := by decide +kernel
theorem dX9_run_32 : decode cX9_run 32 = .ok (.bipush (-3), 2) := by decide +kernel
theorem dX9_run_34 : decode cX9_run 34 = .ok (.ireturn, 1) := by decide +kernel
theorem dX9_run_35 : decode cX9_run 35 = .ok (.aload_n 0, 1) := by decide +kernel
theorem dX9_run_36 : decode cX9_run 36 = .ok (.iconst 1, 1) := by decide +kernel
theorem dX9_run_37 : decode cX9_run 37 = .ok (.putfield 238, 3) := by decide +kernel
theorem dX9_run_40 : decode cX9_run 40 = .ok (.aload_n 0, 1) := by decide +kernel
theorem dX9_run_41 : decode cX9_run 41 = .ok (.iconst 0, 1) := by decide +kernel
theorem dX9_run_42 : decode cX9_run 42 = .ok (.putfield 165, 3) := by decide +kernel
theorem dX9_run_45 : decode cX9_run 45 = .ok (.aload_n 0, 1) := by decide +kernel
theorem dX9_run_46 : decode cX9_run 46 = .ok (.iconst 0, 1) := by decide +kernel
theorem dX9_run_47 : decode cX9_run 47 = .ok (.putfield 171, 3) := by decide +kernel
theorem dX9_run_50 : decode cX9_run 50 = .ok (.aload_n 0, 1) := by decide +kernel
theorem dX9_run_51 : decode cX9_run 51 = .ok (.iconst 0, 1) := by decide +kernel
theorem dX9_run_52 : decode cX9_run 52 = .ok (.putfield 185, 3) := by decide +kernel
theorem dX9_run_55 : decode cX9_run 55 = .ok (.aload_n 0, 1) := by decide +kernel
theorem dX9_run_56 : decode cX9_run 56 = .ok (.iconst 0, 1) := by decide +kernel
theorem dX9_run_57 : decode cX9_run 57 = .ok (.putfield 208, 3) := by decide +kernel
theorem dX9_run_60 : decode cX9_run 60 = .ok (.aload_n 0, 1) := by decide +kernel
theorem dX9_run_61 : decode cX9_run 61 = .ok (.bipush (-4), 2) := by decide +kernel
theorem dX9_run_63 : decode cX9_run 63 = .ok (.putfield 168, 3) := by decide +kernel
theorem dX9_run_66 : decode cX9_run 66 = .ok (.aload_n 0, 1) := by decide +kernel
theorem dX9_run_67 : decode cX9_run 67 = .ok (.iconst 0, 1) := by decide +kernel
theorem dX9_run_68 : decode cX9_run 68 = .ok (.putfield 174, 3) := by decide +kernel
theorem dX9_run_71 : decode cX9_run 71 = .ok (.aload_n 0, 1) := by decide +kernel
theorem dX9_run_72 : decode cX9_run 72 = .ok (.iload 5, 2) := by decide +kernel
theorem dX9_run_74 : decode cX9_run 74 = .ok (.putfield 178, 3) := by decide +kernel
theorem dX9_run_77 : decode cX9_run 77 = .ok (.aload_n 0, 1) := by decide +kernel
theorem dX9_run_78 : decode cX9_run 78 = .ok (.getfield 28, 3) := by decide +kernel
theorem dX9_run_81 : decode cX9_run 81 = .ok (.iload_n 1, 1) := by decide +kernel
theorem dX9_run_82 : decode cX9_run 82 = .ok (.iaload, 1) := by decide +kernel
theorem dX9_run_83 : decode cX9_run 83 = .ok (.bipush (-4), 2) := by decide +kernel
theorem dX9_run_85 : decode cX9_run 85 = .ok (.if_icmp .ne 15, 3) := by decide +kernel
theorem dX9_run_88 : decode cX9_run 88 = .ok (.aload_n 0, 1) := by decide +kernel
theorem dX9_run_89 : decode cX9_run 89 = .ok (.iconst 3, 1) := by decide +kernel
theorem dX9_run_90 : decode cX9_run 90 = .ok (.bipush (-4), 2) := by decide +kernel
theorem dX9_run_92 : decode cX9_run 92 = .ok (.invokevirtual 181, 3) := by decide +kernel
theorem dX9_run_95 : decode cX9_run 95 = .ok (.aload_n 0, 1) := by decide +kernel
theorem dX9_run_96 : decode cX9_run 96 = .ok (.getfield 165, 3) := by decide +kernel
theorem dX9_run_99 : decode cX9_run 99 = .ok (.ireturn, 1) := by decide +kernel
theorem dX9_run_100 : decode cX9_run 100 = .ok (.iconst 0, 1) := by decide +kernel
theorem dX9_run_101 : decode cX9_run 101 = .ok (.istore 6, 2) := by decide +kernel
theorem dX9_run_103 : decode cX9_run 103 = .ok (.iload 6, 2) := by decide +kernel
theorem dX9_run_105 : decode cX9_run 105 = .ok (.bipush 40, 2) := by decide +kernel
theorem dX9_run_107 : decode cX9_run 107 = .ok (.if_icmp .ge 52, 3) := by decide +kernel
theorem dX9_run_110 : decode cX9_run 110 = .ok (.aload_n 0, 1) := by decide +kernel
theorem dX9_run_111 : decode cX9_run 111 = .ok (.getfield 61, 3) := by decide +kernel
theorem dX9_run_114 : decode cX9_run 114 = .ok (.iload 6, 2) := by decide +kernel
theorem dX9_run_116 : decode cX9_run 116 = .ok (.iload 6, 2) := by decide +kernel
theorem dX9_run_118 : decode cX9_run 118 = .ok (.aload_n 0, 1) := by decide +kernel
theorem dX9_run_119 : decode cX9_run 119 = .ok (.getfield 25, 3) := by decide +kernel
theorem dX9_run_122 : decode cX9_run 122 = .ok (.iload_n 1, 1) := by decide +kernel
theorem dX9_run_123 : decode cX9_run 123 = .ok (.iaload, 1) := by decide +kernel
theorem dX9_run_124 : decode cX9_run 124 = .ok (.if_icmp .lt 7, 3) := by decide +kernel
theorem dX9_run_127 : decode cX9_run 127 = .ok (.iconst 0, 1) := by decide +kernel
theorem dX9_run_128 : decode cX9_run 128 = .ok (.goto 24, 3) := by decide +kernel
theorem dX9_run_131 : decode cX9_run 131 = .ok (.iload 6, 2) := by decide +kernel
theorem dX9_run_133 : decode cX9_run 133 = .ok (.ifCond .ne 7, 3) := by decide +kernel
theorem dX9_run_136 : decode cX9_run 136 = .ok (.iload_n 2, 1) := by decide +kernel
theorem dX9_run_137 : decode cX9_run 137 = .ok (.goto 15, 3) := by decide +kernel
theorem dX9_run_140 : decode cX9_run 140 = .ok (.iload 6, 2) := by decide +kernel
theorem dX9_run_142 : decode cX9_run 142 = .ok (.iconst 1, 1) := by decide +kernel
theorem dX9_run_143 : decode cX9_run 143 = .ok (.if_icmp .ne 7, 3) := by decide +kernel
theorem dX9_run_146 : decode cX9_run 146 = .ok (.iload_n 3, 1) := by decide +kernel
theorem dX9_run_147 : decode cX9_run 147 = .ok (.goto 5, 3) := by decide +kernel
theorem dX9_run_150 : decode cX9_run 150 = .ok (.iload 4, 2) := by decide +kernel
theorem dX9_run_152 : decode cX9_run 152 = .ok (.iastore, 1) := by decide +kernel
theorem dX9_run_153 : decode cX9_run 153 = .ok (.iinc 6 1, 3) := by decide +kernel
theorem dX9_run_156 : decode cX9_run 156 = .ok (.goto (-53), 3) := by decide +kernel
theorem dX9_run_159 : decode cX9_run 159 = .ok (.aload_n 0, 1) := by decide +kernel
theorem dX9_run_160 : decode cX9_run 160 = .ok (.iconst 1, 1) := by decide +kernel
theorem dX9_run_161 : decode cX9_run 161 = .ok (.putfield 198, 3) := by decide +kernel
theorem dX9_run_164 : decode cX9_run 164 = .ok (.aload_n 0, 1) := by decide +kernel
theorem dX9_run_165 : decode cX9_run 165 = .ok (.iconst 1, 1) := by decide +kernel
theorem dX9_run_166 : decode cX9_run 166 = .ok (.putfield 208, 3) := by decide +kernel
theorem dX9_run_169 : decode cX9_run 169 = .ok (.aload_n 0, 1) := by decide +kernel
theorem dX9_run_170 : decode cX9_run 170 = .ok (.iconst 0, 1) := by decide +kernel
theorem dX9_run_171 : decode cX9_run 171 = .ok (.putfield 195, 3) := by decide +kernel
theorem dX9_run_174 : decode cX9_run 174 = .ok (.aload_n 0, 1) := by decide +kernel
theorem dX9_run_175 : decode cX9_run 175 = .ok (.aload_n 0, 1) := by decide +kernel
theorem dX9_run_176 : decode cX9_run 176 = .ok (.getfield 28, 3) := by decide +kernel
theorem dX9_run_179 : decode cX9_run 179 = .ok (.iload_n 1, 1) := by decide +kernel
theorem dX9_run_180 : decode cX9_run 180 = .ok (.iaload, 1) := by decide +kernel
theorem dX9_run_181 : decode cX9_run 181 = .ok (.invokevirtual 211, 3) := by decide +kernel
theorem dX9_run_184 : decode cX9_run 184 = .ok (.aload_n 0, 1) := by decide +kernel
theorem dX9_run_185 : decode cX9_run 185 = .ok (.getfield 174, 3) := by decide +kernel
theorem dX9_run_188 : decode cX9_run 188 = .ok (.ifCond .ne 10, 3) := by decide +kernel
theorem dX9_run_191 : decode cX9_run 191 = .ok (.aload_n 0, 1) := by decide +kernel
theorem dX9_run_192 : decode cX9_run 192 = .ok (.invokevirtual 241, 3) := by decide +kernel
theorem dX9_run_195 : decode cX9_run 195 = .ok (.goto (-11), 3) := by decide +kernel
theorem dX9_run_198 : decode cX9_run 198 = .ok (.aload_n 0, 1) := by decide +kernel
theorem dX9_run_199 : decode cX9_run 199 = .ok (.dup, 1) := by decide +kernel
theorem dX9_run_200 : decode cX9_run 200 = .ok (.getfield 234, 3) := by decide +kernel
theorem dX9_run_203 : decode cX9_run 203 = .ok (.aload_n 0, 1) := by decide +kernel
theorem dX9_run_204 : decode cX9_run 204 = .ok (.getfield 185, 3) := by decide +kernel
theorem dX9_run_207 : decode cX9_run 207 = .ok (.iadd, 1) := by decide +kernel
theorem dX9_run_208 : decode cX9_run 208 = .ok (.putfield 234, 3) := by decide +kernel
theorem dX9_run_211 : decode cX9_run 211 = .ok (.aload_n 0, 1) := by decide +kernel
theorem dX9_run_212 : decode cX9_run 212 = .ok (.getfield 165, 3) := by decide +kernel
theorem dX9_run_215 : decode cX9_run 215 = .ok (.ireturn, 1) := by decide +kernel
theorem dX9_ran_0 : decode cX9_ran 0 = .ok (.iload_n 1, 1) := by decide +kernel
theorem dX9_ran_1 : decode cX9_ran 1 = .ok (.tableswitch 62 0 3 #[31, 36, 41, 46], 31) := by decide +kernel
theorem dX9_ran_32 : decode cX9_ran 32 = .ok (.aload_n 0, 1) := by decide +kernel
theorem dX9_ran_33 : decode cX9_ran 33 = .ok (.getfield 171, 3) := by decide +kernel
theorem dX9_ran_36 : decode cX9_ran 36 = .ok (.ireturn, 1) := by decide +kernel
theorem dX9_ran_37 : decode cX9_ran 37 = .ok (.aload_n 0, 1) := by decide +kernel
theorem dX9_ran_38 : decode cX9_ran 38 = .ok (.getfield 185, 3) := by decide +kernel
theorem dX9_ran_41 : decode cX9_ran 41 = .ok (.ireturn, 1) := by decide +kernel
theorem dX9_ran_42 : decode cX9_ran 42 = .ok (.aload_n 0, 1) := by decide +kernel
theorem dX9_ran_43 : decode cX9_ran 43 = .ok (.getfield 208, 3) := by decide +kernel
theorem dX9_ran_46 : decode cX9_ran 46 = .ok (.ireturn, 1) := by decide +kernel
theorem dX9_ran_47 : decode cX9_ran 47 = .ok (.aload_n 0, 1) := by decide +kernel
theorem dX9_ran_48 : decode cX9_ran 48 = .ok (.getfield 238, 3) := by decide +kernel
theorem dX9_ran_51 : decode cX9_ran 51 = .ok (.ifCond .eq 10, 3) := by decide +kernel
theorem dX9_ran_54 : decode cX9_ran 54 = .ok (.aload_n 0, 1) := by decide +kernel
theorem dX9_ran_55 : decode cX9_ran 55 = .ok (.getfield 168, 3) := by decide +kernel
theorem dX9_ran_58 : decode cX9_ran 58 = .ok (.goto 4, 3) := by decide +kernel
theorem dX9_ran_61 : decode cX9_ran 61 = .ok (.iconst 0, 1) := by decide +kernel
theorem dX9_ran_62 : decode cX9_ran 62 = .ok (.ireturn, 1) := by decide +kernel
theorem dX9_ran_63 : decode cX9_ran 63 = .ok (.ldc 158, 2) := by decide +kernel
theorem dX9_ran_65 : decode cX9_ran 65 = .ok (.ireturn, 1) := by decide +kernel
theorem dX9_row_0 : decode cX9_row 0 = .ok (.iload_n 1, 1) := by decide +kernel
theorem dX9_row_1 : decode cX9_row 1 = .ok (.i2l, 1) := by decide +kernel
theorem dX9_row_2 : decode cX9_row 2 = .ok (.lconst 0, 1) := by decide +kernel
theorem dX9_row_3 : decode cX9_row 3 = .ok (.ldc2_w 230, 3) := by decide +kernel
theorem dX9_row_6 : decode cX9_row 6 = .ok (.invokestatic 103, 3) := by decide +kernel
theorem dX9_row_9 : decode cX9_row 9 = .ok (.ifCond .eq 12, 3) := by decide +kernel
theorem dX9_row_12 : decode cX9_row 12 = .ok (.aload_n 0, 1) := by decide +kernel
theorem dX9_row_13 : decode cX9_row 13 = .ok (.getfield 31, 3) := by decide +kernel
theorem dX9_row_16 : decode cX9_row 16 = .ok (.iload_n 1, 1) := by decide +kernel
theorem dX9_row_17 : decode cX9_row 17 = .ok (.iaload, 1) := by decide +kernel
theorem dX9_row_18 : decode cX9_row 18 = .ok (.goto 4, 3) := by decide +kernel
theorem dX9_row_21 : decode cX9_row 21 = .ok (.iconst 0, 1) := by decide +kernel
theorem dX9_row_22 : decode cX9_row 22 = .ok (.ireturn, 1) := by decide +kernel
theorem dX9_lay_0 : decode cX9_lay 0 = .ok (.iload_n 1, 1) := by decide +kernel
theorem dX9_lay_1 : decode cX9_lay 1 = .ok (.i2l, 1) := by decide +kernel
theorem dX9_lay_2 : decode cX9_lay 2 = .ok (.lconst 0, 1) := by decide +kernel
theorem dX9_lay_3 : decode cX9_lay 3 = .ok (.ldc2_w 230, 3) := by decide +kernel
theorem dX9_lay_6 : decode cX9_lay 6 = .ok (.invokestatic 103, 3) := by decide +kernel
theorem dX9_lay_9 : decode cX9_lay 9 = .ok (.ifCond .ne 5, 3) := by decide +kernel
theorem dX9_lay_12 : decode cX9_lay 12 = .ok (.iconst (-1), 1) := by decide +kernel
theorem dX9_lay_13 : decode cX9_lay 13 = .ok (.ireturn, 1) := by decide +kernel
theorem dX9_lay_14 : decode cX9_lay 14 = .ok (.aload_n 0, 1) := by decide +kernel
theorem dX9_lay_15 : decode cX9_lay 15 = .ok (.getfield 31, 3) := by decide +kernel
theorem dX9_lay_18 : decode cX9_lay 18 = .ok (.iload_n 1, 1) := by decide +kernel
theorem dX9_lay_19 : decode cX9_lay 19 = .ok (.iload_n 2, 1) := by decide +kernel
theorem dX9_lay_20 : decode cX9_lay 20 = .ok (.iastore, 1) := by decide +kernel
theorem dX9_lay_21 : decode cX9_lay 21 = .ok (.iconst 1, 1) := by decide +kernel
theorem dX9_lay_22 : decode cX9_lay 22 = .ok (.ireturn, 1) := by decide +kernel
theorem dX9_clearCounts_0 : decode cX9_clearCounts 0 = .ok (.iconst 0, 1) := by decide +kernel
theorem dX9_clearCounts_1 : decode cX9_clearCounts 1 = .ok (.istore_n 1, 1) := by decide +kernel
theorem dX9_clearCounts_2 : decode cX9_clearCounts 2 = .ok (.iload_n 1, 1) := by decide +kernel
theorem dX9_clearCounts_3 : decode cX9_clearCounts 3 = .ok (.aload_n 0, 1) := by decide +kernel
theorem dX9_clearCounts_4 : decode cX9_clearCounts 4 = .ok (.getfield 92, 3) := by decide +kernel
theorem dX9_clearCounts_7 : decode cX9_clearCounts 7 = .ok (.if_icmp .ge 16, 3) := by decide +kernel
theorem dX9_clearCounts_10 : decode cX9_clearCounts 10 = .ok (.aload_n 0, 1) := by decide +kernel
theorem dX9_clearCounts_11 : decode cX9_clearCounts 11 = .ok (.getfield 22, 3) := by decide +kernel
theorem dX9_clearCounts_14 : decode cX9_clearCounts 14 = .ok (.iload_n 1, 1) := by decide +kernel
theorem dX9_clearCounts_15 : decode cX9_clearCounts 15 = .ok (.iconst 0, 1) := by decide +kernel
theorem dX9_clearCounts_16 : decode cX9_clearCounts 16 = .ok (.iastore, 1) := by decide +kernel
theorem dX9_clearCounts_17 : decode cX9_clearCounts 17 = .ok (.iinc 1 1, 3) := by decide +kernel
theorem dX9_clearCounts_20 : decode cX9_clearCounts 20 = .ok (.goto (-18), 3) := by decide +kernel
theorem dX9_clearCounts_23 : decode cX9_clearCounts 23 = .ok (.iconst 0, 1) := by decide +kernel
theorem dX9_clearCounts_24 : decode cX9_clearCounts 24 = .ok (.ireturn, 1) := by decide +kernel
theorem dX9_keep_0 : decode cX9_keep 0 = .ok (.aload_n 0, 1) := by decide +kernel
theorem dX9_keep_1 : decode cX9_keep 1 = .ok (.invokevirtual 244, 3) := by decide +kernel
theorem dX9_keep_4 : decode cX9_keep 4 = .ok (.aload_n 0, 1) := by decide +kernel
theorem dX9_keep_5 : decode cX9_keep 5 = .ok (.invokevirtual 247, 3) := by decide +kernel
theorem dX9_keep_8 : decode cX9_keep 8 = .ok (.return_, 1) := by decide +kernel
theorem dX9_keepIt_0 : decode cX9_keepIt 0 = .ok (.aload_n 0, 1) := by decide +kernel
theorem dX9_keepIt_1 : decode cX9_keepIt 1 = .ok (.getfield 131, 3) := by decide +kernel
theorem dX9_keepIt_4 : decode cX9_keepIt 4 = .ok (.bipush 12, 2) := by decide +kernel
theorem dX9_keepIt_6 : decode cX9_keepIt 6 = .ok (.if_icmp .ne 31, 3) := by decide +kernel
theorem dX9_keepIt_9 : decode cX9_keepIt 9 = .ok (.iconst 1, 1) := by decide +kernel
theorem dX9_keepIt_10 : decode cX9_keepIt 10 = .ok (.istore_n 1, 1) := by decide +kernel
theorem dX9_keepIt_11 : decode cX9_keepIt 11 = .ok (.iload_n 1, 1) := by decide +kernel
theorem dX9_keepIt_12 : decode cX9_keepIt 12 = .ok (.bipush 12, 2) := by decide +kernel
theorem dX9_keepIt_14 : decode cX9_keepIt 14 = .ok (.if_icmp .ge 17, 3) := by decide +kernel
theorem dX9_keepIt_17 : decode cX9_keepIt 17 = .ok (.aload_n 0, 1) := by decide +kernel
theorem dX9_keepIt_18 : decode cX9_keepIt 18 = .ok (.iload_n 1, 1) := by decide +kernel
theorem dX9_keepIt_19 : decode cX9_keepIt 19 = .ok (.iload_n 1, 1) := by decide +kernel
theorem dX9_keepIt_20 : decode cX9_keepIt 20 = .ok (.iconst 1, 1) := by decide +kernel
theorem dX9_keepIt_21 : decode cX9_keepIt 21 = .ok (.isub, 1) := by decide +kernel
theorem dX9_keepIt_22 : decode cX9_keepIt 22 = .ok (.invokevirtual 250, 3) := by decide +kernel
theorem dX9_keepIt_25 : decode cX9_keepIt 25 = .ok (.iinc 1 1, 3) := by decide +kernel
theorem dX9_keepIt_28 : decode cX9_keepIt 28 = .ok (.goto (-17), 3) := by decide +kernel
theorem dX9_keepIt_31 : decode cX9_keepIt 31 = .ok (.aload_n 0, 1) := by decide +kernel
theorem dX9_keepIt_32 : decode cX9_keepIt 32 = .ok (.bipush 11, 2) := by decide +kernel
theorem dX9_keepIt_34 : decode cX9_keepIt 34 = .ok (.putfield 131, 3) := by decide +kernel
theorem dX9_keepIt_37 : decode cX9_keepIt 37 = .ok (.aload_n 0, 1) := by decide +kernel
theorem dX9_keepIt_38 : decode cX9_keepIt 38 = .ok (.bipush 12, 2) := by decide +kernel
theorem dX9_keepIt_40 : decode cX9_keepIt 40 = .ok (.aload_n 0, 1) := by decide +kernel
theorem dX9_keepIt_41 : decode cX9_keepIt 41 = .ok (.getfield 131, 3) := by decide +kernel
theorem dX9_keepIt_44 : decode cX9_keepIt 44 = .ok (.invokevirtual 250, 3) := by decide +kernel
theorem dX9_keepIt_47 : decode cX9_keepIt 47 = .ok (.aload_n 0, 1) := by decide +kernel
theorem dX9_keepIt_48 : decode cX9_keepIt 48 = .ok (.dup, 1) := by decide +kernel
theorem dX9_keepIt_49 : decode cX9_keepIt 49 = .ok (.getfield 131, 3) := by decide +kernel
theorem dX9_keepIt_52 : decode cX9_keepIt 52 = .ok (.iconst 1, 1) := by decide +kernel
theorem dX9_keepIt_53 : decode cX9_keepIt 53 = .ok (.iadd, 1) := by decide +kernel
theorem dX9_keepIt_54 : decode cX9_keepIt 54 = .ok (.putfield 131, 3) := by decide +kernel
theorem dX9_keepIt_57 : decode cX9_keepIt 57 = .ok (.return_, 1) := by decide +kernel
theorem dX9_writesDown_0 : decode cX9_writesDown 0 = .ok (.ldc 253, 2) := by decide +kernel
theorem dX9_writesDown_2 : decode cX9_writesDown 2 = .ok (.istore_n 1, 1) := by decide +kernel
theorem dX9_writesDown_3 : decode cX9_writesDown 3 = .ok (.iconst 0, 1) := by decide +kernel
theorem dX9_writesDown_4 : decode cX9_writesDown 4 = .ok (.istore_n 2, 1) := by decide +kernel
theorem dX9_writesDown_5 : decode cX9_writesDown 5 = .ok (.iload_n 2, 1) := by decide +kernel
theorem dX9_writesDown_6 : decode cX9_writesDown 6 = .ok (.aload_n 0, 1) := by decide +kernel
theorem dX9_writesDown_7 : decode cX9_writesDown 7 = .ok (.getfield 92, 3) := by decide +kernel
theorem dX9_writesDown_10 : decode cX9_writesDown 10 = .ok (.if_icmp .ge 102, 3) := by decide +kernel
theorem dX9_writesDown_13 : decode cX9_writesDown 13 = .ok (.aload_n 0, 1) := by decide +kernel
theorem dX9_writesDown_14 : decode cX9_writesDown 14 = .ok (.getfield 68, 3) := by decide +kernel
theorem dX9_writesDown_17 : decode cX9_writesDown 17 = .ok (.iload_n 1, 1) := by decide +kernel
theorem dX9_writesDown_18 : decode cX9_writesDown 18 = .ok (.bipush 6, 2) := by decide +kernel
theorem dX9_writesDown_20 : decode cX9_writesDown 20 = .ok (.iload_n 2, 1) := by decide +kernel
theorem dX9_writesDown_21 : decode cX9_writesDown 21 = .ok (.imul, 1) := by decide +kernel
theorem dX9_writesDown_22 : decode cX9_writesDown 22 = .ok (.iadd, 1) := by decide +kernel
theorem dX9_writesDown_23 : decode cX9_writesDown 23 = .ok (.aload_n 0, 1) := by decide +kernel
theorem dX9_writesDown_24 : decode cX9_writesDown 24 = .ok (.getfield 7, 3) := by decide +kernel
theorem dX9_writesDown_27 : decode cX9_writesDown 27 = .ok (.iload_n 2, 1) := by decide +kernel
theorem dX9_writesDown_28 : decode cX9_writesDown 28 = .ok (.iaload, 1) := by decide +kernel
theorem dX9_writesDown_29 : decode cX9_writesDown 29 = .ok (.iastore, 1) := by decide +kernel
theorem dX9_writesDown_30 : decode cX9_writesDown 30 = .ok (.aload_n 0, 1) := by decide +kernel
theorem dX9_writesDown_31 : decode cX9_writesDown 31 = .ok (.getfield 68, 3) := by decide +kernel
theorem dX9_writesDown_34 : decode cX9_writesDown 34 = .ok (.iload_n 1, 1) := by decide +kernel
theorem dX9_writesDown_35 : decode cX9_writesDown 35 = .ok (.bipush 6, 2) := by decide +kernel
theorem dX9_writesDown_37 : decode cX9_writesDown 37 = .ok (.iload_n 2, 1) := by decide +kernel
theorem dX9_writesDown_38 : decode cX9_writesDown 38 = .ok (.imul, 1) := by decide +kernel
theorem dX9_writesDown_39 : decode cX9_writesDown 39 = .ok (.iadd, 1) := by decide +kernel
theorem dX9_writesDown_40 : decode cX9_writesDown 40 = .ok (.iconst 1, 1) := by decide +kernel
theorem dX9_writesDown_41 : decode cX9_writesDown 41 = .ok (.iadd, 1) := by decide +kernel
theorem dX9_writesDown_42 : decode cX9_writesDown 42 = .ok (.aload_n 0, 1) := by decide +kernel
theorem dX9_writesDown_43 : decode cX9_writesDown 43 = .ok (.getfield 13, 3) := by decide +kernel
theorem dX9_writesDown_46 : decode cX9_writesDown 46 = .ok (.iload_n 2, 1) := by decide +kernel
theorem dX9_writesDown_47 : decode cX9_writesDown 47 = .ok (.iaload, 1) := by decide +kernel
theorem dX9_writesDown_48 : decode cX9_writesDown 48 = .ok (.iastore, 1) := by decide +kernel
theorem dX9_writesDown_49 : decode cX9_writesDown 49 = .ok (.aload_n 0, 1) := by decide +kernel
theorem dX9_writesDown_50 : decode cX9_writesDown 50 = .ok (.getfield 68, 3) := by decide +kernel
theorem dX9_writesDown_53 : decode cX9_writesDown 53 = .ok (.iload_n 1, 1) := by decide +kernel
theorem dX9_writesDown_54 : decode cX9_writesDown 54 = .ok (.bipush 6, 2) := by decide +kernel
theorem dX9_writesDown_56 : decode cX9_writesDown 56 = .ok (.iload_n 2, 1) := by decide +kernel
theorem dX9_writesDown_57 : decode cX9_writesDown 57 = .ok (.imul, 1) := by decide +kernel
theorem dX9_writesDown_58 : decode cX9_writesDown 58 = .ok (.iadd, 1) := by decide +kernel
theorem dX9_writesDown_59 : decode cX9_writesDown 59 = .ok (.iconst 2, 1) := by decide +kernel
theorem dX9_writesDown_60 : decode cX9_writesDown 60 = .ok (.iadd, 1) := by decide +kernel
theorem dX9_writesDown_61 : decode cX9_writesDown 61 = .ok (.aload_n 0, 1) := by decide +kernel
theorem dX9_writesDown_62 : decode cX9_writesDown 62 = .ok (.getfield 19, 3) := by decide +kernel
theorem dX9_writesDown_65 : decode cX9_writesDown 65 = .ok (.iload_n 2, 1) := by decide +kernel
theorem dX9_writesDown_66 : decode cX9_writesDown 66 = .ok (.iaload, 1) := by decide +kernel
theorem dX9_writesDown_67 : decode cX9_writesDown 67 = .ok (.iastore, 1) := by decide +kernel
theorem dX9_writesDown_68 : decode cX9_writesDown 68 = .ok (.iconst 0, 1) := by decide +kernel
theorem dX9_writesDown_69 : decode cX9_writesDown 69 = .ok (.istore_n 3, 1) := by decide +kernel
theorem dX9_writesDown_70 : decode cX9_writesDown 70 = .ok (.iload_n 3, 1) := by decide +kernel
theorem dX9_writesDown_71 : decode cX9_writesDown 71 = .ok (.iconst 3, 1) := by decide +kernel
theorem dX9_writesDown_72 : decode cX9_writesDown 72 = .ok (.if_icmp .ge 34, 3) := by decide +kernel
theorem dX9_writesDown_75 : decode cX9_writesDown 75 = .ok (.aload_n 0, 1) := by decide +kernel
theorem dX9_writesDown_76 : decode cX9_writesDown 76 = .ok (.getfield 68, 3) := by decide +kernel
theorem dX9_writesDown_79 : decode cX9_writesDown 79 = .ok (.iload_n 1, 1) := by decide +kernel
theorem dX9_writesDown_80 : decode cX9_writesDown 80 = .ok (.bipush 6, 2) := by decide +kernel
theorem dX9_writesDown_82 : decode cX9_writesDown 82 = .ok (.iload_n 2, 1) := by decide +kernel
theorem dX9_writesDown_83 : decode cX9_writesDown 83 = .ok (.imul, 1) := by decide +kernel
theorem dX9_writesDown_84 : decode cX9_writesDown 84 = .ok (.iadd, 1) := by decide +kernel
theorem dX9_writesDown_85 : decode cX9_writesDown 85 = .ok (.iconst 3, 1) := by decide +kernel
theorem dX9_writesDown_86 : decode cX9_writesDown 86 = .ok (.iadd, 1) := by decide +kernel
theorem dX9_writesDown_87 : decode cX9_writesDown 87 = .ok (.iload_n 3, 1) := by decide +kernel
theorem dX9_writesDown_88 : decode cX9_writesDown 88 = .ok (.iadd, 1) := by decide +kernel
theorem dX9_writesDown_89 : decode cX9_writesDown 89 = .ok (.aload_n 0, 1) := by decide +kernel
theorem dX9_writesDown_90 : decode cX9_writesDown 90 = .ok (.getfield 16, 3) := by decide +kernel
theorem dX9_writesDown_93 : decode cX9_writesDown 93 = .ok (.iconst 3, 1) := by decide +kernel
theorem dX9_writesDown_94 : decode cX9_writesDown 94 = .ok (.iload_n 2, 1) := by decide +kernel
theorem dX9_writesDown_95 : decode cX9_writesDown 95 = .ok (.imul, 1) := by decide +kernel
theorem dX9_writesDown_96 : decode cX9_writesDown 96 = .ok (.iload_n 3, 1) := by decide +kernel
theorem dX9_writesDown_97 : decode cX9_writesDown 97 = .ok (.iadd, 1) := by decide +kernel
theorem dX9_writesDown_98 : decode cX9_writesDown 98 = .ok (.iaload, 1) := by decide +kernel
theorem dX9_writesDown_99 : decode cX9_writesDown 99 = .ok (.iastore, 1) := by decide +kernel
theorem dX9_writesDown_100 : decode cX9_writesDown 100 = .ok (.iinc 3 1, 3) := by decide +kernel
theorem dX9_writesDown_103 : decode cX9_writesDown 103 = .ok (.goto (-33), 3) := by decide +kernel
theorem dX9_writesDown_106 : decode cX9_writesDown 106 = .ok (.iinc 2 1, 3) := by decide +kernel
theorem dX9_writesDown_109 : decode cX9_writesDown 109 = .ok (.goto (-104), 3) := by decide +kernel
theorem dX9_writesDown_112 : decode cX9_writesDown 112 = .ok (.iconst 0, 1) := by decide +kernel
theorem dX9_writesDown_113 : decode cX9_writesDown 113 = .ok (.istore_n 2, 1) := by decide +kernel
theorem dX9_writesDown_114 : decode cX9_writesDown 114 = .ok (.iload_n 2, 1) := by decide +kernel
theorem dX9_writesDown_115 : decode cX9_writesDown 115 = .ok (.bipush 10, 2) := by decide +kernel
theorem dX9_writesDown_117 : decode cX9_writesDown 117 = .ok (.if_icmp .ge 24, 3) := by decide +kernel
theorem dX9_writesDown_120 : decode cX9_writesDown 120 = .ok (.aload_n 0, 1) := by decide +kernel
theorem dX9_writesDown_121 : decode cX9_writesDown 121 = .ok (.getfield 71, 3) := by decide +kernel
theorem dX9_writesDown_124 : decode cX9_writesDown 124 = .ok (.bipush 120, 2) := by decide +kernel
