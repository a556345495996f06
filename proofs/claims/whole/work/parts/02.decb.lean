theorem dX2_deliver_23 : decode cX2_deliver 23 = .ok (.iload_n 2, 1) := by decide +kernel
theorem dX2_deliver_24 : decode cX2_deliver 24 = .ok (.iaload, 1) := by decide +kernel
theorem dX2_deliver_25 : decode cX2_deliver 25 = .ok (.iconst 4, 1) := by decide +kernel
theorem dX2_deliver_26 : decode cX2_deliver 26 = .ok (.if_icmp .ge 29, 3) := by decide +kernel
theorem dX2_deliver_29 : decode cX2_deliver 29 = .ok (.aload_n 0, 1) := by decide +kernel
theorem dX2_deliver_30 : decode cX2_deliver 30 = .ok (.getfield 33, 3) := by decide +kernel
theorem dX2_deliver_33 : decode cX2_deliver 33 = .ok (.iload_n 2, 1) := by decide +kernel
theorem dX2_deliver_34 : decode cX2_deliver 34 = .ok (.iconst 4, 1) := by decide +kernel
theorem dX2_deliver_35 : decode cX2_deliver 35 = .ok (.imul, 1) := by decide +kernel
theorem dX2_deliver_36 : decode cX2_deliver 36 = .ok (.aload_n 0, 1) := by decide +kernel
theorem dX2_deliver_37 : decode cX2_deliver 37 = .ok (.getfield 30, 3) := by decide +kernel
theorem dX2_deliver_40 : decode cX2_deliver 40 = .ok (.iload_n 2, 1) := by decide +kernel
theorem dX2_deliver_41 : decode cX2_deliver 41 = .ok (.iaload, 1) := by decide +kernel
theorem dX2_deliver_42 : decode cX2_deliver 42 = .ok (.iadd, 1) := by decide +kernel
theorem dX2_deliver_43 : decode cX2_deliver 43 = .ok (.iload_n 1, 1) := by decide +kernel
theorem dX2_deliver_44 : decode cX2_deliver 44 = .ok (.iastore, 1) := by decide +kernel
theorem dX2_deliver_45 : decode cX2_deliver 45 = .ok (.aload_n 0, 1) := by decide +kernel
theorem dX2_deliver_46 : decode cX2_deliver 46 = .ok (.getfield 30, 3) := by decide +kernel
theorem dX2_deliver_49 : decode cX2_deliver 49 = .ok (.iload_n 2, 1) := by decide +kernel
theorem dX2_deliver_50 : decode cX2_deliver 50 = .ok (.dup2, 1) := by decide +kernel
theorem dX2_deliver_51 : decode cX2_deliver 51 = .ok (.iaload, 1) := by decide +kernel
theorem dX2_deliver_52 : decode cX2_deliver 52 = .ok (.iconst 1, 1) := by decide +kernel
theorem dX2_deliver_53 : decode cX2_deliver 53 = .ok (.iadd, 1) := by decide +kernel
theorem dX2_deliver_54 : decode cX2_deliver 54 = .ok (.iastore, 1) := by decide +kernel
theorem dX2_deliver_55 : decode cX2_deliver 55 = .ok (.return_, 1) := by decide +kernel
theorem dX2_finish_0 : decode cX2_finish 0 = .ok (.aload_n 0, 1) := by decide +kernel
theorem dX2_finish_1 : decode cX2_finish 1 = .ok (.dup, 1) := by decide +kernel
theorem dX2_finish_2 : decode cX2_finish 2 = .ok (.getfield 67, 3) := by decide +kernel
theorem dX2_finish_5 : decode cX2_finish 5 = .ok (.iconst 1, 1) := by decide +kernel
theorem dX2_finish_6 : decode cX2_finish 6 = .ok (.isub, 1) := by decide +kernel
theorem dX2_finish_7 : decode cX2_finish 7 = .ok (.putfield 67, 3) := by decide +kernel
theorem dX2_finish_10 : decode cX2_finish 10 = .ok (.aload_n 0, 1) := by decide +kernel
theorem dX2_finish_11 : decode cX2_finish 11 = .ok (.iload_n 1, 1) := by decide +kernel
theorem dX2_finish_12 : decode cX2_finish 12 = .ok (.invokevirtual 126, 3) := by decide +kernel
theorem dX2_finish_15 : decode cX2_finish 15 = .ok (.return_, 1) := by decide +kernel
theorem dX2_readName_0 : decode cX2_readName 0 = .ok (.iload_n 1, 1) := by decide +kernel
theorem dX2_readName_1 : decode cX2_readName 1 = .ok (.ifCond .lt 35, 3) := by decide +kernel
theorem dX2_readName_4 : decode cX2_readName 4 = .ok (.iload_n 1, 1) := by decide +kernel
theorem dX2_readName_5 : decode cX2_readName 5 = .ok (.bipush 40, 2) := by decide +kernel
theorem dX2_readName_7 : decode cX2_readName 7 = .ok (.if_icmp .ge 29, 3) := by decide +kernel
theorem dX2_readName_10 : decode cX2_readName 10 = .ok (.aload_n 0, 1) := by decide +kernel
theorem dX2_readName_11 : decode cX2_readName 11 = .ok (.getfield 70, 3) := by decide +kernel
theorem dX2_readName_14 : decode cX2_readName 14 = .ok (.ifCond .le 22, 3) := by decide +kernel
theorem dX2_readName_17 : decode cX2_readName 17 = .ok (.aload_n 0, 1) := by decide +kernel
theorem dX2_readName_18 : decode cX2_readName 18 = .ok (.getfield 21, 3) := by decide +kernel
theorem dX2_readName_21 : decode cX2_readName 21 = .ok (.aload_n 0, 1) := by decide +kernel
theorem dX2_readName_22 : decode cX2_readName 22 = .ok (.getfield 70, 3) := by decide +kernel
theorem dX2_readName_25 : decode cX2_readName 25 = .ok (.iconst 1, 1) := by decide +kernel
theorem dX2_readName_26 : decode cX2_readName 26 = .ok (.isub, 1) := by decide +kernel
theorem dX2_readName_27 : decode cX2_readName 27 = .ok (.bipush 40, 2) := by decide +kernel
theorem dX2_readName_29 : decode cX2_readName 29 = .ok (.imul, 1) := by decide +kernel
theorem dX2_readName_30 : decode cX2_readName 30 = .ok (.iload_n 1, 1) := by decide +kernel
theorem dX2_readName_31 : decode cX2_readName 31 = .ok (.iadd, 1) := by decide +kernel
theorem dX2_readName_32 : decode cX2_readName 32 = .ok (.iaload, 1) := by decide +kernel
theorem dX2_readName_33 : decode cX2_readName 33 = .ok (.goto 4, 3) := by decide +kernel
theorem dX2_readName_36 : decode cX2_readName 36 = .ok (.iconst 0, 1) := by decide +kernel
theorem dX2_readName_37 : decode cX2_readName 37 = .ok (.ireturn, 1) := by decide +kernel
theorem dX2_writeName_0 : decode cX2_writeName 0 = .ok (.iload_n 1, 1) := by decide +kernel
theorem dX2_writeName_1 : decode cX2_writeName 1 = .ok (.ifCond .lt 33, 3) := by decide +kernel
theorem dX2_writeName_4 : decode cX2_writeName 4 = .ok (.iload_n 1, 1) := by decide +kernel
theorem dX2_writeName_5 : decode cX2_writeName 5 = .ok (.bipush 40, 2) := by decide +kernel
theorem dX2_writeName_7 : decode cX2_writeName 7 = .ok (.if_icmp .ge 27, 3) := by decide +kernel
theorem dX2_writeName_10 : decode cX2_writeName 10 = .ok (.aload_n 0, 1) := by decide +kernel
theorem dX2_writeName_11 : decode cX2_writeName 11 = .ok (.getfield 70, 3) := by decide +kernel
theorem dX2_writeName_14 : decode cX2_writeName 14 = .ok (.ifCond .le 20, 3) := by decide +kernel
theorem dX2_writeName_17 : decode cX2_writeName 17 = .ok (.aload_n 0, 1) := by decide +kernel
theorem dX2_writeName_18 : decode cX2_writeName 18 = .ok (.getfield 21, 3) := by decide +kernel
theorem dX2_writeName_21 : decode cX2_writeName 21 = .ok (.aload_n 0, 1) := by decide +kernel
theorem dX2_writeName_22 : decode cX2_writeName 22 = .ok (.getfield 70, 3) := by decide +kernel
theorem dX2_writeName_25 : decode cX2_writeName 25 = .ok (.iconst 1, 1) := by decide +kernel
theorem dX2_writeName_26 : decode cX2_writeName 26 = .ok (.isub, 1) := by decide +kernel
theorem dX2_writeName_27 : decode cX2_writeName 27 = .ok (.bipush 40, 2) := by decide +kernel
theorem dX2_writeName_29 : decode cX2_writeName 29 = .ok (.imul, 1) := by decide +kernel
theorem dX2_writeName_30 : decode cX2_writeName 30 = .ok (.iload_n 1, 1) := by decide +kernel
theorem dX2_writeName_31 : decode cX2_writeName 31 = .ok (.iadd, 1) := by decide +kernel
theorem dX2_writeName_32 : decode cX2_writeName 32 = .ok (.iload_n 2, 1) := by decide +kernel
theorem dX2_writeName_33 : decode cX2_writeName 33 = .ok (.iastore, 1) := by decide +kernel
theorem dX2_writeName_34 : decode cX2_writeName 34 = .ok (.return_, 1) := by decide +kernel
theorem dX2_advance_0 : decode cX2_advance 0 = .ok (.aload_n 0, 1) := by decide +kernel
theorem dX2_advance_1 : decode cX2_advance 1 = .ok (.getfield 27, 3) := by decide +kernel
theorem dX2_advance_4 : decode cX2_advance 4 = .ok (.iload_n 1, 1) := by decide +kernel
theorem dX2_advance_5 : decode cX2_advance 5 = .ok (.iaload, 1) := by decide +kernel
theorem dX2_advance_6 : decode cX2_advance 6 = .ok (.istore_n 2, 1) := by decide +kernel
theorem dX2_advance_7 : decode cX2_advance 7 = .ok (.aload_n 0, 1) := by decide +kernel
theorem dX2_advance_8 : decode cX2_advance 8 = .ok (.getfield 36, 3) := by decide +kernel
theorem dX2_advance_11 : decode cX2_advance 11 = .ok (.iload_n 2, 1) := by decide +kernel
theorem dX2_advance_12 : decode cX2_advance 12 = .ok (.invokevirtual 110, 3) := by decide +kernel
theorem dX2_advance_15 : decode cX2_advance 15 = .ok (.istore_n 3, 1) := by decide +kernel
theorem dX2_advance_16 : decode cX2_advance 16 = .ok (.iload_n 3, 1) := by decide +kernel
theorem dX2_advance_17 : decode cX2_advance 17 = .ok (.ifCond .lt 19, 3) := by decide +kernel
theorem dX2_advance_20 : decode cX2_advance 20 = .ok (.iload_n 3, 1) := by decide +kernel
theorem dX2_advance_21 : decode cX2_advance 21 = .ok (.getstatic 132, 3) := by decide +kernel
theorem dX2_advance_24 : decode cX2_advance 24 = .ok (.arraylength, 1) := by decide +kernel
theorem dX2_advance_25 : decode cX2_advance 25 = .ok (.if_icmp .ge 11, 3) := by decide +kernel
theorem dX2_advance_28 : decode cX2_advance 28 = .ok (.getstatic 132, 3) := by decide +kernel
theorem dX2_advance_31 : decode cX2_advance 31 = .ok (.iload_n 3, 1) := by decide +kernel
theorem dX2_advance_32 : decode cX2_advance 32 = .ok (.iaload, 1) := by decide +kernel
theorem dX2_advance_33 : decode cX2_advance 33 = .ok (.goto 4, 3) := by decide +kernel
theorem dX2_advance_36 : decode cX2_advance 36 = .ok (.iconst 0, 1) := by decide +kernel
theorem dX2_advance_37 : decode cX2_advance 37 = .ok (.istore 4, 2) := by decide +kernel
theorem dX2_advance_39 : decode cX2_advance 39 = .ok (.iload_n 3, 1) := by decide +kernel
theorem dX2_advance_40 : decode cX2_advance 40 = .ok (.lookupswitch 57 #[(3, 36), (6, 50), (8, 43)], 36) := by decide +kernel
theorem dX2_advance_76 : decode cX2_advance 76 = .ok (.aload_n 0, 1) := by decide +kernel
theorem dX2_advance_77 : decode cX2_advance 77 = .ok (.iload_n 1, 1) := by decide +kernel
theorem dX2_advance_78 : decode cX2_advance 78 = .ok (.iload_n 2, 1) := by decide +kernel
theorem dX2_advance_79 : decode cX2_advance 79 = .ok (.invokevirtual 135, 3) := by decide +kernel
theorem dX2_advance_82 : decode cX2_advance 82 = .ok (.ireturn, 1) := by decide +kernel
theorem dX2_advance_83 : decode cX2_advance 83 = .ok (.aload_n 0, 1) := by decide +kernel
theorem dX2_advance_84 : decode cX2_advance 84 = .ok (.iload_n 1, 1) := by decide +kernel
theorem dX2_advance_85 : decode cX2_advance 85 = .ok (.iload_n 2, 1) := by decide +kernel
theorem dX2_advance_86 : decode cX2_advance 86 = .ok (.invokevirtual 139, 3) := by decide +kernel
theorem dX2_advance_89 : decode cX2_advance 89 = .ok (.ireturn, 1) := by decide +kernel
theorem dX2_advance_90 : decode cX2_advance 90 = .ok (.aload_n 0, 1) := by decide +kernel
theorem dX2_advance_91 : decode cX2_advance 91 = .ok (.iload_n 1, 1) := by decide +kernel
theorem dX2_advance_92 : decode cX2_advance 92 = .ok (.iload_n 2, 1) := by decide +kernel
theorem dX2_advance_93 : decode cX2_advance 93 = .ok (.invokevirtual 142, 3) := by decide +kernel
theorem dX2_advance_96 : decode cX2_advance 96 = .ok (.ireturn, 1) := by decide +kernel
theorem dX2_advance_97 : decode cX2_advance 97 = .ok (.aload_n 0, 1) := by decide +kernel
theorem dX2_advance_98 : decode cX2_advance 98 = .ok (.getfield 30, 3) := by decide +kernel
theorem dX2_advance_101 : decode cX2_advance 101 = .ok (.iload_n 1, 1) := by decide +kernel
theorem dX2_advance_102 : decode cX2_advance 102 = .ok (.iaload, 1) := by decide +kernel
theorem dX2_advance_103 : decode cX2_advance 103 = .ok (.iload 4, 2) := by decide +kernel
theorem dX2_advance_105 : decode cX2_advance 105 = .ok (.if_icmp .ge 18, 3) := by decide +kernel
theorem dX2_advance_108 : decode cX2_advance 108 = .ok (.aload_n 0, 1) := by decide +kernel
theorem dX2_advance_109 : decode cX2_advance 109 = .ok (.getfield 36, 3) := by decide +kernel
theorem dX2_advance_112 : decode cX2_advance 112 = .ok (.iload_n 2, 1) := by decide +kernel
theorem dX2_advance_113 : decode cX2_advance 113 = .ok (.aload_n 0, 1) := by decide +kernel
theorem dX2_advance_114 : decode cX2_advance 114 = .ok (.getfield 30, 3) := by decide +kernel
theorem dX2_advance_117 : decode cX2_advance 117 = .ok (.iload_n 1, 1) := by decide +kernel
theorem dX2_advance_118 : decode cX2_advance 118 = .ok (.iaload, 1) := by decide +kernel
theorem dX2_advance_119 : decode cX2_advance 119 = .ok (.invokevirtual 145, 3) := by decide +kernel
theorem dX2_advance_122 : decode cX2_advance 122 = .ok (.ireturn, 1) := by decide +kernel
theorem dX2_advance_123 : decode cX2_advance 123 = .ok (.aload_n 0, 1) := by decide +kernel
theorem dX2_advance_124 : decode cX2_advance 124 = .ok (.iload_n 1, 1) := by decide +kernel
theorem dX2_advance_125 : decode cX2_advance 125 = .ok (.iload_n 2, 1) := by decide +kernel
theorem dX2_advance_126 : decode cX2_advance 126 = .ok (.iload_n 3, 1) := by decide +kernel
theorem dX2_advance_127 : decode cX2_advance 127 = .ok (.invokevirtual 148, 3) := by decide +kernel
theorem dX2_advance_130 : decode cX2_advance 130 = .ok (.bipush (-4), 2) := by decide +kernel
theorem dX2_advance_132 : decode cX2_advance 132 = .ok (.ireturn, 1) := by decide +kernel
theorem dX2_advancePick_0 : decode cX2_advancePick 0 = .ok (.aload_n 0, 1) := by decide +kernel
theorem dX2_advancePick_1 : decode cX2_advancePick 1 = .ok (.getfield 30, 3) := by decide +kernel
theorem dX2_advancePick_4 : decode cX2_advancePick 4 = .ok (.iload_n 1, 1) := by decide +kernel
theorem dX2_advancePick_5 : decode cX2_advancePick 5 = .ok (.iaload, 1) := by decide +kernel
theorem dX2_advancePick_6 : decode cX2_advancePick 6 = .ok (.ifCond .ne 13, 3) := by decide +kernel
theorem dX2_advancePick_9 : decode cX2_advancePick 9 = .ok (.aload_n 0, 1) := by decide +kernel
theorem dX2_advancePick_10 : decode cX2_advancePick 10 = .ok (.getfield 36, 3) := by decide +kernel
theorem dX2_advancePick_13 : decode cX2_advancePick 13 = .ok (.iload_n 2, 1) := by decide +kernel
theorem dX2_advancePick_14 : decode cX2_advancePick 14 = .ok (.iconst 0, 1) := by decide +kernel
theorem dX2_advancePick_15 : decode cX2_advancePick 15 = .ok (.invokevirtual 145, 3) := by decide +kernel
theorem dX2_advancePick_18 : decode cX2_advancePick 18 = .ok (.ireturn, 1) := by decide +kernel
theorem dX2_advancePick_19 : decode cX2_advancePick 19 = .ok (.aload_n 0, 1) := by decide +kernel
theorem dX2_advancePick_20 : decode cX2_advancePick 20 = .ok (.getfield 30, 3) := by decide +kernel
theorem dX2_advancePick_23 : decode cX2_advancePick 23 = .ok (.iload_n 1, 1) := by decide +kernel
theorem dX2_advancePick_24 : decode cX2_advancePick 24 = .ok (.iaload, 1) := by decide +kernel
theorem dX2_advancePick_25 : decode cX2_advancePick 25 = .ok (.iconst 1, 1) := by decide +kernel
theorem dX2_advancePick_26 : decode cX2_advancePick 26 = .ok (.if_icmp .ne 28, 3) := by decide +kernel
theorem dX2_advancePick_29 : decode cX2_advancePick 29 = .ok (.aload_n 0, 1) := by decide +kernel
theorem dX2_advancePick_30 : decode cX2_advancePick 30 = .ok (.getfield 36, 3) := by decide +kernel
theorem dX2_advancePick_33 : decode cX2_advancePick 33 = .ok (.iload_n 2, 1) := by decide +kernel
theorem dX2_advancePick_34 : decode cX2_advancePick 34 = .ok (.aload_n 0, 1) := by decide +kernel
theorem dX2_advancePick_35 : decode cX2_advancePick 35 = .ok (.getfield 33, 3) := by decide +kernel
theorem dX2_advancePick_38 : decode cX2_advancePick 38 = .ok (.iload_n 1, 1) := by decide +kernel
theorem dX2_advancePick_39 : decode cX2_advancePick 39 = .ok (.iconst 4, 1) := by decide +kernel
theorem dX2_advancePick_40 : decode cX2_advancePick 40 = .ok (.imul, 1) := by decide +kernel
theorem dX2_advancePick_41 : decode cX2_advancePick 41 = .ok (.iaload, 1) := by decide +kernel
theorem dX2_advancePick_42 : decode cX2_advancePick 42 = .ok (.ifCond .eq 7, 3) := by decide +kernel
theorem dX2_advancePick_45 : decode cX2_advancePick 45 = .ok (.iconst 1, 1) := by decide +kernel
theorem dX2_advancePick_46 : decode cX2_advancePick 46 = .ok (.goto 4, 3) := by decide +kernel
theorem dX2_advancePick_49 : decode cX2_advancePick 49 = .ok (.iconst 2, 1) := by decide +kernel
theorem dX2_advancePick_50 : decode cX2_advancePick 50 = .ok (.invokevirtual 145, 3) := by decide +kernel
theorem dX2_advancePick_53 : decode cX2_advancePick 53 = .ok (.ireturn, 1) := by decide +kernel
theorem dX2_advancePick_54 : decode cX2_advancePick 54 = .ok (.aload_n 0, 1) := by decide +kernel
theorem dX2_advancePick_55 : decode cX2_advancePick 55 = .ok (.aload_n 0, 1) := by decide +kernel
theorem dX2_advancePick_56 : decode cX2_advancePick 56 = .ok (.getfield 33, 3) := by decide +kernel
theorem dX2_advancePick_59 : decode cX2_advancePick 59 = .ok (.iload_n 1, 1) := by decide +kernel
theorem dX2_advancePick_60 : decode cX2_advancePick 60 = .ok (.iconst 4, 1) := by decide +kernel
theorem dX2_advancePick_61 : decode cX2_advancePick 61 = .ok (.imul, 1) := by decide +kernel
theorem dX2_advancePick_62 : decode cX2_advancePick 62 = .ok (.iconst 1, 1) := by decide +kernel
theorem dX2_advancePick_63 : decode cX2_advancePick 63 = .ok (.iadd, 1) := by decide +kernel
theorem dX2_advancePick_64 : decode cX2_advancePick 64 = .ok (.iaload, 1) := by decide +kernel
theorem dX2_advancePick_65 : decode cX2_advancePick 65 = .ok (.invokevirtual 152, 3) := by decide +kernel
theorem dX2_advancePick_68 : decode cX2_advancePick 68 = .ok (.bipush (-4), 2) := by decide +kernel
theorem dX2_advancePick_70 : decode cX2_advancePick 70 = .ok (.ireturn, 1) := by decide +kernel
theorem dX2_advanceWhile_0 : decode cX2_advanceWhile 0 = .ok (.aload_n 0, 1) := by decide +kernel
theorem dX2_advanceWhile_1 : decode cX2_advanceWhile 1 = .ok (.getfield 30, 3) := by decide +kernel
theorem dX2_advanceWhile_4 : decode cX2_advanceWhile 4 = .ok (.iload_n 1, 1) := by decide +kernel
theorem dX2_advanceWhile_5 : decode cX2_advanceWhile 5 = .ok (.iaload, 1) := by decide +kernel
theorem dX2_advanceWhile_6 : decode cX2_advanceWhile 6 = .ok (.iconst 2, 1) := by decide +kernel
theorem dX2_advanceWhile_7 : decode cX2_advanceWhile 7 = .ok (.if_icmp .ne 27, 3) := by decide +kernel
theorem dX2_advanceWhile_10 : decode cX2_advanceWhile 10 = .ok (.aload_n 0, 1) := by decide +kernel
theorem dX2_advanceWhile_11 : decode cX2_advanceWhile 11 = .ok (.iload_n 2, 1) := by decide +kernel
theorem dX2_advanceWhile_12 : decode cX2_advanceWhile 12 = .ok (.getstatic 113, 3) := by decide +kernel
theorem dX2_advanceWhile_15 : decode cX2_advanceWhile 15 = .ok (.bipush 8, 2) := by decide +kernel
theorem dX2_advanceWhile_17 : decode cX2_advanceWhile 17 = .ok (.iaload, 1) := by decide +kernel
theorem dX2_advanceWhile_18 : decode cX2_advanceWhile 18 = .ok (.invokevirtual 116, 3) := by decide +kernel
theorem dX2_advanceWhile_21 : decode cX2_advanceWhile 21 = .ok (.ifCond .ne 6, 3) := by decide +kernel
theorem dX2_advanceWhile_24 : decode cX2_advanceWhile 24 = .ok (.bipush (-4), 2) := by decide +kernel
theorem dX2_advanceWhile_26 : decode cX2_advanceWhile 26 = .ok (.ireturn, 1) := by decide +kernel
theorem dX2_advanceWhile_27 : decode cX2_advanceWhile 27 = .ok (.aload_n 0, 1) := by decide +kernel
theorem dX2_advanceWhile_28 : decode cX2_advanceWhile 28 = .ok (.getfield 30, 3) := by decide +kernel
theorem dX2_advanceWhile_31 : decode cX2_advanceWhile 31 = .ok (.iload_n 1, 1) := by decide +kernel
theorem dX2_advanceWhile_32 : decode cX2_advanceWhile 32 = .ok (.iconst 0, 1) := by decide +kernel
theorem dX2_advanceWhile_33 : decode cX2_advanceWhile 33 = .ok (.iastore, 1) := by decide +kernel
theorem dX2_advanceWhile_34 : decode cX2_advanceWhile 34 = .ok (.aload_n 0, 1) := by decide +kernel
theorem dX2_advanceWhile_35 : decode cX2_advanceWhile 35 = .ok (.getfield 30, 3) := by decide +kernel
theorem dX2_advanceWhile_38 : decode cX2_advanceWhile 38 = .ok (.iload_n 1, 1) := by decide +kernel
theorem dX2_advanceWhile_39 : decode cX2_advanceWhile 39 = .ok (.iaload, 1) := by decide +kernel
theorem dX2_advanceWhile_40 : decode cX2_advanceWhile 40 = .ok (.ifCond .ne 13, 3) := by decide +kernel
theorem dX2_advanceWhile_43 : decode cX2_advanceWhile 43 = .ok (.aload_n 0, 1) := by decide +kernel
theorem dX2_advanceWhile_44 : decode cX2_advanceWhile 44 = .ok (.getfield 36, 3) := by decide +kernel
theorem dX2_advanceWhile_47 : decode cX2_advanceWhile 47 = .ok (.iload_n 2, 1) := by decide +kernel
theorem dX2_advanceWhile_48 : decode cX2_advanceWhile 48 = .ok (.iconst 0, 1) := by decide +kernel
theorem dX2_advanceWhile_49 : decode cX2_advanceWhile 49 = .ok (.invokevirtual 145, 3) := by decide +kernel
theorem dX2_advanceWhile_52 : decode cX2_advanceWhile 52 = .ok (.ireturn, 1) := by decide +kernel
theorem dX2_advanceWhile_53 : decode cX2_advanceWhile 53 = .ok (.aload_n 0, 1) := by decide +kernel
theorem dX2_advanceWhile_54 : decode cX2_advanceWhile 54 = .ok (.getfield 33, 3) := by decide +kernel
theorem dX2_advanceWhile_57 : decode cX2_advanceWhile 57 = .ok (.iload_n 1, 1) := by decide +kernel
theorem dX2_advanceWhile_58 : decode cX2_advanceWhile 58 = .ok (.iconst 4, 1) := by decide +kernel
theorem dX2_advanceWhile_59 : decode cX2_advanceWhile 59 = .ok (.imul, 1) := by decide +kernel
theorem dX2_advanceWhile_60 : decode cX2_advanceWhile 60 = .ok (.iaload, 1) := by decide +kernel
theorem dX2_advanceWhile_61 : decode cX2_advanceWhile 61 = .ok (.ifCond .eq 13, 3) := by decide +kernel
theorem dX2_advanceWhile_64 : decode cX2_advanceWhile 64 = .ok (.aload_n 0, 1) := by decide +kernel
theorem dX2_advanceWhile_65 : decode cX2_advanceWhile 65 = .ok (.getfield 36, 3) := by decide +kernel
theorem dX2_advanceWhile_68 : decode cX2_advanceWhile 68 = .ok (.iload_n 2, 1) := by decide +kernel
theorem dX2_advanceWhile_69 : decode cX2_advanceWhile 69 = .ok (.iconst 1, 1) := by decide +kernel
theorem dX2_advanceWhile_70 : decode cX2_advanceWhile 70 = .ok (.invokevirtual 145, 3) := by decide +kernel
theorem dX2_advanceWhile_73 : decode cX2_advanceWhile 73 = .ok (.ireturn, 1) := by decide +kernel
theorem dX2_advanceWhile_74 : decode cX2_advanceWhile 74 = .ok (.aload_n 0, 1) := by decide +kernel
theorem dX2_advanceWhile_75 : decode cX2_advanceWhile 75 = .ok (.iconst 0, 1) := by decide +kernel
theorem dX2_advanceWhile_76 : decode cX2_advanceWhile 76 = .ok (.invokevirtual 152, 3) := by decide +kernel
theorem dX2_advanceWhile_79 : decode cX2_advanceWhile 79 = .ok (.bipush (-4), 2) := by decide +kernel
theorem dX2_advanceWhile_81 : decode cX2_advanceWhile 81 = .ok (.ireturn, 1) := by decide +kernel
theorem dX2_advanceCall_0 : decode cX2_advanceCall 0 = .ok (.aload_n 0, 1) := by decide +kernel
theorem dX2_advanceCall_1 : decode cX2_advanceCall 1 = .ok (.getfield 36, 3) := by decide +kernel
theorem dX2_advanceCall_4 : decode cX2_advanceCall 4 = .ok (.iload_n 2, 1) := by decide +kernel
theorem dX2_advanceCall_5 : decode cX2_advanceCall 5 = .ok (.invokevirtual 123, 3) := by decide +kernel
theorem dX2_advanceCall_8 : decode cX2_advanceCall 8 = .ok (.istore_n 3, 1) := by decide +kernel
theorem dX2_advanceCall_9 : decode cX2_advanceCall 9 = .ok (.aload_n 0, 1) := by decide +kernel
theorem dX2_advanceCall_10 : decode cX2_advanceCall 10 = .ok (.getfield 36, 3) := by decide +kernel
theorem dX2_advanceCall_13 : decode cX2_advanceCall 13 = .ok (.iload_n 3, 1) := by decide +kernel
theorem dX2_advanceCall_14 : decode cX2_advanceCall 14 = .ok (.invokevirtual 92, 3) := by decide +kernel
theorem dX2_advanceCall_17 : decode cX2_advanceCall 17 = .ok (.istore 4, 2) := by decide +kernel
theorem dX2_advanceCall_19 : decode cX2_advanceCall 19 = .ok (.aload_n 0, 1) := by decide +kernel
theorem dX2_advanceCall_20 : decode cX2_advanceCall 20 = .ok (.getfield 30, 3) := by decide +kernel
theorem dX2_advanceCall_23 : decode cX2_advanceCall 23 = .ok (.iload_n 1, 1) := by decide +kernel
theorem dX2_advanceCall_24 : decode cX2_advanceCall 24 = .ok (.iaload, 1) := by decide +kernel
theorem dX2_advanceCall_25 : decode cX2_advanceCall 25 = .ok (.iload 4, 2) := by decide +kernel
theorem dX2_advanceCall_27 : decode cX2_advanceCall 27 = .ok (.if_icmp .ge 18, 3) := by decide +kernel
theorem dX2_advanceCall_30 : decode cX2_advanceCall 30 = .ok (.aload_n 0, 1) := by decide +kernel
theorem dX2_advanceCall_31 : decode cX2_advanceCall 31 = .ok (.getfield 36, 3) := by decide +kernel
theorem dX2_advanceCall_34 : decode cX2_advanceCall 34 = .ok (.iload_n 2, 1) := by decide +kernel
theorem dX2_advanceCall_35 : decode cX2_advanceCall 35 = .ok (.aload_n 0, 1) := by decide +kernel
theorem dX2_advanceCall_36 : decode cX2_advanceCall 36 = .ok (.getfield 30, 3) := by decide +kernel
theorem dX2_advanceCall_39 : decode cX2_advanceCall 39 = .ok (.iload_n 1, 1) := by decide +kernel
theorem dX2_advanceCall_40 : decode cX2_advanceCall 40 = .ok (.iaload, 1) := by decide +kernel
theorem dX2_advanceCall_41 : decode cX2_advanceCall 41 = .ok (.invokevirtual 145, 3) := by decide +kernel
theorem dX2_advanceCall_44 : decode cX2_advanceCall 44 = .ok (.ireturn, 1) := by decide +kernel
theorem dX2_advanceCall_45 : decode cX2_advanceCall 45 = .ok (.aload_n 0, 1) := by decide +kernel
theorem dX2_advanceCall_46 : decode cX2_advanceCall 46 = .ok (.getfield 30, 3) := by decide +kernel
theorem dX2_advanceCall_49 : decode cX2_advanceCall 49 = .ok (.iload_n 1, 1) := by decide +kernel
theorem dX2_advanceCall_50 : decode cX2_advanceCall 50 = .ok (.iaload, 1) := by decide +kernel
theorem dX2_advanceCall_51 : decode cX2_advanceCall 51 = .ok (.iload 4, 2) := by decide +kernel
theorem dX2_advanceCall_53 : decode cX2_advanceCall 53 = .ok (.if_icmp .ne 27, 3) := by decide +kernel
theorem dX2_advanceCall_56 : decode cX2_advanceCall 56 = .ok (.aload_n 0, 1) := by decide +kernel
theorem dX2_advanceCall_57 : decode cX2_advanceCall 57 = .ok (.iload_n 1, 1) := by decide +kernel
theorem dX2_advanceCall_58 : decode cX2_advanceCall 58 = .ok (.iload_n 2, 1) := by decide +kernel
theorem dX2_advanceCall_59 : decode cX2_advanceCall 59 = .ok (.iload_n 3, 1) := by decide +kernel
theorem dX2_advanceCall_60 : decode cX2_advanceCall 60 = .ok (.invokevirtual 155, 3) := by decide +kernel
theorem dX2_advanceCall_63 : decode cX2_advanceCall 63 = .ok (.ifCond .eq 14, 3) := by decide +kernel
theorem dX2_advanceCall_66 : decode cX2_advanceCall 66 = .ok (.aload_n 0, 1) := by decide +kernel
theorem dX2_advanceCall_67 : decode cX2_advanceCall 67 = .ok (.getfield 36, 3) := by decide +kernel
theorem dX2_advanceCall_70 : decode cX2_advanceCall 70 = .ok (.iload_n 3, 1) := by decide +kernel
theorem dX2_advanceCall_71 : decode cX2_advanceCall 71 = .ok (.invokevirtual 99, 3) := by decide +kernel
theorem dX2_advanceCall_74 : decode cX2_advanceCall 74 = .ok (.goto 5, 3) := by decide +kernel
theorem dX2_advanceCall_77 : decode cX2_advanceCall 77 = .ok (.bipush (-4), 2) := by decide +kernel
theorem dX2_advanceCall_79 : decode cX2_advanceCall 79 = .ok (.ireturn, 1) := by decide +kernel
theorem dX2_advanceCall_80 : decode cX2_advanceCall 80 = .ok (.aload_n 0, 1) := by decide +kernel
theorem dX2_advanceCall_81 : decode cX2_advanceCall 81 = .ok (.dup, 1) := by decide +kernel
theorem dX2_advanceCall_82 : decode cX2_advanceCall 82 = .ok (.getfield 70, 3) := by decide +kernel
theorem dX2_advanceCall_85 : decode cX2_advanceCall 85 = .ok (.iconst 1, 1) := by decide +kernel
theorem dX2_advanceCall_86 : decode cX2_advanceCall 86 = .ok (.isub, 1) := by decide +kernel
theorem dX2_advanceCall_87 : decode cX2_advanceCall 87 = .ok (.putfield 70, 3) := by decide +kernel
theorem dX2_advanceCall_90 : decode cX2_advanceCall 90 = .ok (.aload_n 0, 1) := by decide +kernel
theorem dX2_advanceCall_91 : decode cX2_advanceCall 91 = .ok (.aload_n 0, 1) := by decide +kernel
theorem dX2_advanceCall_92 : decode cX2_advanceCall 92 = .ok (.getfield 33, 3) := by decide +kernel
theorem dX2_advanceCall_95 : decode cX2_advanceCall 95 = .ok (.iload_n 1, 1) := by decide +kernel
theorem dX2_advanceCall_96 : decode cX2_advanceCall 96 = .ok (.iconst 4, 1) := by decide +kernel
theorem dX2_advanceCall_97 : decode cX2_advanceCall 97 = .ok (.imul, 1) := by decide +kernel
theorem dX2_advanceCall_98 : decode cX2_advanceCall 98 = .ok (.iload 4, 2) := by decide +kernel
theorem dX2_advanceCall_100 : decode cX2_advanceCall 100 = .ok (.iconst 3, 1) := by decide +kernel
theorem dX2_advanceCall_101 : decode cX2_advanceCall 101 = .ok (.invokestatic 159, 3) := by decide +kernel
theorem dX2_advanceCall_104 : decode cX2_advanceCall 104 = .ok (.iadd, 1) := by decide +kernel
theorem dX2_advanceCall_105 : decode cX2_advanceCall 105 = .ok (.iaload, 1) := by decide +kernel
theorem dX2_advanceCall_106 : decode cX2_advanceCall 106 = .ok (.invokevirtual 152, 3) := by decide +kernel
theorem dX2_advanceCall_109 : decode cX2_advanceCall 109 = .ok (.bipush (-4), 2) := by decide +kernel
theorem dX2_advanceCall_111 : decode cX2_advanceCall 111 = .ok (.ireturn, 1) := by decide +kernel
theorem dX2_enter_0 : decode cX2_enter 0 = .ok (.aload_n 0, 1) := by decide +kernel
theorem dX2_enter_1 : decode cX2_enter 1 = .ok (.getfield 36, 3) := by decide +kernel
theorem dX2_enter_4 : decode cX2_enter 4 = .ok (.iload_n 3, 1) := by decide +kernel
theorem dX2_enter_5 : decode cX2_enter 5 = .ok (.invokevirtual 84, 3) := by decide +kernel
theorem dX2_enter_8 : decode cX2_enter 8 = .ok (.ifCond .eq 11, 3) := by decide +kernel
theorem dX2_enter_11 : decode cX2_enter 11 = .ok (.aload_n 0, 1) := by decide +kernel
theorem dX2_enter_12 : decode cX2_enter 12 = .ok (.iconst 3, 1) := by decide +kernel
theorem dX2_enter_13 : decode cX2_enter 13 = .ok (.iload_n 2, 1) := by decide +kernel
theorem dX2_enter_14 : decode cX2_enter 14 = .ok (.invokevirtual 88, 3) := by decide +kernel
theorem dX2_enter_17 : decode cX2_enter 17 = .ok (.iconst 0, 1) := by decide +kernel
theorem dX2_enter_18 : decode cX2_enter 18 = .ok (.ireturn, 1) := by decide +kernel
theorem dX2_enter_19 : decode cX2_enter 19 = .ok (.aload_n 0, 1) := by decide +kernel
theorem dX2_enter_20 : decode cX2_enter 20 = .ok (.iload_n 2, 1) := by decide +kernel
theorem dX2_enter_21 : decode cX2_enter 21 = .ok (.iconst 4, 1) := by decide +kernel
theorem dX2_enter_22 : decode cX2_enter 22 = .ok (.iload_n 3, 1) := by decide +kernel
theorem dX2_enter_23 : decode cX2_enter 23 = .ok (.ifCond .lt 18, 3) := by decide +kernel
theorem dX2_enter_26 : decode cX2_enter 26 = .ok (.iload_n 3, 1) := by decide +kernel
theorem dX2_enter_27 : decode cX2_enter 27 = .ok (.bipush 10, 2) := by decide +kernel
theorem dX2_enter_29 : decode cX2_enter 29 = .ok (.if_icmp .ge 12, 3) := by decide +kernel
theorem dX2_enter_32 : decode cX2_enter 32 = .ok (.aload_n 0, 1) := by decide +kernel
theorem dX2_enter_33 : decode cX2_enter 33 = .ok (.getfield 18, 3) := by decide +kernel
theorem dX2_enter_36 : decode cX2_enter 36 = .ok (.iload_n 3, 1) := by decide +kernel
theorem dX2_enter_37 : decode cX2_enter 37 = .ok (.iaload, 1) := by decide +kernel
theorem dX2_enter_38 : decode cX2_enter 38 = .ok (.goto 4, 3) := by decide +kernel
theorem dX2_enter_41 : decode cX2_enter 41 = .ok (.iconst 0, 1) := by decide +kernel
theorem dX2_enter_42 : decode cX2_enter 42 = .ok (.iadd, 1) := by decide +kernel
theorem dX2_enter_43 : decode cX2_enter 43 = .ok (.invokevirtual 116, 3) := by decide +kernel
theorem dX2_enter_46 : decode cX2_enter 46 = .ok (.ifCond .ne 5, 3) := by decide +kernel
theorem dX2_enter_49 : decode cX2_enter 49 = .ok (.iconst 0, 1) := by decide +kernel
theorem dX2_enter_50 : decode cX2_enter 50 = .ok (.ireturn, 1) := by decide +kernel
theorem dX2_enter_51 : decode cX2_enter 51 = .ok (.aload_n 0, 1) := by decide +kernel
theorem dX2_enter_52 : decode cX2_enter 52 = .ok (.iload_n 2, 1) := by decide +kernel
theorem dX2_enter_53 : decode cX2_enter 53 = .ok (.invokevirtual 120, 3) := by decide +kernel
theorem dX2_enter_56 : decode cX2_enter 56 = .ok (.aload_n 0, 1) := by decide +kernel
theorem dX2_enter_57 : decode cX2_enter 57 = .ok (.getfield 70, 3) := by decide +kernel
theorem dX2_enter_60 : decode cX2_enter 60 = .ok (.bipush 12, 2) := by decide +kernel
theorem dX2_enter_62 : decode cX2_enter 62 = .ok (.if_icmp .lt 11, 3) := by decide +kernel
theorem dX2_enter_65 : decode cX2_enter 65 = .ok (.aload_n 0, 1) := by decide +kernel
theorem dX2_enter_66 : decode cX2_enter 66 = .ok (.iconst 5, 1) := by decide +kernel
theorem dX2_enter_67 : decode cX2_enter 67 = .ok (.iload_n 2, 1) := by decide +kernel
theorem dX2_enter_68 : decode cX2_enter 68 = .ok (.invokevirtual 88, 3) := by decide +kernel
theorem dX2_enter_71 : decode cX2_enter 71 = .ok (.iconst 0, 1) := by decide +kernel
theorem dX2_enter_72 : decode cX2_enter 72 = .ok (.ireturn, 1) := by decide +kernel
theorem dX2_enter_73 : decode cX2_enter 73 = .ok (.iload_n 1, 1) := by decide +kernel
theorem dX2_enter_74 : decode cX2_enter 74 = .ok (.iconst 4, 1) := by decide +kernel
theorem dX2_enter_75 : decode cX2_enter 75 = .ok (.imul, 1) := by decide +kernel
theorem dX2_enter_76 : decode cX2_enter 76 = .ok (.istore 4, 2) := by decide +kernel
theorem dX2_enter_78 : decode cX2_enter 78 = .ok (.aload_n 0, 1) := by decide +kernel
theorem dX2_enter_79 : decode cX2_enter 79 = .ok (.iload_n 1, 1) := by decide +kernel
theorem dX2_enter_80 : decode cX2_enter 80 = .ok (.aload_n 0, 1) := by decide +kernel
theorem dX2_enter_81 : decode cX2_enter 81 = .ok (.getfield 36, 3) := by decide +kernel
theorem dX2_enter_84 : decode cX2_enter 84 = .ok (.iload_n 3, 1) := by decide +kernel
theorem dX2_enter_85 : decode cX2_enter 85 = .ok (.invokevirtual 92, 3) := by decide +kernel
theorem dX2_enter_88 : decode cX2_enter 88 = .ok (.aload_n 0, 1) := by decide +kernel
theorem dX2_enter_89 : decode cX2_enter 89 = .ok (.getfield 33, 3) := by decide +kernel
theorem dX2_enter_92 : decode cX2_enter 92 = .ok (.iload 4, 2) := by decide +kernel
theorem dX2_enter_94 : decode cX2_enter 94 = .ok (.iaload, 1) := by decide +kernel
theorem dX2_enter_95 : decode cX2_enter 95 = .ok (.aload_n 0, 1) := by decide +kernel
theorem dX2_enter_96 : decode cX2_enter 96 = .ok (.getfield 33, 3) := by decide +kernel
theorem dX2_enter_99 : decode cX2_enter 99 = .ok (.iload 4, 2) := by decide +kernel
theorem dX2_enter_101 : decode cX2_enter 101 = .ok (.iconst 1, 1) := by decide +kernel
theorem dX2_enter_102 : decode cX2_enter 102 = .ok (.iadd, 1) := by decide +kernel
theorem dX2_enter_103 : decode cX2_enter 103 = .ok (.iaload, 1) := by decide +kernel
theorem dX2_enter_104 : decode cX2_enter 104 = .ok (.aload_n 0, 1) := by decide +kernel
theorem dX2_enter_105 : decode cX2_enter 105 = .ok (.getfield 33, 3) := by decide +kernel
theorem dX2_enter_108 : decode cX2_enter 108 = .ok (.iload 4, 2) := by decide +kernel
theorem dX2_enter_110 : decode cX2_enter 110 = .ok (.iconst 2, 1) := by decide +kernel
theorem dX2_enter_111 : decode cX2_enter 111 = .ok (.iadd, 1) := by decide +kernel
theorem dX2_enter_112 : decode cX2_enter 112 = .ok (.iaload, 1) := by decide +kernel
theorem dX2_enter_113 : decode cX2_enter 113 = .ok (.invokevirtual 95, 3) := by decide +kernel
theorem dX2_enter_116 : decode cX2_enter 116 = .ok (.iconst 1, 1) := by decide +kernel
theorem dX2_enter_117 : decode cX2_enter 117 = .ok (.ireturn, 1) := by decide +kernel
theorem dX2_openCall_0 : decode cX2_openCall 0 = .ok (.aload_n 0, 1) := by decide +kernel
theorem dX2_openCall_1 : decode cX2_openCall 1 = .ok (.getfield 70, 3) := by decide +kernel
theorem dX2_openCall_4 : decode cX2_openCall 4 = .ok (.bipush 12, 2) := by decide +kernel
theorem dX2_openCall_6 : decode cX2_openCall 6 = .ok (.if_icmp .lt 4, 3) := by decide +kernel
theorem dX2_openCall_9 : decode cX2_openCall 9 = .ok (.return_, 1) := by decide +kernel
theorem dX2_openCall_10 : decode cX2_openCall 10 = .ok (.aload_n 0, 1) := by decide +kernel
theorem dX2_openCall_11 : decode cX2_openCall 11 = .ok (.getfield 24, 3) := by decide +kernel
theorem dX2_openCall_14 : decode cX2_openCall 14 = .ok (.aload_n 0, 1) := by decide +kernel
theorem dX2_openCall_15 : decode cX2_openCall 15 = .ok (.getfield 70, 3) := by decide +kernel
theorem dX2_openCall_18 : decode cX2_openCall 18 = .ok (.iload_n 1, 1) := by decide +kernel
theorem dX2_openCall_19 : decode cX2_openCall 19 = .ok (.iastore, 1) := by decide +kernel
theorem dX2_openCall_20 : decode cX2_openCall 20 = .ok (.aload_n 0, 1) := by decide +kernel
theorem dX2_openCall_21 : decode cX2_openCall 21 = .ok (.getfield 21, 3) := by decide +kernel
theorem dX2_openCall_24 : decode cX2_openCall 24 = .ok (.aload_n 0, 1) := by decide +kernel
theorem dX2_openCall_25 : decode cX2_openCall 25 = .ok (.getfield 70, 3) := by decide +kernel
theorem dX2_openCall_28 : decode cX2_openCall 28 = .ok (.bipush 40, 2) := by decide +kernel
theorem dX2_openCall_30 : decode cX2_openCall 30 = .ok (.imul, 1) := by decide +kernel
theorem dX2_openCall_31 : decode cX2_openCall 31 = .ok (.aload_n 0, 1) := by decide +kernel
theorem dX2_openCall_32 : decode cX2_openCall 32 = .ok (.getfield 70, 3) := by decide +kernel
theorem dX2_openCall_35 : decode cX2_openCall 35 = .ok (.iconst 1, 1) := by decide +kernel
theorem dX2_openCall_36 : decode cX2_openCall 36 = .ok (.iadd, 1) := by decide +kernel
theorem dX2_openCall_37 : decode cX2_openCall 37 = .ok (.bipush 40, 2) := by decide +kernel
theorem dX2_openCall_39 : decode cX2_openCall 39 = .ok (.imul, 1) := by decide +kernel
theorem dX2_openCall_40 : decode cX2_openCall 40 = .ok (.iconst 0, 1) := by decide +kernel
theorem dX2_openCall_41 : decode cX2_openCall 41 = .ok (.invokestatic 164, 3) := by decide +kernel
theorem dX2_openCall_44 : decode cX2_openCall 44 = .ok (.aload_n 0, 1) := by decide +kernel
theorem dX2_openCall_45 : decode cX2_openCall 45 = .ok (.dup, 1) := by decide +kernel
theorem dX2_openCall_46 : decode cX2_openCall 46 = .ok (.getfield 70, 3) := by decide +kernel
theorem dX2_openCall_49 : decode cX2_openCall 49 = .ok (.iconst 1, 1) := by decide +kernel
theorem dX2_openCall_50 : decode cX2_openCall 50 = .ok (.iadd, 1) := by decide +kernel
theorem dX2_openCall_51 : decode cX2_openCall 51 = .ok (.putfield 70, 3) := by decide +kernel
theorem dX2_openCall_54 : decode cX2_openCall 54 = .ok (.aload_n 0, 1) := by decide +kernel
theorem dX2_openCall_55 : decode cX2_openCall 55 = .ok (.aload_n 0, 1) := by decide +kernel
theorem dX2_openCall_56 : decode cX2_openCall 56 = .ok (.getfield 61, 3) := by decide +kernel
theorem dX2_openCall_59 : decode cX2_openCall 59 = .ok (.aload_n 0, 1) := by decide +kernel
theorem dX2_openCall_60 : decode cX2_openCall 60 = .ok (.getfield 70, 3) := by decide +kernel
theorem dX2_openCall_63 : decode cX2_openCall 63 = .ok (.invokestatic 167, 3) := by decide +kernel
theorem dX2_openCall_66 : decode cX2_openCall 66 = .ok (.putfield 61, 3) := by decide +kernel
theorem dX2_openCall_69 : decode cX2_openCall 69 = .ok (.aload_n 0, 1) := by decide +kernel
theorem dX2_openCall_70 : decode cX2_openCall 70 = .ok (.iconst 0, 1) := by decide +kernel
theorem dX2_openCall_71 : decode cX2_openCall 71 = .ok (.iload_n 2, 1) := by decide +kernel
theorem dX2_openCall_72 : decode cX2_openCall 72 = .ok (.ifCond .le 7, 3) := by decide +kernel
theorem dX2_openCall_75 : decode cX2_openCall 75 = .ok (.iload_n 3, 1) := by decide +kernel
theorem dX2_openCall_76 : decode cX2_openCall 76 = .ok (.goto 4, 3) := by decide +kernel
theorem dX2_openCall_79 : decode cX2_openCall 79 = .ok (.iconst 0, 1) := by decide +kernel
theorem dX2_openCall_80 : decode cX2_openCall 80 = .ok (.invokevirtual 170, 3) := by decide +kernel
theorem dX2_openCall_83 : decode cX2_openCall 83 = .ok (.aload_n 0, 1) := by decide +kernel
theorem dX2_openCall_84 : decode cX2_openCall 84 = .ok (.iconst 1, 1) := by decide +kernel
theorem dX2_openCall_85 : decode cX2_openCall 85 = .ok (.iload_n 2, 1) := by decide +kernel
theorem dX2_openCall_86 : decode cX2_openCall 86 = .ok (.iconst 1, 1) := by decide +kernel
theorem dX2_openCall_87 : decode cX2_openCall 87 = .ok (.if_icmp .le 8, 3) := by decide +kernel
theorem dX2_openCall_90 : decode cX2_openCall 90 = .ok (.iload 4, 2) := by decide +kernel
theorem dX2_openCall_92 : decode cX2_openCall 92 = .ok (.goto 4, 3) := by decide +kernel
theorem dX2_openCall_95 : decode cX2_openCall 95 = .ok (.iconst 0, 1) := by decide +kernel
theorem dX2_openCall_96 : decode cX2_openCall 96 = .ok (.invokevirtual 170, 3) := by decide +kernel
theorem dX2_openCall_99 : decode cX2_openCall 99 = .ok (.aload_n 0, 1) := by decide +kernel
theorem dX2_openCall_100 : decode cX2_openCall 100 = .ok (.iconst 2, 1) := by decide +kernel
theorem dX2_openCall_101 : decode cX2_openCall 101 = .ok (.iload_n 2, 1) := by decide +kernel
theorem dX2_openCall_102 : decode cX2_openCall 102 = .ok (.iconst 2, 1) := by decide +kernel
theorem dX2_openCall_103 : decode cX2_openCall 103 = .ok (.if_icmp .le 8, 3) := by decide +kernel
theorem dX2_openCall_106 : decode cX2_openCall 106 = .ok (.iload 5, 2) := by decide +kernel
theorem dX2_openCall_108 : decode cX2_openCall 108 = .ok (.goto 4, 3) := by decide +kernel
theorem dX2_openCall_111 : decode cX2_openCall 111 = .ok (.iconst 0, 1) := by decide +kernel
theorem dX2_openCall_112 : decode cX2_openCall 112 = .ok (.invokevirtual 170, 3) := by decide +kernel
theorem dX2_openCall_115 : decode cX2_openCall 115 = .ok (.return_, 1) := by decide +kernel
theorem dX2_conclude_0 : decode cX2_conclude 0 = .ok (.aload_n 0, 1) := by decide +kernel
theorem dX2_conclude_1 : decode cX2_conclude 1 = .ok (.getfield 33, 3) := by decide +kernel
theorem dX2_conclude_4 : decode cX2_conclude 4 = .ok (.iload_n 1, 1) := by decide +kernel
theorem dX2_conclude_5 : decode cX2_conclude 5 = .ok (.iconst 4, 1) := by decide +kernel
theorem dX2_conclude_6 : decode cX2_conclude 6 = .ok (.imul, 1) := by decide +kernel
theorem dX2_conclude_7 : decode cX2_conclude 7 = .ok (.iaload, 1) := by decide +kernel
theorem dX2_conclude_8 : decode cX2_conclude 8 = .ok (.istore 4, 2) := by decide +kernel
theorem dX2_conclude_10 : decode cX2_conclude 10 = .ok (.aload_n 0, 1) := by decide +kernel
theorem dX2_conclude_11 : decode cX2_conclude 11 = .ok (.getfield 33, 3) := by decide +kernel
theorem dX2_conclude_14 : decode cX2_conclude 14 = .ok (.iload_n 1, 1) := by decide +kernel
theorem dX2_conclude_15 : decode cX2_conclude 15 = .ok (.iconst 4, 1) := by decide +kernel
theorem dX2_conclude_16 : decode cX2_conclude 16 = .ok (.imul, 1) := by decide +kernel
theorem dX2_conclude_17 : decode cX2_conclude 17 = .ok (.iconst 1, 1) := by decide +kernel
theorem dX2_conclude_18 : decode cX2_conclude 18 = .ok (.iadd, 1) := by decide +kernel
theorem dX2_conclude_19 : decode cX2_conclude 19 = .ok (.iaload, 1) := by decide +kernel
theorem dX2_conclude_20 : decode cX2_conclude 20 = .ok (.istore 5, 2) := by decide +kernel
theorem dX2_conclude_22 : decode cX2_conclude 22 = .ok (.iload_n 3, 1) := by decide +kernel
theorem dX2_conclude_23 : decode cX2_conclude 23 = .ok (.iconst 2, 1) := by decide +kernel
theorem dX2_conclude_24 : decode cX2_conclude 24 = .ok (.if_icmp .ne 15, 3) := by decide +kernel
theorem dX2_conclude_27 : decode cX2_conclude 27 = .ok (.aload_n 0, 1) := by decide +kernel
theorem dX2_conclude_28 : decode cX2_conclude 28 = .ok (.iload_n 2, 1) := by decide +kernel
theorem dX2_conclude_29 : decode cX2_conclude 29 = .ok (.iload 4, 2) := by decide +kernel
theorem dX2_conclude_31 : decode cX2_conclude 31 = .ok (.iload 5, 2) := by decide +kernel
theorem dX2_conclude_33 : decode cX2_conclude 33 = .ok (.invokevirtual 173, 3) := by decide +kernel
theorem dX2_conclude_36 : decode cX2_conclude 36 = .ok (.goto 91, 3) := by decide +kernel
theorem dX2_conclude_39 : decode cX2_conclude 39 = .ok (.iload_n 3, 1) := by decide +kernel
theorem dX2_conclude_40 : decode cX2_conclude 40 = .ok (.iconst 4, 1) := by decide +kernel
theorem dX2_conclude_41 : decode cX2_conclude 41 = .ok (.if_icmp .ne 26, 3) := by decide +kernel
theorem dX2_conclude_44 : decode cX2_conclude 44 = .ok (.aload_n 0, 1) := by decide +kernel
theorem dX2_conclude_45 : decode cX2_conclude 45 = .ok (.aload_n 0, 1) := by decide +kernel
theorem dX2_conclude_46 : decode cX2_conclude 46 = .ok (.getfield 36, 3) := by decide +kernel
theorem dX2_conclude_49 : decode cX2_conclude 49 = .ok (.iload_n 2, 1) := by decide +kernel
theorem dX2_conclude_50 : decode cX2_conclude 50 = .ok (.invokevirtual 123, 3) := by decide +kernel
theorem dX2_conclude_53 : decode cX2_conclude 53 = .ok (.iload 4, 2) := by decide +kernel
theorem dX2_conclude_55 : decode cX2_conclude 55 = .ok (.invokevirtual 170, 3) := by decide +kernel
theorem dX2_conclude_58 : decode cX2_conclude 58 = .ok (.aload_n 0, 1) := by decide +kernel
theorem dX2_conclude_59 : decode cX2_conclude 59 = .ok (.iload 4, 2) := by decide +kernel
theorem dX2_conclude_61 : decode cX2_conclude 61 = .ok (.invokevirtual 152, 3) := by decide +kernel
theorem dX2_conclude_64 : decode cX2_conclude 64 = .ok (.goto 63, 3) := by decide +kernel
theorem dX2_conclude_67 : decode cX2_conclude 67 = .ok (.iload_n 3, 1) := by decide +kernel
theorem dX2_conclude_68 : decode cX2_conclude 68 = .ok (.iconst 5, 1) := by decide +kernel
theorem dX2_conclude_69 : decode cX2_conclude 69 = .ok (.if_icmp .ne 12, 3) := by decide +kernel
theorem dX2_conclude_72 : decode cX2_conclude 72 = .ok (.aload_n 0, 1) := by decide +kernel
theorem dX2_conclude_73 : decode cX2_conclude 73 = .ok (.iload 5, 2) := by decide +kernel
theorem dX2_conclude_75 : decode cX2_conclude 75 = .ok (.invokevirtual 152, 3) := by decide +kernel
theorem dX2_conclude_78 : decode cX2_conclude 78 = .ok (.goto 49, 3) := by decide +kernel
theorem dX2_conclude_81 : decode cX2_conclude 81 = .ok (.iload_n 3, 1) := by decide +kernel
theorem dX2_conclude_82 : decode cX2_conclude 82 = .ok (.bipush 7, 2) := by decide +kernel
theorem dX2_conclude_84 : decode cX2_conclude 84 = .ok (.if_icmp .ne 12, 3) := by decide +kernel
theorem dX2_conclude_87 : decode cX2_conclude 87 = .ok (.aload_n 0, 1) := by decide +kernel
theorem dX2_conclude_88 : decode cX2_conclude 88 = .ok (.iload 4, 2) := by decide +kernel
theorem dX2_conclude_90 : decode cX2_conclude 90 = .ok (.invokevirtual 176, 3) := by decide +kernel
theorem dX2_conclude_93 : decode cX2_conclude 93 = .ok (.goto 34, 3) := by decide +kernel
theorem dX2_conclude_96 : decode cX2_conclude 96 = .ok (.iload_n 3, 1) := by decide +kernel
theorem dX2_conclude_97 : decode cX2_conclude 97 = .ok (.bipush 9, 2) := by decide +kernel
theorem dX2_conclude_99 : decode cX2_conclude 99 = .ok (.if_icmp .eq 9, 3) := by decide +kernel
theorem dX2_conclude_102 : decode cX2_conclude 102 = .ok (.iload_n 3, 1) := by decide +kernel
theorem dX2_conclude_103 : decode cX2_conclude 103 = .ok (.bipush 10, 2) := by decide +kernel
theorem dX2_conclude_105 : decode cX2_conclude 105 = .ok (.if_icmp .ne 16, 3) := by decide +kernel
theorem dX2_conclude_108 : decode cX2_conclude 108 = .ok (.aload_n 0, 1) := by decide +kernel
theorem dX2_conclude_109 : decode cX2_conclude 109 = .ok (.iload_n 2, 1) := by decide +kernel
theorem dX2_conclude_110 : decode cX2_conclude 110 = .ok (.iload_n 3, 1) := by decide +kernel
theorem dX2_conclude_111 : decode cX2_conclude 111 = .ok (.iload 4, 2) := by decide +kernel
theorem dX2_conclude_113 : decode cX2_conclude 113 = .ok (.iload 5, 2) := by decide +kernel
theorem dX2_conclude_115 : decode cX2_conclude 115 = .ok (.invokevirtual 179, 3) := by decide +kernel
theorem dX2_conclude_118 : decode cX2_conclude 118 = .ok (.goto 9, 3) := by decide +kernel
theorem dX2_conclude_121 : decode cX2_conclude 121 = .ok (.aload_n 0, 1) := by decide +kernel
theorem dX2_conclude_122 : decode cX2_conclude 122 = .ok (.iload 4, 2) := by decide +kernel
theorem dX2_conclude_124 : decode cX2_conclude 124 = .ok (.invokevirtual 152, 3) := by decide +kernel
theorem dX2_conclude_127 : decode cX2_conclude 127 = .ok (.return_, 1) := by decide +kernel
theorem dX2_concludeAct_0 : decode cX2_concludeAct 0 = .ok (.aload_n 0, 1) := by decide +kernel
theorem dX2_concludeAct_1 : decode cX2_concludeAct 1 = .ok (.getfield 36, 3) := by decide +kernel
theorem dX2_concludeAct_4 : decode cX2_concludeAct 4 = .ok (.iload_n 1, 1) := by decide +kernel
theorem dX2_concludeAct_5 : decode cX2_concludeAct 5 = .ok (.invokevirtual 123, 3) := by decide +kernel
theorem dX2_concludeAct_8 : decode cX2_concludeAct 8 = .ok (.istore 4, 2) := by decide +kernel
theorem dX2_concludeAct_10 : decode cX2_concludeAct 10 = .ok (.iload 4, 2) := by decide +kernel
theorem dX2_concludeAct_12 : decode cX2_concludeAct 12 = .ok (.iconst 3, 1) := by decide +kernel
theorem dX2_concludeAct_13 : decode cX2_concludeAct 13 = .ok (.if_icmp .ne 16, 3) := by decide +kernel
theorem dX2_concludeAct_16 : decode cX2_concludeAct 16 = .ok (.iload_n 3, 1) := by decide +kernel
theorem dX2_concludeAct_17 : decode cX2_concludeAct 17 = .ok (.ifCond .ne 12, 3) := by decide +kernel
theorem dX2_concludeAct_20 : decode cX2_concludeAct 20 = .ok (.aload_n 0, 1) := by decide +kernel
theorem dX2_concludeAct_21 : decode cX2_concludeAct 21 = .ok (.iconst 1, 1) := by decide +kernel
theorem dX2_concludeAct_22 : decode cX2_concludeAct 22 = .ok (.iload_n 1, 1) := by decide +kernel
theorem dX2_concludeAct_23 : decode cX2_concludeAct 23 = .ok (.invokevirtual 88, 3) := by decide +kernel
theorem dX2_concludeAct_26 : decode cX2_concludeAct 26 = .ok (.goto 14, 3) := by decide +kernel
theorem dX2_concludeAct_29 : decode cX2_concludeAct 29 = .ok (.aload_n 0, 1) := by decide +kernel
theorem dX2_concludeAct_30 : decode cX2_concludeAct 30 = .ok (.iload 4, 2) := by decide +kernel
theorem dX2_concludeAct_32 : decode cX2_concludeAct 32 = .ok (.iload_n 2, 1) := by decide +kernel
theorem dX2_concludeAct_33 : decode cX2_concludeAct 33 = .ok (.iload_n 3, 1) := by decide +kernel
theorem dX2_concludeAct_34 : decode cX2_concludeAct 34 = .ok (.invokestatic 183, 3) := by decide +kernel
theorem dX2_concludeAct_37 : decode cX2_concludeAct 37 = .ok (.invokevirtual 152, 3) := by decide +kernel
theorem dX2_concludeAct_40 : decode cX2_concludeAct 40 = .ok (.return_, 1) := by decide +kernel
theorem dX2_concludePlace_0 : decode cX2_concludePlace 0 = .ok (.iload_n 3, 1) := by decide +kernel
theorem dX2_concludePlace_1 : decode cX2_concludePlace 1 = .ok (.ifCond .lt 9, 3) := by decide +kernel
theorem dX2_concludePlace_4 : decode cX2_concludePlace 4 = .ok (.iload_n 3, 1) := by decide +kernel
theorem dX2_concludePlace_5 : decode cX2_concludePlace 5 = .ok (.bipush 8, 2) := by decide +kernel
theorem dX2_concludePlace_7 : decode cX2_concludePlace 7 = .ok (.if_icmp .lt 12, 3) := by decide +kernel
theorem dX2_concludePlace_10 : decode cX2_concludePlace 10 = .ok (.aload_n 0, 1) := by decide +kernel
theorem dX2_concludePlace_11 : decode cX2_concludePlace 11 = .ok (.iconst 2, 1) := by decide +kernel
theorem dX2_concludePlace_12 : decode cX2_concludePlace 12 = .ok (.iload_n 1, 1) := by decide +kernel
theorem dX2_concludePlace_13 : decode cX2_concludePlace 13 = .ok (.invokevirtual 88, 3) := by decide +kernel
theorem dX2_concludePlace_16 : decode cX2_concludePlace 16 = .ok (.goto 35, 3) := by decide +kernel
theorem dX2_concludePlace_19 : decode cX2_concludePlace 19 = .ok (.iload_n 2, 1) := by decide +kernel
theorem dX2_concludePlace_20 : decode cX2_concludePlace 20 = .ok (.bipush 10, 2) := by decide +kernel
theorem dX2_concludePlace_22 : decode cX2_concludePlace 22 = .ok (.if_icmp .ne 20, 3) := by decide +kernel
theorem dX2_concludePlace_25 : decode cX2_concludePlace 25 = .ok (.aload_n 0, 1) := by decide +kernel
theorem dX2_concludePlace_26 : decode cX2_concludePlace 26 = .ok (.iload_n 3, 1) := by decide +kernel
theorem dX2_concludePlace_27 : decode cX2_concludePlace 27 = .ok (.iload 4, 2) := by decide +kernel
theorem dX2_concludePlace_29 : decode cX2_concludePlace 29 = .ok (.invokevirtual 187, 3) := by decide +kernel
theorem dX2_concludePlace_32 : decode cX2_concludePlace 32 = .ok (.pop, 1) := by decide +kernel
theorem dX2_concludePlace_33 : decode cX2_concludePlace 33 = .ok (.aload_n 0, 1) := by decide +kernel
theorem dX2_concludePlace_34 : decode cX2_concludePlace 34 = .ok (.iload 4, 2) := by decide +kernel
theorem dX2_concludePlace_36 : decode cX2_concludePlace 36 = .ok (.invokevirtual 152, 3) := by decide +kernel
theorem dX2_concludePlace_39 : decode cX2_concludePlace 39 = .ok (.goto 12, 3) := by decide +kernel
theorem dX2_concludePlace_42 : decode cX2_concludePlace 42 = .ok (.aload_n 0, 1) := by decide +kernel
theorem dX2_concludePlace_43 : decode cX2_concludePlace 43 = .ok (.aload_n 0, 1) := by decide +kernel
theorem dX2_concludePlace_44 : decode cX2_concludePlace 44 = .ok (.iload_n 3, 1) := by decide +kernel
theorem dX2_concludePlace_45 : decode cX2_concludePlace 45 = .ok (.invokevirtual 190, 3) := by decide +kernel
theorem dX2_concludePlace_48 : decode cX2_concludePlace 48 = .ok (.invokevirtual 152, 3) := by decide +kernel
theorem dX2_concludePlace_51 : decode cX2_concludePlace 51 = .ok (.return_, 1) := by decide +kernel
theorem dX2_leaveWith_0 : decode cX2_leaveWith 0 = .ok (.aload_n 0, 1) := by decide +kernel
theorem dX2_leaveWith_1 : decode cX2_leaveWith 1 = .ok (.getfield 70, 3) := by decide +kernel
theorem dX2_leaveWith_4 : decode cX2_leaveWith 4 = .ok (.ifCond .le 17, 3) := by decide +kernel
theorem dX2_leaveWith_7 : decode cX2_leaveWith 7 = .ok (.aload_n 0, 1) := by decide +kernel
theorem dX2_leaveWith_8 : decode cX2_leaveWith 8 = .ok (.getfield 24, 3) := by decide +kernel
theorem dX2_leaveWith_11 : decode cX2_leaveWith 11 = .ok (.aload_n 0, 1) := by decide +kernel
theorem dX2_leaveWith_12 : decode cX2_leaveWith 12 = .ok (.getfield 70, 3) := by decide +kernel
theorem dX2_leaveWith_15 : decode cX2_leaveWith 15 = .ok (.iconst 1, 1) := by decide +kernel
theorem dX2_leaveWith_16 : decode cX2_leaveWith 16 = .ok (.isub, 1) := by decide +kernel
theorem dX2_leaveWith_17 : decode cX2_leaveWith 17 = .ok (.iaload, 1) := by decide +kernel
theorem dX2_leaveWith_18 : decode cX2_leaveWith 18 = .ok (.goto 4, 3) := by decide +kernel
theorem dX2_leaveWith_21 : decode cX2_leaveWith 21 = .ok (.iconst (-1), 1) := by decide +kernel
theorem dX2_leaveWith_22 : decode cX2_leaveWith 22 = .ok (.istore_n 2, 1) := by decide +kernel
theorem dX2_leaveWith_23 : decode cX2_leaveWith 23 = .ok (.aload_n 0, 1) := by decide +kernel
theorem dX2_leaveWith_24 : decode cX2_leaveWith 24 = .ok (.getfield 67, 3) := by decide +kernel
theorem dX2_leaveWith_27 : decode cX2_leaveWith 27 = .ok (.iconst 1, 1) := by decide +kernel
theorem dX2_leaveWith_28 : decode cX2_leaveWith 28 = .ok (.isub, 1) := by decide +kernel
theorem dX2_leaveWith_29 : decode cX2_leaveWith 29 = .ok (.istore_n 3, 1) := by decide +kernel
theorem dX2_leaveWith_30 : decode cX2_leaveWith 30 = .ok (.iload_n 3, 1) := by decide +kernel
theorem dX2_leaveWith_31 : decode cX2_leaveWith 31 = .ok (.iload_n 2, 1) := by decide +kernel
theorem dX2_leaveWith_32 : decode cX2_leaveWith 32 = .ok (.if_icmp .le 27, 3) := by decide +kernel
theorem dX2_leaveWith_35 : decode cX2_leaveWith 35 = .ok (.aload_n 0, 1) := by decide +kernel
theorem dX2_leaveWith_36 : decode cX2_leaveWith 36 = .ok (.getfield 36, 3) := by decide +kernel
theorem dX2_leaveWith_39 : decode cX2_leaveWith 39 = .ok (.aload_n 0, 1) := by decide +kernel
theorem dX2_leaveWith_40 : decode cX2_leaveWith 40 = .ok (.getfield 27, 3) := by decide +kernel
theorem dX2_leaveWith_43 : decode cX2_leaveWith 43 = .ok (.iload_n 3, 1) := by decide +kernel
theorem dX2_leaveWith_44 : decode cX2_leaveWith 44 = .ok (.iaload, 1) := by decide +kernel
theorem dX2_leaveWith_45 : decode cX2_leaveWith 45 = .ok (.invokevirtual 110, 3) := by decide +kernel
theorem dX2_leaveWith_48 : decode cX2_leaveWith 48 = .ok (.bipush 11, 2) := by decide +kernel
theorem dX2_leaveWith_50 : decode cX2_leaveWith 50 = .ok (.if_icmp .eq 9, 3) := by decide +kernel
theorem dX2_leaveWith_53 : decode cX2_leaveWith 53 = .ok (.iinc 3 (-1), 3) := by decide +kernel
theorem dX2_leaveWith_56 : decode cX2_leaveWith 56 = .ok (.goto (-26), 3) := by decide +kernel
theorem dX2_leaveWith_59 : decode cX2_leaveWith 59 = .ok (.aload_n 0, 1) := by decide +kernel
theorem dX2_leaveWith_60 : decode cX2_leaveWith 60 = .ok (.iload_n 3, 1) := by decide +kernel
theorem dX2_leaveWith_61 : decode cX2_leaveWith 61 = .ok (.iload_n 2, 1) := by decide +kernel
theorem dX2_leaveWith_62 : decode cX2_leaveWith 62 = .ok (.if_icmp .le 7, 3) := by decide +kernel
theorem dX2_leaveWith_65 : decode cX2_leaveWith 65 = .ok (.iload_n 3, 1) := by decide +kernel
theorem dX2_leaveWith_66 : decode cX2_leaveWith 66 = .ok (.goto 6, 3) := by decide +kernel
theorem dX2_leaveWith_69 : decode cX2_leaveWith 69 = .ok (.iload_n 2, 1) := by decide +kernel
theorem dX2_leaveWith_70 : decode cX2_leaveWith 70 = .ok (.iconst 1, 1) := by decide +kernel
theorem dX2_leaveWith_71 : decode cX2_leaveWith 71 = .ok (.iadd, 1) := by decide +kernel
theorem dX2_leaveWith_72 : decode cX2_leaveWith 72 = .ok (.putfield 67, 3) := by decide +kernel
theorem dX2_leaveWith_75 : decode cX2_leaveWith 75 = .ok (.aload_n 0, 1) := by decide +kernel
theorem dX2_leaveWith_76 : decode cX2_leaveWith 76 = .ok (.iload_n 1, 1) := by decide +kernel
theorem dX2_leaveWith_77 : decode cX2_leaveWith 77 = .ok (.invokevirtual 126, 3) := by decide +kernel
theorem dX2_leaveWith_80 : decode cX2_leaveWith 80 = .ok (.return_, 1) := by decide +kernel
theorem dX3_init_0 : decode cX3_init 0 = .ok (.aload_n 0, 1) := by decide +kernel
theorem dX3_init_1 : decode cX3_init 1 = .ok (.invokespecial 3, 3) := by decide +kernel
theorem dX3_init_4 : decode cX3_init 4 = .ok (.aload_n 0, 1) := by decide +kernel
theorem dX3_init_5 : decode cX3_init 5 = .ok (.bipush 41, 2) := by decide +kernel
theorem dX3_init_7 : decode cX3_init 7 = .ok (.newarray .int, 2) := by decide +kernel
theorem dX3_init_9 : decode cX3_init 9 = .ok (.putfield 9, 3) := by decide +kernel
theorem dX3_init_12 : decode cX3_init 12 = .ok (.aload_n 0, 1) := by decide +kernel
theorem dX3_init_13 : decode cX3_init 13 = .ok (.aload_n 1, 1) := by decide +kernel
theorem dX3_init_14 : decode cX3_init 14 = .ok (.putfield 15, 3) := by decide +kernel
theorem dX3_init_17 : decode cX3_init 17 = .ok (.aload_n 0, 1) := by decide +kernel
theorem dX3_init_18 : decode cX3_init 18 = .ok (.aload_n 1, 1) := by decide +kernel
theorem dX3_init_19 : decode cX3_init 19 = .ok (.getfield 19, 3) := by decide +kernel
theorem dX3_init_22 : decode cX3_init 22 = .ok (.putfield 25, 3) := by decide +kernel
theorem dX3_init_25 : decode cX3_init 25 = .ok (.return_, 1) := by decide +kernel
theorem dX3_weightOf_0 : decode cX3_weightOf 0 = .ok (.aload_n 0, 1) := by decide +kernel
theorem dX3_weightOf_1 : decode cX3_weightOf 1 = .ok (.getfield 15, 3) := by decide +kernel
theorem dX3_weightOf_4 : decode cX3_weightOf 4 = .ok (.iload_n 1, 1) := by decide +kernel
theorem dX3_weightOf_5 : decode cX3_weightOf 5 = .ok (.invokevirtual 28, 3) := by decide +kernel
theorem dX3_weightOf_8 : decode cX3_weightOf 8 = .ok (.istore_n 2, 1) := by decide +kernel
theorem dX3_weightOf_9 : decode cX3_weightOf 9 = .ok (.aload_n 0, 1) := by decide +kernel
theorem dX3_weightOf_10 : decode cX3_weightOf 10 = .ok (.getfield 15, 3) := by decide +kernel
theorem dX3_weightOf_13 : decode cX3_weightOf 13 = .ok (.iload_n 2, 1) := by decide +kernel
theorem dX3_weightOf_14 : decode cX3_weightOf 14 = .ok (.invokevirtual 32, 3) := by decide +kernel
theorem dX3_weightOf_17 : decode cX3_weightOf 17 = .ok (.istore_n 3, 1) := by decide +kernel
theorem dX3_weightOf_18 : decode cX3_weightOf 18 = .ok (.aload_n 0, 1) := by decide +kernel
theorem dX3_weightOf_19 : decode cX3_weightOf 19 = .ok (.getfield 15, 3) := by decide +kernel
theorem dX3_weightOf_22 : decode cX3_weightOf 22 = .ok (.iload_n 2, 1) := by decide +kernel
theorem dX3_weightOf_23 : decode cX3_weightOf 23 = .ok (.invokevirtual 35, 3) := by decide +kernel
theorem dX3_weightOf_26 : decode cX3_weightOf 26 = .ok (.iload_n 3, 1) := by decide +kernel
theorem dX3_weightOf_27 : decode cX3_weightOf 27 = .ok (.isub, 1) := by decide +kernel
theorem dX3_weightOf_28 : decode cX3_weightOf 28 = .ok (.istore 4, 2) := by decide +kernel
theorem dX3_weightOf_30 : decode cX3_weightOf 30 = .ok (.iconst 2, 1) := by decide +kernel
theorem dX3_weightOf_31 : decode cX3_weightOf 31 = .ok (.iload_n 3, 1) := by decide +kernel
theorem dX3_weightOf_32 : decode cX3_weightOf 32 = .ok (.imul, 1) := by decide +kernel
theorem dX3_weightOf_33 : decode cX3_weightOf 33 = .ok (.iconst 3, 1) := by decide +kernel
theorem dX3_weightOf_34 : decode cX3_weightOf 34 = .ok (.iload 4, 2) := by decide +kernel
theorem dX3_weightOf_36 : decode cX3_weightOf 36 = .ok (.imul, 1) := by decide +kernel
theorem dX3_weightOf_37 : decode cX3_weightOf 37 = .ok (.iadd, 1) := by decide +kernel
theorem dX3_weightOf_38 : decode cX3_weightOf 38 = .ok (.aload_n 0, 1) := by decide +kernel
theorem dX3_weightOf_39 : decode cX3_weightOf 39 = .ok (.getfield 15, 3) := by decide +kernel
theorem dX3_weightOf_42 : decode cX3_weightOf 42 = .ok (.aload_n 0, 1) := by decide +kernel
theorem dX3_weightOf_43 : decode cX3_weightOf 43 = .ok (.getfield 15, 3) := by decide +kernel
theorem dX3_weightOf_46 : decode cX3_weightOf 46 = .ok (.iload_n 2, 1) := by decide +kernel
theorem dX3_weightOf_47 : decode cX3_weightOf 47 = .ok (.invokevirtual 38, 3) := by decide +kernel
theorem dX3_weightOf_50 : decode cX3_weightOf 50 = .ok (.invokevirtual 41, 3) := by decide +kernel
theorem dX3_weightOf_53 : decode cX3_weightOf 53 = .ok (.iadd, 1) := by decide +kernel
theorem dX3_weightOf_54 : decode cX3_weightOf 54 = .ok (.ireturn, 1) := by decide +kernel
theorem dX3_fits_0 : decode cX3_fits 0 = .ok (.aload_n 0, 1) := by decide +kernel
theorem dX3_fits_1 : decode cX3_fits 1 = .ok (.getfield 15, 3) := by decide +kernel
theorem dX3_fits_4 : decode cX3_fits 4 = .ok (.aload_n 0, 1) := by decide +kernel
theorem dX3_fits_5 : decode cX3_fits 5 = .ok (.getfield 15, 3) := by decide +kernel
theorem dX3_fits_8 : decode cX3_fits 8 = .ok (.iload_n 1, 1) := by decide +kernel
theorem dX3_fits_9 : decode cX3_fits 9 = .ok (.invokevirtual 28, 3) := by decide +kernel
theorem dX3_fits_12 : decode cX3_fits 12 = .ok (.invokevirtual 35, 3) := by decide +kernel
theorem dX3_fits_15 : decode cX3_fits 15 = .ok (.istore_n 2, 1) := by decide +kernel
theorem dX3_fits_16 : decode cX3_fits 16 = .ok (.aload_n 0, 1) := by decide +kernel
theorem dX3_fits_17 : decode cX3_fits 17 = .ok (.getfield 15, 3) := by decide +kernel
theorem dX3_fits_20 : decode cX3_fits 20 = .ok (.aload_n 0, 1) := by decide +kernel
theorem dX3_fits_21 : decode cX3_fits 21 = .ok (.getfield 15, 3) := by decide +kernel
theorem dX3_fits_24 : decode cX3_fits 24 = .ok (.iload_n 1, 1) := by decide +kernel
theorem dX3_fits_25 : decode cX3_fits 25 = .ok (.invokevirtual 44, 3) := by decide +kernel
theorem dX3_fits_28 : decode cX3_fits 28 = .ok (.invokevirtual 35, 3) := by decide +kernel
theorem dX3_fits_31 : decode cX3_fits 31 = .ok (.iload_n 2, 1) := by decide +kernel
theorem dX3_fits_32 : decode cX3_fits 32 = .ok (.iadd, 1) := by decide +kernel
theorem dX3_fits_33 : decode cX3_fits 33 = .ok (.istore_n 3, 1) := by decide +kernel
theorem dX3_fits_34 : decode cX3_fits 34 = .ok (.aload_n 0, 1) := by decide +kernel
theorem dX3_fits_35 : decode cX3_fits 35 = .ok (.getfield 15, 3) := by decide +kernel
theorem dX3_fits_38 : decode cX3_fits 38 = .ok (.getfield 47, 3) := by decide +kernel
theorem dX3_fits_41 : decode cX3_fits 41 = .ok (.getfield 51, 3) := by decide +kernel
theorem dX3_fits_44 : decode cX3_fits 44 = .ok (.aload_n 0, 1) := by decide +kernel
theorem dX3_fits_45 : decode cX3_fits 45 = .ok (.iload_n 1, 1) := by decide +kernel
theorem dX3_fits_46 : decode cX3_fits 46 = .ok (.invokevirtual 57, 3) := by decide +kernel
theorem dX3_fits_49 : decode cX3_fits 49 = .ok (.iadd, 1) := by decide +kernel
theorem dX3_fits_50 : decode cX3_fits 50 = .ok (.iconst 1, 1) := by decide +kernel
theorem dX3_fits_51 : decode cX3_fits 51 = .ok (.iadd, 1) := by decide +kernel
theorem dX3_fits_52 : decode cX3_fits 52 = .ok (.istore 4, 2) := by decide +kernel
theorem dX3_fits_54 : decode cX3_fits 54 = .ok (.aload_n 0, 1) := by decide +kernel
theorem dX3_fits_55 : decode cX3_fits 55 = .ok (.getfield 15, 3) := by decide +kernel
theorem dX3_fits_58 : decode cX3_fits 58 = .ok (.iload_n 1, 1) := by decide +kernel
theorem dX3_fits_59 : decode cX3_fits 59 = .ok (.invokevirtual 60, 3) := by decide +kernel
theorem dX3_fits_62 : decode cX3_fits 62 = .ok (.aload_n 0, 1) := by decide +kernel
theorem dX3_fits_63 : decode cX3_fits 63 = .ok (.iload_n 1, 1) := by decide +kernel
theorem dX3_fits_64 : decode cX3_fits 64 = .ok (.iload_n 2, 1) := by decide +kernel
theorem dX3_fits_65 : decode cX3_fits 65 = .ok (.invokevirtual 63, 3) := by decide +kernel
theorem dX3_fits_68 : decode cX3_fits 68 = .ok (.iadd, 1) := by decide +kernel
theorem dX3_fits_69 : decode cX3_fits 69 = .ok (.istore 5, 2) := by decide +kernel
theorem dX3_fits_71 : decode cX3_fits 71 = .ok (.iload 4, 2) := by decide +kernel
theorem dX3_fits_73 : decode cX3_fits 73 = .ok (.sipush 600, 3) := by decide +kernel
theorem dX3_fits_76 : decode cX3_fits 76 = .ok (.if_icmp .gt 20, 3) := by decide +kernel
theorem dX3_fits_79 : decode cX3_fits 79 = .ok (.iload_n 3, 1) := by decide +kernel
theorem dX3_fits_80 : decode cX3_fits 80 = .ok (.bipush 40, 2) := by decide +kernel
theorem dX3_fits_82 : decode cX3_fits 82 = .ok (.if_icmp .gt 14, 3) := by decide +kernel
theorem dX3_fits_85 : decode cX3_fits 85 = .ok (.iload 5, 2) := by decide +kernel
theorem dX3_fits_87 : decode cX3_fits 87 = .ok (.bipush 40, 2) := by decide +kernel
theorem dX3_fits_89 : decode cX3_fits 89 = .ok (.if_icmp .gt 7, 3) := by decide +kernel
theorem dX3_fits_92 : decode cX3_fits 92 = .ok (.iconst 1, 1) := by decide +kernel
theorem dX3_fits_93 : decode cX3_fits 93 = .ok (.goto 4, 3) := by decide +kernel
theorem dX3_fits_96 : decode cX3_fits 96 = .ok (.iconst 0, 1) := by decide +kernel
theorem dX3_fits_97 : decode cX3_fits 97 = .ok (.ireturn, 1) := by decide +kernel
theorem dX3_highWrittenOut_0 : decode cX3_highWrittenOut 0 = .ok (.aload_n 0, 1) := by decide +kernel
theorem dX3_highWrittenOut_1 : decode cX3_highWrittenOut 1 = .ok (.getfield 15, 3) := by decide +kernel
theorem dX3_highWrittenOut_4 : decode cX3_highWrittenOut 4 = .ok (.iload_n 1, 1) := by decide +kernel
theorem dX3_highWrittenOut_5 : decode cX3_highWrittenOut 5 = .ok (.invokevirtual 28, 3) := by decide +kernel
theorem dX3_highWrittenOut_8 : decode cX3_highWrittenOut 8 = .ok (.istore_n 3, 1) := by decide +kernel
theorem dX3_highWrittenOut_9 : decode cX3_highWrittenOut 9 = .ok (.iload_n 2, 1) := by decide +kernel
theorem dX3_highWrittenOut_10 : decode cX3_highWrittenOut 10 = .ok (.iconst 1, 1) := by decide +kernel
theorem dX3_highWrittenOut_11 : decode cX3_highWrittenOut 11 = .ok (.iadd, 1) := by decide +kernel
theorem dX3_highWrittenOut_12 : decode cX3_highWrittenOut 12 = .ok (.aload_n 0, 1) := by decide +kernel
theorem dX3_highWrittenOut_13 : decode cX3_highWrittenOut 13 = .ok (.getfield 15, 3) := by decide +kernel
theorem dX3_highWrittenOut_16 : decode cX3_highWrittenOut 16 = .ok (.aload_n 0, 1) := by decide +kernel
theorem dX3_highWrittenOut_17 : decode cX3_highWrittenOut 17 = .ok (.getfield 15, 3) := by decide +kernel
theorem dX3_highWrittenOut_20 : decode cX3_highWrittenOut 20 = .ok (.iload_n 3, 1) := by decide +kernel
theorem dX3_highWrittenOut_21 : decode cX3_highWrittenOut 21 = .ok (.invokevirtual 38, 3) := by decide +kernel
theorem dX3_highWrittenOut_24 : decode cX3_highWrittenOut 24 = .ok (.invokevirtual 67, 3) := by decide +kernel
theorem dX3_highWrittenOut_27 : decode cX3_highWrittenOut 27 = .ok (.iadd, 1) := by decide +kernel
theorem dX3_highWrittenOut_28 : decode cX3_highWrittenOut 28 = .ok (.istore 4, 2) := by decide +kernel
theorem dX3_highWrittenOut_30 : decode cX3_highWrittenOut 30 = .ok (.iconst 0, 1) := by decide +kernel
theorem dX3_highWrittenOut_31 : decode cX3_highWrittenOut 31 = .ok (.istore 5, 2) := by decide +kernel
theorem dX3_highWrittenOut_33 : decode cX3_highWrittenOut 33 = .ok (.iload 5, 2) := by decide +kernel
theorem dX3_highWrittenOut_35 : decode cX3_highWrittenOut 35 = .ok (.aload_n 0, 1) := by decide +kernel
theorem dX3_highWrittenOut_36 : decode cX3_highWrittenOut 36 = .ok (.getfield 15, 3) := by decide +kernel
theorem dX3_highWrittenOut_39 : decode cX3_highWrittenOut 39 = .ok (.iload_n 3, 1) := by decide +kernel
theorem dX3_highWrittenOut_40 : decode cX3_highWrittenOut 40 = .ok (.invokevirtual 32, 3) := by decide +kernel
theorem dX3_highWrittenOut_43 : decode cX3_highWrittenOut 43 = .ok (.if_icmp .ge 38, 3) := by decide +kernel
theorem dX3_highWrittenOut_46 : decode cX3_highWrittenOut 46 = .ok (.iload 4, 2) := by decide +kernel
theorem dX3_highWrittenOut_48 : decode cX3_highWrittenOut 48 = .ok (.iload 5, 2) := by decide +kernel
theorem dX3_highWrittenOut_50 : decode cX3_highWrittenOut 50 = .ok (.iconst 2, 1) := by decide +kernel
theorem dX3_highWrittenOut_51 : decode cX3_highWrittenOut 51 = .ok (.iadd, 1) := by decide +kernel
theorem dX3_highWrittenOut_52 : decode cX3_highWrittenOut 52 = .ok (.aload_n 0, 1) := by decide +kernel
theorem dX3_highWrittenOut_53 : decode cX3_highWrittenOut 53 = .ok (.getfield 15, 3) := by decide +kernel
theorem dX3_highWrittenOut_56 : decode cX3_highWrittenOut 56 = .ok (.aload_n 0, 1) := by decide +kernel
theorem dX3_highWrittenOut_57 : decode cX3_highWrittenOut 57 = .ok (.getfield 15, 3) := by decide +kernel
theorem dX3_highWrittenOut_60 : decode cX3_highWrittenOut 60 = .ok (.iload_n 1, 1) := by decide +kernel
theorem dX3_highWrittenOut_61 : decode cX3_highWrittenOut 61 = .ok (.iload 5, 2) := by decide +kernel
theorem dX3_highWrittenOut_63 : decode cX3_highWrittenOut 63 = .ok (.invokevirtual 70, 3) := by decide +kernel
theorem dX3_highWrittenOut_66 : decode cX3_highWrittenOut 66 = .ok (.invokevirtual 67, 3) := by decide +kernel
theorem dX3_highWrittenOut_69 : decode cX3_highWrittenOut 69 = .ok (.iadd, 1) := by decide +kernel
theorem dX3_highWrittenOut_70 : decode cX3_highWrittenOut 70 = .ok (.invokestatic 73, 3) := by decide +kernel
theorem dX3_highWrittenOut_73 : decode cX3_highWrittenOut 73 = .ok (.istore 4, 2) := by decide +kernel
theorem dX3_highWrittenOut_75 : decode cX3_highWrittenOut 75 = .ok (.iinc 5 1, 3) := by decide +kernel
theorem dX3_highWrittenOut_78 : decode cX3_highWrittenOut 78 = .ok (.goto (-45), 3) := by decide +kernel
theorem dX3_highWrittenOut_81 : decode cX3_highWrittenOut 81 = .ok (.iload 4, 2) := by decide +kernel
theorem dX3_highWrittenOut_83 : decode cX3_highWrittenOut 83 = .ok (.ireturn, 1) := by decide +kernel
theorem dX3_writeOut_0 : decode cX3_writeOut 0 = .ok (.aload_n 0, 1) := by decide +kernel
theorem dX3_writeOut_1 : decode cX3_writeOut 1 = .ok (.getfield 15, 3) := by decide +kernel
theorem dX3_writeOut_4 : decode cX3_writeOut 4 = .ok (.iload_n 1, 1) := by decide +kernel
theorem dX3_writeOut_5 : decode cX3_writeOut 5 = .ok (.invokevirtual 28, 3) := by decide +kernel
theorem dX3_writeOut_8 : decode cX3_writeOut 8 = .ok (.istore_n 2, 1) := by decide +kernel
theorem dX3_writeOut_9 : decode cX3_writeOut 9 = .ok (.aload_n 0, 1) := by decide +kernel
theorem dX3_writeOut_10 : decode cX3_writeOut 10 = .ok (.getfield 15, 3) := by decide +kernel
theorem dX3_writeOut_13 : decode cX3_writeOut 13 = .ok (.iload_n 2, 1) := by decide +kernel
theorem dX3_writeOut_14 : decode cX3_writeOut 14 = .ok (.invokevirtual 35, 3) := by decide +kernel
theorem dX3_writeOut_17 : decode cX3_writeOut 17 = .ok (.istore_n 3, 1) := by decide +kernel
theorem dX3_writeOut_18 : decode cX3_writeOut 18 = .ok (.aload_n 0, 1) := by decide +kernel
theorem dX3_writeOut_19 : decode cX3_writeOut 19 = .ok (.getfield 15, 3) := by decide +kernel
theorem dX3_writeOut_22 : decode cX3_writeOut 22 = .ok (.iload_n 2, 1) := by decide +kernel
theorem dX3_writeOut_23 : decode cX3_writeOut 23 = .ok (.invokevirtual 32, 3) := by decide +kernel
theorem dX3_writeOut_26 : decode cX3_writeOut 26 = .ok (.istore 4, 2) := by decide +kernel
theorem dX3_writeOut_28 : decode cX3_writeOut 28 = .ok (.aload_n 0, 1) := by decide +kernel
theorem dX3_writeOut_29 : decode cX3_writeOut 29 = .ok (.getfield 15, 3) := by decide +kernel
theorem dX3_writeOut_32 : decode cX3_writeOut 32 = .ok (.aload_n 0, 1) := by decide +kernel
theorem dX3_writeOut_33 : decode cX3_writeOut 33 = .ok (.getfield 15, 3) := by decide +kernel
theorem dX3_writeOut_36 : decode cX3_writeOut 36 = .ok (.iload_n 1, 1) := by decide +kernel
theorem dX3_writeOut_37 : decode cX3_writeOut 37 = .ok (.invokevirtual 44, 3) := by decide +kernel
theorem dX3_writeOut_40 : decode cX3_writeOut 40 = .ok (.invokevirtual 35, 3) := by decide +kernel
theorem dX3_writeOut_43 : decode cX3_writeOut 43 = .ok (.istore 5, 2) := by decide +kernel
theorem dX3_writeOut_45 : decode cX3_writeOut 45 = .ok (.aload_n 0, 1) := by decide +kernel
theorem dX3_writeOut_46 : decode cX3_writeOut 46 = .ok (.getfield 25, 3) := by decide +kernel
theorem dX3_writeOut_49 : decode cX3_writeOut 49 = .ok (.aload_n 0, 1) := by decide +kernel
theorem dX3_writeOut_50 : decode cX3_writeOut 50 = .ok (.getfield 15, 3) := by decide +kernel
theorem dX3_writeOut_53 : decode cX3_writeOut 53 = .ok (.getfield 47, 3) := by decide +kernel
theorem dX3_writeOut_56 : decode cX3_writeOut 56 = .ok (.aload_n 0, 1) := by decide +kernel
theorem dX3_writeOut_57 : decode cX3_writeOut 57 = .ok (.getfield 15, 3) := by decide +kernel
theorem dX3_writeOut_60 : decode cX3_writeOut 60 = .ok (.iload_n 2, 1) := by decide +kernel
theorem dX3_writeOut_61 : decode cX3_writeOut 61 = .ok (.invokevirtual 38, 3) := by decide +kernel
theorem dX3_writeOut_64 : decode cX3_writeOut 64 = .ok (.invokevirtual 78, 3) := by decide +kernel
theorem dX3_writeOut_67 : decode cX3_writeOut 67 = .ok (.bipush (-4), 2) := by decide +kernel
theorem dX3_writeOut_69 : decode cX3_writeOut 69 = .ok (.istore 6, 2) := by decide +kernel
theorem dX3_writeOut_71 : decode cX3_writeOut 71 = .ok (.bipush (-4), 2) := by decide +kernel
theorem dX3_writeOut_73 : decode cX3_writeOut 73 = .ok (.istore 7, 2) := by decide +kernel
theorem dX3_writeOut_75 : decode cX3_writeOut 75 = .ok (.iconst 0, 1) := by decide +kernel
theorem dX3_writeOut_76 : decode cX3_writeOut 76 = .ok (.istore 8, 2) := by decide +kernel
theorem dX3_writeOut_78 : decode cX3_writeOut 78 = .ok (.iload 8, 2) := by decide +kernel
theorem dX3_writeOut_80 : decode cX3_writeOut 80 = .ok (.iload_n 3, 1) := by decide +kernel
theorem dX3_writeOut_81 : decode cX3_writeOut 81 = .ok (.if_icmp .ge 103, 3) := by decide +kernel
theorem dX3_writeOut_84 : decode cX3_writeOut 84 = .ok (.aload_n 0, 1) := by decide +kernel
theorem dX3_writeOut_85 : decode cX3_writeOut 85 = .ok (.getfield 15, 3) := by decide +kernel
theorem dX3_writeOut_88 : decode cX3_writeOut 88 = .ok (.iconst 5, 1) := by decide +kernel
theorem dX3_writeOut_89 : decode cX3_writeOut 89 = .ok (.iconst 0, 1) := by decide +kernel
theorem dX3_writeOut_90 : decode cX3_writeOut 90 = .ok (.invokevirtual 84, 3) := by decide +kernel
theorem dX3_writeOut_93 : decode cX3_writeOut 93 = .ok (.istore 9, 2) := by decide +kernel
theorem dX3_writeOut_95 : decode cX3_writeOut 95 = .ok (.aload_n 0, 1) := by decide +kernel
theorem dX3_writeOut_96 : decode cX3_writeOut 96 = .ok (.getfield 15, 3) := by decide +kernel
theorem dX3_writeOut_99 : decode cX3_writeOut 99 = .ok (.iconst 4, 1) := by decide +kernel
theorem dX3_writeOut_100 : decode cX3_writeOut 100 = .ok (.iload 5, 2) := by decide +kernel
theorem dX3_writeOut_102 : decode cX3_writeOut 102 = .ok (.iload 8, 2) := by decide +kernel
theorem dX3_writeOut_104 : decode cX3_writeOut 104 = .ok (.iadd, 1) := by decide +kernel
theorem dX3_writeOut_105 : decode cX3_writeOut 105 = .ok (.invokevirtual 84, 3) := by decide +kernel
theorem dX3_writeOut_108 : decode cX3_writeOut 108 = .ok (.istore 10, 2) := by decide +kernel
theorem dX3_writeOut_110 : decode cX3_writeOut 110 = .ok (.aload_n 0, 1) := by decide +kernel
theorem dX3_writeOut_111 : decode cX3_writeOut 111 = .ok (.getfield 15, 3) := by decide +kernel
theorem dX3_writeOut_114 : decode cX3_writeOut 114 = .ok (.iload 9, 2) := by decide +kernel
theorem dX3_writeOut_116 : decode cX3_writeOut 116 = .ok (.iload 10, 2) := by decide +kernel
theorem dX3_writeOut_118 : decode cX3_writeOut 118 = .ok (.invokevirtual 87, 3) := by decide +kernel
theorem dX3_writeOut_121 : decode cX3_writeOut 121 = .ok (.aload_n 0, 1) := by decide +kernel
theorem dX3_writeOut_122 : decode cX3_writeOut 122 = .ok (.iload 10, 2) := by decide +kernel
theorem dX3_writeOut_124 : decode cX3_writeOut 124 = .ok (.iload 8, 2) := by decide +kernel
theorem dX3_writeOut_126 : decode cX3_writeOut 126 = .ok (.iload 4, 2) := by decide +kernel
theorem dX3_writeOut_128 : decode cX3_writeOut 128 = .ok (.if_icmp .ge 16, 3) := by decide +kernel
theorem dX3_writeOut_131 : decode cX3_writeOut 131 = .ok (.aload_n 0, 1) := by decide +kernel
theorem dX3_writeOut_132 : decode cX3_writeOut 132 = .ok (.getfield 15, 3) := by decide +kernel
theorem dX3_writeOut_135 : decode cX3_writeOut 135 = .ok (.iload_n 1, 1) := by decide +kernel
theorem dX3_writeOut_136 : decode cX3_writeOut 136 = .ok (.iload 8, 2) := by decide +kernel
theorem dX3_writeOut_138 : decode cX3_writeOut 138 = .ok (.invokevirtual 70, 3) := by decide +kernel
theorem dX3_writeOut_141 : decode cX3_writeOut 141 = .ok (.goto 5, 3) := by decide +kernel
theorem dX3_writeOut_144 : decode cX3_writeOut 144 = .ok (.bipush (-4), 2) := by decide +kernel
theorem dX3_writeOut_146 : decode cX3_writeOut 146 = .ok (.invokevirtual 91, 3) := by decide +kernel
theorem dX3_writeOut_149 : decode cX3_writeOut 149 = .ok (.aload_n 0, 1) := by decide +kernel
theorem dX3_writeOut_150 : decode cX3_writeOut 150 = .ok (.getfield 15, 3) := by decide +kernel
theorem dX3_writeOut_153 : decode cX3_writeOut 153 = .ok (.iload 7, 2) := by decide +kernel
theorem dX3_writeOut_155 : decode cX3_writeOut 155 = .ok (.iload 9, 2) := by decide +kernel
theorem dX3_writeOut_157 : decode cX3_writeOut 157 = .ok (.invokevirtual 87, 3) := by decide +kernel
theorem dX3_writeOut_160 : decode cX3_writeOut 160 = .ok (.iload 8, 2) := by decide +kernel
theorem dX3_writeOut_162 : decode cX3_writeOut 162 = .ok (.ifCond .ne 8, 3) := by decide +kernel
theorem dX3_writeOut_165 : decode cX3_writeOut 165 = .ok (.iload 9, 2) := by decide +kernel
theorem dX3_writeOut_167 : decode cX3_writeOut 167 = .ok (.goto 5, 3) := by decide +kernel
theorem dX3_writeOut_170 : decode cX3_writeOut 170 = .ok (.iload 6, 2) := by decide +kernel
theorem dX3_writeOut_172 : decode cX3_writeOut 172 = .ok (.istore 6, 2) := by decide +kernel
theorem dX3_writeOut_174 : decode cX3_writeOut 174 = .ok (.iload 9, 2) := by decide +kernel
theorem dX3_writeOut_176 : decode cX3_writeOut 176 = .ok (.istore 7, 2) := by decide +kernel
theorem dX3_writeOut_178 : decode cX3_writeOut 178 = .ok (.iinc 8 1, 3) := by decide +kernel
theorem dX3_writeOut_181 : decode cX3_writeOut 181 = .ok (.goto (-103), 3) := by decide +kernel
theorem dX3_writeOut_184 : decode cX3_writeOut 184 = .ok (.aload_n 0, 1) := by decide +kernel
theorem dX3_writeOut_185 : decode cX3_writeOut 185 = .ok (.getfield 15, 3) := by decide +kernel
theorem dX3_writeOut_188 : decode cX3_writeOut 188 = .ok (.bipush 11, 2) := by decide +kernel
theorem dX3_writeOut_190 : decode cX3_writeOut 190 = .ok (.iconst 0, 1) := by decide +kernel
theorem dX3_writeOut_191 : decode cX3_writeOut 191 = .ok (.invokevirtual 84, 3) := by decide +kernel
theorem dX3_writeOut_194 : decode cX3_writeOut 194 = .ok (.istore 8, 2) := by decide +kernel
theorem dX3_writeOut_196 : decode cX3_writeOut 196 = .ok (.aload_n 0, 1) := by decide +kernel
theorem dX3_writeOut_197 : decode cX3_writeOut 197 = .ok (.getfield 15, 3) := by decide +kernel
theorem dX3_writeOut_200 : decode cX3_writeOut 200 = .ok (.iload 7, 2) := by decide +kernel
theorem dX3_writeOut_202 : decode cX3_writeOut 202 = .ok (.iload 8, 2) := by decide +kernel
theorem dX3_writeOut_204 : decode cX3_writeOut 204 = .ok (.invokevirtual 87, 3) := by decide +kernel
theorem dX3_writeOut_207 : decode cX3_writeOut 207 = .ok (.aload_n 0, 1) := by decide +kernel
theorem dX3_writeOut_208 : decode cX3_writeOut 208 = .ok (.iload 8, 2) := by decide +kernel
theorem dX3_writeOut_210 : decode cX3_writeOut 210 = .ok (.iload 5, 2) := by decide +kernel
theorem dX3_writeOut_212 : decode cX3_writeOut 212 = .ok (.invokevirtual 94, 3) := by decide +kernel
theorem dX3_writeOut_215 : decode cX3_writeOut 215 = .ok (.iload_n 3, 1) := by decide +kernel
theorem dX3_writeOut_216 : decode cX3_writeOut 216 = .ok (.ifCond .ne 8, 3) := by decide +kernel
theorem dX3_writeOut_219 : decode cX3_writeOut 219 = .ok (.iload 8, 2) := by decide +kernel
theorem dX3_writeOut_221 : decode cX3_writeOut 221 = .ok (.goto 5, 3) := by decide +kernel
theorem dX3_writeOut_224 : decode cX3_writeOut 224 = .ok (.iload 6, 2) := by decide +kernel
theorem dX3_writeOut_226 : decode cX3_writeOut 226 = .ok (.istore 6, 2) := by decide +kernel
theorem dX3_writeOut_228 : decode cX3_writeOut 228 = .ok (.aload_n 0, 1) := by decide +kernel
theorem dX3_writeOut_229 : decode cX3_writeOut 229 = .ok (.getfield 15, 3) := by decide +kernel
theorem dX3_writeOut_232 : decode cX3_writeOut 232 = .ok (.iload_n 1, 1) := by decide +kernel
theorem dX3_writeOut_233 : decode cX3_writeOut 233 = .ok (.iload 6, 2) := by decide +kernel
theorem dX3_writeOut_235 : decode cX3_writeOut 235 = .ok (.invokevirtual 97, 3) := by decide +kernel
theorem dX3_writeOut_238 : decode cX3_writeOut 238 = .ok (.aload_n 0, 1) := by decide +kernel
theorem dX3_writeOut_239 : decode cX3_writeOut 239 = .ok (.getfield 15, 3) := by decide +kernel
theorem dX3_writeOut_242 : decode cX3_writeOut 242 = .ok (.iload_n 1, 1) := by decide +kernel
theorem dX3_writeOut_243 : decode cX3_writeOut 243 = .ok (.invokevirtual 100, 3) := by decide +kernel
theorem dX3_writeOut_246 : decode cX3_writeOut 246 = .ok (.iload 6, 2) := by decide +kernel
theorem dX3_writeOut_248 : decode cX3_writeOut 248 = .ok (.ireturn, 1) := by decide +kernel
theorem dX3_moveOrZero_0 : decode cX3_moveOrZero 0 = .ok (.iload_n 2, 1) := by decide +kernel
theorem dX3_moveOrZero_1 : decode cX3_moveOrZero 1 = .ok (.bipush (-4), 2) := by decide +kernel
theorem dX3_moveOrZero_3 : decode cX3_moveOrZero 3 = .ok (.if_icmp .ne 23, 3) := by decide +kernel
theorem dX3_moveOrZero_6 : decode cX3_moveOrZero 6 = .ok (.aload_n 0, 1) := by decide +kernel
theorem dX3_moveOrZero_7 : decode cX3_moveOrZero 7 = .ok (.getfield 15, 3) := by decide +kernel
theorem dX3_moveOrZero_10 : decode cX3_moveOrZero 10 = .ok (.iload_n 1, 1) := by decide +kernel
theorem dX3_moveOrZero_11 : decode cX3_moveOrZero 11 = .ok (.aload_n 0, 1) := by decide +kernel
theorem dX3_moveOrZero_12 : decode cX3_moveOrZero 12 = .ok (.getfield 15, 3) := by decide +kernel
theorem dX3_moveOrZero_15 : decode cX3_moveOrZero 15 = .ok (.iconst 0, 1) := by decide +kernel
theorem dX3_moveOrZero_16 : decode cX3_moveOrZero 16 = .ok (.iconst 0, 1) := by decide +kernel
theorem dX3_moveOrZero_17 : decode cX3_moveOrZero 17 = .ok (.invokevirtual 84, 3) := by decide +kernel
theorem dX3_moveOrZero_20 : decode cX3_moveOrZero 20 = .ok (.invokevirtual 87, 3) := by decide +kernel
theorem dX3_moveOrZero_23 : decode cX3_moveOrZero 23 = .ok (.goto 20, 3) := by decide +kernel
theorem dX3_moveOrZero_26 : decode cX3_moveOrZero 26 = .ok (.aload_n 0, 1) := by decide +kernel
theorem dX3_moveOrZero_27 : decode cX3_moveOrZero 27 = .ok (.getfield 15, 3) := by decide +kernel
theorem dX3_moveOrZero_30 : decode cX3_moveOrZero 30 = .ok (.iload_n 2, 1) := by decide +kernel
theorem dX3_moveOrZero_31 : decode cX3_moveOrZero 31 = .ok (.invokevirtual 104, 3) := by decide +kernel
theorem dX3_moveOrZero_34 : decode cX3_moveOrZero 34 = .ok (.aload_n 0, 1) := by decide +kernel
theorem dX3_moveOrZero_35 : decode cX3_moveOrZero 35 = .ok (.getfield 15, 3) := by decide +kernel
theorem dX3_moveOrZero_38 : decode cX3_moveOrZero 38 = .ok (.iload_n 1, 1) := by decide +kernel
theorem dX3_moveOrZero_39 : decode cX3_moveOrZero 39 = .ok (.iload_n 2, 1) := by decide +kernel
theorem dX3_moveOrZero_40 : decode cX3_moveOrZero 40 = .ok (.invokevirtual 87, 3) := by decide +kernel
theorem dX3_moveOrZero_43 : decode cX3_moveOrZero 43 = .ok (.return_, 1) := by decide +kernel
theorem dX3_writeOff_0 : decode cX3_writeOff 0 = .ok (.aload_n 0, 1) := by decide +kernel
theorem dX3_writeOff_1 : decode cX3_writeOff 1 = .ok (.getfield 9, 3) := by decide +kernel
theorem dX3_writeOff_4 : decode cX3_writeOff 4 = .ok (.iconst 0, 1) := by decide +kernel
theorem dX3_writeOff_5 : decode cX3_writeOff 5 = .ok (.iload_n 1, 1) := by decide +kernel
theorem dX3_writeOff_6 : decode cX3_writeOff 6 = .ok (.iastore, 1) := by decide +kernel
theorem dX3_writeOff_7 : decode cX3_writeOff 7 = .ok (.iconst 0, 1) := by decide +kernel
theorem dX3_writeOff_8 : decode cX3_writeOff 8 = .ok (.istore_n 3, 1) := by decide +kernel
theorem dX3_writeOff_9 : decode cX3_writeOff 9 = .ok (.iload_n 3, 1) := by decide +kernel
theorem dX3_writeOff_10 : decode cX3_writeOff 10 = .ok (.aload_n 0, 1) := by decide +kernel
theorem dX3_writeOff_11 : decode cX3_writeOff 11 = .ok (.getfield 25, 3) := by decide +kernel
theorem dX3_writeOff_14 : decode cX3_writeOff 14 = .ok (.getfield 107, 3) := by decide +kernel
theorem dX3_writeOff_17 : decode cX3_writeOff 17 = .ok (.if_icmp .ge 131, 3) := by decide +kernel
theorem dX3_writeOff_20 : decode cX3_writeOff 20 = .ok (.aload_n 0, 1) := by decide +kernel
theorem dX3_writeOff_21 : decode cX3_writeOff 21 = .ok (.getfield 25, 3) := by decide +kernel
theorem dX3_writeOff_24 : decode cX3_writeOff 24 = .ok (.getfield 110, 3) := by decide +kernel
theorem dX3_writeOff_27 : decode cX3_writeOff 27 = .ok (.iload_n 3, 1) := by decide +kernel
theorem dX3_writeOff_28 : decode cX3_writeOff 28 = .ok (.iaload, 1) := by decide +kernel
theorem dX3_writeOff_29 : decode cX3_writeOff 29 = .ok (.istore 4, 2) := by decide +kernel
theorem dX3_writeOff_31 : decode cX3_writeOff 31 = .ok (.aload_n 0, 1) := by decide +kernel
theorem dX3_writeOff_32 : decode cX3_writeOff 32 = .ok (.getfield 25, 3) := by decide +kernel
theorem dX3_writeOff_35 : decode cX3_writeOff 35 = .ok (.getfield 113, 3) := by decide +kernel
theorem dX3_writeOff_38 : decode cX3_writeOff 38 = .ok (.iload_n 3, 1) := by decide +kernel
theorem dX3_writeOff_39 : decode cX3_writeOff 39 = .ok (.iaload, 1) := by decide +kernel
theorem dX3_writeOff_40 : decode cX3_writeOff 40 = .ok (.istore 5, 2) := by decide +kernel
theorem dX3_writeOff_42 : decode cX3_writeOff 42 = .ok (.aload_n 0, 1) := by decide +kernel
theorem dX3_writeOff_43 : decode cX3_writeOff 43 = .ok (.getfield 15, 3) := by decide +kernel
theorem dX3_writeOff_46 : decode cX3_writeOff 46 = .ok (.iload 4, 2) := by decide +kernel
theorem dX3_writeOff_48 : decode cX3_writeOff 48 = .ok (.invokevirtual 116, 3) := by decide +kernel
theorem dX3_writeOff_51 : decode cX3_writeOff 51 = .ok (.istore 6, 2) := by decide +kernel
theorem dX3_writeOff_53 : decode cX3_writeOff 53 = .ok (.iload 6, 2) := by decide +kernel
theorem dX3_writeOff_55 : decode cX3_writeOff 55 = .ok (.iconst 1, 1) := by decide +kernel
theorem dX3_writeOff_56 : decode cX3_writeOff 56 = .ok (.if_icmp .eq 9, 3) := by decide +kernel
theorem dX3_writeOff_59 : decode cX3_writeOff 59 = .ok (.iload 6, 2) := by decide +kernel
theorem dX3_writeOff_61 : decode cX3_writeOff 61 = .ok (.iconst 4, 1) := by decide +kernel
theorem dX3_writeOff_62 : decode cX3_writeOff 62 = .ok (.if_icmp .ne 7, 3) := by decide +kernel
theorem dX3_writeOff_65 : decode cX3_writeOff 65 = .ok (.iconst 1, 1) := by decide +kernel
theorem dX3_writeOff_66 : decode cX3_writeOff 66 = .ok (.goto 4, 3) := by decide +kernel
theorem dX3_writeOff_69 : decode cX3_writeOff 69 = .ok (.iconst 0, 1) := by decide +kernel
theorem dX3_writeOff_70 : decode cX3_writeOff 70 = .ok (.istore 7, 2) := by decide +kernel
theorem dX3_writeOff_72 : decode cX3_writeOff 72 = .ok (.aload_n 0, 1) := by decide +kernel
theorem dX3_writeOff_73 : decode cX3_writeOff 73 = .ok (.getfield 15, 3) := by decide +kernel
theorem dX3_writeOff_76 : decode cX3_writeOff 76 = .ok (.iload 6, 2) := by decide +kernel
theorem dX3_writeOff_78 : decode cX3_writeOff 78 = .ok (.aload_n 0, 1) := by decide +kernel
theorem dX3_writeOff_79 : decode cX3_writeOff 79 = .ok (.getfield 15, 3) := by decide +kernel
theorem dX3_writeOff_82 : decode cX3_writeOff 82 = .ok (.iload 4, 2) := by decide +kernel
theorem dX3_writeOff_84 : decode cX3_writeOff 84 = .ok (.invokevirtual 28, 3) := by decide +kernel
theorem dX3_writeOff_87 : decode cX3_writeOff 87 = .ok (.iload 7, 2) := by decide +kernel
theorem dX3_writeOff_89 : decode cX3_writeOff 89 = .ok (.ifCond .eq 7, 3) := by decide +kernel
theorem dX3_writeOff_92 : decode cX3_writeOff 92 = .ok (.iload_n 2, 1) := by decide +kernel
theorem dX3_writeOff_93 : decode cX3_writeOff 93 = .ok (.goto 4, 3) := by decide +kernel
theorem dX3_writeOff_96 : decode cX3_writeOff 96 = .ok (.iconst 0, 1) := by decide +kernel
theorem dX3_writeOff_97 : decode cX3_writeOff 97 = .ok (.iadd, 1) := by decide +kernel
theorem dX3_writeOff_98 : decode cX3_writeOff 98 = .ok (.invokevirtual 84, 3) := by decide +kernel
theorem dX3_writeOff_101 : decode cX3_writeOff 101 = .ok (.istore 8, 2) := by decide +kernel
theorem dX3_writeOff_103 : decode cX3_writeOff 103 = .ok (.iload 5, 2) := by decide +kernel
theorem dX3_writeOff_105 : decode cX3_writeOff 105 = .ok (.ifCond .le 37, 3) := by decide +kernel
theorem dX3_writeOff_108 : decode cX3_writeOff 108 = .ok (.iload 5, 2) := by decide +kernel
theorem dX3_writeOff_110 : decode cX3_writeOff 110 = .ok (.bipush 40, 2) := by decide +kernel
theorem dX3_writeOff_112 : decode cX3_writeOff 112 = .ok (.if_icmp .gt 30, 3) := by decide +kernel
theorem dX3_writeOff_115 : decode cX3_writeOff 115 = .ok (.aload_n 0, 1) := by decide +kernel
theorem dX3_writeOff_116 : decode cX3_writeOff 116 = .ok (.getfield 15, 3) := by decide +kernel
theorem dX3_writeOff_119 : decode cX3_writeOff 119 = .ok (.aload_n 0, 1) := by decide +kernel
theorem dX3_writeOff_120 : decode cX3_writeOff 120 = .ok (.getfield 9, 3) := by decide +kernel
theorem dX3_writeOff_123 : decode cX3_writeOff 123 = .ok (.iload 5, 2) := by decide +kernel
theorem dX3_writeOff_125 : decode cX3_writeOff 125 = .ok (.iconst 1, 1) := by decide +kernel
theorem dX3_writeOff_126 : decode cX3_writeOff 126 = .ok (.isub, 1) := by decide +kernel
theorem dX3_writeOff_127 : decode cX3_writeOff 127 = .ok (.iaload, 1) := by decide +kernel
theorem dX3_writeOff_128 : decode cX3_writeOff 128 = .ok (.iload 8, 2) := by decide +kernel
theorem dX3_writeOff_130 : decode cX3_writeOff 130 = .ok (.invokevirtual 87, 3) := by decide +kernel
theorem dX3_writeOff_133 : decode cX3_writeOff 133 = .ok (.aload_n 0, 1) := by decide +kernel
theorem dX3_writeOff_134 : decode cX3_writeOff 134 = .ok (.getfield 9, 3) := by decide +kernel
theorem dX3_writeOff_137 : decode cX3_writeOff 137 = .ok (.iload 5, 2) := by decide +kernel
theorem dX3_writeOff_139 : decode cX3_writeOff 139 = .ok (.iload 8, 2) := by decide +kernel
theorem dX3_writeOff_141 : decode cX3_writeOff 141 = .ok (.iastore, 1) := by decide +kernel
theorem dX3_writeOff_142 : decode cX3_writeOff 142 = .ok (.iinc 3 1, 3) := by decide +kernel
theorem dX3_writeOff_145 : decode cX3_writeOff 145 = .ok (.goto (-136), 3) := by decide +kernel
theorem dX3_writeOff_148 : decode cX3_writeOff 148 = .ok (.return_, 1) := by decide +kernel
theorem dX4_init_0 : decode cX4_init 0 = .ok (.aload_n 0, 1) := by decide +kernel
theorem dX4_init_1 : decode cX4_init 1 = .ok (.invokespecial 3, 3) := by decide +kernel
theorem dX4_init_4 : decode cX4_init 4 = .ok (.aload_n 0, 1) := by decide +kernel
theorem dX4_init_5 : decode cX4_init 5 = .ok (.bipush 13, 2) := by decide +kernel
theorem dX4_init_7 : decode cX4_init 7 = .ok (.anewarray 11, 3) := by decide +kernel
theorem dX4_init_10 : decode cX4_init 10 = .ok (.putfield 13, 3) := by decide +kernel
theorem dX4_init_13 : decode cX4_init 13 = .ok (.return_, 1) := by decide +kernel
theorem dX4_forgetAll_0 : decode cX4_forgetAll 0 = .ok (.aload_n 0, 1) := by decide +kernel
theorem dX4_forgetAll_1 : decode cX4_forgetAll 1 = .ok (.iconst 0, 1) := by decide +kernel
theorem dX4_forgetAll_2 : decode cX4_forgetAll 2 = .ok (.putfield 17, 3) := by decide +kernel
theorem dX4_forgetAll_5 : decode cX4_forgetAll 5 = .ok (.return_, 1) := by decide +kernel
theorem dX4_hold_0 : decode cX4_hold 0 = .ok (.aload_n 0, 1) := by decide +kernel
theorem dX4_hold_1 : decode cX4_hold 1 = .ok (.getfield 21, 3) := by decide +kernel
theorem dX4_hold_4 : decode cX4_hold 4 = .ok (.aload_n 0, 1) := by decide +kernel
theorem dX4_hold_5 : decode cX4_hold 5 = .ok (.getfield 17, 3) := by decide +kernel
theorem dX4_hold_8 : decode cX4_hold 8 = .ok (.iadd, 1) := by decide +kernel
theorem dX4_hold_9 : decode cX4_hold 9 = .ok (.bipush 13, 2) := by decide +kernel
theorem dX4_hold_11 : decode cX4_hold 11 = .ok (.irem, 1) := by decide +kernel
theorem dX4_hold_12 : decode cX4_hold 12 = .ok (.istore_n 2, 1) := by decide +kernel
theorem dX4_hold_13 : decode cX4_hold 13 = .ok (.aload_n 0, 1) := by decide +kernel
theorem dX4_hold_14 : decode cX4_hold 14 = .ok (.getfield 13, 3) := by decide +kernel
theorem dX4_hold_17 : decode cX4_hold 17 = .ok (.iload_n 2, 1) := by decide +kernel
theorem dX4_hold_18 : decode cX4_hold 18 = .ok (.aaload, 1) := by decide +kernel
theorem dX4_hold_19 : decode cX4_hold 19 = .ok (.ifnonnull 16, 3) := by decide +kernel
theorem dX4_hold_22 : decode cX4_hold 22 = .ok (.aload_n 0, 1) := by decide +kernel
theorem dX4_hold_23 : decode cX4_hold 23 = .ok (.getfield 13, 3) := by decide +kernel
theorem dX4_hold_26 : decode cX4_hold 26 = .ok (.iload_n 2, 1) := by decide +kernel
theorem dX4_hold_27 : decode cX4_hold 27 = .ok (.new 11, 3) := by decide +kernel
theorem dX4_hold_30 : decode cX4_hold 30 = .ok (.dup, 1) := by decide +kernel
theorem dX4_hold_31 : decode cX4_hold 31 = .ok (.invokespecial 24, 3) := by decide +kernel
theorem dX4_hold_34 : decode cX4_hold 34 = .ok (.aastore, 1) := by decide +kernel
theorem dX4_hold_35 : decode cX4_hold 35 = .ok (.aload_n 0, 1) := by decide +kernel
theorem dX4_hold_36 : decode cX4_hold 36 = .ok (.getfield 13, 3) := by decide +kernel
theorem dX4_hold_39 : decode cX4_hold 39 = .ok (.iload_n 2, 1) := by decide +kernel
theorem dX4_hold_40 : decode cX4_hold 40 = .ok (.aaload, 1) := by decide +kernel
theorem dX4_hold_41 : decode cX4_hold 41 = .ok (.aload_n 1, 1) := by decide +kernel
theorem dX4_hold_42 : decode cX4_hold 42 = .ok (.invokevirtual 25, 3) := by decide +kernel
theorem dX4_hold_45 : decode cX4_hold 45 = .ok (.return_, 1) := by decide +kernel
theorem dX4_keepHeld_0 : decode cX4_keepHeld 0 = .ok (.aload_n 0, 1) := by decide +kernel
theorem dX4_keepHeld_1 : decode cX4_keepHeld 1 = .ok (.getfield 17, 3) := by decide +kernel
theorem dX4_keepHeld_4 : decode cX4_keepHeld 4 = .ok (.bipush 12, 2) := by decide +kernel
theorem dX4_keepHeld_6 : decode cX4_keepHeld 6 = .ok (.if_icmp .ge 16, 3) := by decide +kernel
theorem dX4_keepHeld_9 : decode cX4_keepHeld 9 = .ok (.aload_n 0, 1) := by decide +kernel
theorem dX4_keepHeld_10 : decode cX4_keepHeld 10 = .ok (.dup, 1) := by decide +kernel
theorem dX4_keepHeld_11 : decode cX4_keepHeld 11 = .ok (.getfield 17, 3) := by decide +kernel
theorem dX4_keepHeld_14 : decode cX4_keepHeld 14 = .ok (.iconst 1, 1) := by decide +kernel
theorem dX4_keepHeld_15 : decode cX4_keepHeld 15 = .ok (.iadd, 1) := by decide +kernel
theorem dX4_keepHeld_16 : decode cX4_keepHeld 16 = .ok (.putfield 17, 3) := by decide +kernel
theorem dX4_keepHeld_19 : decode cX4_keepHeld 19 = .ok (.goto 16, 3) := by decide +kernel
theorem dX4_keepHeld_22 : decode cX4_keepHeld 22 = .ok (.aload_n 0, 1) := by decide +kernel
theorem dX4_keepHeld_23 : decode cX4_keepHeld 23 = .ok (.aload_n 0, 1) := by decide +kernel
theorem dX4_keepHeld_24 : decode cX4_keepHeld 24 = .ok (.getfield 21, 3) := by decide +kernel
theorem dX4_keepHeld_27 : decode cX4_keepHeld 27 = .ok (.iconst 1, 1) := by decide +kernel
theorem dX4_keepHeld_28 : decode cX4_keepHeld 28 = .ok (.iadd, 1) := by decide +kernel
theorem dX4_keepHeld_29 : decode cX4_keepHeld 29 = .ok (.bipush 13, 2) := by decide +kernel
theorem dX4_keepHeld_31 : decode cX4_keepHeld 31 = .ok (.irem, 1) := by decide +kernel
theorem dX4_keepHeld_32 : decode cX4_keepHeld 32 = .ok (.putfield 21, 3) := by decide +kernel
theorem dX4_keepHeld_35 : decode cX4_keepHeld 35 = .ok (.return_, 1) := by decide +kernel
theorem dX4_bringBackHeld_0 : decode cX4_bringBackHeld 0 = .ok (.aload_n 0, 1) := by decide +kernel
theorem dX4_bringBackHeld_1 : decode cX4_bringBackHeld 1 = .ok (.getfield 13, 3) := by decide +kernel
theorem dX4_bringBackHeld_4 : decode cX4_bringBackHeld 4 = .ok (.aload_n 0, 1) := by decide +kernel
theorem dX4_bringBackHeld_5 : decode cX4_bringBackHeld 5 = .ok (.getfield 21, 3) := by decide +kernel
theorem dX4_bringBackHeld_8 : decode cX4_bringBackHeld 8 = .ok (.aload_n 0, 1) := by decide +kernel
theorem dX4_bringBackHeld_9 : decode cX4_bringBackHeld 9 = .ok (.getfield 17, 3) := by decide +kernel
theorem dX4_bringBackHeld_12 : decode cX4_bringBackHeld 12 = .ok (.iadd, 1) := by decide +kernel
theorem dX4_bringBackHeld_13 : decode cX4_bringBackHeld 13 = .ok (.bipush 13, 2) := by decide +kernel
theorem dX4_bringBackHeld_15 : decode cX4_bringBackHeld 15 = .ok (.irem, 1) := by decide +kernel
theorem dX4_bringBackHeld_16 : decode cX4_bringBackHeld 16 = .ok (.aaload, 1) := by decide +kernel
theorem dX4_bringBackHeld_17 : decode cX4_bringBackHeld 17 = .ok (.astore_n 2, 1) := by decide +kernel
theorem dX4_bringBackHeld_18 : decode cX4_bringBackHeld 18 = .ok (.aload_n 2, 1) := by decide +kernel
theorem dX4_bringBackHeld_19 : decode cX4_bringBackHeld 19 = .ok (.ifnull 8, 3) := by decide +kernel
theorem dX4_bringBackHeld_22 : decode cX4_bringBackHeld 22 = .ok (.aload_n 1, 1) := by decide +kernel
theorem dX4_bringBackHeld_23 : decode cX4_bringBackHeld 23 = .ok (.aload_n 2, 1) := by decide +kernel
theorem dX4_bringBackHeld_24 : decode cX4_bringBackHeld 24 = .ok (.invokevirtual 25, 3) := by decide +kernel
theorem dX4_bringBackHeld_27 : decode cX4_bringBackHeld 27 = .ok (.return_, 1) := by decide +kernel
theorem dX4_takeBack_0 : decode cX4_takeBack 0 = .ok (.aload_n 0, 1) := by decide +kernel
theorem dX4_takeBack_1 : decode cX4_takeBack 1 = .ok (.getfield 17, 3) := by decide +kernel
theorem dX4_takeBack_4 : decode cX4_takeBack 4 = .ok (.ifCond .ne 5, 3) := by decide +kernel
theorem dX4_takeBack_7 : decode cX4_takeBack 7 = .ok (.iconst 0, 1) := by decide +kernel
theorem dX4_takeBack_8 : decode cX4_takeBack 8 = .ok (.ireturn, 1) := by decide +kernel
theorem dX4_takeBack_9 : decode cX4_takeBack 9 = .ok (.aload_n 1, 1) := by decide +kernel
theorem dX4_takeBack_10 : decode cX4_takeBack 10 = .ok (.getfield 29, 3) := by decide +kernel
theorem dX4_takeBack_13 : decode cX4_takeBack 13 = .ok (.istore_n 2, 1) := by decide +kernel
theorem dX4_takeBack_14 : decode cX4_takeBack 14 = .ok (.aload_n 0, 1) := by decide +kernel
theorem dX4_takeBack_15 : decode cX4_takeBack 15 = .ok (.dup, 1) := by decide +kernel
theorem dX4_takeBack_16 : decode cX4_takeBack 16 = .ok (.getfield 17, 3) := by decide +kernel
theorem dX4_takeBack_19 : decode cX4_takeBack 19 = .ok (.iconst 1, 1) := by decide +kernel
theorem dX4_takeBack_20 : decode cX4_takeBack 20 = .ok (.isub, 1) := by decide +kernel
theorem dX4_takeBack_21 : decode cX4_takeBack 21 = .ok (.putfield 17, 3) := by decide +kernel
theorem dX4_takeBack_24 : decode cX4_takeBack 24 = .ok (.aload_n 0, 1) := by decide +kernel
theorem dX4_takeBack_25 : decode cX4_takeBack 25 = .ok (.aload_n 1, 1) := by decide +kernel
theorem dX4_takeBack_26 : decode cX4_takeBack 26 = .ok (.invokevirtual 32, 3) := by decide +kernel
theorem dX4_takeBack_29 : decode cX4_takeBack 29 = .ok (.aload_n 1, 1) := by decide +kernel
theorem dX4_takeBack_30 : decode cX4_takeBack 30 = .ok (.getfield 29, 3) := by decide +kernel
theorem dX4_takeBack_33 : decode cX4_takeBack 33 = .ok (.istore_n 3, 1) := by decide +kernel
theorem dX4_takeBack_34 : decode cX4_takeBack 34 = .ok (.iload_n 3, 1) := by decide +kernel
theorem dX4_takeBack_35 : decode cX4_takeBack 35 = .ok (.iload_n 2, 1) := by decide +kernel
theorem dX4_takeBack_36 : decode cX4_takeBack 36 = .ok (.if_icmp .ge 16, 3) := by decide +kernel
theorem dX4_takeBack_39 : decode cX4_takeBack 39 = .ok (.aload_n 1, 1) := by decide +kernel
theorem dX4_takeBack_40 : decode cX4_takeBack 40 = .ok (.iload_n 3, 1) := by decide +kernel
theorem dX4_takeBack_41 : decode cX4_takeBack 41 = .ok (.iconst (-1), 1) := by decide +kernel
theorem dX4_takeBack_42 : decode cX4_takeBack 42 = .ok (.iconst 0, 1) := by decide +kernel
theorem dX4_takeBack_43 : decode cX4_takeBack 43 = .ok (.invokevirtual 35, 3) := by decide +kernel
theorem dX4_takeBack_46 : decode cX4_takeBack 46 = .ok (.iinc 3 1, 3) := by decide +kernel
theorem dX4_takeBack_49 : decode cX4_takeBack 49 = .ok (.goto (-15), 3) := by decide +kernel
theorem dX4_takeBack_52 : decode cX4_takeBack 52 = .ok (.aload_n 1, 1) := by decide +kernel
theorem dX4_takeBack_53 : decode cX4_takeBack 53 = .ok (.iload_n 2, 1) := by decide +kernel
theorem dX4_takeBack_54 : decode cX4_takeBack 54 = .ok (.putfield 29, 3) := by decide +kernel
theorem dX4_takeBack_57 : decode cX4_takeBack 57 = .ok (.iconst 1, 1) := by decide +kernel
theorem dX4_takeBack_58 : decode cX4_takeBack 58 = .ok (.ireturn, 1) := by decide +kernel
theorem dX5_init_0 : decode cX5_init 0 = .ok (.aload_n 0, 1) := by decide +kernel
theorem dX5_init_1 : decode cX5_init 1 = .ok (.invokespecial 3, 3) := by decide +kernel
theorem dX5_init_4 : decode cX5_init 4 = .ok (.aload_n 0, 1) := by decide +kernel
theorem dX5_init_5 : decode cX5_init 5 = .ok (.sipush 600, 3) := by decide +kernel
theorem dX5_init_8 : decode cX5_init 8 = .ok (.newarray .int, 2) := by decide +kernel
theorem dX5_init_10 : decode cX5_init 10 = .ok (.putfield 9, 3) := by decide +kernel
theorem dX5_init_13 : decode cX5_init 13 = .ok (.aload_n 0, 1) := by decide +kernel
theorem dX5_init_14 : decode cX5_init 14 = .ok (.sipush 600, 3) := by decide +kernel
theorem dX5_init_17 : decode cX5_init 17 = .ok (.newarray .int, 2) := by decide +kernel
theorem dX5_init_19 : decode cX5_init 19 = .ok (.putfield 15, 3) := by decide +kernel
theorem dX5_init_22 : decode cX5_init 22 = .ok (.aload_n 0, 1) := by decide +kernel
theorem dX5_init_23 : decode cX5_init 23 = .ok (.sipush 1800, 3) := by decide +kernel
theorem dX5_init_26 : decode cX5_init 26 = .ok (.newarray .int, 2) := by decide +kernel
theorem dX5_init_28 : decode cX5_init 28 = .ok (.putfield 18, 3) := by decide +kernel
theorem dX5_init_31 : decode cX5_init 31 = .ok (.aload_n 0, 1) := by decide +kernel
theorem dX5_init_32 : decode cX5_init 32 = .ok (.sipush 600, 3) := by decide +kernel
theorem dX5_init_35 : decode cX5_init 35 = .ok (.newarray .int, 2) := by decide +kernel
theorem dX5_init_37 : decode cX5_init 37 = .ok (.putfield 21, 3) := by decide +kernel
theorem dX5_init_40 : decode cX5_init 40 = .ok (.aload_n 0, 1) := by decide +kernel
theorem dX5_init_41 : decode cX5_init 41 = .ok (.bipush 10, 2) := by decide +kernel
theorem dX5_init_43 : decode cX5_init 43 = .ok (.newarray .int, 2) := by decide +kernel
theorem dX5_init_45 : decode cX5_init 45 = .ok (.putfield 24, 3) := by decide +kernel
theorem dX5_init_48 : decode cX5_init 48 = .ok (.aload_n 0, 1) := by decide +kernel
theorem dX5_init_49 : decode cX5_init 49 = .ok (.bipush 10, 2) := by decide +kernel
theorem dX5_init_51 : decode cX5_init 51 = .ok (.newarray .int, 2) := by decide +kernel
theorem dX5_init_53 : decode cX5_init 53 = .ok (.putfield 27, 3) := by decide +kernel
theorem dX5_init_56 : decode cX5_init 56 = .ok (.return_, 1) := by decide +kernel
theorem dX5_copyFrom_0 : decode cX5_copyFrom 0 = .ok (.aload_n 1, 1) := by decide +kernel
theorem dX5_copyFrom_1 : decode cX5_copyFrom 1 = .ok (.getfield 9, 3) := by decide +kernel
theorem dX5_copyFrom_4 : decode cX5_copyFrom 4 = .ok (.iconst 0, 1) := by decide +kernel
theorem dX5_copyFrom_5 : decode cX5_copyFrom 5 = .ok (.aload_n 0, 1) := by decide +kernel
theorem dX5_copyFrom_6 : decode cX5_copyFrom 6 = .ok (.getfield 9, 3) := by decide +kernel
theorem dX5_copyFrom_9 : decode cX5_copyFrom 9 = .ok (.iconst 0, 1) := by decide +kernel
theorem dX5_copyFrom_10 : decode cX5_copyFrom 10 = .ok (.aload_n 1, 1) := by decide +kernel
theorem dX5_copyFrom_11 : decode cX5_copyFrom 11 = .ok (.getfield 30, 3) := by decide +kernel
theorem dX5_copyFrom_14 : decode cX5_copyFrom 14 = .ok (.invokestatic 34, 3) := by decide +kernel
theorem dX5_copyFrom_17 : decode cX5_copyFrom 17 = .ok (.aload_n 1, 1) := by decide +kernel
theorem dX5_copyFrom_18 : decode cX5_copyFrom 18 = .ok (.getfield 15, 3) := by decide +kernel
theorem dX5_copyFrom_21 : decode cX5_copyFrom 21 = .ok (.iconst 0, 1) := by decide +kernel
theorem dX5_copyFrom_22 : decode cX5_copyFrom 22 = .ok (.aload_n 0, 1) := by decide +kernel
theorem dX5_copyFrom_23 : decode cX5_copyFrom 23 = .ok (.getfield 15, 3) := by decide +kernel
theorem dX5_copyFrom_26 : decode cX5_copyFrom 26 = .ok (.iconst 0, 1) := by decide +kernel
theorem dX5_copyFrom_27 : decode cX5_copyFrom 27 = .ok (.aload_n 1, 1) := by decide +kernel
theorem dX5_copyFrom_28 : decode cX5_copyFrom 28 = .ok (.getfield 30, 3) := by decide +kernel
theorem dX5_copyFrom_31 : decode cX5_copyFrom 31 = .ok (.invokestatic 34, 3) := by decide +kernel
theorem dX5_copyFrom_34 : decode cX5_copyFrom 34 = .ok (.aload_n 1, 1) := by decide +kernel
theorem dX5_copyFrom_35 : decode cX5_copyFrom 35 = .ok (.getfield 18, 3) := by decide +kernel
theorem dX5_copyFrom_38 : decode cX5_copyFrom 38 = .ok (.iconst 0, 1) := by decide +kernel
theorem dX5_copyFrom_39 : decode cX5_copyFrom 39 = .ok (.aload_n 0, 1) := by decide +kernel
theorem dX5_copyFrom_40 : decode cX5_copyFrom 40 = .ok (.getfield 18, 3) := by decide +kernel
theorem dX5_copyFrom_43 : decode cX5_copyFrom 43 = .ok (.iconst 0, 1) := by decide +kernel
theorem dX5_copyFrom_44 : decode cX5_copyFrom 44 = .ok (.aload_n 1, 1) := by decide +kernel
theorem dX5_copyFrom_45 : decode cX5_copyFrom 45 = .ok (.getfield 30, 3) := by decide +kernel
theorem dX5_copyFrom_48 : decode cX5_copyFrom 48 = .ok (.iconst 3, 1) := by decide +kernel
theorem dX5_copyFrom_49 : decode cX5_copyFrom 49 = .ok (.imul, 1) := by decide +kernel
theorem dX5_copyFrom_50 : decode cX5_copyFrom 50 = .ok (.invokestatic 34, 3) := by decide +kernel
theorem dX5_copyFrom_53 : decode cX5_copyFrom 53 = .ok (.aload_n 1, 1) := by decide +kernel
theorem dX5_copyFrom_54 : decode cX5_copyFrom 54 = .ok (.getfield 21, 3) := by decide +kernel
theorem dX5_copyFrom_57 : decode cX5_copyFrom 57 = .ok (.iconst 0, 1) := by decide +kernel
theorem dX5_copyFrom_58 : decode cX5_copyFrom 58 = .ok (.aload_n 0, 1) := by decide +kernel
theorem dX5_copyFrom_59 : decode cX5_copyFrom 59 = .ok (.getfield 21, 3) := by decide +kernel
theorem dX5_copyFrom_62 : decode cX5_copyFrom 62 = .ok (.iconst 0, 1) := by decide +kernel
theorem dX5_copyFrom_63 : decode cX5_copyFrom 63 = .ok (.aload_n 1, 1) := by decide +kernel
theorem dX5_copyFrom_64 : decode cX5_copyFrom 64 = .ok (.getfield 30, 3) := by decide +kernel
theorem dX5_copyFrom_67 : decode cX5_copyFrom 67 = .ok (.invokestatic 34, 3) := by decide +kernel
theorem dX5_copyFrom_70 : decode cX5_copyFrom 70 = .ok (.aload_n 1, 1) := by decide +kernel
theorem dX5_copyFrom_71 : decode cX5_copyFrom 71 = .ok (.getfield 24, 3) := by decide +kernel
theorem dX5_copyFrom_74 : decode cX5_copyFrom 74 = .ok (.iconst 0, 1) := by decide +kernel
theorem dX5_copyFrom_75 : decode cX5_copyFrom 75 = .ok (.aload_n 0, 1) := by decide +kernel
theorem dX5_copyFrom_76 : decode cX5_copyFrom 76 = .ok (.getfield 24, 3) := by decide +kernel
theorem dX5_copyFrom_79 : decode cX5_copyFrom 79 = .ok (.iconst 0, 1) := by decide +kernel
theorem dX5_copyFrom_80 : decode cX5_copyFrom 80 = .ok (.aload_n 1, 1) := by decide +kernel
theorem dX5_copyFrom_81 : decode cX5_copyFrom 81 = .ok (.getfield 40, 3) := by decide +kernel
theorem dX5_copyFrom_84 : decode cX5_copyFrom 84 = .ok (.invokestatic 34, 3) := by decide +kernel
theorem dX5_copyFrom_87 : decode cX5_copyFrom 87 = .ok (.aload_n 1, 1) := by decide +kernel
theorem dX5_copyFrom_88 : decode cX5_copyFrom 88 = .ok (.getfield 27, 3) := by decide +kernel
theorem dX5_copyFrom_91 : decode cX5_copyFrom 91 = .ok (.iconst 0, 1) := by decide +kernel
theorem dX5_copyFrom_92 : decode cX5_copyFrom 92 = .ok (.aload_n 0, 1) := by decide +kernel
theorem dX5_copyFrom_93 : decode cX5_copyFrom 93 = .ok (.getfield 27, 3) := by decide +kernel
theorem dX5_copyFrom_96 : decode cX5_copyFrom 96 = .ok (.iconst 0, 1) := by decide +kernel
theorem dX5_copyFrom_97 : decode cX5_copyFrom 97 = .ok (.aload_n 1, 1) := by decide +kernel
theorem dX5_copyFrom_98 : decode cX5_copyFrom 98 = .ok (.getfield 40, 3) := by decide +kernel
theorem dX5_copyFrom_101 : decode cX5_copyFrom 101 = .ok (.invokestatic 34, 3) := by decide +kernel
theorem dX5_copyFrom_104 : decode cX5_copyFrom 104 = .ok (.aload_n 0, 1) := by decide +kernel
theorem dX5_copyFrom_105 : decode cX5_copyFrom 105 = .ok (.aload_n 1, 1) := by decide +kernel
theorem dX5_copyFrom_106 : decode cX5_copyFrom 106 = .ok (.getfield 30, 3) := by decide +kernel
theorem dX5_copyFrom_109 : decode cX5_copyFrom 109 = .ok (.putfield 30, 3) := by decide +kernel
theorem dX5_copyFrom_112 : decode cX5_copyFrom 112 = .ok (.aload_n 0, 1) := by decide +kernel
theorem dX5_copyFrom_113 : decode cX5_copyFrom 113 = .ok (.aload_n 1, 1) := by decide +kernel
theorem dX5_copyFrom_114 : decode cX5_copyFrom 114 = .ok (.getfield 40, 3) := by decide +kernel
theorem dX5_copyFrom_117 : decode cX5_copyFrom 117 = .ok (.putfield 40, 3) := by decide +kernel
theorem dX5_copyFrom_120 : decode cX5_copyFrom 120 = .ok (.return_, 1) := by decide +kernel
theorem dX5_isStep_0 : decode cX5_isStep 0 = .ok (.iload_n 1, 1) := by decide +kernel
theorem dX5_isStep_1 : decode cX5_isStep 1 = .ok (.ifCond .lt 25, 3) := by decide +kernel
theorem dX5_isStep_4 : decode cX5_isStep 4 = .ok (.iload_n 1, 1) := by decide +kernel
theorem dX5_isStep_5 : decode cX5_isStep 5 = .ok (.aload_n 0, 1) := by decide +kernel
theorem dX5_isStep_6 : decode cX5_isStep 6 = .ok (.getfield 30, 3) := by decide +kernel
theorem dX5_isStep_9 : decode cX5_isStep 9 = .ok (.if_icmp .ge 17, 3) := by decide +kernel
theorem dX5_isStep_12 : decode cX5_isStep 12 = .ok (.aload_n 0, 1) := by decide +kernel
theorem dX5_isStep_13 : decode cX5_isStep 13 = .ok (.getfield 9, 3) := by decide +kernel
theorem dX5_isStep_16 : decode cX5_isStep 16 = .ok (.iload_n 1, 1) := by decide +kernel
theorem dX5_isStep_17 : decode cX5_isStep 17 = .ok (.iaload, 1) := by decide +kernel
theorem dX5_isStep_18 : decode cX5_isStep 18 = .ok (.iconst (-1), 1) := by decide +kernel
theorem dX5_isStep_19 : decode cX5_isStep 19 = .ok (.if_icmp .eq 7, 3) := by decide +kernel
theorem dX5_isStep_22 : decode cX5_isStep 22 = .ok (.iconst 1, 1) := by decide +kernel
theorem dX5_isStep_23 : decode cX5_isStep 23 = .ok (.goto 4, 3) := by decide +kernel
theorem dX5_isStep_26 : decode cX5_isStep 26 = .ok (.iconst 0, 1) := by decide +kernel
theorem dX5_isStep_27 : decode cX5_isStep 27 = .ok (.ireturn, 1) := by decide +kernel
theorem dX5_clear_0 : decode cX5_clear 0 = .ok (.iload_n 1, 1) := by decide +kernel
theorem dX5_clear_1 : decode cX5_clear 1 = .ok (.ifCond .lt 10, 3) := by decide +kernel
theorem dX5_clear_4 : decode cX5_clear 4 = .ok (.iload_n 1, 1) := by decide +kernel
theorem dX5_clear_5 : decode cX5_clear 5 = .ok (.sipush 600, 3) := by decide +kernel
theorem dX5_clear_8 : decode cX5_clear 8 = .ok (.if_icmp .lt 4, 3) := by decide +kernel
theorem dX5_clear_11 : decode cX5_clear 11 = .ok (.return_, 1) := by decide +kernel
theorem dX5_clear_12 : decode cX5_clear 12 = .ok (.aload_n 0, 1) := by decide +kernel
theorem dX5_clear_13 : decode cX5_clear 13 = .ok (.getfield 9, 3) := by decide +kernel
theorem dX5_clear_16 : decode cX5_clear 16 = .ok (.iload_n 1, 1) := by decide +kernel
theorem dX5_clear_17 : decode cX5_clear 17 = .ok (.iload_n 2, 1) := by decide +kernel
theorem dX5_clear_18 : decode cX5_clear 18 = .ok (.iastore, 1) := by decide +kernel
theorem dX5_clear_19 : decode cX5_clear 19 = .ok (.aload_n 0, 1) := by decide +kernel
theorem dX5_clear_20 : decode cX5_clear 20 = .ok (.getfield 15, 3) := by decide +kernel
theorem dX5_clear_23 : decode cX5_clear 23 = .ok (.iload_n 1, 1) := by decide +kernel
theorem dX5_clear_24 : decode cX5_clear 24 = .ok (.iload_n 3, 1) := by decide +kernel
theorem dX5_clear_25 : decode cX5_clear 25 = .ok (.iastore, 1) := by decide +kernel
theorem dX5_clear_26 : decode cX5_clear 26 = .ok (.aload_n 0, 1) := by decide +kernel
theorem dX5_clear_27 : decode cX5_clear 27 = .ok (.getfield 21, 3) := by decide +kernel
theorem dX5_clear_30 : decode cX5_clear 30 = .ok (.iload_n 1, 1) := by decide +kernel
theorem dX5_clear_31 : decode cX5_clear 31 = .ok (.bipush (-4), 2) := by decide +kernel
theorem dX5_clear_33 : decode cX5_clear 33 = .ok (.iastore, 1) := by decide +kernel
theorem dX5_clear_34 : decode cX5_clear 34 = .ok (.iconst 0, 1) := by decide +kernel
theorem dX5_clear_35 : decode cX5_clear 35 = .ok (.istore 4, 2) := by decide +kernel
theorem dX5_clear_37 : decode cX5_clear 37 = .ok (.iload 4, 2) := by decide +kernel
theorem dX5_clear_39 : decode cX5_clear 39 = .ok (.iconst 3, 1) := by decide +kernel
theorem dX5_clear_40 : decode cX5_clear 40 = .ok (.if_icmp .ge 22, 3) := by decide +kernel
theorem dX5_clear_43 : decode cX5_clear 43 = .ok (.aload_n 0, 1) := by decide +kernel
theorem dX5_clear_44 : decode cX5_clear 44 = .ok (.getfield 18, 3) := by decide +kernel
theorem dX5_clear_47 : decode cX5_clear 47 = .ok (.iload_n 1, 1) := by decide +kernel
theorem dX5_clear_48 : decode cX5_clear 48 = .ok (.iconst 3, 1) := by decide +kernel
theorem dX5_clear_49 : decode cX5_clear 49 = .ok (.imul, 1) := by decide +kernel
theorem dX5_clear_50 : decode cX5_clear 50 = .ok (.iload 4, 2) := by decide +kernel
theorem dX5_clear_52 : decode cX5_clear 52 = .ok (.iadd, 1) := by decide +kernel
theorem dX5_clear_53 : decode cX5_clear 53 = .ok (.bipush (-4), 2) := by decide +kernel
theorem dX5_clear_55 : decode cX5_clear 55 = .ok (.iastore, 1) := by decide +kernel
theorem dX5_clear_56 : decode cX5_clear 56 = .ok (.iinc 4 1, 3) := by decide +kernel
theorem dX5_clear_59 : decode cX5_clear 59 = .ok (.goto (-22), 3) := by decide +kernel
theorem dX5_clear_62 : decode cX5_clear 62 = .ok (.return_, 1) := by decide +kernel
theorem dX6_init_0 : decode cX6_init 0 = .ok (.aload_n 0, 1) := by decide +kernel
theorem dX6_init_1 : decode cX6_init 1 = .ok (.invokespecial 3, 3) := by decide +kernel
theorem dX6_init_4 : decode cX6_init 4 = .ok (.aload_n 0, 1) := by decide +kernel
theorem dX6_init_5 : decode cX6_init 5 = .ok (.sipush 600, 3) := by decide +kernel
theorem dX6_init_8 : decode cX6_init 8 = .ok (.newarray .int, 2) := by decide +kernel
theorem dX6_init_10 : decode cX6_init 10 = .ok (.putfield 9, 3) := by decide +kernel
theorem dX6_init_13 : decode cX6_init 13 = .ok (.aload_n 0, 1) := by decide +kernel
theorem dX6_init_14 : decode cX6_init 14 = .ok (.sipush 600, 3) := by decide +kernel
theorem dX6_init_17 : decode cX6_init 17 = .ok (.newarray .int, 2) := by decide +kernel
theorem dX6_init_19 : decode cX6_init 19 = .ok (.putfield 15, 3) := by decide +kernel
theorem dX6_init_22 : decode cX6_init 22 = .ok (.aload_n 0, 1) := by decide +kernel
theorem dX6_init_23 : decode cX6_init 23 = .ok (.bipush 120, 2) := by decide +kernel
theorem dX6_init_25 : decode cX6_init 25 = .ok (.newarray .int, 2) := by decide +kernel
theorem dX6_init_27 : decode cX6_init 27 = .ok (.putfield 18, 3) := by decide +kernel
theorem dX6_init_30 : decode cX6_init 30 = .ok (.aload_n 0, 1) := by decide +kernel
theorem dX6_init_31 : decode cX6_init 31 = .ok (.bipush 120, 2) := by decide +kernel
theorem dX6_init_33 : decode cX6_init 33 = .ok (.newarray .int, 2) := by decide +kernel
theorem dX6_init_35 : decode cX6_init 35 = .ok (.putfield 21, 3) := by decide +kernel
theorem dX6_init_38 : decode cX6_init 38 = .ok (.return_, 1) := by decide +kernel
theorem dX6_over_0 : decode cX6_over 0 = .ok (.aload_n 0, 1) := by decide +kernel
theorem dX6_over_1 : decode cX6_over 1 = .ok (.iconst 0, 1) := by decide +kernel
theorem dX6_over_2 : decode cX6_over 2 = .ok (.putfield 24, 3) := by decide +kernel
theorem dX6_over_5 : decode cX6_over 5 = .ok (.aload_n 0, 1) := by decide +kernel
theorem dX6_over_6 : decode cX6_over 6 = .ok (.getfield 18, 3) := by decide +kernel
theorem dX6_over_9 : decode cX6_over 9 = .ok (.iconst 0, 1) := by decide +kernel
theorem dX6_over_10 : decode cX6_over 10 = .ok (.iload_n 2, 1) := by decide +kernel
theorem dX6_over_11 : decode cX6_over 11 = .ok (.iastore, 1) := by decide +kernel
theorem dX6_over_12 : decode cX6_over 12 = .ok (.aload_n 0, 1) := by decide +kernel
theorem dX6_over_13 : decode cX6_over 13 = .ok (.getfield 21, 3) := by decide +kernel
theorem dX6_over_16 : decode cX6_over 16 = .ok (.iconst 0, 1) := by decide +kernel
theorem dX6_over_17 : decode cX6_over 17 = .ok (.iconst 1, 1) := by decide +kernel
theorem dX6_over_18 : decode cX6_over 18 = .ok (.iastore, 1) := by decide +kernel
theorem dX6_over_19 : decode cX6_over 19 = .ok (.aload_n 1, 1) := by decide +kernel
theorem dX6_over_20 : decode cX6_over 20 = .ok (.iload_n 2, 1) := by decide +kernel
theorem dX6_over_21 : decode cX6_over 21 = .ok (.invokevirtual 28, 3) := by decide +kernel
theorem dX6_over_24 : decode cX6_over 24 = .ok (.ifCond .eq 7, 3) := by decide +kernel
theorem dX6_over_27 : decode cX6_over 27 = .ok (.iconst 1, 1) := by decide +kernel
theorem dX6_over_28 : decode cX6_over 28 = .ok (.goto 4, 3) := by decide +kernel
theorem dX6_over_31 : decode cX6_over 31 = .ok (.iconst 0, 1) := by decide +kernel
theorem dX6_over_32 : decode cX6_over 32 = .ok (.istore_n 3, 1) := by decide +kernel
theorem dX6_over_33 : decode cX6_over 33 = .ok (.iload_n 3, 1) := by decide +kernel
theorem dX6_over_34 : decode cX6_over 34 = .ok (.ifCond .le 134, 3) := by decide +kernel
theorem dX6_over_37 : decode cX6_over 37 = .ok (.aload_n 0, 1) := by decide +kernel
theorem dX6_over_38 : decode cX6_over 38 = .ok (.getfield 24, 3) := by decide +kernel
theorem dX6_over_41 : decode cX6_over 41 = .ok (.sipush 600, 3) := by decide +kernel
theorem dX6_over_44 : decode cX6_over 44 = .ok (.if_icmp .ge 124, 3) := by decide +kernel
theorem dX6_over_47 : decode cX6_over 47 = .ok (.iinc 3 (-1), 3) := by decide +kernel
theorem dX6_over_50 : decode cX6_over 50 = .ok (.aload_n 0, 1) := by decide +kernel
theorem dX6_over_51 : decode cX6_over 51 = .ok (.getfield 18, 3) := by decide +kernel
theorem dX6_over_54 : decode cX6_over 54 = .ok (.iload_n 3, 1) := by decide +kernel
theorem dX6_over_55 : decode cX6_over 55 = .ok (.iaload, 1) := by decide +kernel
theorem dX6_over_56 : decode cX6_over 56 = .ok (.istore 4, 2) := by decide +kernel
theorem dX6_over_58 : decode cX6_over 58 = .ok (.aload_n 0, 1) := by decide +kernel
theorem dX6_over_59 : decode cX6_over 59 = .ok (.getfield 21, 3) := by decide +kernel
theorem dX6_over_62 : decode cX6_over 62 = .ok (.iload_n 3, 1) := by decide +kernel
theorem dX6_over_63 : decode cX6_over 63 = .ok (.iaload, 1) := by decide +kernel
theorem dX6_over_64 : decode cX6_over 64 = .ok (.istore 5, 2) := by decide +kernel
theorem dX6_over_66 : decode cX6_over 66 = .ok (.aload_n 0, 1) := by decide +kernel
theorem dX6_over_67 : decode cX6_over 67 = .ok (.getfield 9, 3) := by decide +kernel
theorem dX6_over_70 : decode cX6_over 70 = .ok (.aload_n 0, 1) := by decide +kernel
theorem dX6_over_71 : decode cX6_over 71 = .ok (.getfield 24, 3) := by decide +kernel
theorem dX6_over_74 : decode cX6_over 74 = .ok (.iload 4, 2) := by decide +kernel
theorem dX6_over_76 : decode cX6_over 76 = .ok (.iastore, 1) := by decide +kernel
theorem dX6_over_77 : decode cX6_over 77 = .ok (.aload_n 0, 1) := by decide +kernel
theorem dX6_over_78 : decode cX6_over 78 = .ok (.getfield 15, 3) := by decide +kernel
theorem dX6_over_81 : decode cX6_over 81 = .ok (.aload_n 0, 1) := by decide +kernel
theorem dX6_over_82 : decode cX6_over 82 = .ok (.getfield 24, 3) := by decide +kernel
theorem dX6_over_85 : decode cX6_over 85 = .ok (.iload 5, 2) := by decide +kernel
theorem dX6_over_87 : decode cX6_over 87 = .ok (.iastore, 1) := by decide +kernel
theorem dX6_over_88 : decode cX6_over 88 = .ok (.aload_n 0, 1) := by decide +kernel
theorem dX6_over_89 : decode cX6_over 89 = .ok (.dup, 1) := by decide +kernel
theorem dX6_over_90 : decode cX6_over 90 = .ok (.getfield 24, 3) := by decide +kernel
theorem dX6_over_93 : decode cX6_over 93 = .ok (.iconst 1, 1) := by decide +kernel
theorem dX6_over_94 : decode cX6_over 94 = .ok (.iadd, 1) := by decide +kernel
theorem dX6_over_95 : decode cX6_over 95 = .ok (.putfield 24, 3) := by decide +kernel
theorem dX6_over_98 : decode cX6_over 98 = .ok (.iconst 2, 1) := by decide +kernel
theorem dX6_over_99 : decode cX6_over 99 = .ok (.istore 6, 2) := by decide +kernel
theorem dX6_over_101 : decode cX6_over 101 = .ok (.iload 6, 2) := by decide +kernel
theorem dX6_over_103 : decode cX6_over 103 = .ok (.ifCond .lt 62, 3) := by decide +kernel
theorem dX6_over_106 : decode cX6_over 106 = .ok (.aload_n 1, 1) := by decide +kernel
theorem dX6_over_107 : decode cX6_over 107 = .ok (.getfield 34, 3) := by decide +kernel
theorem dX6_over_110 : decode cX6_over 110 = .ok (.iload 4, 2) := by decide +kernel
theorem dX6_over_112 : decode cX6_over 112 = .ok (.iconst 3, 1) := by decide +kernel
theorem dX6_over_113 : decode cX6_over 113 = .ok (.imul, 1) := by decide +kernel
theorem dX6_over_114 : decode cX6_over 114 = .ok (.iload 6, 2) := by decide +kernel
theorem dX6_over_116 : decode cX6_over 116 = .ok (.iadd, 1) := by decide +kernel
theorem dX6_over_117 : decode cX6_over 117 = .ok (.iaload, 1) := by decide +kernel
theorem dX6_over_118 : decode cX6_over 118 = .ok (.istore 7, 2) := by decide +kernel
theorem dX6_over_120 : decode cX6_over 120 = .ok (.aload_n 1, 1) := by decide +kernel
theorem dX6_over_121 : decode cX6_over 121 = .ok (.iload 7, 2) := by decide +kernel
theorem dX6_over_123 : decode cX6_over 123 = .ok (.invokevirtual 28, 3) := by decide +kernel
theorem dX6_over_126 : decode cX6_over 126 = .ok (.ifCond .eq 33, 3) := by decide +kernel
theorem dX6_over_129 : decode cX6_over 129 = .ok (.iload_n 3, 1) := by decide +kernel
theorem dX6_over_130 : decode cX6_over 130 = .ok (.aload_n 0, 1) := by decide +kernel
theorem dX6_over_131 : decode cX6_over 131 = .ok (.getfield 18, 3) := by decide +kernel
theorem dX6_over_134 : decode cX6_over 134 = .ok (.arraylength, 1) := by decide +kernel
theorem dX6_over_135 : decode cX6_over 135 = .ok (.if_icmp .ge 24, 3) := by decide +kernel
theorem dX6_over_138 : decode cX6_over 138 = .ok (.aload_n 0, 1) := by decide +kernel
theorem dX6_over_139 : decode cX6_over 139 = .ok (.getfield 18, 3) := by decide +kernel
theorem dX6_over_142 : decode cX6_over 142 = .ok (.iload_n 3, 1) := by decide +kernel
theorem dX6_over_143 : decode cX6_over 143 = .ok (.iload 7, 2) := by decide +kernel
theorem dX6_over_145 : decode cX6_over 145 = .ok (.iastore, 1) := by decide +kernel
theorem dX6_over_146 : decode cX6_over 146 = .ok (.aload_n 0, 1) := by decide +kernel
theorem dX6_over_147 : decode cX6_over 147 = .ok (.getfield 21, 3) := by decide +kernel
theorem dX6_over_150 : decode cX6_over 150 = .ok (.iload_n 3, 1) := by decide +kernel
theorem dX6_over_151 : decode cX6_over 151 = .ok (.iload 5, 2) := by decide +kernel
theorem dX6_over_153 : decode cX6_over 153 = .ok (.iconst 1, 1) := by decide +kernel
theorem dX6_over_154 : decode cX6_over 154 = .ok (.iadd, 1) := by decide +kernel
theorem dX6_over_155 : decode cX6_over 155 = .ok (.iastore, 1) := by decide +kernel
theorem dX6_over_156 : decode cX6_over 156 = .ok (.iinc 3 1, 3) := by decide +kernel
theorem dX6_over_159 : decode cX6_over 159 = .ok (.iinc 6 (-1), 3) := by decide +kernel
theorem dX6_over_162 : decode cX6_over 162 = .ok (.goto (-61), 3) := by decide +kernel
theorem dX6_over_165 : decode cX6_over 165 = .ok (.goto (-132), 3) := by decide +kernel
theorem dX6_over_168 : decode cX6_over 168 = .ok (.return_, 1) := by decide +kernel
theorem dX7_init_0 : decode cX7_init 0 = .ok (.aload_n 0, 1) := by decide +kernel
theorem dX7_init_1 : decode cX7_init 1 = .ok (.invokespecial 3, 3) := by decide +kernel
theorem dX7_init_4 : decode cX7_init 4 = .ok (.aload_n 0, 1) := by decide +kernel
theorem dX7_init_5 : decode cX7_init 5 = .ok (.new 9, 3) := by decide +kernel
theorem dX7_init_8 : decode cX7_init 8 = .ok (.dup, 1) := by decide +kernel
theorem dX7_init_9 : decode cX7_init 9 = .ok (.invokespecial 11, 3) := by decide +kernel
theorem dX7_init_12 : decode cX7_init 12 = .ok (.putfield 12, 3) := by decide +kernel
theorem dX7_init_15 : decode cX7_init 15 = .ok (.aload_n 0, 1) := by decide +kernel
theorem dX7_init_16 : decode cX7_init 16 = .ok (.bipush 40, 2) := by decide +kernel
theorem dX7_init_18 : decode cX7_init 18 = .ok (.newarray .int, 2) := by decide +kernel
theorem dX7_init_20 : decode cX7_init 20 = .ok (.putfield 18, 3) := by decide +kernel
theorem dX7_init_23 : decode cX7_init 23 = .ok (.aload_n 0, 1) := by decide +kernel
theorem dX7_init_24 : decode cX7_init 24 = .ok (.bipush 40, 2) := by decide +kernel
theorem dX7_init_26 : decode cX7_init 26 = .ok (.newarray .int, 2) := by decide +kernel
theorem dX7_init_28 : decode cX7_init 28 = .ok (.putfield 22, 3) := by decide +kernel
theorem dX7_init_31 : decode cX7_init 31 = .ok (.aload_n 0, 1) := by decide +kernel
theorem dX7_init_32 : decode cX7_init 32 = .ok (.aload_n 1, 1) := by decide +kernel
theorem dX7_init_33 : decode cX7_init 33 = .ok (.putfield 25, 3) := by decide +kernel
theorem dX7_init_36 : decode cX7_init 36 = .ok (.aload_n 0, 1) := by decide +kernel
theorem dX7_init_37 : decode cX7_init 37 = .ok (.aload_n 1, 1) := by decide +kernel
theorem dX7_init_38 : decode cX7_init 38 = .ok (.getfield 29, 3) := by decide +kernel
theorem dX7_init_41 : decode cX7_init 41 = .ok (.putfield 34, 3) := by decide +kernel
theorem dX7_init_44 : decode cX7_init 44 = .ok (.return_, 1) := by decide +kernel
theorem dX7_workAhead_0 : decode cX7_workAhead 0 = .ok (.aload_n 0, 1) := by decide +kernel
theorem dX7_workAhead_1 : decode cX7_workAhead 1 = .ok (.iconst 0, 1) := by decide +kernel
theorem dX7_workAhead_2 : decode cX7_workAhead 2 = .ok (.putfield 37, 3) := by decide +kernel
theorem dX7_workAhead_5 : decode cX7_workAhead 5 = .ok (.aload_n 0, 1) := by decide +kernel
theorem dX7_workAhead_6 : decode cX7_workAhead 6 = .ok (.iload_n 1, 1) := by decide +kernel
theorem dX7_workAhead_7 : decode cX7_workAhead 7 = .ok (.invokevirtual 41, 3) := by decide +kernel
theorem dX7_workAhead_10 : decode cX7_workAhead 10 = .ok (.istore_n 2, 1) := by decide +kernel
theorem dX7_workAhead_11 : decode cX7_workAhead 11 = .ok (.iconst 0, 1) := by decide +kernel
theorem dX7_workAhead_12 : decode cX7_workAhead 12 = .ok (.istore_n 3, 1) := by decide +kernel
theorem dX7_workAhead_13 : decode cX7_workAhead 13 = .ok (.iload_n 3, 1) := by decide +kernel
theorem dX7_workAhead_14 : decode cX7_workAhead 14 = .ok (.sipush 600, 3) := by decide +kernel
theorem dX7_workAhead_17 : decode cX7_workAhead 17 = .ok (.if_icmp .ge 58, 3) := by decide +kernel
theorem dX7_workAhead_20 : decode cX7_workAhead 20 = .ok (.iload_n 2, 1) := by decide +kernel
theorem dX7_workAhead_21 : decode cX7_workAhead 21 = .ok (.bipush (-4), 2) := by decide +kernel
theorem dX7_workAhead_23 : decode cX7_workAhead 23 = .ok (.if_icmp .eq 52, 3) := by decide +kernel
theorem dX7_workAhead_26 : decode cX7_workAhead 26 = .ok (.aload_n 0, 1) := by decide +kernel
theorem dX7_workAhead_27 : decode cX7_workAhead 27 = .ok (.getfield 37, 3) := by decide +kernel
theorem dX7_workAhead_30 : decode cX7_workAhead 30 = .ok (.ifCond .ne 45, 3) := by decide +kernel
theorem dX7_workAhead_33 : decode cX7_workAhead 33 = .ok (.aload_n 0, 1) := by decide +kernel
theorem dX7_workAhead_34 : decode cX7_workAhead 34 = .ok (.getfield 45, 3) := by decide +kernel
theorem dX7_workAhead_37 : decode cX7_workAhead 37 = .ok (.bipush (-4), 2) := by decide +kernel
theorem dX7_workAhead_39 : decode cX7_workAhead 39 = .ok (.if_icmp .eq 7, 3) := by decide +kernel
theorem dX7_workAhead_42 : decode cX7_workAhead 42 = .ok (.aload_n 0, 1) := by decide +kernel
theorem dX7_workAhead_43 : decode cX7_workAhead 43 = .ok (.invokevirtual 49, 3) := by decide +kernel
theorem dX7_workAhead_46 : decode cX7_workAhead 46 = .ok (.aload_n 0, 1) := by decide +kernel
theorem dX7_workAhead_47 : decode cX7_workAhead 47 = .ok (.iload_n 2, 1) := by decide +kernel
theorem dX7_workAhead_48 : decode cX7_workAhead 48 = .ok (.invokevirtual 52, 3) := by decide +kernel
theorem dX7_workAhead_51 : decode cX7_workAhead 51 = .ok (.aload_n 0, 1) := by decide +kernel
theorem dX7_workAhead_52 : decode cX7_workAhead 52 = .ok (.getfield 37, 3) := by decide +kernel
theorem dX7_workAhead_55 : decode cX7_workAhead 55 = .ok (.ifCond .eq 8, 3) := by decide +kernel
theorem dX7_workAhead_58 : decode cX7_workAhead 58 = .ok (.bipush (-4), 2) := by decide +kernel
theorem dX7_workAhead_60 : decode cX7_workAhead 60 = .ok (.goto 8, 3) := by decide +kernel
theorem dX7_workAhead_63 : decode cX7_workAhead 63 = .ok (.aload_n 0, 1) := by decide +kernel
theorem dX7_workAhead_64 : decode cX7_workAhead 64 = .ok (.iload_n 1, 1) := by decide +kernel
theorem dX7_workAhead_65 : decode cX7_workAhead 65 = .ok (.invokevirtual 41, 3) := by decide +kernel
theorem dX7_workAhead_68 : decode cX7_workAhead 68 = .ok (.istore_n 2, 1) := by decide +kernel
theorem dX7_workAhead_69 : decode cX7_workAhead 69 = .ok (.iinc 3 1, 3) := by decide +kernel
theorem dX7_workAhead_72 : decode cX7_workAhead 72 = .ok (.goto (-59), 3) := by decide +kernel
theorem dX7_workAhead_75 : decode cX7_workAhead 75 = .ok (.aload_n 0, 1) := by decide +kernel
theorem dX7_workAhead_76 : decode cX7_workAhead 76 = .ok (.getfield 37, 3) := by decide +kernel
theorem dX7_workAhead_79 : decode cX7_workAhead 79 = .ok (.ifCond .ne 7, 3) := by decide +kernel
theorem dX7_workAhead_82 : decode cX7_workAhead 82 = .ok (.iconst 1, 1) := by decide +kernel
theorem dX7_workAhead_83 : decode cX7_workAhead 83 = .ok (.goto 4, 3) := by decide +kernel
theorem dX7_workAhead_86 : decode cX7_workAhead 86 = .ok (.iconst 0, 1) := by decide +kernel
theorem dX7_workAhead_87 : decode cX7_workAhead 87 = .ok (.ireturn, 1) := by decide +kernel
theorem dX7_firstToChange_0 : decode cX7_firstToChange 0 = .ok (.aload_n 0, 1) := by decide +kernel
theorem dX7_firstToChange_1 : decode cX7_firstToChange 1 = .ok (.getfield 34, 3) := by decide +kernel
theorem dX7_firstToChange_4 : decode cX7_firstToChange 4 = .ok (.aload_n 0, 1) := by decide +kernel
theorem dX7_firstToChange_5 : decode cX7_firstToChange 5 = .ok (.getfield 25, 3) := by decide +kernel
theorem dX7_firstToChange_8 : decode cX7_firstToChange 8 = .ok (.getfield 56, 3) := by decide +kernel
theorem dX7_firstToChange_11 : decode cX7_firstToChange 11 = .ok (.aload_n 0, 1) := by decide +kernel
theorem dX7_firstToChange_12 : decode cX7_firstToChange 12 = .ok (.getfield 25, 3) := by decide +kernel
theorem dX7_firstToChange_15 : decode cX7_firstToChange 15 = .ok (.iload_n 1, 1) := by decide +kernel
theorem dX7_firstToChange_16 : decode cX7_firstToChange 16 = .ok (.invokevirtual 60, 3) := by decide +kernel
theorem dX7_firstToChange_19 : decode cX7_firstToChange 19 = .ok (.invokevirtual 63, 3) := by decide +kernel
theorem dX7_firstToChange_22 : decode cX7_firstToChange 22 = .ok (.aload_n 0, 1) := by decide +kernel
theorem dX7_firstToChange_23 : decode cX7_firstToChange 23 = .ok (.invokevirtual 67, 3) := by decide +kernel
theorem dX7_firstToChange_26 : decode cX7_firstToChange 26 = .ok (.iconst 0, 1) := by decide +kernel
theorem dX7_firstToChange_27 : decode cX7_firstToChange 27 = .ok (.istore_n 2, 1) := by decide +kernel
theorem dX7_firstToChange_28 : decode cX7_firstToChange 28 = .ok (.iload_n 2, 1) := by decide +kernel
theorem dX7_firstToChange_29 : decode cX7_firstToChange 29 = .ok (.aload_n 0, 1) := by decide +kernel
theorem dX7_firstToChange_30 : decode cX7_firstToChange 30 = .ok (.getfield 34, 3) := by decide +kernel
theorem dX7_firstToChange_33 : decode cX7_firstToChange 33 = .ok (.getfield 70, 3) := by decide +kernel
theorem dX7_firstToChange_36 : decode cX7_firstToChange 36 = .ok (.if_icmp .ge 43, 3) := by decide +kernel
theorem dX7_firstToChange_39 : decode cX7_firstToChange 39 = .ok (.aload_n 0, 1) := by decide +kernel
theorem dX7_firstToChange_40 : decode cX7_firstToChange 40 = .ok (.aload_n 0, 1) := by decide +kernel
theorem dX7_firstToChange_41 : decode cX7_firstToChange 41 = .ok (.getfield 34, 3) := by decide +kernel
theorem dX7_firstToChange_44 : decode cX7_firstToChange 44 = .ok (.getfield 73, 3) := by decide +kernel
theorem dX7_firstToChange_47 : decode cX7_firstToChange 47 = .ok (.iload_n 2, 1) := by decide +kernel
theorem dX7_firstToChange_48 : decode cX7_firstToChange 48 = .ok (.iaload, 1) := by decide +kernel
theorem dX7_firstToChange_49 : decode cX7_firstToChange 49 = .ok (.aload_n 0, 1) := by decide +kernel
theorem dX7_firstToChange_50 : decode cX7_firstToChange 50 = .ok (.getfield 25, 3) := by decide +kernel
theorem dX7_firstToChange_53 : decode cX7_firstToChange 53 = .ok (.iload_n 1, 1) := by decide +kernel
theorem dX7_firstToChange_54 : decode cX7_firstToChange 54 = .ok (.invokevirtual 76, 3) := by decide +kernel
theorem dX7_firstToChange_57 : decode cX7_firstToChange 57 = .ok (.invokevirtual 79, 3) := by decide +kernel
theorem dX7_firstToChange_60 : decode cX7_firstToChange 60 = .ok (.ifCond .eq 13, 3) := by decide +kernel
theorem dX7_firstToChange_63 : decode cX7_firstToChange 63 = .ok (.aload_n 0, 1) := by decide +kernel
theorem dX7_firstToChange_64 : decode cX7_firstToChange 64 = .ok (.getfield 34, 3) := by decide +kernel
theorem dX7_firstToChange_67 : decode cX7_firstToChange 67 = .ok (.getfield 73, 3) := by decide +kernel
theorem dX7_firstToChange_70 : decode cX7_firstToChange 70 = .ok (.iload_n 2, 1) := by decide +kernel
theorem dX7_firstToChange_71 : decode cX7_firstToChange 71 = .ok (.iaload, 1) := by decide +kernel
theorem dX7_firstToChange_72 : decode cX7_firstToChange 72 = .ok (.ireturn, 1) := by decide +kernel
theorem dX7_firstToChange_73 : decode cX7_firstToChange 73 = .ok (.iinc 2 1, 3) := by decide +kernel
theorem dX7_firstToChange_76 : decode cX7_firstToChange 76 = .ok (.goto (-48), 3) := by decide +kernel
theorem dX7_firstToChange_79 : decode cX7_firstToChange 79 = .ok (.bipush (-4), 2) := by decide +kernel
theorem dX7_firstToChange_81 : decode cX7_firstToChange 81 = .ok (.ireturn, 1) := by decide +kernel
theorem dX7_tallyNames_0 : decode cX7_tallyNames 0 = .ok (.aload_n 0, 1) := by decide +kernel
theorem dX7_tallyNames_1 : decode cX7_tallyNames 1 = .ok (.getfield 18, 3) := by decide +kernel
theorem dX7_tallyNames_4 : decode cX7_tallyNames 4 = .ok (.iconst 0, 1) := by decide +kernel
theorem dX7_tallyNames_5 : decode cX7_tallyNames 5 = .ok (.invokestatic 83, 3) := by decide +kernel
theorem dX7_tallyNames_8 : decode cX7_tallyNames 8 = .ok (.aload_n 0, 1) := by decide +kernel
theorem dX7_tallyNames_9 : decode cX7_tallyNames 9 = .ok (.getfield 22, 3) := by decide +kernel
theorem dX7_tallyNames_12 : decode cX7_tallyNames 12 = .ok (.iconst 0, 1) := by decide +kernel
theorem dX7_tallyNames_13 : decode cX7_tallyNames 13 = .ok (.invokestatic 83, 3) := by decide +kernel
theorem dX7_tallyNames_16 : decode cX7_tallyNames 16 = .ok (.iconst 0, 1) := by decide +kernel
theorem dX7_tallyNames_17 : decode cX7_tallyNames 17 = .ok (.istore_n 1, 1) := by decide +kernel
theorem dX7_tallyNames_18 : decode cX7_tallyNames 18 = .ok (.iload_n 1, 1) := by decide +kernel
theorem dX7_tallyNames_19 : decode cX7_tallyNames 19 = .ok (.aload_n 0, 1) := by decide +kernel
theorem dX7_tallyNames_20 : decode cX7_tallyNames 20 = .ok (.getfield 34, 3) := by decide +kernel
theorem dX7_tallyNames_23 : decode cX7_tallyNames 23 = .ok (.getfield 70, 3) := by decide +kernel
theorem dX7_tallyNames_26 : decode cX7_tallyNames 26 = .ok (.if_icmp .ge 90, 3) := by decide +kernel
theorem dX7_tallyNames_29 : decode cX7_tallyNames 29 = .ok (.aload_n 0, 1) := by decide +kernel
theorem dX7_tallyNames_30 : decode cX7_tallyNames 30 = .ok (.getfield 25, 3) := by decide +kernel
theorem dX7_tallyNames_33 : decode cX7_tallyNames 33 = .ok (.aload_n 0, 1) := by decide +kernel
theorem dX7_tallyNames_34 : decode cX7_tallyNames 34 = .ok (.getfield 34, 3) := by decide +kernel
theorem dX7_tallyNames_37 : decode cX7_tallyNames 37 = .ok (.getfield 73, 3) := by decide +kernel
theorem dX7_tallyNames_40 : decode cX7_tallyNames 40 = .ok (.iload_n 1, 1) := by decide +kernel
theorem dX7_tallyNames_41 : decode cX7_tallyNames 41 = .ok (.iaload, 1) := by decide +kernel
theorem dX7_tallyNames_42 : decode cX7_tallyNames 42 = .ok (.invokevirtual 89, 3) := by decide +kernel
theorem dX7_tallyNames_45 : decode cX7_tallyNames 45 = .ok (.istore_n 2, 1) := by decide +kernel
theorem dX7_tallyNames_46 : decode cX7_tallyNames 46 = .ok (.aload_n 0, 1) := by decide +kernel
theorem dX7_tallyNames_47 : decode cX7_tallyNames 47 = .ok (.getfield 25, 3) := by decide +kernel
theorem dX7_tallyNames_50 : decode cX7_tallyNames 50 = .ok (.aload_n 0, 1) := by decide +kernel
theorem dX7_tallyNames_51 : decode cX7_tallyNames 51 = .ok (.getfield 34, 3) := by decide +kernel
theorem dX7_tallyNames_54 : decode cX7_tallyNames 54 = .ok (.getfield 73, 3) := by decide +kernel
theorem dX7_tallyNames_57 : decode cX7_tallyNames 57 = .ok (.iload_n 1, 1) := by decide +kernel
theorem dX7_tallyNames_58 : decode cX7_tallyNames 58 = .ok (.iaload, 1) := by decide +kernel
theorem dX7_tallyNames_59 : decode cX7_tallyNames 59 = .ok (.invokevirtual 92, 3) := by decide +kernel
theorem dX7_tallyNames_62 : decode cX7_tallyNames 62 = .ok (.istore_n 3, 1) := by decide +kernel
theorem dX7_tallyNames_63 : decode cX7_tallyNames 63 = .ok (.iload_n 3, 1) := by decide +kernel
theorem dX7_tallyNames_64 : decode cX7_tallyNames 64 = .ok (.iconst 4, 1) := by decide +kernel
theorem dX7_tallyNames_65 : decode cX7_tallyNames 65 = .ok (.if_icmp .ne 23, 3) := by decide +kernel
theorem dX7_tallyNames_68 : decode cX7_tallyNames 68 = .ok (.iload_n 2, 1) := by decide +kernel
theorem dX7_tallyNames_69 : decode cX7_tallyNames 69 = .ok (.invokestatic 95, 3) := by decide +kernel
theorem dX7_tallyNames_72 : decode cX7_tallyNames 72 = .ok (.ifCond .eq 16, 3) := by decide +kernel
theorem dX7_tallyNames_75 : decode cX7_tallyNames 75 = .ok (.aload_n 0, 1) := by decide +kernel
theorem dX7_tallyNames_76 : decode cX7_tallyNames 76 = .ok (.getfield 18, 3) := by decide +kernel
theorem dX7_tallyNames_79 : decode cX7_tallyNames 79 = .ok (.iload_n 2, 1) := by decide +kernel
theorem dX7_tallyNames_80 : decode cX7_tallyNames 80 = .ok (.dup2, 1) := by decide +kernel
theorem dX7_tallyNames_81 : decode cX7_tallyNames 81 = .ok (.iaload, 1) := by decide +kernel
theorem dX7_tallyNames_82 : decode cX7_tallyNames 82 = .ok (.iconst 1, 1) := by decide +kernel
theorem dX7_tallyNames_83 : decode cX7_tallyNames 83 = .ok (.iadd, 1) := by decide +kernel
theorem dX7_tallyNames_84 : decode cX7_tallyNames 84 = .ok (.iastore, 1) := by decide +kernel
theorem dX7_tallyNames_85 : decode cX7_tallyNames 85 = .ok (.goto 25, 3) := by decide +kernel
theorem dX7_tallyNames_88 : decode cX7_tallyNames 88 = .ok (.iload_n 3, 1) := by decide +kernel
theorem dX7_tallyNames_89 : decode cX7_tallyNames 89 = .ok (.iconst 1, 1) := by decide +kernel
theorem dX7_tallyNames_90 : decode cX7_tallyNames 90 = .ok (.if_icmp .ne 20, 3) := by decide +kernel
theorem dX7_tallyNames_93 : decode cX7_tallyNames 93 = .ok (.iload_n 2, 1) := by decide +kernel
theorem dX7_tallyNames_94 : decode cX7_tallyNames 94 = .ok (.invokestatic 95, 3) := by decide +kernel
theorem dX7_tallyNames_97 : decode cX7_tallyNames 97 = .ok (.ifCond .eq 13, 3) := by decide +kernel
theorem dX7_tallyNames_100 : decode cX7_tallyNames 100 = .ok (.aload_n 0, 1) := by decide +kernel
theorem dX7_tallyNames_101 : decode cX7_tallyNames 101 = .ok (.getfield 22, 3) := by decide +kernel
theorem dX7_tallyNames_104 : decode cX7_tallyNames 104 = .ok (.iload_n 2, 1) := by decide +kernel
theorem dX7_tallyNames_105 : decode cX7_tallyNames 105 = .ok (.dup2, 1) := by decide +kernel
theorem dX7_tallyNames_106 : decode cX7_tallyNames 106 = .ok (.iaload, 1) := by decide +kernel
theorem dX7_tallyNames_107 : decode cX7_tallyNames 107 = .ok (.iconst 1, 1) := by decide +kernel
theorem dX7_tallyNames_108 : decode cX7_tallyNames 108 = .ok (.iadd, 1) := by decide +kernel
theorem dX7_tallyNames_109 : decode cX7_tallyNames 109 = .ok (.iastore, 1) := by decide +kernel
theorem dX7_tallyNames_110 : decode cX7_tallyNames 110 = .ok (.iinc 1 1, 3) := by decide +kernel
theorem dX7_tallyNames_113 : decode cX7_tallyNames 113 = .ok (.goto (-95), 3) := by decide +kernel
theorem dX7_tallyNames_116 : decode cX7_tallyNames 116 = .ok (.return_, 1) := by decide +kernel
theorem dX7_canChange_0 : decode cX7_canChange 0 = .ok (.aload_n 0, 1) := by decide +kernel
theorem dX7_canChange_1 : decode cX7_canChange 1 = .ok (.bipush (-4), 2) := by decide +kernel
theorem dX7_canChange_3 : decode cX7_canChange 3 = .ok (.putfield 99, 3) := by decide +kernel
theorem dX7_canChange_6 : decode cX7_canChange 6 = .ok (.aload_n 0, 1) := by decide +kernel
theorem dX7_canChange_7 : decode cX7_canChange 7 = .ok (.iconst 0, 1) := by decide +kernel
theorem dX7_canChange_8 : decode cX7_canChange 8 = .ok (.putfield 102, 3) := by decide +kernel
theorem dX7_canChange_11 : decode cX7_canChange 11 = .ok (.aload_n 0, 1) := by decide +kernel
theorem dX7_canChange_12 : decode cX7_canChange 12 = .ok (.bipush (-4), 2) := by decide +kernel
theorem dX7_canChange_14 : decode cX7_canChange 14 = .ok (.putfield 45, 3) := by decide +kernel
theorem dX7_canChange_17 : decode cX7_canChange 17 = .ok (.aload_n 0, 1) := by decide +kernel
theorem dX7_canChange_18 : decode cX7_canChange 18 = .ok (.getfield 25, 3) := by decide +kernel
theorem dX7_canChange_21 : decode cX7_canChange 21 = .ok (.iload_n 1, 1) := by decide +kernel
theorem dX7_canChange_22 : decode cX7_canChange 22 = .ok (.invokevirtual 92, 3) := by decide +kernel
theorem dX7_canChange_25 : decode cX7_canChange 25 = .ok (.tableswitch 226 2 11 #[55, 61, 226, 152, 226, 226, 114, 226, 226, 207], 55) := by decide +kernel
theorem dX7_canChange_80 : decode cX7_canChange 80 = .ok (.aload_n 0, 1) := by decide +kernel
theorem dX7_canChange_81 : decode cX7_canChange 81 = .ok (.iload_n 1, 1) := by decide +kernel
theorem dX7_canChange_82 : decode cX7_canChange 82 = .ok (.invokevirtual 105, 3) := by decide +kernel
theorem dX7_canChange_85 : decode cX7_canChange 85 = .ok (.ireturn, 1) := by decide +kernel
theorem dX7_canChange_86 : decode cX7_canChange 86 = .ok (.aload_n 0, 1) := by decide +kernel
theorem dX7_canChange_87 : decode cX7_canChange 87 = .ok (.aload_n 0, 1) := by decide +kernel
theorem dX7_canChange_88 : decode cX7_canChange 88 = .ok (.getfield 25, 3) := by decide +kernel
theorem dX7_canChange_91 : decode cX7_canChange 91 = .ok (.aload_n 0, 1) := by decide +kernel
theorem dX7_canChange_92 : decode cX7_canChange 92 = .ok (.getfield 25, 3) := by decide +kernel
theorem dX7_canChange_95 : decode cX7_canChange 95 = .ok (.iload_n 1, 1) := by decide +kernel
theorem dX7_canChange_96 : decode cX7_canChange 96 = .ok (.iconst 0, 1) := by decide +kernel
theorem dX7_canChange_97 : decode cX7_canChange 97 = .ok (.invokevirtual 108, 3) := by decide +kernel
theorem dX7_canChange_100 : decode cX7_canChange 100 = .ok (.invokevirtual 89, 3) := by decide +kernel
theorem dX7_canChange_103 : decode cX7_canChange 103 = .ok (.ifCond .eq 7, 3) := by decide +kernel
theorem dX7_canChange_106 : decode cX7_canChange 106 = .ok (.iconst 1, 1) := by decide +kernel
theorem dX7_canChange_107 : decode cX7_canChange 107 = .ok (.goto 4, 3) := by decide +kernel
theorem dX7_canChange_110 : decode cX7_canChange 110 = .ok (.iconst 2, 1) := by decide +kernel
theorem dX7_canChange_111 : decode cX7_canChange 111 = .ok (.putfield 99, 3) := by decide +kernel
theorem dX7_canChange_114 : decode cX7_canChange 114 = .ok (.aload_n 0, 1) := by decide +kernel
theorem dX7_canChange_115 : decode cX7_canChange 115 = .ok (.getfield 25, 3) := by decide +kernel
theorem dX7_canChange_118 : decode cX7_canChange 118 = .ok (.aload_n 0, 1) := by decide +kernel
theorem dX7_canChange_119 : decode cX7_canChange 119 = .ok (.getfield 25, 3) := by decide +kernel
theorem dX7_canChange_122 : decode cX7_canChange 122 = .ok (.iload_n 1, 1) := by decide +kernel
theorem dX7_canChange_123 : decode cX7_canChange 123 = .ok (.iconst 0, 1) := by decide +kernel
theorem dX7_canChange_124 : decode cX7_canChange 124 = .ok (.invokevirtual 108, 3) := by decide +kernel
theorem dX7_canChange_127 : decode cX7_canChange 127 = .ok (.invokevirtual 92, 3) := by decide +kernel
theorem dX7_canChange_130 : decode cX7_canChange 130 = .ok (.ifCond .ne 7, 3) := by decide +kernel
theorem dX7_canChange_133 : decode cX7_canChange 133 = .ok (.iconst 1, 1) := by decide +kernel
theorem dX7_canChange_134 : decode cX7_canChange 134 = .ok (.goto 4, 3) := by decide +kernel
theorem dX7_canChange_137 : decode cX7_canChange 137 = .ok (.iconst 0, 1) := by decide +kernel
theorem dX7_canChange_138 : decode cX7_canChange 138 = .ok (.ireturn, 1) := by decide +kernel
theorem dX7_canChange_139 : decode cX7_canChange 139 = .ok (.aload_n 0, 1) := by decide +kernel
theorem dX7_canChange_140 : decode cX7_canChange 140 = .ok (.getfield 25, 3) := by decide +kernel
theorem dX7_canChange_143 : decode cX7_canChange 143 = .ok (.iload_n 1, 1) := by decide +kernel
theorem dX7_canChange_144 : decode cX7_canChange 144 = .ok (.iconst 0, 1) := by decide +kernel
theorem dX7_canChange_145 : decode cX7_canChange 145 = .ok (.invokevirtual 108, 3) := by decide +kernel
theorem dX7_canChange_148 : decode cX7_canChange 148 = .ok (.istore_n 3, 1) := by decide +kernel
theorem dX7_canChange_149 : decode cX7_canChange 149 = .ok (.aload_n 0, 1) := by decide +kernel
theorem dX7_canChange_150 : decode cX7_canChange 150 = .ok (.getfield 25, 3) := by decide +kernel
theorem dX7_canChange_153 : decode cX7_canChange 153 = .ok (.iload_n 3, 1) := by decide +kernel
theorem dX7_canChange_154 : decode cX7_canChange 154 = .ok (.invokevirtual 92, 3) := by decide +kernel
theorem dX7_canChange_157 : decode cX7_canChange 157 = .ok (.ifCond .ne 18, 3) := by decide +kernel
theorem dX7_canChange_160 : decode cX7_canChange 160 = .ok (.aload_n 0, 1) := by decide +kernel
theorem dX7_canChange_161 : decode cX7_canChange 161 = .ok (.getfield 25, 3) := by decide +kernel
theorem dX7_canChange_164 : decode cX7_canChange 164 = .ok (.iload_n 3, 1) := by decide +kernel
theorem dX7_canChange_165 : decode cX7_canChange 165 = .ok (.invokevirtual 89, 3) := by decide +kernel
theorem dX7_canChange_168 : decode cX7_canChange 168 = .ok (.ifCond .ne 7, 3) := by decide +kernel
theorem dX7_canChange_171 : decode cX7_canChange 171 = .ok (.iconst 1, 1) := by decide +kernel
theorem dX7_canChange_172 : decode cX7_canChange 172 = .ok (.goto 4, 3) := by decide +kernel
theorem dX7_canChange_175 : decode cX7_canChange 175 = .ok (.iconst 0, 1) := by decide +kernel
theorem dX7_canChange_176 : decode cX7_canChange 176 = .ok (.ireturn, 1) := by decide +kernel
theorem dX7_canChange_177 : decode cX7_canChange 177 = .ok (.aload_n 0, 1) := by decide +kernel
theorem dX7_canChange_178 : decode cX7_canChange 178 = .ok (.iconst 1, 1) := by decide +kernel
theorem dX7_canChange_179 : decode cX7_canChange 179 = .ok (.putfield 99, 3) := by decide +kernel
theorem dX7_canChange_182 : decode cX7_canChange 182 = .ok (.aload_n 0, 1) := by decide +kernel
theorem dX7_canChange_183 : decode cX7_canChange 183 = .ok (.getfield 25, 3) := by decide +kernel
theorem dX7_canChange_186 : decode cX7_canChange 186 = .ok (.aload_n 0, 1) := by decide +kernel
theorem dX7_canChange_187 : decode cX7_canChange 187 = .ok (.getfield 25, 3) := by decide +kernel
theorem dX7_canChange_190 : decode cX7_canChange 190 = .ok (.iload_n 1, 1) := by decide +kernel
theorem dX7_canChange_191 : decode cX7_canChange 191 = .ok (.iconst 0, 1) := by decide +kernel
theorem dX7_canChange_192 : decode cX7_canChange 192 = .ok (.invokevirtual 108, 3) := by decide +kernel
theorem dX7_canChange_195 : decode cX7_canChange 195 = .ok (.invokevirtual 92, 3) := by decide +kernel
theorem dX7_canChange_198 : decode cX7_canChange 198 = .ok (.istore 4, 2) := by decide +kernel
theorem dX7_canChange_200 : decode cX7_canChange 200 = .ok (.iload 4, 2) := by decide +kernel
theorem dX7_canChange_202 : decode cX7_canChange 202 = .ok (.ifCond .eq 24, 3) := by decide +kernel
theorem dX7_canChange_205 : decode cX7_canChange 205 = .ok (.iload 4, 2) := by decide +kernel
theorem dX7_canChange_207 : decode cX7_canChange 207 = .ok (.iconst 1, 1) := by decide +kernel
theorem dX7_canChange_208 : decode cX7_canChange 208 = .ok (.if_icmp .eq 18, 3) := by decide +kernel
theorem dX7_canChange_211 : decode cX7_canChange 211 = .ok (.iload 4, 2) := by decide +kernel
theorem dX7_canChange_213 : decode cX7_canChange 213 = .ok (.iconst 4, 1) := by decide +kernel
theorem dX7_canChange_214 : decode cX7_canChange 214 = .ok (.if_icmp .ne 16, 3) := by decide +kernel
theorem dX7_canChange_217 : decode cX7_canChange 217 = .ok (.aload_n 0, 1) := by decide +kernel
theorem dX7_canChange_218 : decode cX7_canChange 218 = .ok (.iload_n 1, 1) := by decide +kernel
theorem dX7_canChange_219 : decode cX7_canChange 219 = .ok (.iload_n 2, 1) := by decide +kernel
theorem dX7_canChange_220 : decode cX7_canChange 220 = .ok (.invokevirtual 112, 3) := by decide +kernel
theorem dX7_canChange_223 : decode cX7_canChange 223 = .ok (.ifCond .eq 7, 3) := by decide +kernel
theorem dX7_canChange_226 : decode cX7_canChange 226 = .ok (.iconst 1, 1) := by decide +kernel
theorem dX7_canChange_227 : decode cX7_canChange 227 = .ok (.goto 4, 3) := by decide +kernel
theorem dX7_canChange_230 : decode cX7_canChange 230 = .ok (.iconst 0, 1) := by decide +kernel
