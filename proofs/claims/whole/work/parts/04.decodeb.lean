theorem d_Parser_take_56 : decode c_Parser_take 56 = .ok (.invokevirtual 77, 3) := by decide +kernel
theorem d_Parser_take_59 : decode c_Parser_take 59 = .ok (.ireturn, 1) := by decide +kernel
theorem d_Parser_take_60 : decode c_Parser_take 60 = .ok (.iload_n 3, 1) := by decide +kernel
theorem d_Parser_take_61 : decode c_Parser_take 61 = .ok (.iload_n 1, 1) := by decide +kernel
theorem d_Parser_take_62 : decode c_Parser_take 62 = .ok (.if_icmp .lt 8, 3) := by decide +kernel
theorem d_Parser_take_65 : decode c_Parser_take 65 = .ok (.iload_n 3, 1) := by decide +kernel
theorem d_Parser_take_66 : decode c_Parser_take 66 = .ok (.iload_n 2, 1) := by decide +kernel
theorem d_Parser_take_67 : decode c_Parser_take 67 = .ok (.if_icmp .le 14, 3) := by decide +kernel
theorem d_Parser_take_70 : decode c_Parser_take 70 = .ok (.aload_n 0, 1) := by decide +kernel
theorem d_Parser_take_71 : decode c_Parser_take 71 = .ok (.bipush 6, 2) := by decide +kernel
theorem d_Parser_take_73 : decode c_Parser_take 73 = .ok (.aload_n 0, 1) := by decide +kernel
theorem d_Parser_take_74 : decode c_Parser_take 74 = .ok (.getfield 26, 3) := by decide +kernel
theorem d_Parser_take_77 : decode c_Parser_take 77 = .ok (.invokevirtual 77, 3) := by decide +kernel
theorem d_Parser_take_80 : decode c_Parser_take 80 = .ok (.ireturn, 1) := by decide +kernel
theorem d_Parser_take_81 : decode c_Parser_take 81 = .ok (.aload_n 0, 1) := by decide +kernel
theorem d_Parser_take_82 : decode c_Parser_take 82 = .ok (.dup, 1) := by decide +kernel
theorem d_Parser_take_83 : decode c_Parser_take 83 = .ok (.getfield 26, 3) := by decide +kernel
theorem d_Parser_take_86 : decode c_Parser_take 86 = .ok (.iconst 1, 1) := by decide +kernel
theorem d_Parser_take_87 : decode c_Parser_take 87 = .ok (.iadd, 1) := by decide +kernel
theorem d_Parser_take_88 : decode c_Parser_take 88 = .ok (.putfield 26, 3) := by decide +kernel
theorem d_Parser_take_91 : decode c_Parser_take 91 = .ok (.iload_n 3, 1) := by decide +kernel
theorem d_Parser_take_92 : decode c_Parser_take 92 = .ok (.ireturn, 1) := by decide +kernel
theorem d_Parser_refuseTaken_0 : decode c_Parser_refuseTaken 0 = .ok (.aload_n 0, 1) := by decide +kernel
theorem d_Parser_refuseTaken_1 : decode c_Parser_refuseTaken 1 = .ok (.bipush 6, 2) := by decide +kernel
theorem d_Parser_refuseTaken_3 : decode c_Parser_refuseTaken 3 = .ok (.aload_n 0, 1) := by decide +kernel
theorem d_Parser_refuseTaken_4 : decode c_Parser_refuseTaken 4 = .ok (.getfield 26, 3) := by decide +kernel
theorem d_Parser_refuseTaken_7 : decode c_Parser_refuseTaken 7 = .ok (.iconst 1, 1) := by decide +kernel
theorem d_Parser_refuseTaken_8 : decode c_Parser_refuseTaken 8 = .ok (.isub, 1) := by decide +kernel
theorem d_Parser_refuseTaken_9 : decode c_Parser_refuseTaken 9 = .ok (.invokevirtual 77, 3) := by decide +kernel
theorem d_Parser_refuseTaken_12 : decode c_Parser_refuseTaken 12 = .ok (.pop, 1) := by decide +kernel
theorem d_Parser_refuseTaken_13 : decode c_Parser_refuseTaken 13 = .ok (.return_, 1) := by decide +kernel
theorem d_Picture_addSegment_0 : decode c_Picture_addSegment 0 = .ok (.aload_n 0, 1) := by decide +kernel
theorem d_Picture_addSegment_1 : decode c_Picture_addSegment 1 = .ok (.getfield 12, 3) := by decide +kernel
theorem d_Picture_addSegment_4 : decode c_Picture_addSegment 4 = .ok (.iload_n 1, 1) := by decide +kernel
theorem d_Picture_addSegment_5 : decode c_Picture_addSegment 5 = .ok (.invokevirtual 66, 3) := by decide +kernel
theorem d_Picture_addSegment_8 : decode c_Picture_addSegment 8 = .ok (.aload_n 0, 1) := by decide +kernel
theorem d_Picture_addSegment_9 : decode c_Picture_addSegment 9 = .ok (.getfield 12, 3) := by decide +kernel
theorem d_Picture_addSegment_12 : decode c_Picture_addSegment 12 = .ok (.iload_n 2, 1) := by decide +kernel
theorem d_Picture_addSegment_13 : decode c_Picture_addSegment 13 = .ok (.invokevirtual 66, 3) := by decide +kernel
theorem d_Picture_addSegment_16 : decode c_Picture_addSegment 16 = .ok (.return_, 1) := by decide +kernel
theorem d_Numbers_add_0 : decode c_Numbers_add 0 = .ok (.aload_n 0, 1) := by decide +kernel
theorem d_Numbers_add_1 : decode c_Numbers_add 1 = .ok (.getfield 15, 3) := by decide +kernel
theorem d_Numbers_add_4 : decode c_Numbers_add 4 = .ok (.aload_n 0, 1) := by decide +kernel
theorem d_Numbers_add_5 : decode c_Numbers_add 5 = .ok (.getfield 9, 3) := by decide +kernel
theorem d_Numbers_add_8 : decode c_Numbers_add 8 = .ok (.arraylength, 1) := by decide +kernel
theorem d_Numbers_add_9 : decode c_Numbers_add 9 = .ok (.if_icmp .lt 20, 3) := by decide +kernel
theorem d_Numbers_add_12 : decode c_Numbers_add 12 = .ok (.aload_n 0, 1) := by decide +kernel
theorem d_Numbers_add_13 : decode c_Numbers_add 13 = .ok (.aload_n 0, 1) := by decide +kernel
theorem d_Numbers_add_14 : decode c_Numbers_add 14 = .ok (.getfield 9, 3) := by decide +kernel
theorem d_Numbers_add_17 : decode c_Numbers_add 17 = .ok (.iconst 2, 1) := by decide +kernel
theorem d_Numbers_add_18 : decode c_Numbers_add 18 = .ok (.aload_n 0, 1) := by decide +kernel
theorem d_Numbers_add_19 : decode c_Numbers_add 19 = .ok (.getfield 15, 3) := by decide +kernel
theorem d_Numbers_add_22 : decode c_Numbers_add 22 = .ok (.imul, 1) := by decide +kernel
theorem d_Numbers_add_23 : decode c_Numbers_add 23 = .ok (.invokestatic 19, 3) := by decide +kernel
theorem d_Numbers_add_26 : decode c_Numbers_add 26 = .ok (.putfield 9, 3) := by decide +kernel
theorem d_Numbers_add_29 : decode c_Numbers_add 29 = .ok (.aload_n 0, 1) := by decide +kernel
theorem d_Numbers_add_30 : decode c_Numbers_add 30 = .ok (.getfield 9, 3) := by decide +kernel
theorem d_Numbers_add_33 : decode c_Numbers_add 33 = .ok (.aload_n 0, 1) := by decide +kernel
theorem d_Numbers_add_34 : decode c_Numbers_add 34 = .ok (.getfield 15, 3) := by decide +kernel
theorem d_Numbers_add_37 : decode c_Numbers_add 37 = .ok (.iload_n 1, 1) := by decide +kernel
theorem d_Numbers_add_38 : decode c_Numbers_add 38 = .ok (.iastore, 1) := by decide +kernel
theorem d_Numbers_add_39 : decode c_Numbers_add 39 = .ok (.aload_n 0, 1) := by decide +kernel
theorem d_Numbers_add_40 : decode c_Numbers_add 40 = .ok (.dup, 1) := by decide +kernel
theorem d_Numbers_add_41 : decode c_Numbers_add 41 = .ok (.getfield 15, 3) := by decide +kernel
theorem d_Numbers_add_44 : decode c_Numbers_add 44 = .ok (.iconst 1, 1) := by decide +kernel
theorem d_Numbers_add_45 : decode c_Numbers_add 45 = .ok (.iadd, 1) := by decide +kernel
theorem d_Numbers_add_46 : decode c_Numbers_add 46 = .ok (.putfield 15, 3) := by decide +kernel
theorem d_Numbers_add_49 : decode c_Numbers_add 49 = .ok (.return_, 1) := by decide +kernel
theorem d_Arrays_copyOfI_0 : decode c_Arrays_copyOfI 0 = .ok (.iload_n 1, 1) := by decide +kernel
theorem d_Arrays_copyOfI_1 : decode c_Arrays_copyOfI 1 = .ok (.aload_n 0, 1) := by decide +kernel
theorem d_Arrays_copyOfI_2 : decode c_Arrays_copyOfI 2 = .ok (.arraylength, 1) := by decide +kernel
theorem d_Arrays_copyOfI_3 : decode c_Arrays_copyOfI 3 = .ok (.if_icmp .ne 11, 3) := by decide +kernel
theorem d_Arrays_copyOfI_6 : decode c_Arrays_copyOfI 6 = .ok (.aload_n 0, 1) := by decide +kernel
theorem d_Arrays_copyOfI_7 : decode c_Arrays_copyOfI 7 = .ok (.invokevirtual 316, 3) := by decide +kernel
theorem d_Arrays_copyOfI_10 : decode c_Arrays_copyOfI 10 = .ok (.checkcast 317, 3) := by decide +kernel
theorem d_Arrays_copyOfI_13 : decode c_Arrays_copyOfI 13 = .ok (.areturn, 1) := by decide +kernel
theorem d_Arrays_copyOfI_14 : decode c_Arrays_copyOfI 14 = .ok (.iload_n 1, 1) := by decide +kernel
theorem d_Arrays_copyOfI_15 : decode c_Arrays_copyOfI 15 = .ok (.newarray .int, 2) := by decide +kernel
theorem d_Arrays_copyOfI_17 : decode c_Arrays_copyOfI 17 = .ok (.astore_n 2, 1) := by decide +kernel
theorem d_Arrays_copyOfI_18 : decode c_Arrays_copyOfI 18 = .ok (.aload_n 0, 1) := by decide +kernel
theorem d_Arrays_copyOfI_19 : decode c_Arrays_copyOfI 19 = .ok (.iconst 0, 1) := by decide +kernel
theorem d_Arrays_copyOfI_20 : decode c_Arrays_copyOfI 20 = .ok (.aload_n 2, 1) := by decide +kernel
theorem d_Arrays_copyOfI_21 : decode c_Arrays_copyOfI 21 = .ok (.iconst 0, 1) := by decide +kernel
theorem d_Arrays_copyOfI_22 : decode c_Arrays_copyOfI 22 = .ok (.aload_n 0, 1) := by decide +kernel
theorem d_Arrays_copyOfI_23 : decode c_Arrays_copyOfI 23 = .ok (.arraylength, 1) := by decide +kernel
theorem d_Arrays_copyOfI_24 : decode c_Arrays_copyOfI 24 = .ok (.iload_n 1, 1) := by decide +kernel
theorem d_Arrays_copyOfI_25 : decode c_Arrays_copyOfI 25 = .ok (.invokestatic 304, 3) := by decide +kernel
theorem d_Arrays_copyOfI_28 : decode c_Arrays_copyOfI 28 = .ok (.invokestatic 150, 3) := by decide +kernel
theorem d_Arrays_copyOfI_31 : decode c_Arrays_copyOfI 31 = .ok (.aload_n 2, 1) := by decide +kernel
theorem d_Arrays_copyOfI_32 : decode c_Arrays_copyOfI 32 = .ok (.areturn, 1) := by decide +kernel
theorem d_Parser_readContents_0 : decode c_Parser_readContents 0 = .ok (.iload_n 1, 1) := by decide +kernel
theorem d_Parser_readContents_1 : decode c_Parser_readContents 1 = .ok (.lookupswitch 135 #[(192, 98), (194, 98), (196, 74), (218, 106), (219, 67), (220, 113), (221, 81)], 67) := by decide +kernel
theorem d_Parser_readContents_68 : decode c_Parser_readContents 68 = .ok (.aload_n 0, 1) := by decide +kernel
theorem d_Parser_readContents_69 : decode c_Parser_readContents 69 = .ok (.invokevirtual 126, 3) := by decide +kernel
theorem d_Parser_readContents_72 : decode c_Parser_readContents 72 = .ok (.goto 68, 3) := by decide +kernel
theorem d_Parser_readContents_75 : decode c_Parser_readContents 75 = .ok (.aload_n 0, 1) := by decide +kernel
theorem d_Parser_readContents_76 : decode c_Parser_readContents 76 = .ok (.invokevirtual 129, 3) := by decide +kernel
theorem d_Parser_readContents_79 : decode c_Parser_readContents 79 = .ok (.goto 61, 3) := by decide +kernel
theorem d_Parser_readContents_82 : decode c_Parser_readContents 82 = .ok (.aload_n 0, 1) := by decide +kernel
theorem d_Parser_readContents_83 : decode c_Parser_readContents 83 = .ok (.getfield 50, 3) := by decide +kernel
theorem d_Parser_readContents_86 : decode c_Parser_readContents 86 = .ok (.aload_n 0, 1) := by decide +kernel
theorem d_Parser_readContents_87 : decode c_Parser_readContents 87 = .ok (.iconst 0, 1) := by decide +kernel
theorem d_Parser_readContents_88 : decode c_Parser_readContents 88 = .ok (.ldc 122, 2) := by decide +kernel
theorem d_Parser_readContents_90 : decode c_Parser_readContents 90 = .ok (.invokevirtual 123, 3) := by decide +kernel
theorem d_Parser_readContents_93 : decode c_Parser_readContents 93 = .ok (.putfield 132, 3) := by decide +kernel
theorem d_Parser_readContents_96 : decode c_Parser_readContents 96 = .ok (.goto 44, 3) := by decide +kernel
theorem d_Parser_readContents_99 : decode c_Parser_readContents 99 = .ok (.aload_n 0, 1) := by decide +kernel
theorem d_Parser_readContents_100 : decode c_Parser_readContents 100 = .ok (.iload_n 1, 1) := by decide +kernel
theorem d_Parser_readContents_101 : decode c_Parser_readContents 101 = .ok (.invokevirtual 135, 3) := by decide +kernel
theorem d_Parser_readContents_104 : decode c_Parser_readContents 104 = .ok (.goto 36, 3) := by decide +kernel
theorem d_Parser_readContents_107 : decode c_Parser_readContents 107 = .ok (.aload_n 0, 1) := by decide +kernel
theorem d_Parser_readContents_108 : decode c_Parser_readContents 108 = .ok (.invokevirtual 138, 3) := by decide +kernel
theorem d_Parser_readContents_111 : decode c_Parser_readContents 111 = .ok (.goto 29, 3) := by decide +kernel
theorem d_Parser_readContents_114 : decode c_Parser_readContents 114 = .ok (.aload_n 0, 1) := by decide +kernel
theorem d_Parser_readContents_115 : decode c_Parser_readContents 115 = .ok (.getfield 50, 3) := by decide +kernel
theorem d_Parser_readContents_118 : decode c_Parser_readContents 118 = .ok (.aload_n 0, 1) := by decide +kernel
theorem d_Parser_readContents_119 : decode c_Parser_readContents 119 = .ok (.iconst 1, 1) := by decide +kernel
theorem d_Parser_readContents_120 : decode c_Parser_readContents 120 = .ok (.bipush 64, 2) := by decide +kernel
theorem d_Parser_readContents_122 : decode c_Parser_readContents 122 = .ok (.invokevirtual 123, 3) := by decide +kernel
theorem d_Parser_readContents_125 : decode c_Parser_readContents 125 = .ok (.putfield 141, 3) := by decide +kernel
theorem d_Parser_readContents_128 : decode c_Parser_readContents 128 = .ok (.aload_n 0, 1) := by decide +kernel
theorem d_Parser_readContents_129 : decode c_Parser_readContents 129 = .ok (.iconst 0, 1) := by decide +kernel
theorem d_Parser_readContents_130 : decode c_Parser_readContents 130 = .ok (.putfield 36, 3) := by decide +kernel
theorem d_Parser_readContents_133 : decode c_Parser_readContents 133 = .ok (.goto 7, 3) := by decide +kernel
theorem d_Parser_readContents_136 : decode c_Parser_readContents 136 = .ok (.aload_n 0, 1) := by decide +kernel
theorem d_Parser_readContents_137 : decode c_Parser_readContents 137 = .ok (.invokevirtual 144, 3) := by decide +kernel
theorem d_Parser_readContents_140 : decode c_Parser_readContents 140 = .ok (.aload_n 0, 1) := by decide +kernel
theorem d_Parser_readContents_141 : decode c_Parser_readContents 141 = .ok (.getfield 26, 3) := by decide +kernel
theorem d_Parser_readContents_144 : decode c_Parser_readContents 144 = .ok (.aload_n 0, 1) := by decide +kernel
theorem d_Parser_readContents_145 : decode c_Parser_readContents 145 = .ok (.getfield 33, 3) := by decide +kernel
theorem d_Parser_readContents_148 : decode c_Parser_readContents 148 = .ok (.if_icmp .eq 13, 3) := by decide +kernel
theorem d_Parser_readContents_151 : decode c_Parser_readContents 151 = .ok (.aload_n 0, 1) := by decide +kernel
theorem d_Parser_readContents_152 : decode c_Parser_readContents 152 = .ok (.iconst 5, 1) := by decide +kernel
theorem d_Parser_readContents_153 : decode c_Parser_readContents 153 = .ok (.aload_n 0, 1) := by decide +kernel
theorem d_Parser_readContents_154 : decode c_Parser_readContents 154 = .ok (.getfield 30, 3) := by decide +kernel
theorem d_Parser_readContents_157 : decode c_Parser_readContents 157 = .ok (.invokevirtual 77, 3) := by decide +kernel
theorem d_Parser_readContents_160 : decode c_Parser_readContents 160 = .ok (.pop, 1) := by decide +kernel
theorem d_Parser_readContents_161 : decode c_Parser_readContents 161 = .ok (.return_, 1) := by decide +kernel
theorem d_Parser_readQuantisers_0 : decode c_Parser_readQuantisers 0 = .ok (.iconst 1, 1) := by decide +kernel
theorem d_Parser_readQuantisers_1 : decode c_Parser_readQuantisers 1 = .ok (.istore_n 1, 1) := by decide +kernel
theorem d_Parser_readQuantisers_2 : decode c_Parser_readQuantisers 2 = .ok (.iconst 0, 1) := by decide +kernel
theorem d_Parser_readQuantisers_3 : decode c_Parser_readQuantisers 3 = .ok (.istore_n 2, 1) := by decide +kernel
theorem d_Parser_readQuantisers_4 : decode c_Parser_readQuantisers 4 = .ok (.iload_n 2, 1) := by decide +kernel
theorem d_Parser_readQuantisers_5 : decode c_Parser_readQuantisers 5 = .ok (.sipush 16384, 3) := by decide +kernel
theorem d_Parser_readQuantisers_8 : decode c_Parser_readQuantisers 8 = .ok (.if_icmp .ge 66, 3) := by decide +kernel
theorem d_Parser_readQuantisers_11 : decode c_Parser_readQuantisers 11 = .ok (.iload_n 1, 1) := by decide +kernel
theorem d_Parser_readQuantisers_12 : decode c_Parser_readQuantisers 12 = .ok (.ifCond .eq 62, 3) := by decide +kernel
theorem d_Parser_readQuantisers_15 : decode c_Parser_readQuantisers 15 = .ok (.aload_n 0, 1) := by decide +kernel
theorem d_Parser_readQuantisers_16 : decode c_Parser_readQuantisers 16 = .ok (.iconst 0, 1) := by decide +kernel
theorem d_Parser_readQuantisers_17 : decode c_Parser_readQuantisers 17 = .ok (.iconst 3, 1) := by decide +kernel
theorem d_Parser_readQuantisers_18 : decode c_Parser_readQuantisers 18 = .ok (.invokevirtual 147, 3) := by decide +kernel
theorem d_Parser_readQuantisers_21 : decode c_Parser_readQuantisers 21 = .ok (.istore_n 3, 1) := by decide +kernel
theorem d_Parser_readQuantisers_22 : decode c_Parser_readQuantisers 22 = .ok (.aload_n 0, 1) := by decide +kernel
theorem d_Parser_readQuantisers_23 : decode c_Parser_readQuantisers 23 = .ok (.getfield 26, 3) := by decide +kernel
theorem d_Parser_readQuantisers_26 : decode c_Parser_readQuantisers 26 = .ok (.istore 4, 2) := by decide +kernel
theorem d_Parser_readQuantisers_28 : decode c_Parser_readQuantisers 28 = .ok (.iconst 0, 1) := by decide +kernel
theorem d_Parser_readQuantisers_29 : decode c_Parser_readQuantisers 29 = .ok (.istore 5, 2) := by decide +kernel
theorem d_Parser_readQuantisers_31 : decode c_Parser_readQuantisers 31 = .ok (.iload 5, 2) := by decide +kernel
theorem d_Parser_readQuantisers_33 : decode c_Parser_readQuantisers 33 = .ok (.bipush 64, 2) := by decide +kernel
theorem d_Parser_readQuantisers_35 : decode c_Parser_readQuantisers 35 = .ok (.if_icmp .ge 18, 3) := by decide +kernel
theorem d_Parser_readQuantisers_38 : decode c_Parser_readQuantisers 38 = .ok (.aload_n 0, 1) := by decide +kernel
theorem d_Parser_readQuantisers_39 : decode c_Parser_readQuantisers 39 = .ok (.iconst 1, 1) := by decide +kernel
theorem d_Parser_readQuantisers_40 : decode c_Parser_readQuantisers 40 = .ok (.sipush 255, 3) := by decide +kernel
theorem d_Parser_readQuantisers_43 : decode c_Parser_readQuantisers 43 = .ok (.invokevirtual 147, 3) := by decide +kernel
theorem d_Parser_readQuantisers_46 : decode c_Parser_readQuantisers 46 = .ok (.pop, 1) := by decide +kernel
theorem d_Parser_readQuantisers_47 : decode c_Parser_readQuantisers 47 = .ok (.iinc 5 1, 3) := by decide +kernel
theorem d_Parser_readQuantisers_50 : decode c_Parser_readQuantisers 50 = .ok (.goto (-19), 3) := by decide +kernel
theorem d_Parser_readQuantisers_53 : decode c_Parser_readQuantisers 53 = .ok (.aload_n 0, 1) := by decide +kernel
theorem d_Parser_readQuantisers_54 : decode c_Parser_readQuantisers 54 = .ok (.getfield 50, 3) := by decide +kernel
theorem d_Parser_readQuantisers_57 : decode c_Parser_readQuantisers 57 = .ok (.iload_n 3, 1) := by decide +kernel
theorem d_Parser_readQuantisers_58 : decode c_Parser_readQuantisers 58 = .ok (.iload 4, 2) := by decide +kernel
theorem d_Parser_readQuantisers_60 : decode c_Parser_readQuantisers 60 = .ok (.invokevirtual 153, 3) := by decide +kernel
theorem d_Parser_readQuantisers_63 : decode c_Parser_readQuantisers 63 = .ok (.aload_n 0, 1) := by decide +kernel
theorem d_Parser_readQuantisers_64 : decode c_Parser_readQuantisers 64 = .ok (.invokevirtual 156, 3) := by decide +kernel
theorem d_Parser_readQuantisers_67 : decode c_Parser_readQuantisers 67 = .ok (.istore_n 1, 1) := by decide +kernel
theorem d_Parser_readQuantisers_68 : decode c_Parser_readQuantisers 68 = .ok (.iinc 2 1, 3) := by decide +kernel
theorem d_Parser_readQuantisers_71 : decode c_Parser_readQuantisers 71 = .ok (.goto (-67), 3) := by decide +kernel
theorem d_Parser_readQuantisers_74 : decode c_Parser_readQuantisers 74 = .ok (.return_, 1) := by decide +kernel
theorem d_Picture_setQuantisers_0 : decode c_Picture_setQuantisers 0 = .ok (.iload_n 1, 1) := by decide +kernel
theorem d_Picture_setQuantisers_1 : decode c_Picture_setQuantisers 1 = .ok (.ifCond .lt 19, 3) := by decide +kernel
theorem d_Picture_setQuantisers_4 : decode c_Picture_setQuantisers 4 = .ok (.iload_n 1, 1) := by decide +kernel
theorem d_Picture_setQuantisers_5 : decode c_Picture_setQuantisers 5 = .ok (.aload_n 0, 1) := by decide +kernel
theorem d_Picture_setQuantisers_6 : decode c_Picture_setQuantisers 6 = .ok (.getfield 25, 3) := by decide +kernel
theorem d_Picture_setQuantisers_9 : decode c_Picture_setQuantisers 9 = .ok (.arraylength, 1) := by decide +kernel
theorem d_Picture_setQuantisers_10 : decode c_Picture_setQuantisers 10 = .ok (.if_icmp .ge 10, 3) := by decide +kernel
theorem d_Picture_setQuantisers_13 : decode c_Picture_setQuantisers 13 = .ok (.aload_n 0, 1) := by decide +kernel
theorem d_Picture_setQuantisers_14 : decode c_Picture_setQuantisers 14 = .ok (.getfield 25, 3) := by decide +kernel
theorem d_Picture_setQuantisers_17 : decode c_Picture_setQuantisers 17 = .ok (.iload_n 1, 1) := by decide +kernel
theorem d_Picture_setQuantisers_18 : decode c_Picture_setQuantisers 18 = .ok (.iload_n 2, 1) := by decide +kernel
theorem d_Picture_setQuantisers_19 : decode c_Picture_setQuantisers 19 = .ok (.iastore, 1) := by decide +kernel
theorem d_Picture_setQuantisers_20 : decode c_Picture_setQuantisers 20 = .ok (.return_, 1) := by decide +kernel
theorem d_Parser_moreContents_0 : decode c_Parser_moreContents 0 = .ok (.aload_n 0, 1) := by decide +kernel
theorem d_Parser_moreContents_1 : decode c_Parser_moreContents 1 = .ok (.getfield 40, 3) := by decide +kernel
theorem d_Parser_moreContents_4 : decode c_Parser_moreContents 4 = .ok (.ifCond .ne 18, 3) := by decide +kernel
theorem d_Parser_moreContents_7 : decode c_Parser_moreContents 7 = .ok (.aload_n 0, 1) := by decide +kernel
theorem d_Parser_moreContents_8 : decode c_Parser_moreContents 8 = .ok (.getfield 26, 3) := by decide +kernel
theorem d_Parser_moreContents_11 : decode c_Parser_moreContents 11 = .ok (.aload_n 0, 1) := by decide +kernel
theorem d_Parser_moreContents_12 : decode c_Parser_moreContents 12 = .ok (.getfield 33, 3) := by decide +kernel
theorem d_Parser_moreContents_15 : decode c_Parser_moreContents 15 = .ok (.if_icmp .ge 7, 3) := by decide +kernel
theorem d_Parser_moreContents_18 : decode c_Parser_moreContents 18 = .ok (.iconst 1, 1) := by decide +kernel
theorem d_Parser_moreContents_19 : decode c_Parser_moreContents 19 = .ok (.goto 4, 3) := by decide +kernel
theorem d_Parser_moreContents_22 : decode c_Parser_moreContents 22 = .ok (.iconst 0, 1) := by decide +kernel
theorem d_Parser_moreContents_23 : decode c_Parser_moreContents 23 = .ok (.ireturn, 1) := by decide +kernel
theorem d_Parser_readWords_0 : decode c_Parser_readWords 0 = .ok (.iconst 1, 1) := by decide +kernel
theorem d_Parser_readWords_1 : decode c_Parser_readWords 1 = .ok (.istore_n 1, 1) := by decide +kernel
theorem d_Parser_readWords_2 : decode c_Parser_readWords 2 = .ok (.iconst 0, 1) := by decide +kernel
theorem d_Parser_readWords_3 : decode c_Parser_readWords 3 = .ok (.istore_n 2, 1) := by decide +kernel
theorem d_Parser_readWords_4 : decode c_Parser_readWords 4 = .ok (.iload_n 2, 1) := by decide +kernel
theorem d_Parser_readWords_5 : decode c_Parser_readWords 5 = .ok (.sipush 16384, 3) := by decide +kernel
theorem d_Parser_readWords_8 : decode c_Parser_readWords 8 = .ok (.if_icmp .ge 83, 3) := by decide +kernel
theorem d_Parser_readWords_11 : decode c_Parser_readWords 11 = .ok (.iload_n 1, 1) := by decide +kernel
theorem d_Parser_readWords_12 : decode c_Parser_readWords 12 = .ok (.ifCond .eq 79, 3) := by decide +kernel
theorem d_Parser_readWords_15 : decode c_Parser_readWords 15 = .ok (.aload_n 0, 1) := by decide +kernel
theorem d_Parser_readWords_16 : decode c_Parser_readWords 16 = .ok (.iconst 0, 1) := by decide +kernel
theorem d_Parser_readWords_17 : decode c_Parser_readWords 17 = .ok (.bipush 19, 2) := by decide +kernel
theorem d_Parser_readWords_19 : decode c_Parser_readWords 19 = .ok (.invokevirtual 147, 3) := by decide +kernel
theorem d_Parser_readWords_22 : decode c_Parser_readWords 22 = .ok (.istore_n 3, 1) := by decide +kernel
theorem d_Parser_readWords_23 : decode c_Parser_readWords 23 = .ok (.iload_n 3, 1) := by decide +kernel
theorem d_Parser_readWords_24 : decode c_Parser_readWords 24 = .ok (.iconst 3, 1) := by decide +kernel
theorem d_Parser_readWords_25 : decode c_Parser_readWords 25 = .ok (.if_icmp .le 13, 3) := by decide +kernel
theorem d_Parser_readWords_28 : decode c_Parser_readWords 28 = .ok (.iload_n 3, 1) := by decide +kernel
theorem d_Parser_readWords_29 : decode c_Parser_readWords 29 = .ok (.bipush 16, 2) := by decide +kernel
theorem d_Parser_readWords_31 : decode c_Parser_readWords 31 = .ok (.if_icmp .ge 7, 3) := by decide +kernel
theorem d_Parser_readWords_34 : decode c_Parser_readWords 34 = .ok (.aload_n 0, 1) := by decide +kernel
theorem d_Parser_readWords_35 : decode c_Parser_readWords 35 = .ok (.invokevirtual 150, 3) := by decide +kernel
theorem d_Parser_readWords_38 : decode c_Parser_readWords 38 = .ok (.aload_n 0, 1) := by decide +kernel
theorem d_Parser_readWords_39 : decode c_Parser_readWords 39 = .ok (.getfield 26, 3) := by decide +kernel
theorem d_Parser_readWords_42 : decode c_Parser_readWords 42 = .ok (.istore 4, 2) := by decide +kernel
theorem d_Parser_readWords_44 : decode c_Parser_readWords 44 = .ok (.aload_n 0, 1) := by decide +kernel
theorem d_Parser_readWords_45 : decode c_Parser_readWords 45 = .ok (.invokevirtual 159, 3) := by decide +kernel
theorem d_Parser_readWords_48 : decode c_Parser_readWords 48 = .ok (.istore 5, 2) := by decide +kernel
theorem d_Parser_readWords_50 : decode c_Parser_readWords 50 = .ok (.aload_n 0, 1) := by decide +kernel
theorem d_Parser_readWords_51 : decode c_Parser_readWords 51 = .ok (.iload 5, 2) := by decide +kernel
theorem d_Parser_readWords_53 : decode c_Parser_readWords 53 = .ok (.iload_n 3, 1) := by decide +kernel
theorem d_Parser_readWords_54 : decode c_Parser_readWords 54 = .ok (.bipush 16, 2) := by decide +kernel
theorem d_Parser_readWords_56 : decode c_Parser_readWords 56 = .ok (.if_icmp .ge 8, 3) := by decide +kernel
theorem d_Parser_readWords_59 : decode c_Parser_readWords 59 = .ok (.bipush 11, 2) := by decide +kernel
theorem d_Parser_readWords_61 : decode c_Parser_readWords 61 = .ok (.goto 6, 3) := by decide +kernel
theorem d_Parser_readWords_64 : decode c_Parser_readWords 64 = .ok (.sipush 255, 3) := by decide +kernel
theorem d_Parser_readWords_67 : decode c_Parser_readWords 67 = .ok (.invokevirtual 162, 3) := by decide +kernel
theorem d_Parser_readWords_70 : decode c_Parser_readWords 70 = .ok (.aload_n 0, 1) := by decide +kernel
theorem d_Parser_readWords_71 : decode c_Parser_readWords 71 = .ok (.getfield 50, 3) := by decide +kernel
theorem d_Parser_readWords_74 : decode c_Parser_readWords 74 = .ok (.iload_n 3, 1) := by decide +kernel
theorem d_Parser_readWords_75 : decode c_Parser_readWords 75 = .ok (.iload 4, 2) := by decide +kernel
theorem d_Parser_readWords_77 : decode c_Parser_readWords 77 = .ok (.invokevirtual 165, 3) := by decide +kernel
theorem d_Parser_readWords_80 : decode c_Parser_readWords 80 = .ok (.aload_n 0, 1) := by decide +kernel
theorem d_Parser_readWords_81 : decode c_Parser_readWords 81 = .ok (.invokevirtual 156, 3) := by decide +kernel
theorem d_Parser_readWords_84 : decode c_Parser_readWords 84 = .ok (.istore_n 1, 1) := by decide +kernel
theorem d_Parser_readWords_85 : decode c_Parser_readWords 85 = .ok (.iinc 2 1, 3) := by decide +kernel
theorem d_Parser_readWords_88 : decode c_Parser_readWords 88 = .ok (.goto (-84), 3) := by decide +kernel
theorem d_Parser_readWords_91 : decode c_Parser_readWords 91 = .ok (.return_, 1) := by decide +kernel
theorem d_Parser_takeCounts_0 : decode c_Parser_takeCounts 0 = .ok (.iconst 0, 1) := by decide +kernel
theorem d_Parser_takeCounts_1 : decode c_Parser_takeCounts 1 = .ok (.istore_n 1, 1) := by decide +kernel
theorem d_Parser_takeCounts_2 : decode c_Parser_takeCounts 2 = .ok (.iconst 0, 1) := by decide +kernel
theorem d_Parser_takeCounts_3 : decode c_Parser_takeCounts 3 = .ok (.istore_n 2, 1) := by decide +kernel
theorem d_Parser_takeCounts_4 : decode c_Parser_takeCounts 4 = .ok (.iconst 1, 1) := by decide +kernel
theorem d_Parser_takeCounts_5 : decode c_Parser_takeCounts 5 = .ok (.istore_n 3, 1) := by decide +kernel
theorem d_Parser_takeCounts_6 : decode c_Parser_takeCounts 6 = .ok (.iload_n 3, 1) := by decide +kernel
theorem d_Parser_takeCounts_7 : decode c_Parser_takeCounts 7 = .ok (.bipush 16, 2) := by decide +kernel
theorem d_Parser_takeCounts_9 : decode c_Parser_takeCounts 9 = .ok (.if_icmp .gt 49, 3) := by decide +kernel
theorem d_Parser_takeCounts_12 : decode c_Parser_takeCounts 12 = .ok (.aload_n 0, 1) := by decide +kernel
theorem d_Parser_takeCounts_13 : decode c_Parser_takeCounts 13 = .ok (.iconst 0, 1) := by decide +kernel
theorem d_Parser_takeCounts_14 : decode c_Parser_takeCounts 14 = .ok (.sipush 255, 3) := by decide +kernel
theorem d_Parser_takeCounts_17 : decode c_Parser_takeCounts 17 = .ok (.invokevirtual 147, 3) := by decide +kernel
theorem d_Parser_takeCounts_20 : decode c_Parser_takeCounts 20 = .ok (.istore 4, 2) := by decide +kernel
theorem d_Parser_takeCounts_22 : decode c_Parser_takeCounts 22 = .ok (.iload_n 1, 1) := by decide +kernel
theorem d_Parser_takeCounts_23 : decode c_Parser_takeCounts 23 = .ok (.iload 4, 2) := by decide +kernel
theorem d_Parser_takeCounts_25 : decode c_Parser_takeCounts 25 = .ok (.iadd, 1) := by decide +kernel
theorem d_Parser_takeCounts_26 : decode c_Parser_takeCounts 26 = .ok (.istore_n 1, 1) := by decide +kernel
theorem d_Parser_takeCounts_27 : decode c_Parser_takeCounts 27 = .ok (.iconst 2, 1) := by decide +kernel
theorem d_Parser_takeCounts_28 : decode c_Parser_takeCounts 28 = .ok (.iload_n 2, 1) := by decide +kernel
theorem d_Parser_takeCounts_29 : decode c_Parser_takeCounts 29 = .ok (.imul, 1) := by decide +kernel
theorem d_Parser_takeCounts_30 : decode c_Parser_takeCounts 30 = .ok (.iload 4, 2) := by decide +kernel
theorem d_Parser_takeCounts_32 : decode c_Parser_takeCounts 32 = .ok (.iadd, 1) := by decide +kernel
theorem d_Parser_takeCounts_33 : decode c_Parser_takeCounts 33 = .ok (.istore_n 2, 1) := by decide +kernel
theorem d_Parser_takeCounts_34 : decode c_Parser_takeCounts 34 = .ok (.iload_n 1, 1) := by decide +kernel
theorem d_Parser_takeCounts_35 : decode c_Parser_takeCounts 35 = .ok (.sipush 256, 3) := by decide +kernel
theorem d_Parser_takeCounts_38 : decode c_Parser_takeCounts 38 = .ok (.if_icmp .gt 10, 3) := by decide +kernel
theorem d_Parser_takeCounts_41 : decode c_Parser_takeCounts 41 = .ok (.iload_n 2, 1) := by decide +kernel
theorem d_Parser_takeCounts_42 : decode c_Parser_takeCounts 42 = .ok (.iconst 1, 1) := by decide +kernel
theorem d_Parser_takeCounts_43 : decode c_Parser_takeCounts 43 = .ok (.iload_n 3, 1) := by decide +kernel
theorem d_Parser_takeCounts_44 : decode c_Parser_takeCounts 44 = .ok (.ishl, 1) := by decide +kernel
theorem d_Parser_takeCounts_45 : decode c_Parser_takeCounts 45 = .ok (.if_icmp .lt 7, 3) := by decide +kernel
theorem d_Parser_takeCounts_48 : decode c_Parser_takeCounts 48 = .ok (.aload_n 0, 1) := by decide +kernel
theorem d_Parser_takeCounts_49 : decode c_Parser_takeCounts 49 = .ok (.invokevirtual 150, 3) := by decide +kernel
theorem d_Parser_takeCounts_52 : decode c_Parser_takeCounts 52 = .ok (.iinc 3 1, 3) := by decide +kernel
theorem d_Parser_takeCounts_55 : decode c_Parser_takeCounts 55 = .ok (.goto (-49), 3) := by decide +kernel
theorem d_Parser_takeCounts_58 : decode c_Parser_takeCounts 58 = .ok (.iload_n 1, 1) := by decide +kernel
theorem d_Parser_takeCounts_59 : decode c_Parser_takeCounts 59 = .ok (.ifCond .ne 7, 3) := by decide +kernel
theorem d_Parser_takeCounts_62 : decode c_Parser_takeCounts 62 = .ok (.aload_n 0, 1) := by decide +kernel
theorem d_Parser_takeCounts_63 : decode c_Parser_takeCounts 63 = .ok (.invokevirtual 150, 3) := by decide +kernel
theorem d_Parser_takeCounts_66 : decode c_Parser_takeCounts 66 = .ok (.iload_n 1, 1) := by decide +kernel
theorem d_Parser_takeCounts_67 : decode c_Parser_takeCounts 67 = .ok (.ireturn, 1) := by decide +kernel
theorem d_Parser_takeSymbols_0 : decode c_Parser_takeSymbols 0 = .ok (.aload_n 0, 1) := by decide +kernel
theorem d_Parser_takeSymbols_1 : decode c_Parser_takeSymbols 1 = .ok (.getfield 22, 3) := by decide +kernel
theorem d_Parser_takeSymbols_4 : decode c_Parser_takeSymbols 4 = .ok (.lconst 0, 1) := by decide +kernel
theorem d_Parser_takeSymbols_5 : decode c_Parser_takeSymbols 5 = .ok (.invokestatic 168, 3) := by decide +kernel
theorem d_Parser_takeSymbols_8 : decode c_Parser_takeSymbols 8 = .ok (.iconst 0, 1) := by decide +kernel
theorem d_Parser_takeSymbols_9 : decode c_Parser_takeSymbols 9 = .ok (.istore_n 3, 1) := by decide +kernel
theorem d_Parser_takeSymbols_10 : decode c_Parser_takeSymbols 10 = .ok (.iload_n 3, 1) := by decide +kernel
theorem d_Parser_takeSymbols_11 : decode c_Parser_takeSymbols 11 = .ok (.iload_n 1, 1) := by decide +kernel
theorem d_Parser_takeSymbols_12 : decode c_Parser_takeSymbols 12 = .ok (.if_icmp .ge 80, 3) := by decide +kernel
theorem d_Parser_takeSymbols_15 : decode c_Parser_takeSymbols 15 = .ok (.aload_n 0, 1) := by decide +kernel
theorem d_Parser_takeSymbols_16 : decode c_Parser_takeSymbols 16 = .ok (.getfield 40, 3) := by decide +kernel
theorem d_Parser_takeSymbols_19 : decode c_Parser_takeSymbols 19 = .ok (.ifCond .ne 73, 3) := by decide +kernel
theorem d_Parser_takeSymbols_22 : decode c_Parser_takeSymbols 22 = .ok (.aload_n 0, 1) := by decide +kernel
theorem d_Parser_takeSymbols_23 : decode c_Parser_takeSymbols 23 = .ok (.iconst 0, 1) := by decide +kernel
theorem d_Parser_takeSymbols_24 : decode c_Parser_takeSymbols 24 = .ok (.iload_n 2, 1) := by decide +kernel
theorem d_Parser_takeSymbols_25 : decode c_Parser_takeSymbols 25 = .ok (.invokevirtual 147, 3) := by decide +kernel
theorem d_Parser_takeSymbols_28 : decode c_Parser_takeSymbols 28 = .ok (.istore 4, 2) := by decide +kernel
theorem d_Parser_takeSymbols_30 : decode c_Parser_takeSymbols 30 = .ok (.iload 4, 2) := by decide +kernel
theorem d_Parser_takeSymbols_32 : decode c_Parser_takeSymbols 32 = .ok (.iconst (-1), 1) := by decide +kernel
theorem d_Parser_takeSymbols_33 : decode c_Parser_takeSymbols 33 = .ok (.if_icmp .ne 4, 3) := by decide +kernel
theorem d_Parser_takeSymbols_36 : decode c_Parser_takeSymbols 36 = .ok (.return_, 1) := by decide +kernel
theorem d_Parser_takeSymbols_37 : decode c_Parser_takeSymbols 37 = .ok (.iload 4, 2) := by decide +kernel
theorem d_Parser_takeSymbols_39 : decode c_Parser_takeSymbols 39 = .ok (.bipush 6, 2) := by decide +kernel
theorem d_Parser_takeSymbols_41 : decode c_Parser_takeSymbols 41 = .ok (.ishr, 1) := by decide +kernel
theorem d_Parser_takeSymbols_42 : decode c_Parser_takeSymbols 42 = .ok (.iconst 3, 1) := by decide +kernel
theorem d_Parser_takeSymbols_43 : decode c_Parser_takeSymbols 43 = .ok (.iand, 1) := by decide +kernel
theorem d_Parser_takeSymbols_44 : decode c_Parser_takeSymbols 44 = .ok (.istore 5, 2) := by decide +kernel
theorem d_Parser_takeSymbols_46 : decode c_Parser_takeSymbols 46 = .ok (.lconst 1, 1) := by decide +kernel
theorem d_Parser_takeSymbols_47 : decode c_Parser_takeSymbols 47 = .ok (.iload 4, 2) := by decide +kernel
theorem d_Parser_takeSymbols_49 : decode c_Parser_takeSymbols 49 = .ok (.bipush 63, 2) := by decide +kernel
theorem d_Parser_takeSymbols_51 : decode c_Parser_takeSymbols 51 = .ok (.iand, 1) := by decide +kernel
theorem d_Parser_takeSymbols_52 : decode c_Parser_takeSymbols 52 = .ok (.lshl, 1) := by decide +kernel
theorem d_Parser_takeSymbols_53 : decode c_Parser_takeSymbols 53 = .ok (.lstore 6, 2) := by decide +kernel
theorem d_Parser_takeSymbols_55 : decode c_Parser_takeSymbols 55 = .ok (.aload_n 0, 1) := by decide +kernel
theorem d_Parser_takeSymbols_56 : decode c_Parser_takeSymbols 56 = .ok (.getfield 22, 3) := by decide +kernel
theorem d_Parser_takeSymbols_59 : decode c_Parser_takeSymbols 59 = .ok (.iload 5, 2) := by decide +kernel
theorem d_Parser_takeSymbols_61 : decode c_Parser_takeSymbols 61 = .ok (.laload, 1) := by decide +kernel
theorem d_Parser_takeSymbols_62 : decode c_Parser_takeSymbols 62 = .ok (.lload 6, 2) := by decide +kernel
theorem d_Parser_takeSymbols_64 : decode c_Parser_takeSymbols 64 = .ok (.land, 1) := by decide +kernel
theorem d_Parser_takeSymbols_65 : decode c_Parser_takeSymbols 65 = .ok (.lconst 0, 1) := by decide +kernel
theorem d_Parser_takeSymbols_66 : decode c_Parser_takeSymbols 66 = .ok (.lcmp, 1) := by decide +kernel
theorem d_Parser_takeSymbols_67 : decode c_Parser_takeSymbols 67 = .ok (.ifCond .eq 7, 3) := by decide +kernel
theorem d_Parser_takeSymbols_70 : decode c_Parser_takeSymbols 70 = .ok (.aload_n 0, 1) := by decide +kernel
theorem d_Parser_takeSymbols_71 : decode c_Parser_takeSymbols 71 = .ok (.invokevirtual 150, 3) := by decide +kernel
theorem d_Parser_takeSymbols_74 : decode c_Parser_takeSymbols 74 = .ok (.aload_n 0, 1) := by decide +kernel
theorem d_Parser_takeSymbols_75 : decode c_Parser_takeSymbols 75 = .ok (.getfield 22, 3) := by decide +kernel
theorem d_Parser_takeSymbols_78 : decode c_Parser_takeSymbols 78 = .ok (.iload 5, 2) := by decide +kernel
theorem d_Parser_takeSymbols_80 : decode c_Parser_takeSymbols 80 = .ok (.dup2, 1) := by decide +kernel
theorem d_Parser_takeSymbols_81 : decode c_Parser_takeSymbols 81 = .ok (.laload, 1) := by decide +kernel
theorem d_Parser_takeSymbols_82 : decode c_Parser_takeSymbols 82 = .ok (.lload 6, 2) := by decide +kernel
theorem d_Parser_takeSymbols_84 : decode c_Parser_takeSymbols 84 = .ok (.lor, 1) := by decide +kernel
theorem d_Parser_takeSymbols_85 : decode c_Parser_takeSymbols 85 = .ok (.lastore, 1) := by decide +kernel
theorem d_Parser_takeSymbols_86 : decode c_Parser_takeSymbols 86 = .ok (.iinc 3 1, 3) := by decide +kernel
theorem d_Parser_takeSymbols_89 : decode c_Parser_takeSymbols 89 = .ok (.goto (-79), 3) := by decide +kernel
theorem d_Parser_takeSymbols_92 : decode c_Parser_takeSymbols 92 = .ok (.return_, 1) := by decide +kernel
theorem d_Arrays_fillJ_0 : decode c_Arrays_fillJ 0 = .ok (.iconst 0, 1) := by decide +kernel
theorem d_Arrays_fillJ_1 : decode c_Arrays_fillJ 1 = .ok (.istore_n 3, 1) := by decide +kernel
theorem d_Arrays_fillJ_2 : decode c_Arrays_fillJ 2 = .ok (.aload_n 0, 1) := by decide +kernel
theorem d_Arrays_fillJ_3 : decode c_Arrays_fillJ 3 = .ok (.arraylength, 1) := by decide +kernel
theorem d_Arrays_fillJ_4 : decode c_Arrays_fillJ 4 = .ok (.istore 4, 2) := by decide +kernel
theorem d_Arrays_fillJ_6 : decode c_Arrays_fillJ 6 = .ok (.iload_n 3, 1) := by decide +kernel
theorem d_Arrays_fillJ_7 : decode c_Arrays_fillJ 7 = .ok (.iload 4, 2) := by decide +kernel
theorem d_Arrays_fillJ_9 : decode c_Arrays_fillJ 9 = .ok (.if_icmp .ge 13, 3) := by decide +kernel
theorem d_Arrays_fillJ_12 : decode c_Arrays_fillJ 12 = .ok (.aload_n 0, 1) := by decide +kernel
theorem d_Arrays_fillJ_13 : decode c_Arrays_fillJ 13 = .ok (.iload_n 3, 1) := by decide +kernel
theorem d_Arrays_fillJ_14 : decode c_Arrays_fillJ 14 = .ok (.lload_n 1, 1) := by decide +kernel
theorem d_Arrays_fillJ_15 : decode c_Arrays_fillJ 15 = .ok (.lastore, 1) := by decide +kernel
theorem d_Arrays_fillJ_16 : decode c_Arrays_fillJ 16 = .ok (.iinc 3 1, 3) := by decide +kernel
theorem d_Arrays_fillJ_19 : decode c_Arrays_fillJ 19 = .ok (.goto (-13), 3) := by decide +kernel
theorem d_Arrays_fillJ_22 : decode c_Arrays_fillJ 22 = .ok (.return_, 1) := by decide +kernel
theorem d_Picture_setWords_0 : decode c_Picture_setWords 0 = .ok (.aload_n 0, 1) := by decide +kernel
theorem d_Picture_setWords_1 : decode c_Picture_setWords 1 = .ok (.iload_n 1, 1) := by decide +kernel
theorem d_Picture_setWords_2 : decode c_Picture_setWords 2 = .ok (.invokevirtual 113, 3) := by decide +kernel
theorem d_Picture_setWords_5 : decode c_Picture_setWords 5 = .ok (.istore_n 3, 1) := by decide +kernel
theorem d_Picture_setWords_6 : decode c_Picture_setWords 6 = .ok (.iload_n 3, 1) := by decide +kernel
theorem d_Picture_setWords_7 : decode c_Picture_setWords 7 = .ok (.ifCond .lt 19, 3) := by decide +kernel
theorem d_Picture_setWords_10 : decode c_Picture_setWords 10 = .ok (.iload_n 3, 1) := by decide +kernel
theorem d_Picture_setWords_11 : decode c_Picture_setWords 11 = .ok (.aload_n 0, 1) := by decide +kernel
theorem d_Picture_setWords_12 : decode c_Picture_setWords 12 = .ok (.getfield 28, 3) := by decide +kernel
theorem d_Picture_setWords_15 : decode c_Picture_setWords 15 = .ok (.arraylength, 1) := by decide +kernel
theorem d_Picture_setWords_16 : decode c_Picture_setWords 16 = .ok (.if_icmp .ge 10, 3) := by decide +kernel
theorem d_Picture_setWords_19 : decode c_Picture_setWords 19 = .ok (.aload_n 0, 1) := by decide +kernel
theorem d_Picture_setWords_20 : decode c_Picture_setWords 20 = .ok (.getfield 28, 3) := by decide +kernel
theorem d_Picture_setWords_23 : decode c_Picture_setWords 23 = .ok (.iload_n 3, 1) := by decide +kernel
theorem d_Picture_setWords_24 : decode c_Picture_setWords 24 = .ok (.iload_n 2, 1) := by decide +kernel
theorem d_Picture_setWords_25 : decode c_Picture_setWords 25 = .ok (.iastore, 1) := by decide +kernel
theorem d_Picture_setWords_26 : decode c_Picture_setWords 26 = .ok (.return_, 1) := by decide +kernel
theorem d_Picture_rowOfWords_0 : decode c_Picture_rowOfWords 0 = .ok (.iload_n 1, 1) := by decide +kernel
theorem d_Picture_rowOfWords_1 : decode c_Picture_rowOfWords 1 = .ok (.ifCond .lt 10, 3) := by decide +kernel
theorem d_Picture_rowOfWords_4 : decode c_Picture_rowOfWords 4 = .ok (.iload_n 1, 1) := by decide +kernel
theorem d_Picture_rowOfWords_5 : decode c_Picture_rowOfWords 5 = .ok (.iconst 3, 1) := by decide +kernel
theorem d_Picture_rowOfWords_6 : decode c_Picture_rowOfWords 6 = .ok (.if_icmp .gt 5, 3) := by decide +kernel
theorem d_Picture_rowOfWords_9 : decode c_Picture_rowOfWords 9 = .ok (.iload_n 1, 1) := by decide +kernel
theorem d_Picture_rowOfWords_10 : decode c_Picture_rowOfWords 10 = .ok (.ireturn, 1) := by decide +kernel
theorem d_Picture_rowOfWords_11 : decode c_Picture_rowOfWords 11 = .ok (.iload_n 1, 1) := by decide +kernel
theorem d_Picture_rowOfWords_12 : decode c_Picture_rowOfWords 12 = .ok (.bipush 16, 2) := by decide +kernel
theorem d_Picture_rowOfWords_14 : decode c_Picture_rowOfWords 14 = .ok (.if_icmp .lt 16, 3) := by decide +kernel
theorem d_Picture_rowOfWords_17 : decode c_Picture_rowOfWords 17 = .ok (.iload_n 1, 1) := by decide +kernel
theorem d_Picture_rowOfWords_18 : decode c_Picture_rowOfWords 18 = .ok (.bipush 19, 2) := by decide +kernel
theorem d_Picture_rowOfWords_20 : decode c_Picture_rowOfWords 20 = .ok (.if_icmp .gt 10, 3) := by decide +kernel
theorem d_Picture_rowOfWords_23 : decode c_Picture_rowOfWords 23 = .ok (.iload_n 1, 1) := by decide +kernel
theorem d_Picture_rowOfWords_24 : decode c_Picture_rowOfWords 24 = .ok (.bipush 12, 2) := by decide +kernel
theorem d_Picture_rowOfWords_26 : decode c_Picture_rowOfWords 26 = .ok (.isub, 1) := by decide +kernel
theorem d_Picture_rowOfWords_27 : decode c_Picture_rowOfWords 27 = .ok (.goto 4, 3) := by decide +kernel
theorem d_Picture_rowOfWords_30 : decode c_Picture_rowOfWords 30 = .ok (.iconst (-1), 1) := by decide +kernel
theorem d_Picture_rowOfWords_31 : decode c_Picture_rowOfWords 31 = .ok (.ireturn, 1) := by decide +kernel
theorem d_Parser_readFrame_0 : decode c_Parser_readFrame 0 = .ok (.aload_n 0, 1) := by decide +kernel
theorem d_Parser_readFrame_1 : decode c_Parser_readFrame 1 = .ok (.bipush 8, 2) := by decide +kernel
theorem d_Parser_readFrame_3 : decode c_Parser_readFrame 3 = .ok (.bipush 8, 2) := by decide +kernel
theorem d_Parser_readFrame_5 : decode c_Parser_readFrame 5 = .ok (.invokevirtual 147, 3) := by decide +kernel
theorem d_Parser_readFrame_8 : decode c_Parser_readFrame 8 = .ok (.pop, 1) := by decide +kernel
theorem d_Parser_readFrame_9 : decode c_Parser_readFrame 9 = .ok (.aload_n 0, 1) := by decide +kernel
theorem d_Parser_readFrame_10 : decode c_Parser_readFrame 10 = .ok (.getfield 50, 3) := by decide +kernel
theorem d_Parser_readFrame_13 : decode c_Parser_readFrame 13 = .ok (.aload_n 0, 1) := by decide +kernel
theorem d_Parser_readFrame_14 : decode c_Parser_readFrame 14 = .ok (.iconst 0, 1) := by decide +kernel
theorem d_Parser_readFrame_15 : decode c_Parser_readFrame 15 = .ok (.bipush 64, 2) := by decide +kernel
theorem d_Parser_readFrame_17 : decode c_Parser_readFrame 17 = .ok (.invokevirtual 123, 3) := by decide +kernel
theorem d_Parser_readFrame_20 : decode c_Parser_readFrame 20 = .ok (.putfield 141, 3) := by decide +kernel
theorem d_Parser_readFrame_23 : decode c_Parser_readFrame 23 = .ok (.aload_n 0, 1) := by decide +kernel
theorem d_Parser_readFrame_24 : decode c_Parser_readFrame 24 = .ok (.getfield 50, 3) := by decide +kernel
theorem d_Parser_readFrame_27 : decode c_Parser_readFrame 27 = .ok (.aload_n 0, 1) := by decide +kernel
theorem d_Parser_readFrame_28 : decode c_Parser_readFrame 28 = .ok (.iconst 1, 1) := by decide +kernel
theorem d_Parser_readFrame_29 : decode c_Parser_readFrame 29 = .ok (.bipush 64, 2) := by decide +kernel
theorem d_Parser_readFrame_31 : decode c_Parser_readFrame 31 = .ok (.invokevirtual 123, 3) := by decide +kernel
theorem d_Parser_readFrame_34 : decode c_Parser_readFrame 34 = .ok (.putfield 171, 3) := by decide +kernel
theorem d_Parser_readFrame_37 : decode c_Parser_readFrame 37 = .ok (.aload_n 0, 1) := by decide +kernel
theorem d_Parser_readFrame_38 : decode c_Parser_readFrame 38 = .ok (.iconst 1, 1) := by decide +kernel
theorem d_Parser_readFrame_39 : decode c_Parser_readFrame 39 = .ok (.iconst 4, 1) := by decide +kernel
theorem d_Parser_readFrame_40 : decode c_Parser_readFrame 40 = .ok (.invokevirtual 147, 3) := by decide +kernel
theorem d_Parser_readFrame_43 : decode c_Parser_readFrame 43 = .ok (.istore_n 2, 1) := by decide +kernel
theorem d_Parser_readFrame_44 : decode c_Parser_readFrame 44 = .ok (.iconst 0, 1) := by decide +kernel
theorem d_Parser_readFrame_45 : decode c_Parser_readFrame 45 = .ok (.istore_n 3, 1) := by decide +kernel
theorem d_Parser_readFrame_46 : decode c_Parser_readFrame 46 = .ok (.iload_n 3, 1) := by decide +kernel
theorem d_Parser_readFrame_47 : decode c_Parser_readFrame 47 = .ok (.iload_n 2, 1) := by decide +kernel
theorem d_Parser_readFrame_48 : decode c_Parser_readFrame 48 = .ok (.if_icmp .ge 13, 3) := by decide +kernel
theorem d_Parser_readFrame_51 : decode c_Parser_readFrame 51 = .ok (.aload_n 0, 1) := by decide +kernel
theorem d_Parser_readFrame_52 : decode c_Parser_readFrame 52 = .ok (.invokevirtual 174, 3) := by decide +kernel
theorem d_Parser_readFrame_55 : decode c_Parser_readFrame 55 = .ok (.iinc 3 1, 3) := by decide +kernel
theorem d_Parser_readFrame_58 : decode c_Parser_readFrame 58 = .ok (.goto (-12), 3) := by decide +kernel
theorem d_Parser_readFrame_61 : decode c_Parser_readFrame 61 = .ok (.aload_n 0, 1) := by decide +kernel
theorem d_Parser_readFrame_62 : decode c_Parser_readFrame 62 = .ok (.getfield 50, 3) := by decide +kernel
theorem d_Parser_readFrame_65 : decode c_Parser_readFrame 65 = .ok (.iload_n 1, 1) := by decide +kernel
theorem d_Parser_readFrame_66 : decode c_Parser_readFrame 66 = .ok (.putfield 106, 3) := by decide +kernel
theorem d_Parser_readFrame_69 : decode c_Parser_readFrame 69 = .ok (.return_, 1) := by decide +kernel
theorem d_Parser_readComponent_0 : decode c_Parser_readComponent 0 = .ok (.aload_n 0, 1) := by decide +kernel
theorem d_Parser_readComponent_1 : decode c_Parser_readComponent 1 = .ok (.iconst 0, 1) := by decide +kernel
theorem d_Parser_readComponent_2 : decode c_Parser_readComponent 2 = .ok (.sipush 255, 3) := by decide +kernel
theorem d_Parser_readComponent_5 : decode c_Parser_readComponent 5 = .ok (.invokevirtual 147, 3) := by decide +kernel
theorem d_Parser_readComponent_8 : decode c_Parser_readComponent 8 = .ok (.istore_n 1, 1) := by decide +kernel
theorem d_Parser_readComponent_9 : decode c_Parser_readComponent 9 = .ok (.aload_n 0, 1) := by decide +kernel
theorem d_Parser_readComponent_10 : decode c_Parser_readComponent 10 = .ok (.getfield 50, 3) := by decide +kernel
theorem d_Parser_readComponent_13 : decode c_Parser_readComponent 13 = .ok (.iload_n 1, 1) := by decide +kernel
theorem d_Parser_readComponent_14 : decode c_Parser_readComponent 14 = .ok (.invokevirtual 177, 3) := by decide +kernel
theorem d_Parser_readComponent_17 : decode c_Parser_readComponent 17 = .ok (.iconst (-1), 1) := by decide +kernel
theorem d_Parser_readComponent_18 : decode c_Parser_readComponent 18 = .ok (.if_icmp .eq 7, 3) := by decide +kernel
theorem d_Parser_readComponent_21 : decode c_Parser_readComponent 21 = .ok (.aload_n 0, 1) := by decide +kernel
theorem d_Parser_readComponent_22 : decode c_Parser_readComponent 22 = .ok (.invokevirtual 150, 3) := by decide +kernel
theorem d_Parser_readComponent_25 : decode c_Parser_readComponent 25 = .ok (.aload_n 0, 1) := by decide +kernel
theorem d_Parser_readComponent_26 : decode c_Parser_readComponent 26 = .ok (.iconst 0, 1) := by decide +kernel
theorem d_Parser_readComponent_27 : decode c_Parser_readComponent 27 = .ok (.sipush 255, 3) := by decide +kernel
theorem d_Parser_readComponent_30 : decode c_Parser_readComponent 30 = .ok (.invokevirtual 147, 3) := by decide +kernel
theorem d_Parser_readComponent_33 : decode c_Parser_readComponent 33 = .ok (.istore_n 2, 1) := by decide +kernel
theorem d_Parser_readComponent_34 : decode c_Parser_readComponent 34 = .ok (.iload_n 2, 1) := by decide +kernel
theorem d_Parser_readComponent_35 : decode c_Parser_readComponent 35 = .ok (.iconst 4, 1) := by decide +kernel
theorem d_Parser_readComponent_36 : decode c_Parser_readComponent 36 = .ok (.ishr, 1) := by decide +kernel
theorem d_Parser_readComponent_37 : decode c_Parser_readComponent 37 = .ok (.istore_n 3, 1) := by decide +kernel
theorem d_Parser_readComponent_38 : decode c_Parser_readComponent 38 = .ok (.iload_n 2, 1) := by decide +kernel
theorem d_Parser_readComponent_39 : decode c_Parser_readComponent 39 = .ok (.bipush 15, 2) := by decide +kernel
theorem d_Parser_readComponent_41 : decode c_Parser_readComponent 41 = .ok (.iand, 1) := by decide +kernel
theorem d_Parser_readComponent_42 : decode c_Parser_readComponent 42 = .ok (.istore 4, 2) := by decide +kernel
theorem d_Parser_readComponent_44 : decode c_Parser_readComponent 44 = .ok (.iload_n 3, 1) := by decide +kernel
theorem d_Parser_readComponent_45 : decode c_Parser_readComponent 45 = .ok (.iconst 1, 1) := by decide +kernel
theorem d_Parser_readComponent_46 : decode c_Parser_readComponent 46 = .ok (.if_icmp .lt 20, 3) := by decide +kernel
theorem d_Parser_readComponent_49 : decode c_Parser_readComponent 49 = .ok (.iload_n 3, 1) := by decide +kernel
theorem d_Parser_readComponent_50 : decode c_Parser_readComponent 50 = .ok (.iconst 2, 1) := by decide +kernel
theorem d_Parser_readComponent_51 : decode c_Parser_readComponent 51 = .ok (.if_icmp .gt 15, 3) := by decide +kernel
theorem d_Parser_readComponent_54 : decode c_Parser_readComponent 54 = .ok (.iload 4, 2) := by decide +kernel
theorem d_Parser_readComponent_56 : decode c_Parser_readComponent 56 = .ok (.iconst 1, 1) := by decide +kernel
theorem d_Parser_readComponent_57 : decode c_Parser_readComponent 57 = .ok (.if_icmp .lt 9, 3) := by decide +kernel
theorem d_Parser_readComponent_60 : decode c_Parser_readComponent 60 = .ok (.iload 4, 2) := by decide +kernel
theorem d_Parser_readComponent_62 : decode c_Parser_readComponent 62 = .ok (.iconst 2, 1) := by decide +kernel
theorem d_Parser_readComponent_63 : decode c_Parser_readComponent 63 = .ok (.if_icmp .le 7, 3) := by decide +kernel
theorem d_Parser_readComponent_66 : decode c_Parser_readComponent 66 = .ok (.aload_n 0, 1) := by decide +kernel
theorem d_Parser_readComponent_67 : decode c_Parser_readComponent 67 = .ok (.invokevirtual 150, 3) := by decide +kernel
theorem d_Parser_readComponent_70 : decode c_Parser_readComponent 70 = .ok (.aload_n 0, 1) := by decide +kernel
theorem d_Parser_readComponent_71 : decode c_Parser_readComponent 71 = .ok (.getfield 50, 3) := by decide +kernel
theorem d_Parser_readComponent_74 : decode c_Parser_readComponent 74 = .ok (.iload_n 1, 1) := by decide +kernel
theorem d_Parser_readComponent_75 : decode c_Parser_readComponent 75 = .ok (.iload_n 3, 1) := by decide +kernel
theorem d_Parser_readComponent_76 : decode c_Parser_readComponent 76 = .ok (.iload 4, 2) := by decide +kernel
theorem d_Parser_readComponent_78 : decode c_Parser_readComponent 78 = .ok (.aload_n 0, 1) := by decide +kernel
theorem d_Parser_readComponent_79 : decode c_Parser_readComponent 79 = .ok (.iconst 0, 1) := by decide +kernel
theorem d_Parser_readComponent_80 : decode c_Parser_readComponent 80 = .ok (.iconst 3, 1) := by decide +kernel
theorem d_Parser_readComponent_81 : decode c_Parser_readComponent 81 = .ok (.invokevirtual 147, 3) := by decide +kernel
theorem d_Parser_readComponent_84 : decode c_Parser_readComponent 84 = .ok (.invokevirtual 180, 3) := by decide +kernel
theorem d_Parser_readComponent_87 : decode c_Parser_readComponent 87 = .ok (.return_, 1) := by decide +kernel
theorem d_Picture_placeOfName_0 : decode c_Picture_placeOfName 0 = .ok (.iconst 0, 1) := by decide +kernel
theorem d_Picture_placeOfName_1 : decode c_Picture_placeOfName 1 = .ok (.istore_n 2, 1) := by decide +kernel
theorem d_Picture_placeOfName_2 : decode c_Picture_placeOfName 2 = .ok (.iload_n 2, 1) := by decide +kernel
theorem d_Picture_placeOfName_3 : decode c_Picture_placeOfName 3 = .ok (.aload_n 0, 1) := by decide +kernel
theorem d_Picture_placeOfName_4 : decode c_Picture_placeOfName 4 = .ok (.getfield 57, 3) := by decide +kernel
theorem d_Picture_placeOfName_7 : decode c_Picture_placeOfName 7 = .ok (.if_icmp .ge 21, 3) := by decide +kernel
theorem d_Picture_placeOfName_10 : decode c_Picture_placeOfName 10 = .ok (.aload_n 0, 1) := by decide +kernel
theorem d_Picture_placeOfName_11 : decode c_Picture_placeOfName 11 = .ok (.iload_n 2, 1) := by decide +kernel
theorem d_Picture_placeOfName_12 : decode c_Picture_placeOfName 12 = .ok (.iconst 0, 1) := by decide +kernel
theorem d_Picture_placeOfName_13 : decode c_Picture_placeOfName 13 = .ok (.invokevirtual 84, 3) := by decide +kernel
theorem d_Picture_placeOfName_16 : decode c_Picture_placeOfName 16 = .ok (.iload_n 1, 1) := by decide +kernel
theorem d_Picture_placeOfName_17 : decode c_Picture_placeOfName 17 = .ok (.if_icmp .ne 5, 3) := by decide +kernel
theorem d_Picture_placeOfName_20 : decode c_Picture_placeOfName 20 = .ok (.iload_n 2, 1) := by decide +kernel
theorem d_Picture_placeOfName_21 : decode c_Picture_placeOfName 21 = .ok (.ireturn, 1) := by decide +kernel
theorem d_Picture_placeOfName_22 : decode c_Picture_placeOfName 22 = .ok (.iinc 2 1, 3) := by decide +kernel
theorem d_Picture_placeOfName_25 : decode c_Picture_placeOfName 25 = .ok (.goto (-23), 3) := by decide +kernel
theorem d_Picture_placeOfName_28 : decode c_Picture_placeOfName 28 = .ok (.iconst (-1), 1) := by decide +kernel
theorem d_Picture_placeOfName_29 : decode c_Picture_placeOfName 29 = .ok (.ireturn, 1) := by decide +kernel
theorem d_Picture_ofComponent_0 : decode c_Picture_ofComponent 0 = .ok (.iload_n 1, 1) := by decide +kernel
theorem d_Picture_ofComponent_1 : decode c_Picture_ofComponent 1 = .ok (.ifCond .lt 20, 3) := by decide +kernel
theorem d_Picture_ofComponent_4 : decode c_Picture_ofComponent 4 = .ok (.iload_n 1, 1) := by decide +kernel
theorem d_Picture_ofComponent_5 : decode c_Picture_ofComponent 5 = .ok (.aload_n 0, 1) := by decide +kernel
theorem d_Picture_ofComponent_6 : decode c_Picture_ofComponent 6 = .ok (.getfield 57, 3) := by decide +kernel
theorem d_Picture_ofComponent_9 : decode c_Picture_ofComponent 9 = .ok (.if_icmp .ge 12, 3) := by decide +kernel
theorem d_Picture_ofComponent_12 : decode c_Picture_ofComponent 12 = .ok (.iload_n 2, 1) := by decide +kernel
theorem d_Picture_ofComponent_13 : decode c_Picture_ofComponent 13 = .ok (.ifCond .lt 8, 3) := by decide +kernel
theorem d_Picture_ofComponent_16 : decode c_Picture_ofComponent 16 = .ok (.iload_n 2, 1) := by decide +kernel
theorem d_Picture_ofComponent_17 : decode c_Picture_ofComponent 17 = .ok (.iconst 4, 1) := by decide +kernel
theorem d_Picture_ofComponent_18 : decode c_Picture_ofComponent 18 = .ok (.if_icmp .lt 5, 3) := by decide +kernel
theorem d_Picture_ofComponent_21 : decode c_Picture_ofComponent 21 = .ok (.iconst (-1), 1) := by decide +kernel
theorem d_Picture_ofComponent_22 : decode c_Picture_ofComponent 22 = .ok (.ireturn, 1) := by decide +kernel
theorem d_Picture_ofComponent_23 : decode c_Picture_ofComponent 23 = .ok (.aload_n 0, 1) := by decide +kernel
theorem d_Picture_ofComponent_24 : decode c_Picture_ofComponent 24 = .ok (.getfield 21, 3) := by decide +kernel
theorem d_Picture_ofComponent_27 : decode c_Picture_ofComponent 27 = .ok (.iload_n 1, 1) := by decide +kernel
theorem d_Picture_ofComponent_28 : decode c_Picture_ofComponent 28 = .ok (.iconst 4, 1) := by decide +kernel
theorem d_Picture_ofComponent_29 : decode c_Picture_ofComponent 29 = .ok (.imul, 1) := by decide +kernel
theorem d_Picture_ofComponent_30 : decode c_Picture_ofComponent 30 = .ok (.iload_n 2, 1) := by decide +kernel
theorem d_Picture_ofComponent_31 : decode c_Picture_ofComponent 31 = .ok (.iadd, 1) := by decide +kernel
theorem d_Picture_ofComponent_32 : decode c_Picture_ofComponent 32 = .ok (.iaload, 1) := by decide +kernel
theorem d_Picture_ofComponent_33 : decode c_Picture_ofComponent 33 = .ok (.ireturn, 1) := by decide +kernel
theorem d_Picture_addComponent_0 : decode c_Picture_addComponent 0 = .ok (.aload_n 0, 1) := by decide +kernel
theorem d_Picture_addComponent_1 : decode c_Picture_addComponent 1 = .ok (.getfield 57, 3) := by decide +kernel
theorem d_Picture_addComponent_4 : decode c_Picture_addComponent 4 = .ok (.iconst 4, 1) := by decide +kernel
theorem d_Picture_addComponent_5 : decode c_Picture_addComponent 5 = .ok (.if_icmp .lt 4, 3) := by decide +kernel
theorem d_Picture_addComponent_8 : decode c_Picture_addComponent 8 = .ok (.return_, 1) := by decide +kernel
theorem d_Picture_addComponent_9 : decode c_Picture_addComponent 9 = .ok (.aload_n 0, 1) := by decide +kernel
theorem d_Picture_addComponent_10 : decode c_Picture_addComponent 10 = .ok (.getfield 57, 3) := by decide +kernel
theorem d_Picture_addComponent_13 : decode c_Picture_addComponent 13 = .ok (.iconst 4, 1) := by decide +kernel
theorem d_Picture_addComponent_14 : decode c_Picture_addComponent 14 = .ok (.imul, 1) := by decide +kernel
theorem d_Picture_addComponent_15 : decode c_Picture_addComponent 15 = .ok (.istore 5, 2) := by decide +kernel
theorem d_Picture_addComponent_17 : decode c_Picture_addComponent 17 = .ok (.aload_n 0, 1) := by decide +kernel
theorem d_Picture_addComponent_18 : decode c_Picture_addComponent 18 = .ok (.getfield 21, 3) := by decide +kernel
theorem d_Picture_addComponent_21 : decode c_Picture_addComponent 21 = .ok (.iload 5, 2) := by decide +kernel
theorem d_Picture_addComponent_23 : decode c_Picture_addComponent 23 = .ok (.iload_n 1, 1) := by decide +kernel
theorem d_Picture_addComponent_24 : decode c_Picture_addComponent 24 = .ok (.iastore, 1) := by decide +kernel
theorem d_Picture_addComponent_25 : decode c_Picture_addComponent 25 = .ok (.aload_n 0, 1) := by decide +kernel
theorem d_Picture_addComponent_26 : decode c_Picture_addComponent 26 = .ok (.getfield 21, 3) := by decide +kernel
theorem d_Picture_addComponent_29 : decode c_Picture_addComponent 29 = .ok (.iload 5, 2) := by decide +kernel
theorem d_Picture_addComponent_31 : decode c_Picture_addComponent 31 = .ok (.iconst 1, 1) := by decide +kernel
theorem d_Picture_addComponent_32 : decode c_Picture_addComponent 32 = .ok (.iadd, 1) := by decide +kernel
theorem d_Picture_addComponent_33 : decode c_Picture_addComponent 33 = .ok (.iload_n 2, 1) := by decide +kernel
theorem d_Picture_addComponent_34 : decode c_Picture_addComponent 34 = .ok (.iastore, 1) := by decide +kernel
theorem d_Picture_addComponent_35 : decode c_Picture_addComponent 35 = .ok (.aload_n 0, 1) := by decide +kernel
theorem d_Picture_addComponent_36 : decode c_Picture_addComponent 36 = .ok (.getfield 21, 3) := by decide +kernel
theorem d_Picture_addComponent_39 : decode c_Picture_addComponent 39 = .ok (.iload 5, 2) := by decide +kernel
theorem d_Picture_addComponent_41 : decode c_Picture_addComponent 41 = .ok (.iconst 2, 1) := by decide +kernel
theorem d_Picture_addComponent_42 : decode c_Picture_addComponent 42 = .ok (.iadd, 1) := by decide +kernel
theorem d_Picture_addComponent_43 : decode c_Picture_addComponent 43 = .ok (.iload_n 3, 1) := by decide +kernel
theorem d_Picture_addComponent_44 : decode c_Picture_addComponent 44 = .ok (.iastore, 1) := by decide +kernel
theorem d_Picture_addComponent_45 : decode c_Picture_addComponent 45 = .ok (.aload_n 0, 1) := by decide +kernel
theorem d_Picture_addComponent_46 : decode c_Picture_addComponent 46 = .ok (.getfield 21, 3) := by decide +kernel
theorem d_Picture_addComponent_49 : decode c_Picture_addComponent 49 = .ok (.iload 5, 2) := by decide +kernel
theorem d_Picture_addComponent_51 : decode c_Picture_addComponent 51 = .ok (.iconst 3, 1) := by decide +kernel
theorem d_Picture_addComponent_52 : decode c_Picture_addComponent 52 = .ok (.iadd, 1) := by decide +kernel
theorem d_Picture_addComponent_53 : decode c_Picture_addComponent 53 = .ok (.iload 4, 2) := by decide +kernel
theorem d_Picture_addComponent_55 : decode c_Picture_addComponent 55 = .ok (.iastore, 1) := by decide +kernel
theorem d_Picture_addComponent_56 : decode c_Picture_addComponent 56 = .ok (.aload_n 0, 1) := by decide +kernel
theorem d_Picture_addComponent_57 : decode c_Picture_addComponent 57 = .ok (.dup, 1) := by decide +kernel
theorem d_Picture_addComponent_58 : decode c_Picture_addComponent 58 = .ok (.getfield 57, 3) := by decide +kernel
theorem d_Picture_addComponent_61 : decode c_Picture_addComponent 61 = .ok (.iconst 1, 1) := by decide +kernel
theorem d_Picture_addComponent_62 : decode c_Picture_addComponent 62 = .ok (.iadd, 1) := by decide +kernel
theorem d_Picture_addComponent_63 : decode c_Picture_addComponent 63 = .ok (.putfield 57, 3) := by decide +kernel
theorem d_Picture_addComponent_66 : decode c_Picture_addComponent 66 = .ok (.return_, 1) := by decide +kernel
theorem d_Parser_readScan_0 : decode c_Parser_readScan 0 = .ok (.aload_n 0, 1) := by decide +kernel
theorem d_Parser_readScan_1 : decode c_Parser_readScan 1 = .ok (.getfield 12, 3) := by decide +kernel
theorem d_Parser_readScan_4 : decode c_Parser_readScan 4 = .ok (.aload_n 0, 1) := by decide +kernel
theorem d_Parser_readScan_5 : decode c_Parser_readScan 5 = .ok (.getfield 26, 3) := by decide +kernel
theorem d_Parser_readScan_8 : decode c_Parser_readScan 8 = .ok (.putfield 184, 3) := by decide +kernel
theorem d_Parser_readScan_11 : decode c_Parser_readScan 11 = .ok (.aload_n 0, 1) := by decide +kernel
theorem d_Parser_readScan_12 : decode c_Parser_readScan 12 = .ok (.getfield 12, 3) := by decide +kernel
theorem d_Parser_readScan_15 : decode c_Parser_readScan 15 = .ok (.aload_n 0, 1) := by decide +kernel
theorem d_Parser_readScan_16 : decode c_Parser_readScan 16 = .ok (.iconst 1, 1) := by decide +kernel
theorem d_Parser_readScan_17 : decode c_Parser_readScan 17 = .ok (.iconst 4, 1) := by decide +kernel
theorem d_Parser_readScan_18 : decode c_Parser_readScan 18 = .ok (.invokevirtual 147, 3) := by decide +kernel
theorem d_Parser_readScan_21 : decode c_Parser_readScan 21 = .ok (.putfield 187, 3) := by decide +kernel
theorem d_Parser_readScan_24 : decode c_Parser_readScan 24 = .ok (.aload_n 0, 1) := by decide +kernel
theorem d_Parser_readScan_25 : decode c_Parser_readScan 25 = .ok (.invokevirtual 190, 3) := by decide +kernel
theorem d_Parser_readScan_28 : decode c_Parser_readScan 28 = .ok (.aload_n 0, 1) := by decide +kernel
theorem d_Parser_readScan_29 : decode c_Parser_readScan 29 = .ok (.getfield 50, 3) := by decide +kernel
theorem d_Parser_readScan_32 : decode c_Parser_readScan 32 = .ok (.getfield 106, 3) := by decide +kernel
theorem d_Parser_readScan_35 : decode c_Parser_readScan 35 = .ok (.sipush 192, 3) := by decide +kernel
theorem d_Parser_readScan_38 : decode c_Parser_readScan 38 = .ok (.if_icmp .ne 39, 3) := by decide +kernel
theorem d_Parser_readScan_41 : decode c_Parser_readScan 41 = .ok (.aload_n 0, 1) := by decide +kernel
theorem d_Parser_readScan_42 : decode c_Parser_readScan 42 = .ok (.getfield 12, 3) := by decide +kernel
theorem d_Parser_readScan_45 : decode c_Parser_readScan 45 = .ok (.aload_n 0, 1) := by decide +kernel
theorem d_Parser_readScan_46 : decode c_Parser_readScan 46 = .ok (.iconst 0, 1) := by decide +kernel
theorem d_Parser_readScan_47 : decode c_Parser_readScan 47 = .ok (.iconst 0, 1) := by decide +kernel
theorem d_Parser_readScan_48 : decode c_Parser_readScan 48 = .ok (.invokevirtual 147, 3) := by decide +kernel
theorem d_Parser_readScan_51 : decode c_Parser_readScan 51 = .ok (.putfield 193, 3) := by decide +kernel
theorem d_Parser_readScan_54 : decode c_Parser_readScan 54 = .ok (.aload_n 0, 1) := by decide +kernel
theorem d_Parser_readScan_55 : decode c_Parser_readScan 55 = .ok (.getfield 12, 3) := by decide +kernel
theorem d_Parser_readScan_58 : decode c_Parser_readScan 58 = .ok (.aload_n 0, 1) := by decide +kernel
theorem d_Parser_readScan_59 : decode c_Parser_readScan 59 = .ok (.bipush 63, 2) := by decide +kernel
theorem d_Parser_readScan_61 : decode c_Parser_readScan 61 = .ok (.bipush 63, 2) := by decide +kernel
theorem d_Parser_readScan_63 : decode c_Parser_readScan 63 = .ok (.invokevirtual 147, 3) := by decide +kernel
theorem d_Parser_readScan_66 : decode c_Parser_readScan 66 = .ok (.putfield 196, 3) := by decide +kernel
theorem d_Parser_readScan_69 : decode c_Parser_readScan 69 = .ok (.aload_n 0, 1) := by decide +kernel
theorem d_Parser_readScan_70 : decode c_Parser_readScan 70 = .ok (.iconst 0, 1) := by decide +kernel
theorem d_Parser_readScan_71 : decode c_Parser_readScan 71 = .ok (.invokevirtual 199, 3) := by decide +kernel
theorem d_Parser_readScan_74 : decode c_Parser_readScan 74 = .ok (.goto 73, 3) := by decide +kernel
theorem d_Parser_readScan_77 : decode c_Parser_readScan 77 = .ok (.aload_n 0, 1) := by decide +kernel
theorem d_Parser_readScan_78 : decode c_Parser_readScan 78 = .ok (.getfield 12, 3) := by decide +kernel
theorem d_Parser_readScan_81 : decode c_Parser_readScan 81 = .ok (.aload_n 0, 1) := by decide +kernel
theorem d_Parser_readScan_82 : decode c_Parser_readScan 82 = .ok (.iconst 0, 1) := by decide +kernel
theorem d_Parser_readScan_83 : decode c_Parser_readScan 83 = .ok (.aload_n 0, 1) := by decide +kernel
theorem d_Parser_readScan_84 : decode c_Parser_readScan 84 = .ok (.getfield 12, 3) := by decide +kernel
theorem d_Parser_readScan_87 : decode c_Parser_readScan 87 = .ok (.getfield 187, 3) := by decide +kernel
theorem d_Parser_readScan_90 : decode c_Parser_readScan 90 = .ok (.iconst 1, 1) := by decide +kernel
theorem d_Parser_readScan_91 : decode c_Parser_readScan 91 = .ok (.if_icmp .ne 8, 3) := by decide +kernel
theorem d_Parser_readScan_94 : decode c_Parser_readScan 94 = .ok (.bipush 63, 2) := by decide +kernel
theorem d_Parser_readScan_96 : decode c_Parser_readScan 96 = .ok (.goto 4, 3) := by decide +kernel
theorem d_Parser_readScan_99 : decode c_Parser_readScan 99 = .ok (.iconst 0, 1) := by decide +kernel
theorem d_Parser_readScan_100 : decode c_Parser_readScan 100 = .ok (.invokevirtual 147, 3) := by decide +kernel
theorem d_Parser_readScan_103 : decode c_Parser_readScan 103 = .ok (.putfield 193, 3) := by decide +kernel
theorem d_Parser_readScan_106 : decode c_Parser_readScan 106 = .ok (.aload_n 0, 1) := by decide +kernel
theorem d_Parser_readScan_107 : decode c_Parser_readScan 107 = .ok (.getfield 12, 3) := by decide +kernel
theorem d_Parser_readScan_110 : decode c_Parser_readScan 110 = .ok (.aload_n 0, 1) := by decide +kernel
theorem d_Parser_readScan_111 : decode c_Parser_readScan 111 = .ok (.aload_n 0, 1) := by decide +kernel
theorem d_Parser_readScan_112 : decode c_Parser_readScan 112 = .ok (.getfield 12, 3) := by decide +kernel
theorem d_Parser_readScan_115 : decode c_Parser_readScan 115 = .ok (.getfield 193, 3) := by decide +kernel
theorem d_Parser_readScan_118 : decode c_Parser_readScan 118 = .ok (.aload_n 0, 1) := by decide +kernel
theorem d_Parser_readScan_119 : decode c_Parser_readScan 119 = .ok (.getfield 12, 3) := by decide +kernel
theorem d_Parser_readScan_122 : decode c_Parser_readScan 122 = .ok (.getfield 193, 3) := by decide +kernel
theorem d_Parser_readScan_125 : decode c_Parser_readScan 125 = .ok (.ifCond .ne 7, 3) := by decide +kernel
theorem d_Parser_readScan_128 : decode c_Parser_readScan 128 = .ok (.iconst 0, 1) := by decide +kernel
theorem d_Parser_readScan_129 : decode c_Parser_readScan 129 = .ok (.goto 5, 3) := by decide +kernel
theorem d_Parser_readScan_132 : decode c_Parser_readScan 132 = .ok (.bipush 63, 2) := by decide +kernel
theorem d_Parser_readScan_134 : decode c_Parser_readScan 134 = .ok (.invokevirtual 147, 3) := by decide +kernel
theorem d_Parser_readScan_137 : decode c_Parser_readScan 137 = .ok (.putfield 196, 3) := by decide +kernel
theorem d_Parser_readScan_140 : decode c_Parser_readScan 140 = .ok (.aload_n 0, 1) := by decide +kernel
theorem d_Parser_readScan_141 : decode c_Parser_readScan 141 = .ok (.sipush 255, 3) := by decide +kernel
theorem d_Parser_readScan_144 : decode c_Parser_readScan 144 = .ok (.invokevirtual 199, 3) := by decide +kernel
theorem d_Parser_readScan_147 : decode c_Parser_readScan 147 = .ok (.aload_n 0, 1) := by decide +kernel
theorem d_Parser_readScan_148 : decode c_Parser_readScan 148 = .ok (.invokevirtual 202, 3) := by decide +kernel
theorem d_Parser_readScan_151 : decode c_Parser_readScan 151 = .ok (.aload_n 0, 1) := by decide +kernel
theorem d_Parser_readScan_152 : decode c_Parser_readScan 152 = .ok (.invokevirtual 205, 3) := by decide +kernel
theorem d_Parser_readScan_155 : decode c_Parser_readScan 155 = .ok (.aload_n 0, 1) := by decide +kernel
theorem d_Parser_readScan_156 : decode c_Parser_readScan 156 = .ok (.invokevirtual 208, 3) := by decide +kernel
theorem d_Parser_readScan_159 : decode c_Parser_readScan 159 = .ok (.return_, 1) := by decide +kernel
theorem d_Parser_takeScanComponents_0 : decode c_Parser_takeScanComponents 0 = .ok (.iconst (-1), 1) := by decide +kernel
theorem d_Parser_takeScanComponents_1 : decode c_Parser_takeScanComponents 1 = .ok (.istore_n 1, 1) := by decide +kernel
theorem d_Parser_takeScanComponents_2 : decode c_Parser_takeScanComponents 2 = .ok (.iconst 0, 1) := by decide +kernel
theorem d_Parser_takeScanComponents_3 : decode c_Parser_takeScanComponents 3 = .ok (.istore_n 2, 1) := by decide +kernel
theorem d_Parser_takeScanComponents_4 : decode c_Parser_takeScanComponents 4 = .ok (.iconst 0, 1) := by decide +kernel
theorem d_Parser_takeScanComponents_5 : decode c_Parser_takeScanComponents 5 = .ok (.istore_n 3, 1) := by decide +kernel
theorem d_Parser_takeScanComponents_6 : decode c_Parser_takeScanComponents 6 = .ok (.iload_n 3, 1) := by decide +kernel
theorem d_Parser_takeScanComponents_7 : decode c_Parser_takeScanComponents 7 = .ok (.aload_n 0, 1) := by decide +kernel
theorem d_Parser_takeScanComponents_8 : decode c_Parser_takeScanComponents 8 = .ok (.getfield 12, 3) := by decide +kernel
theorem d_Parser_takeScanComponents_11 : decode c_Parser_takeScanComponents 11 = .ok (.getfield 187, 3) := by decide +kernel
theorem d_Parser_takeScanComponents_14 : decode c_Parser_takeScanComponents 14 = .ok (.if_icmp .ge 120, 3) := by decide +kernel
theorem d_Parser_takeScanComponents_17 : decode c_Parser_takeScanComponents 17 = .ok (.iload_n 3, 1) := by decide +kernel
theorem d_Parser_takeScanComponents_18 : decode c_Parser_takeScanComponents 18 = .ok (.iconst 4, 1) := by decide +kernel
theorem d_Parser_takeScanComponents_19 : decode c_Parser_takeScanComponents 19 = .ok (.if_icmp .ge 115, 3) := by decide +kernel
theorem d_Parser_takeScanComponents_22 : decode c_Parser_takeScanComponents 22 = .ok (.aload_n 0, 1) := by decide +kernel
theorem d_Parser_takeScanComponents_23 : decode c_Parser_takeScanComponents 23 = .ok (.getfield 50, 3) := by decide +kernel
theorem d_Parser_takeScanComponents_26 : decode c_Parser_takeScanComponents 26 = .ok (.aload_n 0, 1) := by decide +kernel
theorem d_Parser_takeScanComponents_27 : decode c_Parser_takeScanComponents 27 = .ok (.iconst 0, 1) := by decide +kernel
theorem d_Parser_takeScanComponents_28 : decode c_Parser_takeScanComponents 28 = .ok (.sipush 255, 3) := by decide +kernel
theorem d_Parser_takeScanComponents_31 : decode c_Parser_takeScanComponents 31 = .ok (.invokevirtual 147, 3) := by decide +kernel
theorem d_Parser_takeScanComponents_34 : decode c_Parser_takeScanComponents 34 = .ok (.invokevirtual 177, 3) := by decide +kernel
theorem d_Parser_takeScanComponents_37 : decode c_Parser_takeScanComponents 37 = .ok (.istore 4, 2) := by decide +kernel
theorem d_Parser_takeScanComponents_39 : decode c_Parser_takeScanComponents 39 = .ok (.iload 4, 2) := by decide +kernel
theorem d_Parser_takeScanComponents_41 : decode c_Parser_takeScanComponents 41 = .ok (.iload_n 1, 1) := by decide +kernel
theorem d_Parser_takeScanComponents_42 : decode c_Parser_takeScanComponents 42 = .ok (.if_icmp .gt 16, 3) := by decide +kernel
theorem d_Parser_takeScanComponents_45 : decode c_Parser_takeScanComponents 45 = .ok (.aload_n 0, 1) := by decide +kernel
theorem d_Parser_takeScanComponents_46 : decode c_Parser_takeScanComponents 46 = .ok (.bipush 7, 2) := by decide +kernel
theorem d_Parser_takeScanComponents_48 : decode c_Parser_takeScanComponents 48 = .ok (.aload_n 0, 1) := by decide +kernel
theorem d_Parser_takeScanComponents_49 : decode c_Parser_takeScanComponents 49 = .ok (.getfield 26, 3) := by decide +kernel
theorem d_Parser_takeScanComponents_52 : decode c_Parser_takeScanComponents 52 = .ok (.iconst 1, 1) := by decide +kernel
theorem d_Parser_takeScanComponents_53 : decode c_Parser_takeScanComponents 53 = .ok (.isub, 1) := by decide +kernel
theorem d_Parser_takeScanComponents_54 : decode c_Parser_takeScanComponents 54 = .ok (.invokevirtual 77, 3) := by decide +kernel
theorem d_Parser_takeScanComponents_57 : decode c_Parser_takeScanComponents 57 = .ok (.pop, 1) := by decide +kernel
theorem d_Parser_takeScanComponents_58 : decode c_Parser_takeScanComponents 58 = .ok (.iload_n 2, 1) := by decide +kernel
theorem d_Parser_takeScanComponents_59 : decode c_Parser_takeScanComponents 59 = .ok (.aload_n 0, 1) := by decide +kernel
theorem d_Parser_takeScanComponents_60 : decode c_Parser_takeScanComponents 60 = .ok (.getfield 50, 3) := by decide +kernel
theorem d_Parser_takeScanComponents_63 : decode c_Parser_takeScanComponents 63 = .ok (.iload 4, 2) := by decide +kernel
theorem d_Parser_takeScanComponents_65 : decode c_Parser_takeScanComponents 65 = .ok (.iconst 1, 1) := by decide +kernel
theorem d_Parser_takeScanComponents_66 : decode c_Parser_takeScanComponents 66 = .ok (.invokevirtual 211, 3) := by decide +kernel
theorem d_Parser_takeScanComponents_69 : decode c_Parser_takeScanComponents 69 = .ok (.aload_n 0, 1) := by decide +kernel
theorem d_Parser_takeScanComponents_70 : decode c_Parser_takeScanComponents 70 = .ok (.getfield 50, 3) := by decide +kernel
theorem d_Parser_takeScanComponents_73 : decode c_Parser_takeScanComponents 73 = .ok (.iload 4, 2) := by decide +kernel
theorem d_Parser_takeScanComponents_75 : decode c_Parser_takeScanComponents 75 = .ok (.iconst 2, 1) := by decide +kernel
theorem d_Parser_takeScanComponents_76 : decode c_Parser_takeScanComponents 76 = .ok (.invokevirtual 211, 3) := by decide +kernel
theorem d_Parser_takeScanComponents_79 : decode c_Parser_takeScanComponents 79 = .ok (.imul, 1) := by decide +kernel
theorem d_Parser_takeScanComponents_80 : decode c_Parser_takeScanComponents 80 = .ok (.iadd, 1) := by decide +kernel
theorem d_Parser_takeScanComponents_81 : decode c_Parser_takeScanComponents 81 = .ok (.istore_n 2, 1) := by decide +kernel
theorem d_Parser_takeScanComponents_82 : decode c_Parser_takeScanComponents 82 = .ok (.iload_n 2, 1) := by decide +kernel
theorem d_Parser_takeScanComponents_83 : decode c_Parser_takeScanComponents 83 = .ok (.bipush 10, 2) := by decide +kernel
theorem d_Parser_takeScanComponents_85 : decode c_Parser_takeScanComponents 85 = .ok (.if_icmp .le 7, 3) := by decide +kernel
theorem d_Parser_takeScanComponents_88 : decode c_Parser_takeScanComponents 88 = .ok (.aload_n 0, 1) := by decide +kernel
theorem d_Parser_takeScanComponents_89 : decode c_Parser_takeScanComponents 89 = .ok (.invokevirtual 150, 3) := by decide +kernel
theorem d_Parser_takeScanComponents_92 : decode c_Parser_takeScanComponents 92 = .ok (.aload_n 0, 1) := by decide +kernel
