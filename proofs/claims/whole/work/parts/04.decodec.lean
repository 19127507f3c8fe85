theorem d_Parser_takeScanComponents_93 : decode c_Parser_takeScanComponents 93 = .ok (.getfield 12, 3) := by decide +kernel
theorem d_Parser_takeScanComponents_96 : decode c_Parser_takeScanComponents 96 = .ok (.getfield 214, 3) := by decide +kernel
theorem d_Parser_takeScanComponents_99 : decode c_Parser_takeScanComponents 99 = .ok (.iload_n 3, 1) := by decide +kernel
theorem d_Parser_takeScanComponents_100 : decode c_Parser_takeScanComponents 100 = .ok (.iload 4, 2) := by decide +kernel
theorem d_Parser_takeScanComponents_102 : decode c_Parser_takeScanComponents 102 = .ok (.iastore, 1) := by decide +kernel
theorem d_Parser_takeScanComponents_103 : decode c_Parser_takeScanComponents 103 = .ok (.iload 4, 2) := by decide +kernel
theorem d_Parser_takeScanComponents_105 : decode c_Parser_takeScanComponents 105 = .ok (.istore_n 1, 1) := by decide +kernel
theorem d_Parser_takeScanComponents_106 : decode c_Parser_takeScanComponents 106 = .ok (.aload_n 0, 1) := by decide +kernel
theorem d_Parser_takeScanComponents_107 : decode c_Parser_takeScanComponents 107 = .ok (.iconst 0, 1) := by decide +kernel
theorem d_Parser_takeScanComponents_108 : decode c_Parser_takeScanComponents 108 = .ok (.bipush 51, 2) := by decide +kernel
theorem d_Parser_takeScanComponents_110 : decode c_Parser_takeScanComponents 110 = .ok (.invokevirtual 147, 3) := by decide +kernel
theorem d_Parser_takeScanComponents_113 : decode c_Parser_takeScanComponents 113 = .ok (.istore 5, 2) := by decide +kernel
theorem d_Parser_takeScanComponents_115 : decode c_Parser_takeScanComponents 115 = .ok (.iload 5, 2) := by decide +kernel
theorem d_Parser_takeScanComponents_117 : decode c_Parser_takeScanComponents 117 = .ok (.bipush 15, 2) := by decide +kernel
theorem d_Parser_takeScanComponents_119 : decode c_Parser_takeScanComponents 119 = .ok (.iand, 1) := by decide +kernel
theorem d_Parser_takeScanComponents_120 : decode c_Parser_takeScanComponents 120 = .ok (.iconst 3, 1) := by decide +kernel
theorem d_Parser_takeScanComponents_121 : decode c_Parser_takeScanComponents 121 = .ok (.if_icmp .le 7, 3) := by decide +kernel
theorem d_Parser_takeScanComponents_124 : decode c_Parser_takeScanComponents 124 = .ok (.aload_n 0, 1) := by decide +kernel
theorem d_Parser_takeScanComponents_125 : decode c_Parser_takeScanComponents 125 = .ok (.invokevirtual 150, 3) := by decide +kernel
theorem d_Parser_takeScanComponents_128 : decode c_Parser_takeScanComponents 128 = .ok (.iinc 3 1, 3) := by decide +kernel
theorem d_Parser_takeScanComponents_131 : decode c_Parser_takeScanComponents 131 = .ok (.goto (-125), 3) := by decide +kernel
theorem d_Parser_takeScanComponents_134 : decode c_Parser_takeScanComponents 134 = .ok (.return_, 1) := by decide +kernel
theorem d_Parser_takeBits_0 : decode c_Parser_takeBits 0 = .ok (.aload_n 0, 1) := by decide +kernel
theorem d_Parser_takeBits_1 : decode c_Parser_takeBits 1 = .ok (.iconst 0, 1) := by decide +kernel
theorem d_Parser_takeBits_2 : decode c_Parser_takeBits 2 = .ok (.iload_n 1, 1) := by decide +kernel
theorem d_Parser_takeBits_3 : decode c_Parser_takeBits 3 = .ok (.invokevirtual 147, 3) := by decide +kernel
theorem d_Parser_takeBits_6 : decode c_Parser_takeBits 6 = .ok (.istore_n 2, 1) := by decide +kernel
theorem d_Parser_takeBits_7 : decode c_Parser_takeBits 7 = .ok (.aload_n 0, 1) := by decide +kernel
theorem d_Parser_takeBits_8 : decode c_Parser_takeBits 8 = .ok (.getfield 12, 3) := by decide +kernel
theorem d_Parser_takeBits_11 : decode c_Parser_takeBits 11 = .ok (.iload_n 2, 1) := by decide +kernel
theorem d_Parser_takeBits_12 : decode c_Parser_takeBits 12 = .ok (.iconst 4, 1) := by decide +kernel
theorem d_Parser_takeBits_13 : decode c_Parser_takeBits 13 = .ok (.ishr, 1) := by decide +kernel
theorem d_Parser_takeBits_14 : decode c_Parser_takeBits 14 = .ok (.putfield 217, 3) := by decide +kernel
theorem d_Parser_takeBits_17 : decode c_Parser_takeBits 17 = .ok (.aload_n 0, 1) := by decide +kernel
theorem d_Parser_takeBits_18 : decode c_Parser_takeBits 18 = .ok (.getfield 12, 3) := by decide +kernel
theorem d_Parser_takeBits_21 : decode c_Parser_takeBits 21 = .ok (.iload_n 2, 1) := by decide +kernel
theorem d_Parser_takeBits_22 : decode c_Parser_takeBits 22 = .ok (.bipush 15, 2) := by decide +kernel
theorem d_Parser_takeBits_24 : decode c_Parser_takeBits 24 = .ok (.iand, 1) := by decide +kernel
theorem d_Parser_takeBits_25 : decode c_Parser_takeBits 25 = .ok (.putfield 220, 3) := by decide +kernel
theorem d_Parser_takeBits_28 : decode c_Parser_takeBits 28 = .ok (.aload_n 0, 1) := by decide +kernel
theorem d_Parser_takeBits_29 : decode c_Parser_takeBits 29 = .ok (.getfield 12, 3) := by decide +kernel
theorem d_Parser_takeBits_32 : decode c_Parser_takeBits 32 = .ok (.getfield 220, 3) := by decide +kernel
theorem d_Parser_takeBits_35 : decode c_Parser_takeBits 35 = .ok (.bipush 13, 2) := by decide +kernel
theorem d_Parser_takeBits_37 : decode c_Parser_takeBits 37 = .ok (.if_icmp .gt 32, 3) := by decide +kernel
theorem d_Parser_takeBits_40 : decode c_Parser_takeBits 40 = .ok (.aload_n 0, 1) := by decide +kernel
theorem d_Parser_takeBits_41 : decode c_Parser_takeBits 41 = .ok (.getfield 12, 3) := by decide +kernel
theorem d_Parser_takeBits_44 : decode c_Parser_takeBits 44 = .ok (.getfield 217, 3) := by decide +kernel
theorem d_Parser_takeBits_47 : decode c_Parser_takeBits 47 = .ok (.ifCond .eq 26, 3) := by decide +kernel
theorem d_Parser_takeBits_50 : decode c_Parser_takeBits 50 = .ok (.aload_n 0, 1) := by decide +kernel
theorem d_Parser_takeBits_51 : decode c_Parser_takeBits 51 = .ok (.getfield 12, 3) := by decide +kernel
theorem d_Parser_takeBits_54 : decode c_Parser_takeBits 54 = .ok (.getfield 217, 3) := by decide +kernel
theorem d_Parser_takeBits_57 : decode c_Parser_takeBits 57 = .ok (.aload_n 0, 1) := by decide +kernel
theorem d_Parser_takeBits_58 : decode c_Parser_takeBits 58 = .ok (.getfield 12, 3) := by decide +kernel
theorem d_Parser_takeBits_61 : decode c_Parser_takeBits 61 = .ok (.getfield 220, 3) := by decide +kernel
theorem d_Parser_takeBits_64 : decode c_Parser_takeBits 64 = .ok (.iconst 1, 1) := by decide +kernel
theorem d_Parser_takeBits_65 : decode c_Parser_takeBits 65 = .ok (.iadd, 1) := by decide +kernel
theorem d_Parser_takeBits_66 : decode c_Parser_takeBits 66 = .ok (.if_icmp .eq 7, 3) := by decide +kernel
theorem d_Parser_takeBits_69 : decode c_Parser_takeBits 69 = .ok (.aload_n 0, 1) := by decide +kernel
theorem d_Parser_takeBits_70 : decode c_Parser_takeBits 70 = .ok (.invokevirtual 150, 3) := by decide +kernel
theorem d_Parser_takeBits_73 : decode c_Parser_takeBits 73 = .ok (.return_, 1) := by decide +kernel
theorem d_Parser_checkSent_0 : decode c_Parser_checkSent 0 = .ok (.iconst 0, 1) := by decide +kernel
theorem d_Parser_checkSent_1 : decode c_Parser_checkSent 1 = .ok (.istore_n 1, 1) := by decide +kernel
theorem d_Parser_checkSent_2 : decode c_Parser_checkSent 2 = .ok (.iload_n 1, 1) := by decide +kernel
theorem d_Parser_checkSent_3 : decode c_Parser_checkSent 3 = .ok (.aload_n 0, 1) := by decide +kernel
theorem d_Parser_checkSent_4 : decode c_Parser_checkSent 4 = .ok (.getfield 12, 3) := by decide +kernel
theorem d_Parser_checkSent_7 : decode c_Parser_checkSent 7 = .ok (.getfield 187, 3) := by decide +kernel
theorem d_Parser_checkSent_10 : decode c_Parser_checkSent 10 = .ok (.if_icmp .ge 165, 3) := by decide +kernel
theorem d_Parser_checkSent_13 : decode c_Parser_checkSent 13 = .ok (.aload_n 0, 1) := by decide +kernel
theorem d_Parser_checkSent_14 : decode c_Parser_checkSent 14 = .ok (.getfield 40, 3) := by decide +kernel
theorem d_Parser_checkSent_17 : decode c_Parser_checkSent 17 = .ok (.ifCond .ne 158, 3) := by decide +kernel
theorem d_Parser_checkSent_20 : decode c_Parser_checkSent 20 = .ok (.aload_n 0, 1) := by decide +kernel
theorem d_Parser_checkSent_21 : decode c_Parser_checkSent 21 = .ok (.getfield 12, 3) := by decide +kernel
theorem d_Parser_checkSent_24 : decode c_Parser_checkSent 24 = .ok (.iload_n 1, 1) := by decide +kernel
theorem d_Parser_checkSent_25 : decode c_Parser_checkSent 25 = .ok (.invokevirtual 223, 3) := by decide +kernel
theorem d_Parser_checkSent_28 : decode c_Parser_checkSent 28 = .ok (.istore_n 2, 1) := by decide +kernel
theorem d_Parser_checkSent_29 : decode c_Parser_checkSent 29 = .ok (.aload_n 0, 1) := by decide +kernel
theorem d_Parser_checkSent_30 : decode c_Parser_checkSent 30 = .ok (.iload_n 2, 1) := by decide +kernel
theorem d_Parser_checkSent_31 : decode c_Parser_checkSent 31 = .ok (.iconst 0, 1) := by decide +kernel
theorem d_Parser_checkSent_32 : decode c_Parser_checkSent 32 = .ok (.invokevirtual 119, 3) := by decide +kernel
theorem d_Parser_checkSent_35 : decode c_Parser_checkSent 35 = .ok (.iconst (-1), 1) := by decide +kernel
theorem d_Parser_checkSent_36 : decode c_Parser_checkSent 36 = .ok (.if_icmp .eq 7, 3) := by decide +kernel
theorem d_Parser_checkSent_39 : decode c_Parser_checkSent 39 = .ok (.iconst 1, 1) := by decide +kernel
theorem d_Parser_checkSent_40 : decode c_Parser_checkSent 40 = .ok (.goto 4, 3) := by decide +kernel
theorem d_Parser_checkSent_43 : decode c_Parser_checkSent 43 = .ok (.iconst 0, 1) := by decide +kernel
theorem d_Parser_checkSent_44 : decode c_Parser_checkSent 44 = .ok (.istore_n 3, 1) := by decide +kernel
theorem d_Parser_checkSent_45 : decode c_Parser_checkSent 45 = .ok (.iload_n 3, 1) := by decide +kernel
theorem d_Parser_checkSent_46 : decode c_Parser_checkSent 46 = .ok (.ifCond .eq 20, 3) := by decide +kernel
theorem d_Parser_checkSent_49 : decode c_Parser_checkSent 49 = .ok (.aload_n 0, 1) := by decide +kernel
theorem d_Parser_checkSent_50 : decode c_Parser_checkSent 50 = .ok (.getfield 50, 3) := by decide +kernel
theorem d_Parser_checkSent_53 : decode c_Parser_checkSent 53 = .ok (.getfield 106, 3) := by decide +kernel
theorem d_Parser_checkSent_56 : decode c_Parser_checkSent 56 = .ok (.sipush 192, 3) := by decide +kernel
theorem d_Parser_checkSent_59 : decode c_Parser_checkSent 59 = .ok (.if_icmp .ne 7, 3) := by decide +kernel
theorem d_Parser_checkSent_62 : decode c_Parser_checkSent 62 = .ok (.iconst 1, 1) := by decide +kernel
theorem d_Parser_checkSent_63 : decode c_Parser_checkSent 63 = .ok (.goto 4, 3) := by decide +kernel
theorem d_Parser_checkSent_66 : decode c_Parser_checkSent 66 = .ok (.iconst 0, 1) := by decide +kernel
theorem d_Parser_checkSent_67 : decode c_Parser_checkSent 67 = .ok (.istore 4, 2) := by decide +kernel
theorem d_Parser_checkSent_69 : decode c_Parser_checkSent 69 = .ok (.iload 4, 2) := by decide +kernel
theorem d_Parser_checkSent_71 : decode c_Parser_checkSent 71 = .ok (.ifCond .ne 17, 3) := by decide +kernel
theorem d_Parser_checkSent_74 : decode c_Parser_checkSent 74 = .ok (.aload_n 0, 1) := by decide +kernel
theorem d_Parser_checkSent_75 : decode c_Parser_checkSent 75 = .ok (.getfield 12, 3) := by decide +kernel
theorem d_Parser_checkSent_78 : decode c_Parser_checkSent 78 = .ok (.getfield 193, 3) := by decide +kernel
theorem d_Parser_checkSent_81 : decode c_Parser_checkSent 81 = .ok (.ifCond .le 22, 3) := by decide +kernel
theorem d_Parser_checkSent_84 : decode c_Parser_checkSent 84 = .ok (.iload_n 3, 1) := by decide +kernel
theorem d_Parser_checkSent_85 : decode c_Parser_checkSent 85 = .ok (.ifCond .ne 18, 3) := by decide +kernel
theorem d_Parser_checkSent_88 : decode c_Parser_checkSent 88 = .ok (.aload_n 0, 1) := by decide +kernel
theorem d_Parser_checkSent_89 : decode c_Parser_checkSent 89 = .ok (.bipush 7, 2) := by decide +kernel
theorem d_Parser_checkSent_91 : decode c_Parser_checkSent 91 = .ok (.aload_n 0, 1) := by decide +kernel
theorem d_Parser_checkSent_92 : decode c_Parser_checkSent 92 = .ok (.getfield 12, 3) := by decide +kernel
theorem d_Parser_checkSent_95 : decode c_Parser_checkSent 95 = .ok (.iload_n 1, 1) := by decide +kernel
theorem d_Parser_checkSent_96 : decode c_Parser_checkSent 96 = .ok (.invokevirtual 226, 3) := by decide +kernel
theorem d_Parser_checkSent_99 : decode c_Parser_checkSent 99 = .ok (.invokevirtual 77, 3) := by decide +kernel
theorem d_Parser_checkSent_102 : decode c_Parser_checkSent 102 = .ok (.pop, 1) := by decide +kernel
theorem d_Parser_checkSent_103 : decode c_Parser_checkSent 103 = .ok (.aload_n 0, 1) := by decide +kernel
theorem d_Parser_checkSent_104 : decode c_Parser_checkSent 104 = .ok (.getfield 12, 3) := by decide +kernel
theorem d_Parser_checkSent_107 : decode c_Parser_checkSent 107 = .ok (.getfield 217, 3) := by decide +kernel
theorem d_Parser_checkSent_110 : decode c_Parser_checkSent 110 = .ok (.ifCond .ne 7, 3) := by decide +kernel
theorem d_Parser_checkSent_113 : decode c_Parser_checkSent 113 = .ok (.iconst (-1), 1) := by decide +kernel
theorem d_Parser_checkSent_114 : decode c_Parser_checkSent 114 = .ok (.goto 10, 3) := by decide +kernel
theorem d_Parser_checkSent_117 : decode c_Parser_checkSent 117 = .ok (.aload_n 0, 1) := by decide +kernel
theorem d_Parser_checkSent_118 : decode c_Parser_checkSent 118 = .ok (.getfield 12, 3) := by decide +kernel
theorem d_Parser_checkSent_121 : decode c_Parser_checkSent 121 = .ok (.getfield 217, 3) := by decide +kernel
theorem d_Parser_checkSent_124 : decode c_Parser_checkSent 124 = .ok (.istore 5, 2) := by decide +kernel
theorem d_Parser_checkSent_126 : decode c_Parser_checkSent 126 = .ok (.aload_n 0, 1) := by decide +kernel
theorem d_Parser_checkSent_127 : decode c_Parser_checkSent 127 = .ok (.getfield 12, 3) := by decide +kernel
theorem d_Parser_checkSent_130 : decode c_Parser_checkSent 130 = .ok (.getfield 193, 3) := by decide +kernel
theorem d_Parser_checkSent_133 : decode c_Parser_checkSent 133 = .ok (.istore 6, 2) := by decide +kernel
theorem d_Parser_checkSent_135 : decode c_Parser_checkSent 135 = .ok (.iload 6, 2) := by decide +kernel
theorem d_Parser_checkSent_137 : decode c_Parser_checkSent 137 = .ok (.aload_n 0, 1) := by decide +kernel
theorem d_Parser_checkSent_138 : decode c_Parser_checkSent 138 = .ok (.getfield 12, 3) := by decide +kernel
theorem d_Parser_checkSent_141 : decode c_Parser_checkSent 141 = .ok (.getfield 196, 3) := by decide +kernel
theorem d_Parser_checkSent_144 : decode c_Parser_checkSent 144 = .ok (.if_icmp .gt 25, 3) := by decide +kernel
theorem d_Parser_checkSent_147 : decode c_Parser_checkSent 147 = .ok (.aload_n 0, 1) := by decide +kernel
theorem d_Parser_checkSent_148 : decode c_Parser_checkSent 148 = .ok (.iload_n 2, 1) := by decide +kernel
theorem d_Parser_checkSent_149 : decode c_Parser_checkSent 149 = .ok (.iload 6, 2) := by decide +kernel
theorem d_Parser_checkSent_151 : decode c_Parser_checkSent 151 = .ok (.invokevirtual 119, 3) := by decide +kernel
theorem d_Parser_checkSent_154 : decode c_Parser_checkSent 154 = .ok (.iload 5, 2) := by decide +kernel
theorem d_Parser_checkSent_156 : decode c_Parser_checkSent 156 = .ok (.if_icmp .eq 7, 3) := by decide +kernel
theorem d_Parser_checkSent_159 : decode c_Parser_checkSent 159 = .ok (.aload_n 0, 1) := by decide +kernel
theorem d_Parser_checkSent_160 : decode c_Parser_checkSent 160 = .ok (.invokevirtual 150, 3) := by decide +kernel
theorem d_Parser_checkSent_163 : decode c_Parser_checkSent 163 = .ok (.iinc 6 1, 3) := by decide +kernel
theorem d_Parser_checkSent_166 : decode c_Parser_checkSent 166 = .ok (.goto (-31), 3) := by decide +kernel
theorem d_Parser_checkSent_169 : decode c_Parser_checkSent 169 = .ok (.iinc 1 1, 3) := by decide +kernel
theorem d_Parser_checkSent_172 : decode c_Parser_checkSent 172 = .ok (.goto (-170), 3) := by decide +kernel
theorem d_Parser_checkSent_175 : decode c_Parser_checkSent 175 = .ok (.return_, 1) := by decide +kernel
theorem d_Scan_placeAt_0 : decode c_Scan_placeAt 0 = .ok (.iload_n 1, 1) := by decide +kernel
theorem d_Scan_placeAt_1 : decode c_Scan_placeAt 1 = .ok (.ifCond .lt 21, 3) := by decide +kernel
theorem d_Scan_placeAt_4 : decode c_Scan_placeAt 4 = .ok (.iload_n 1, 1) := by decide +kernel
theorem d_Scan_placeAt_5 : decode c_Scan_placeAt 5 = .ok (.aload_n 0, 1) := by decide +kernel
theorem d_Scan_placeAt_6 : decode c_Scan_placeAt 6 = .ok (.getfield 9, 3) := by decide +kernel
theorem d_Scan_placeAt_9 : decode c_Scan_placeAt 9 = .ok (.arraylength, 1) := by decide +kernel
theorem d_Scan_placeAt_10 : decode c_Scan_placeAt 10 = .ok (.if_icmp .ge 12, 3) := by decide +kernel
theorem d_Scan_placeAt_13 : decode c_Scan_placeAt 13 = .ok (.aload_n 0, 1) := by decide +kernel
theorem d_Scan_placeAt_14 : decode c_Scan_placeAt 14 = .ok (.getfield 9, 3) := by decide +kernel
theorem d_Scan_placeAt_17 : decode c_Scan_placeAt 17 = .ok (.iload_n 1, 1) := by decide +kernel
theorem d_Scan_placeAt_18 : decode c_Scan_placeAt 18 = .ok (.iaload, 1) := by decide +kernel
theorem d_Scan_placeAt_19 : decode c_Scan_placeAt 19 = .ok (.goto 4, 3) := by decide +kernel
theorem d_Scan_placeAt_22 : decode c_Scan_placeAt 22 = .ok (.iconst (-1), 1) := by decide +kernel
theorem d_Scan_placeAt_23 : decode c_Scan_placeAt 23 = .ok (.ireturn, 1) := by decide +kernel
theorem d_Scan_nameAt_0 : decode c_Scan_nameAt 0 = .ok (.aload_n 0, 1) := by decide +kernel
theorem d_Scan_nameAt_1 : decode c_Scan_nameAt 1 = .ok (.getfield 15, 3) := by decide +kernel
theorem d_Scan_nameAt_4 : decode c_Scan_nameAt 4 = .ok (.iconst 1, 1) := by decide +kernel
theorem d_Scan_nameAt_5 : decode c_Scan_nameAt 5 = .ok (.iadd, 1) := by decide +kernel
theorem d_Scan_nameAt_6 : decode c_Scan_nameAt 6 = .ok (.iconst 2, 1) := by decide +kernel
theorem d_Scan_nameAt_7 : decode c_Scan_nameAt 7 = .ok (.iload_n 1, 1) := by decide +kernel
theorem d_Scan_nameAt_8 : decode c_Scan_nameAt 8 = .ok (.imul, 1) := by decide +kernel
theorem d_Scan_nameAt_9 : decode c_Scan_nameAt 9 = .ok (.iadd, 1) := by decide +kernel
theorem d_Scan_nameAt_10 : decode c_Scan_nameAt 10 = .ok (.ireturn, 1) := by decide +kernel
theorem d_Parser_checkTables_0 : decode c_Parser_checkTables 0 = .ok (.iconst 0, 1) := by decide +kernel
theorem d_Parser_checkTables_1 : decode c_Parser_checkTables 1 = .ok (.istore_n 1, 1) := by decide +kernel
theorem d_Parser_checkTables_2 : decode c_Parser_checkTables 2 = .ok (.iload_n 1, 1) := by decide +kernel
theorem d_Parser_checkTables_3 : decode c_Parser_checkTables 3 = .ok (.aload_n 0, 1) := by decide +kernel
theorem d_Parser_checkTables_4 : decode c_Parser_checkTables 4 = .ok (.getfield 12, 3) := by decide +kernel
theorem d_Parser_checkTables_7 : decode c_Parser_checkTables 7 = .ok (.getfield 187, 3) := by decide +kernel
theorem d_Parser_checkTables_10 : decode c_Parser_checkTables 10 = .ok (.if_icmp .ge 164, 3) := by decide +kernel
theorem d_Parser_checkTables_13 : decode c_Parser_checkTables 13 = .ok (.aload_n 0, 1) := by decide +kernel
theorem d_Parser_checkTables_14 : decode c_Parser_checkTables 14 = .ok (.getfield 40, 3) := by decide +kernel
theorem d_Parser_checkTables_17 : decode c_Parser_checkTables 17 = .ok (.ifCond .ne 157, 3) := by decide +kernel
theorem d_Parser_checkTables_20 : decode c_Parser_checkTables 20 = .ok (.aload_n 0, 1) := by decide +kernel
theorem d_Parser_checkTables_21 : decode c_Parser_checkTables 21 = .ok (.getfield 12, 3) := by decide +kernel
theorem d_Parser_checkTables_24 : decode c_Parser_checkTables 24 = .ok (.iload_n 1, 1) := by decide +kernel
theorem d_Parser_checkTables_25 : decode c_Parser_checkTables 25 = .ok (.invokevirtual 226, 3) := by decide +kernel
theorem d_Parser_checkTables_28 : decode c_Parser_checkTables 28 = .ok (.istore_n 2, 1) := by decide +kernel
theorem d_Parser_checkTables_29 : decode c_Parser_checkTables 29 = .ok (.aload_n 0, 1) := by decide +kernel
theorem d_Parser_checkTables_30 : decode c_Parser_checkTables 30 = .ok (.getfield 46, 3) := by decide +kernel
theorem d_Parser_checkTables_33 : decode c_Parser_checkTables 33 = .ok (.iload_n 2, 1) := by decide +kernel
theorem d_Parser_checkTables_34 : decode c_Parser_checkTables 34 = .ok (.iconst 1, 1) := by decide +kernel
theorem d_Parser_checkTables_35 : decode c_Parser_checkTables 35 = .ok (.iadd, 1) := by decide +kernel
theorem d_Parser_checkTables_36 : decode c_Parser_checkTables 36 = .ok (.invokevirtual 73, 3) := by decide +kernel
theorem d_Parser_checkTables_39 : decode c_Parser_checkTables 39 = .ok (.istore_n 3, 1) := by decide +kernel
theorem d_Parser_checkTables_40 : decode c_Parser_checkTables 40 = .ok (.aload_n 0, 1) := by decide +kernel
theorem d_Parser_checkTables_41 : decode c_Parser_checkTables 41 = .ok (.getfield 50, 3) := by decide +kernel
theorem d_Parser_checkTables_44 : decode c_Parser_checkTables 44 = .ok (.aload_n 0, 1) := by decide +kernel
theorem d_Parser_checkTables_45 : decode c_Parser_checkTables 45 = .ok (.getfield 50, 3) := by decide +kernel
theorem d_Parser_checkTables_48 : decode c_Parser_checkTables 48 = .ok (.aload_n 0, 1) := by decide +kernel
theorem d_Parser_checkTables_49 : decode c_Parser_checkTables 49 = .ok (.getfield 12, 3) := by decide +kernel
theorem d_Parser_checkTables_52 : decode c_Parser_checkTables 52 = .ok (.iload_n 1, 1) := by decide +kernel
theorem d_Parser_checkTables_53 : decode c_Parser_checkTables 53 = .ok (.invokevirtual 223, 3) := by decide +kernel
theorem d_Parser_checkTables_56 : decode c_Parser_checkTables 56 = .ok (.iconst 3, 1) := by decide +kernel
theorem d_Parser_checkTables_57 : decode c_Parser_checkTables 57 = .ok (.invokevirtual 211, 3) := by decide +kernel
theorem d_Parser_checkTables_60 : decode c_Parser_checkTables 60 = .ok (.invokevirtual 229, 3) := by decide +kernel
theorem d_Parser_checkTables_63 : decode c_Parser_checkTables 63 = .ok (.ifCond .ne 11, 3) := by decide +kernel
theorem d_Parser_checkTables_66 : decode c_Parser_checkTables 66 = .ok (.aload_n 0, 1) := by decide +kernel
theorem d_Parser_checkTables_67 : decode c_Parser_checkTables 67 = .ok (.bipush 8, 2) := by decide +kernel
theorem d_Parser_checkTables_69 : decode c_Parser_checkTables 69 = .ok (.iload_n 2, 1) := by decide +kernel
theorem d_Parser_checkTables_70 : decode c_Parser_checkTables 70 = .ok (.invokevirtual 77, 3) := by decide +kernel
theorem d_Parser_checkTables_73 : decode c_Parser_checkTables 73 = .ok (.pop, 1) := by decide +kernel
theorem d_Parser_checkTables_74 : decode c_Parser_checkTables 74 = .ok (.aload_n 0, 1) := by decide +kernel
theorem d_Parser_checkTables_75 : decode c_Parser_checkTables 75 = .ok (.getfield 12, 3) := by decide +kernel
theorem d_Parser_checkTables_78 : decode c_Parser_checkTables 78 = .ok (.getfield 193, 3) := by decide +kernel
theorem d_Parser_checkTables_81 : decode c_Parser_checkTables 81 = .ok (.ifCond .ne 17, 3) := by decide +kernel
theorem d_Parser_checkTables_84 : decode c_Parser_checkTables 84 = .ok (.aload_n 0, 1) := by decide +kernel
theorem d_Parser_checkTables_85 : decode c_Parser_checkTables 85 = .ok (.getfield 12, 3) := by decide +kernel
theorem d_Parser_checkTables_88 : decode c_Parser_checkTables 88 = .ok (.getfield 217, 3) := by decide +kernel
theorem d_Parser_checkTables_91 : decode c_Parser_checkTables 91 = .ok (.ifCond .ne 7, 3) := by decide +kernel
theorem d_Parser_checkTables_94 : decode c_Parser_checkTables 94 = .ok (.iconst 1, 1) := by decide +kernel
theorem d_Parser_checkTables_95 : decode c_Parser_checkTables 95 = .ok (.goto 4, 3) := by decide +kernel
theorem d_Parser_checkTables_98 : decode c_Parser_checkTables 98 = .ok (.iconst 0, 1) := by decide +kernel
theorem d_Parser_checkTables_99 : decode c_Parser_checkTables 99 = .ok (.istore 4, 2) := by decide +kernel
theorem d_Parser_checkTables_101 : decode c_Parser_checkTables 101 = .ok (.iload 4, 2) := by decide +kernel
theorem d_Parser_checkTables_103 : decode c_Parser_checkTables 103 = .ok (.ifCond .eq 27, 3) := by decide +kernel
theorem d_Parser_checkTables_106 : decode c_Parser_checkTables 106 = .ok (.aload_n 0, 1) := by decide +kernel
theorem d_Parser_checkTables_107 : decode c_Parser_checkTables 107 = .ok (.getfield 50, 3) := by decide +kernel
theorem d_Parser_checkTables_110 : decode c_Parser_checkTables 110 = .ok (.iload_n 3, 1) := by decide +kernel
theorem d_Parser_checkTables_111 : decode c_Parser_checkTables 111 = .ok (.iconst 4, 1) := by decide +kernel
theorem d_Parser_checkTables_112 : decode c_Parser_checkTables 112 = .ok (.ishr, 1) := by decide +kernel
theorem d_Parser_checkTables_113 : decode c_Parser_checkTables 113 = .ok (.invokevirtual 232, 3) := by decide +kernel
theorem d_Parser_checkTables_116 : decode c_Parser_checkTables 116 = .ok (.iconst (-1), 1) := by decide +kernel
theorem d_Parser_checkTables_117 : decode c_Parser_checkTables 117 = .ok (.if_icmp .ne 13, 3) := by decide +kernel
theorem d_Parser_checkTables_120 : decode c_Parser_checkTables 120 = .ok (.aload_n 0, 1) := by decide +kernel
theorem d_Parser_checkTables_121 : decode c_Parser_checkTables 121 = .ok (.bipush 8, 2) := by decide +kernel
theorem d_Parser_checkTables_123 : decode c_Parser_checkTables 123 = .ok (.iload_n 2, 1) := by decide +kernel
theorem d_Parser_checkTables_124 : decode c_Parser_checkTables 124 = .ok (.iconst 1, 1) := by decide +kernel
theorem d_Parser_checkTables_125 : decode c_Parser_checkTables 125 = .ok (.iadd, 1) := by decide +kernel
theorem d_Parser_checkTables_126 : decode c_Parser_checkTables 126 = .ok (.invokevirtual 77, 3) := by decide +kernel
theorem d_Parser_checkTables_129 : decode c_Parser_checkTables 129 = .ok (.pop, 1) := by decide +kernel
theorem d_Parser_checkTables_130 : decode c_Parser_checkTables 130 = .ok (.aload_n 0, 1) := by decide +kernel
theorem d_Parser_checkTables_131 : decode c_Parser_checkTables 131 = .ok (.getfield 12, 3) := by decide +kernel
theorem d_Parser_checkTables_134 : decode c_Parser_checkTables 134 = .ok (.getfield 196, 3) := by decide +kernel
theorem d_Parser_checkTables_137 : decode c_Parser_checkTables 137 = .ok (.ifCond .le 31, 3) := by decide +kernel
theorem d_Parser_checkTables_140 : decode c_Parser_checkTables 140 = .ok (.aload_n 0, 1) := by decide +kernel
theorem d_Parser_checkTables_141 : decode c_Parser_checkTables 141 = .ok (.getfield 50, 3) := by decide +kernel
theorem d_Parser_checkTables_144 : decode c_Parser_checkTables 144 = .ok (.bipush 16, 2) := by decide +kernel
theorem d_Parser_checkTables_146 : decode c_Parser_checkTables 146 = .ok (.iload_n 3, 1) := by decide +kernel
theorem d_Parser_checkTables_147 : decode c_Parser_checkTables 147 = .ok (.bipush 15, 2) := by decide +kernel
theorem d_Parser_checkTables_149 : decode c_Parser_checkTables 149 = .ok (.iand, 1) := by decide +kernel
theorem d_Parser_checkTables_150 : decode c_Parser_checkTables 150 = .ok (.iadd, 1) := by decide +kernel
theorem d_Parser_checkTables_151 : decode c_Parser_checkTables 151 = .ok (.invokevirtual 232, 3) := by decide +kernel
theorem d_Parser_checkTables_154 : decode c_Parser_checkTables 154 = .ok (.iconst (-1), 1) := by decide +kernel
theorem d_Parser_checkTables_155 : decode c_Parser_checkTables 155 = .ok (.if_icmp .ne 13, 3) := by decide +kernel
theorem d_Parser_checkTables_158 : decode c_Parser_checkTables 158 = .ok (.aload_n 0, 1) := by decide +kernel
theorem d_Parser_checkTables_159 : decode c_Parser_checkTables 159 = .ok (.bipush 8, 2) := by decide +kernel
theorem d_Parser_checkTables_161 : decode c_Parser_checkTables 161 = .ok (.iload_n 2, 1) := by decide +kernel
theorem d_Parser_checkTables_162 : decode c_Parser_checkTables 162 = .ok (.iconst 1, 1) := by decide +kernel
theorem d_Parser_checkTables_163 : decode c_Parser_checkTables 163 = .ok (.iadd, 1) := by decide +kernel
theorem d_Parser_checkTables_164 : decode c_Parser_checkTables 164 = .ok (.invokevirtual 77, 3) := by decide +kernel
theorem d_Parser_checkTables_167 : decode c_Parser_checkTables 167 = .ok (.pop, 1) := by decide +kernel
theorem d_Parser_checkTables_168 : decode c_Parser_checkTables 168 = .ok (.iinc 1 1, 3) := by decide +kernel
theorem d_Parser_checkTables_171 : decode c_Parser_checkTables 171 = .ok (.goto (-169), 3) := by decide +kernel
theorem d_Parser_checkTables_174 : decode c_Parser_checkTables 174 = .ok (.return_, 1) := by decide +kernel
theorem d_Picture_hasQuantisers_0 : decode c_Picture_hasQuantisers 0 = .ok (.iload_n 1, 1) := by decide +kernel
theorem d_Picture_hasQuantisers_1 : decode c_Picture_hasQuantisers 1 = .ok (.ifCond .lt 26, 3) := by decide +kernel
theorem d_Picture_hasQuantisers_4 : decode c_Picture_hasQuantisers 4 = .ok (.iload_n 1, 1) := by decide +kernel
theorem d_Picture_hasQuantisers_5 : decode c_Picture_hasQuantisers 5 = .ok (.aload_n 0, 1) := by decide +kernel
theorem d_Picture_hasQuantisers_6 : decode c_Picture_hasQuantisers 6 = .ok (.getfield 25, 3) := by decide +kernel
theorem d_Picture_hasQuantisers_9 : decode c_Picture_hasQuantisers 9 = .ok (.arraylength, 1) := by decide +kernel
theorem d_Picture_hasQuantisers_10 : decode c_Picture_hasQuantisers 10 = .ok (.if_icmp .ge 17, 3) := by decide +kernel
theorem d_Picture_hasQuantisers_13 : decode c_Picture_hasQuantisers 13 = .ok (.aload_n 0, 1) := by decide +kernel
theorem d_Picture_hasQuantisers_14 : decode c_Picture_hasQuantisers 14 = .ok (.getfield 25, 3) := by decide +kernel
theorem d_Picture_hasQuantisers_17 : decode c_Picture_hasQuantisers 17 = .ok (.iload_n 1, 1) := by decide +kernel
theorem d_Picture_hasQuantisers_18 : decode c_Picture_hasQuantisers 18 = .ok (.iaload, 1) := by decide +kernel
theorem d_Picture_hasQuantisers_19 : decode c_Picture_hasQuantisers 19 = .ok (.iconst (-1), 1) := by decide +kernel
theorem d_Picture_hasQuantisers_20 : decode c_Picture_hasQuantisers 20 = .ok (.if_icmp .eq 7, 3) := by decide +kernel
theorem d_Picture_hasQuantisers_23 : decode c_Picture_hasQuantisers 23 = .ok (.iconst 1, 1) := by decide +kernel
theorem d_Picture_hasQuantisers_24 : decode c_Picture_hasQuantisers 24 = .ok (.goto 4, 3) := by decide +kernel
theorem d_Picture_hasQuantisers_27 : decode c_Picture_hasQuantisers 27 = .ok (.iconst 0, 1) := by decide +kernel
theorem d_Picture_hasQuantisers_28 : decode c_Picture_hasQuantisers 28 = .ok (.ireturn, 1) := by decide +kernel
theorem d_Picture_placeOfWords_0 : decode c_Picture_placeOfWords 0 = .ok (.aload_n 0, 1) := by decide +kernel
theorem d_Picture_placeOfWords_1 : decode c_Picture_placeOfWords 1 = .ok (.iload_n 1, 1) := by decide +kernel
theorem d_Picture_placeOfWords_2 : decode c_Picture_placeOfWords 2 = .ok (.invokevirtual 113, 3) := by decide +kernel
theorem d_Picture_placeOfWords_5 : decode c_Picture_placeOfWords 5 = .ok (.istore_n 2, 1) := by decide +kernel
theorem d_Picture_placeOfWords_6 : decode c_Picture_placeOfWords 6 = .ok (.iload_n 2, 1) := by decide +kernel
theorem d_Picture_placeOfWords_7 : decode c_Picture_placeOfWords 7 = .ok (.ifCond .lt 21, 3) := by decide +kernel
theorem d_Picture_placeOfWords_10 : decode c_Picture_placeOfWords 10 = .ok (.iload_n 2, 1) := by decide +kernel
theorem d_Picture_placeOfWords_11 : decode c_Picture_placeOfWords 11 = .ok (.aload_n 0, 1) := by decide +kernel
theorem d_Picture_placeOfWords_12 : decode c_Picture_placeOfWords 12 = .ok (.getfield 28, 3) := by decide +kernel
theorem d_Picture_placeOfWords_15 : decode c_Picture_placeOfWords 15 = .ok (.arraylength, 1) := by decide +kernel
theorem d_Picture_placeOfWords_16 : decode c_Picture_placeOfWords 16 = .ok (.if_icmp .ge 12, 3) := by decide +kernel
theorem d_Picture_placeOfWords_19 : decode c_Picture_placeOfWords 19 = .ok (.aload_n 0, 1) := by decide +kernel
theorem d_Picture_placeOfWords_20 : decode c_Picture_placeOfWords 20 = .ok (.getfield 28, 3) := by decide +kernel
theorem d_Picture_placeOfWords_23 : decode c_Picture_placeOfWords 23 = .ok (.iload_n 2, 1) := by decide +kernel
theorem d_Picture_placeOfWords_24 : decode c_Picture_placeOfWords 24 = .ok (.iaload, 1) := by decide +kernel
theorem d_Picture_placeOfWords_25 : decode c_Picture_placeOfWords 25 = .ok (.goto 4, 3) := by decide +kernel
theorem d_Picture_placeOfWords_28 : decode c_Picture_placeOfWords 28 = .ok (.iconst (-1), 1) := by decide +kernel
theorem d_Picture_placeOfWords_29 : decode c_Picture_placeOfWords 29 = .ok (.ireturn, 1) := by decide +kernel
theorem d_Parser_noteSent_0 : decode c_Parser_noteSent 0 = .ok (.iconst 0, 1) := by decide +kernel
theorem d_Parser_noteSent_1 : decode c_Parser_noteSent 1 = .ok (.istore_n 1, 1) := by decide +kernel
theorem d_Parser_noteSent_2 : decode c_Parser_noteSent 2 = .ok (.iload_n 1, 1) := by decide +kernel
theorem d_Parser_noteSent_3 : decode c_Parser_noteSent 3 = .ok (.aload_n 0, 1) := by decide +kernel
theorem d_Parser_noteSent_4 : decode c_Parser_noteSent 4 = .ok (.getfield 12, 3) := by decide +kernel
theorem d_Parser_noteSent_7 : decode c_Parser_noteSent 7 = .ok (.getfield 187, 3) := by decide +kernel
theorem d_Parser_noteSent_10 : decode c_Parser_noteSent 10 = .ok (.if_icmp .ge 87, 3) := by decide +kernel
theorem d_Parser_noteSent_13 : decode c_Parser_noteSent 13 = .ok (.aload_n 0, 1) := by decide +kernel
theorem d_Parser_noteSent_14 : decode c_Parser_noteSent 14 = .ok (.getfield 40, 3) := by decide +kernel
theorem d_Parser_noteSent_17 : decode c_Parser_noteSent 17 = .ok (.ifCond .ne 80, 3) := by decide +kernel
theorem d_Parser_noteSent_20 : decode c_Parser_noteSent 20 = .ok (.aload_n 0, 1) := by decide +kernel
theorem d_Parser_noteSent_21 : decode c_Parser_noteSent 21 = .ok (.getfield 12, 3) := by decide +kernel
theorem d_Parser_noteSent_24 : decode c_Parser_noteSent 24 = .ok (.iload_n 1, 1) := by decide +kernel
theorem d_Parser_noteSent_25 : decode c_Parser_noteSent 25 = .ok (.invokevirtual 223, 3) := by decide +kernel
theorem d_Parser_noteSent_28 : decode c_Parser_noteSent 28 = .ok (.bipush 64, 2) := by decide +kernel
theorem d_Parser_noteSent_30 : decode c_Parser_noteSent 30 = .ok (.imul, 1) := by decide +kernel
theorem d_Parser_noteSent_31 : decode c_Parser_noteSent 31 = .ok (.istore_n 2, 1) := by decide +kernel
theorem d_Parser_noteSent_32 : decode c_Parser_noteSent 32 = .ok (.aload_n 0, 1) := by decide +kernel
theorem d_Parser_noteSent_33 : decode c_Parser_noteSent 33 = .ok (.getfield 12, 3) := by decide +kernel
theorem d_Parser_noteSent_36 : decode c_Parser_noteSent 36 = .ok (.getfield 193, 3) := by decide +kernel
theorem d_Parser_noteSent_39 : decode c_Parser_noteSent 39 = .ok (.istore_n 3, 1) := by decide +kernel
theorem d_Parser_noteSent_40 : decode c_Parser_noteSent 40 = .ok (.iload_n 3, 1) := by decide +kernel
theorem d_Parser_noteSent_41 : decode c_Parser_noteSent 41 = .ok (.aload_n 0, 1) := by decide +kernel
theorem d_Parser_noteSent_42 : decode c_Parser_noteSent 42 = .ok (.getfield 12, 3) := by decide +kernel
theorem d_Parser_noteSent_45 : decode c_Parser_noteSent 45 = .ok (.getfield 196, 3) := by decide +kernel
theorem d_Parser_noteSent_48 : decode c_Parser_noteSent 48 = .ok (.if_icmp .gt 43, 3) := by decide +kernel
theorem d_Parser_noteSent_51 : decode c_Parser_noteSent 51 = .ok (.iload_n 2, 1) := by decide +kernel
theorem d_Parser_noteSent_52 : decode c_Parser_noteSent 52 = .ok (.iload_n 3, 1) := by decide +kernel
theorem d_Parser_noteSent_53 : decode c_Parser_noteSent 53 = .ok (.iadd, 1) := by decide +kernel
theorem d_Parser_noteSent_54 : decode c_Parser_noteSent 54 = .ok (.istore 4, 2) := by decide +kernel
theorem d_Parser_noteSent_56 : decode c_Parser_noteSent 56 = .ok (.iload 4, 2) := by decide +kernel
theorem d_Parser_noteSent_58 : decode c_Parser_noteSent 58 = .ok (.ifCond .lt 27, 3) := by decide +kernel
theorem d_Parser_noteSent_61 : decode c_Parser_noteSent 61 = .ok (.iload 4, 2) := by decide +kernel
theorem d_Parser_noteSent_63 : decode c_Parser_noteSent 63 = .ok (.aload_n 0, 1) := by decide +kernel
theorem d_Parser_noteSent_64 : decode c_Parser_noteSent 64 = .ok (.getfield 18, 3) := by decide +kernel
theorem d_Parser_noteSent_67 : decode c_Parser_noteSent 67 = .ok (.arraylength, 1) := by decide +kernel
theorem d_Parser_noteSent_68 : decode c_Parser_noteSent 68 = .ok (.if_icmp .ge 17, 3) := by decide +kernel
theorem d_Parser_noteSent_71 : decode c_Parser_noteSent 71 = .ok (.aload_n 0, 1) := by decide +kernel
theorem d_Parser_noteSent_72 : decode c_Parser_noteSent 72 = .ok (.getfield 18, 3) := by decide +kernel
theorem d_Parser_noteSent_75 : decode c_Parser_noteSent 75 = .ok (.iload 4, 2) := by decide +kernel
theorem d_Parser_noteSent_77 : decode c_Parser_noteSent 77 = .ok (.aload_n 0, 1) := by decide +kernel
theorem d_Parser_noteSent_78 : decode c_Parser_noteSent 78 = .ok (.getfield 12, 3) := by decide +kernel
theorem d_Parser_noteSent_81 : decode c_Parser_noteSent 81 = .ok (.getfield 220, 3) := by decide +kernel
theorem d_Parser_noteSent_84 : decode c_Parser_noteSent 84 = .ok (.iastore, 1) := by decide +kernel
theorem d_Parser_noteSent_85 : decode c_Parser_noteSent 85 = .ok (.iinc 3 1, 3) := by decide +kernel
theorem d_Parser_noteSent_88 : decode c_Parser_noteSent 88 = .ok (.goto (-48), 3) := by decide +kernel
theorem d_Parser_noteSent_91 : decode c_Parser_noteSent 91 = .ok (.iinc 1 1, 3) := by decide +kernel
theorem d_Parser_noteSent_94 : decode c_Parser_noteSent 94 = .ok (.goto (-92), 3) := by decide +kernel
theorem d_Parser_noteSent_97 : decode c_Parser_noteSent 97 = .ok (.return_, 1) := by decide +kernel
theorem d_Parser_skipContents_0 : decode c_Parser_skipContents 0 = .ok (.aload_n 0, 1) := by decide +kernel
theorem d_Parser_skipContents_1 : decode c_Parser_skipContents 1 = .ok (.getfield 33, 3) := by decide +kernel
theorem d_Parser_skipContents_4 : decode c_Parser_skipContents 4 = .ok (.aload_n 0, 1) := by decide +kernel
theorem d_Parser_skipContents_5 : decode c_Parser_skipContents 5 = .ok (.getfield 46, 3) := by decide +kernel
theorem d_Parser_skipContents_8 : decode c_Parser_skipContents 8 = .ok (.getfield 68, 3) := by decide +kernel
theorem d_Parser_skipContents_11 : decode c_Parser_skipContents 11 = .ok (.if_icmp .le 16, 3) := by decide +kernel
theorem d_Parser_skipContents_14 : decode c_Parser_skipContents 14 = .ok (.aload_n 0, 1) := by decide +kernel
theorem d_Parser_skipContents_15 : decode c_Parser_skipContents 15 = .ok (.iconst 1, 1) := by decide +kernel
theorem d_Parser_skipContents_16 : decode c_Parser_skipContents 16 = .ok (.aload_n 0, 1) := by decide +kernel
theorem d_Parser_skipContents_17 : decode c_Parser_skipContents 17 = .ok (.getfield 46, 3) := by decide +kernel
theorem d_Parser_skipContents_20 : decode c_Parser_skipContents 20 = .ok (.getfield 68, 3) := by decide +kernel
theorem d_Parser_skipContents_23 : decode c_Parser_skipContents 23 = .ok (.invokevirtual 77, 3) := by decide +kernel
theorem d_Parser_skipContents_26 : decode c_Parser_skipContents 26 = .ok (.pop, 1) := by decide +kernel
theorem d_Parser_skipContents_27 : decode c_Parser_skipContents 27 = .ok (.aload_n 0, 1) := by decide +kernel
theorem d_Parser_skipContents_28 : decode c_Parser_skipContents 28 = .ok (.aload_n 0, 1) := by decide +kernel
theorem d_Parser_skipContents_29 : decode c_Parser_skipContents 29 = .ok (.getfield 33, 3) := by decide +kernel
theorem d_Parser_skipContents_32 : decode c_Parser_skipContents 32 = .ok (.putfield 26, 3) := by decide +kernel
theorem d_Parser_skipContents_35 : decode c_Parser_skipContents 35 = .ok (.return_, 1) := by decide +kernel
theorem d_Parser_readData_0 : decode c_Parser_readData 0 = .ok (.aload_n 0, 1) := by decide +kernel
theorem d_Parser_readData_1 : decode c_Parser_readData 1 = .ok (.getfield 26, 3) := by decide +kernel
theorem d_Parser_readData_4 : decode c_Parser_readData 4 = .ok (.istore_n 1, 1) := by decide +kernel
theorem d_Parser_readData_5 : decode c_Parser_readData 5 = .ok (.iconst 0, 1) := by decide +kernel
theorem d_Parser_readData_6 : decode c_Parser_readData 6 = .ok (.istore_n 2, 1) := by decide +kernel
theorem d_Parser_readData_7 : decode c_Parser_readData 7 = .ok (.aload_n 0, 1) := by decide +kernel
theorem d_Parser_readData_8 : decode c_Parser_readData 8 = .ok (.getfield 40, 3) := by decide +kernel
theorem d_Parser_readData_11 : decode c_Parser_readData 11 = .ok (.ifCond .ne 128, 3) := by decide +kernel
theorem d_Parser_readData_14 : decode c_Parser_readData 14 = .ok (.aload_n 0, 1) := by decide +kernel
theorem d_Parser_readData_15 : decode c_Parser_readData 15 = .ok (.getfield 26, 3) := by decide +kernel
theorem d_Parser_readData_18 : decode c_Parser_readData 18 = .ok (.aload_n 0, 1) := by decide +kernel
theorem d_Parser_readData_19 : decode c_Parser_readData 19 = .ok (.getfield 46, 3) := by decide +kernel
theorem d_Parser_readData_22 : decode c_Parser_readData 22 = .ok (.getfield 68, 3) := by decide +kernel
theorem d_Parser_readData_25 : decode c_Parser_readData 25 = .ok (.if_icmp .ge 114, 3) := by decide +kernel
theorem d_Parser_readData_28 : decode c_Parser_readData 28 = .ok (.aload_n 0, 1) := by decide +kernel
theorem d_Parser_readData_29 : decode c_Parser_readData 29 = .ok (.getfield 46, 3) := by decide +kernel
theorem d_Parser_readData_32 : decode c_Parser_readData 32 = .ok (.aload_n 0, 1) := by decide +kernel
theorem d_Parser_readData_33 : decode c_Parser_readData 33 = .ok (.getfield 26, 3) := by decide +kernel
theorem d_Parser_readData_36 : decode c_Parser_readData 36 = .ok (.invokevirtual 73, 3) := by decide +kernel
theorem d_Parser_readData_39 : decode c_Parser_readData 39 = .ok (.sipush 255, 3) := by decide +kernel
theorem d_Parser_readData_42 : decode c_Parser_readData 42 = .ok (.if_icmp .eq 16, 3) := by decide +kernel
theorem d_Parser_readData_45 : decode c_Parser_readData 45 = .ok (.aload_n 0, 1) := by decide +kernel
theorem d_Parser_readData_46 : decode c_Parser_readData 46 = .ok (.dup, 1) := by decide +kernel
theorem d_Parser_readData_47 : decode c_Parser_readData 47 = .ok (.getfield 26, 3) := by decide +kernel
theorem d_Parser_readData_50 : decode c_Parser_readData 50 = .ok (.iconst 1, 1) := by decide +kernel
theorem d_Parser_readData_51 : decode c_Parser_readData 51 = .ok (.iadd, 1) := by decide +kernel
theorem d_Parser_readData_52 : decode c_Parser_readData 52 = .ok (.putfield 26, 3) := by decide +kernel
theorem d_Parser_readData_55 : decode c_Parser_readData 55 = .ok (.goto (-48), 3) := by decide +kernel
theorem d_Parser_readData_58 : decode c_Parser_readData 58 = .ok (.aload_n 0, 1) := by decide +kernel
theorem d_Parser_readData_59 : decode c_Parser_readData 59 = .ok (.getfield 46, 3) := by decide +kernel
theorem d_Parser_readData_62 : decode c_Parser_readData 62 = .ok (.aload_n 0, 1) := by decide +kernel
theorem d_Parser_readData_63 : decode c_Parser_readData 63 = .ok (.getfield 26, 3) := by decide +kernel
theorem d_Parser_readData_66 : decode c_Parser_readData 66 = .ok (.iconst 1, 1) := by decide +kernel
theorem d_Parser_readData_67 : decode c_Parser_readData 67 = .ok (.iadd, 1) := by decide +kernel
theorem d_Parser_readData_68 : decode c_Parser_readData 68 = .ok (.invokevirtual 73, 3) := by decide +kernel
theorem d_Parser_readData_71 : decode c_Parser_readData 71 = .ok (.istore_n 3, 1) := by decide +kernel
theorem d_Parser_readData_72 : decode c_Parser_readData 72 = .ok (.aload_n 0, 1) := by decide +kernel
theorem d_Parser_readData_73 : decode c_Parser_readData 73 = .ok (.getfield 50, 3) := by decide +kernel
theorem d_Parser_readData_76 : decode c_Parser_readData 76 = .ok (.getfield 132, 3) := by decide +kernel
theorem d_Parser_readData_79 : decode c_Parser_readData 79 = .ok (.ifCond .le 19, 3) := by decide +kernel
theorem d_Parser_readData_82 : decode c_Parser_readData 82 = .ok (.iload_n 3, 1) := by decide +kernel
theorem d_Parser_readData_83 : decode c_Parser_readData 83 = .ok (.sipush 208, 3) := by decide +kernel
theorem d_Parser_readData_86 : decode c_Parser_readData 86 = .ok (.iload_n 2, 1) := by decide +kernel
theorem d_Parser_readData_87 : decode c_Parser_readData 87 = .ok (.bipush 8, 2) := by decide +kernel
theorem d_Parser_readData_89 : decode c_Parser_readData 89 = .ok (.irem, 1) := by decide +kernel
theorem d_Parser_readData_90 : decode c_Parser_readData 90 = .ok (.iadd, 1) := by decide +kernel
theorem d_Parser_readData_91 : decode c_Parser_readData 91 = .ok (.if_icmp .ne 7, 3) := by decide +kernel
theorem d_Parser_readData_94 : decode c_Parser_readData 94 = .ok (.iconst 1, 1) := by decide +kernel
theorem d_Parser_readData_95 : decode c_Parser_readData 95 = .ok (.goto 4, 3) := by decide +kernel
theorem d_Parser_readData_98 : decode c_Parser_readData 98 = .ok (.iconst 0, 1) := by decide +kernel
theorem d_Parser_readData_99 : decode c_Parser_readData 99 = .ok (.istore 4, 2) := by decide +kernel
theorem d_Parser_readData_101 : decode c_Parser_readData 101 = .ok (.iload 4, 2) := by decide +kernel
theorem d_Parser_readData_103 : decode c_Parser_readData 103 = .ok (.ifCond .eq 6, 3) := by decide +kernel
theorem d_Parser_readData_106 : decode c_Parser_readData 106 = .ok (.iinc 2 1, 3) := by decide +kernel
theorem d_Parser_readData_109 : decode c_Parser_readData 109 = .ok (.iload_n 3, 1) := by decide +kernel
theorem d_Parser_readData_110 : decode c_Parser_readData 110 = .ok (.ifCond .eq 16, 3) := by decide +kernel
theorem d_Parser_readData_113 : decode c_Parser_readData 113 = .ok (.iload 4, 2) := by decide +kernel
theorem d_Parser_readData_115 : decode c_Parser_readData 115 = .ok (.ifCond .ne 11, 3) := by decide +kernel
theorem d_Parser_readData_118 : decode c_Parser_readData 118 = .ok (.aload_n 0, 1) := by decide +kernel
theorem d_Parser_readData_119 : decode c_Parser_readData 119 = .ok (.iload_n 1, 1) := by decide +kernel
theorem d_Parser_readData_120 : decode c_Parser_readData 120 = .ok (.iload_n 2, 1) := by decide +kernel
theorem d_Parser_readData_121 : decode c_Parser_readData 121 = .ok (.iload_n 3, 1) := by decide +kernel
theorem d_Parser_readData_122 : decode c_Parser_readData 122 = .ok (.invokevirtual 235, 3) := by decide +kernel
theorem d_Parser_readData_125 : decode c_Parser_readData 125 = .ok (.return_, 1) := by decide +kernel
theorem d_Parser_readData_126 : decode c_Parser_readData 126 = .ok (.aload_n 0, 1) := by decide +kernel
theorem d_Parser_readData_127 : decode c_Parser_readData 127 = .ok (.dup, 1) := by decide +kernel
theorem d_Parser_readData_128 : decode c_Parser_readData 128 = .ok (.getfield 26, 3) := by decide +kernel
theorem d_Parser_readData_131 : decode c_Parser_readData 131 = .ok (.iconst 2, 1) := by decide +kernel
theorem d_Parser_readData_132 : decode c_Parser_readData 132 = .ok (.iadd, 1) := by decide +kernel
theorem d_Parser_readData_133 : decode c_Parser_readData 133 = .ok (.putfield 26, 3) := by decide +kernel
theorem d_Parser_readData_136 : decode c_Parser_readData 136 = .ok (.goto (-129), 3) := by decide +kernel
theorem d_Parser_readData_139 : decode c_Parser_readData 139 = .ok (.aload_n 0, 1) := by decide +kernel
theorem d_Parser_readData_140 : decode c_Parser_readData 140 = .ok (.iconst 1, 1) := by decide +kernel
theorem d_Parser_readData_141 : decode c_Parser_readData 141 = .ok (.aload_n 0, 1) := by decide +kernel
theorem d_Parser_readData_142 : decode c_Parser_readData 142 = .ok (.getfield 46, 3) := by decide +kernel
theorem d_Parser_readData_145 : decode c_Parser_readData 145 = .ok (.getfield 68, 3) := by decide +kernel
theorem d_Parser_readData_148 : decode c_Parser_readData 148 = .ok (.invokevirtual 77, 3) := by decide +kernel
theorem d_Parser_readData_151 : decode c_Parser_readData 151 = .ok (.pop, 1) := by decide +kernel
theorem d_Parser_readData_152 : decode c_Parser_readData 152 = .ok (.return_, 1) := by decide +kernel
theorem d_Parser_endData_0 : decode c_Parser_endData 0 = .ok (.iload_n 3, 1) := by decide +kernel
theorem d_Parser_endData_1 : decode c_Parser_endData 1 = .ok (.iconst (-1), 1) := by decide +kernel
theorem d_Parser_endData_2 : decode c_Parser_endData 2 = .ok (.if_icmp .ne 16, 3) := by decide +kernel
theorem d_Parser_endData_5 : decode c_Parser_endData 5 = .ok (.aload_n 0, 1) := by decide +kernel
theorem d_Parser_endData_6 : decode c_Parser_endData 6 = .ok (.iconst 1, 1) := by decide +kernel
theorem d_Parser_endData_7 : decode c_Parser_endData 7 = .ok (.aload_n 0, 1) := by decide +kernel
theorem d_Parser_endData_8 : decode c_Parser_endData 8 = .ok (.getfield 46, 3) := by decide +kernel
theorem d_Parser_endData_11 : decode c_Parser_endData 11 = .ok (.getfield 68, 3) := by decide +kernel
theorem d_Parser_endData_14 : decode c_Parser_endData 14 = .ok (.invokevirtual 77, 3) := by decide +kernel
theorem d_Parser_endData_17 : decode c_Parser_endData 17 = .ok (.pop, 1) := by decide +kernel
theorem d_Parser_endData_18 : decode c_Parser_endData 18 = .ok (.aload_n 0, 1) := by decide +kernel
theorem d_Parser_endData_19 : decode c_Parser_endData 19 = .ok (.aload_n 0, 1) := by decide +kernel
theorem d_Parser_endData_20 : decode c_Parser_endData 20 = .ok (.getfield 50, 3) := by decide +kernel
theorem d_Parser_endData_23 : decode c_Parser_endData 23 = .ok (.invokevirtual 239, 3) := by decide +kernel
theorem d_Parser_endData_26 : decode c_Parser_endData 26 = .ok (.ifCond .ne 17, 3) := by decide +kernel
theorem d_Parser_endData_29 : decode c_Parser_endData 29 = .ok (.aload_n 0, 1) := by decide +kernel
theorem d_Parser_endData_30 : decode c_Parser_endData 30 = .ok (.getfield 50, 3) := by decide +kernel
theorem d_Parser_endData_33 : decode c_Parser_endData 33 = .ok (.getfield 141, 3) := by decide +kernel
theorem d_Parser_endData_36 : decode c_Parser_endData 36 = .ok (.ifCond .ne 7, 3) := by decide +kernel
theorem d_Parser_endData_39 : decode c_Parser_endData 39 = .ok (.iconst 1, 1) := by decide +kernel
theorem d_Parser_endData_40 : decode c_Parser_endData 40 = .ok (.goto 4, 3) := by decide +kernel
theorem d_Parser_endData_43 : decode c_Parser_endData 43 = .ok (.iconst 0, 1) := by decide +kernel
theorem d_Parser_endData_44 : decode c_Parser_endData 44 = .ok (.putfield 36, 3) := by decide +kernel
theorem d_Parser_endData_47 : decode c_Parser_endData 47 = .ok (.aload_n 0, 1) := by decide +kernel
theorem d_Parser_endData_48 : decode c_Parser_endData 48 = .ok (.getfield 50, 3) := by decide +kernel
theorem d_Parser_endData_51 : decode c_Parser_endData 51 = .ok (.aload_n 0, 1) := by decide +kernel
theorem d_Parser_endData_52 : decode c_Parser_endData 52 = .ok (.getfield 12, 3) := by decide +kernel
theorem d_Parser_endData_55 : decode c_Parser_endData 55 = .ok (.getfield 184, 3) := by decide +kernel
theorem d_Parser_endData_58 : decode c_Parser_endData 58 = .ok (.iload_n 1, 1) := by decide +kernel
theorem d_Parser_endData_59 : decode c_Parser_endData 59 = .ok (.aload_n 0, 1) := by decide +kernel
theorem d_Parser_endData_60 : decode c_Parser_endData 60 = .ok (.getfield 26, 3) := by decide +kernel
theorem d_Parser_endData_63 : decode c_Parser_endData 63 = .ok (.iload_n 1, 1) := by decide +kernel
theorem d_Parser_endData_64 : decode c_Parser_endData 64 = .ok (.isub, 1) := by decide +kernel
theorem d_Parser_endData_65 : decode c_Parser_endData 65 = .ok (.iload_n 2, 1) := by decide +kernel
theorem d_Parser_endData_66 : decode c_Parser_endData 66 = .ok (.invokevirtual 242, 3) := by decide +kernel
theorem d_Parser_endData_69 : decode c_Parser_endData 69 = .ok (.return_, 1) := by decide +kernel
theorem d_Picture_scanCount_0 : decode c_Picture_scanCount 0 = .ok (.aload_n 0, 1) := by decide +kernel
theorem d_Picture_scanCount_1 : decode c_Picture_scanCount 1 = .ok (.getfield 18, 3) := by decide +kernel
theorem d_Picture_scanCount_4 : decode c_Picture_scanCount 4 = .ok (.getfield 38, 3) := by decide +kernel
theorem d_Picture_scanCount_7 : decode c_Picture_scanCount 7 = .ok (.iconst 5, 1) := by decide +kernel
theorem d_Picture_scanCount_8 : decode c_Picture_scanCount 8 = .ok (.idiv, 1) := by decide +kernel
theorem d_Picture_scanCount_9 : decode c_Picture_scanCount 9 = .ok (.ireturn, 1) := by decide +kernel
theorem d_Picture_addScan_0 : decode c_Picture_addScan 0 = .ok (.aload_n 0, 1) := by decide +kernel
theorem d_Picture_addScan_1 : decode c_Picture_addScan 1 = .ok (.getfield 18, 3) := by decide +kernel
theorem d_Picture_addScan_4 : decode c_Picture_addScan 4 = .ok (.iload_n 1, 1) := by decide +kernel
theorem d_Picture_addScan_5 : decode c_Picture_addScan 5 = .ok (.invokevirtual 66, 3) := by decide +kernel
theorem d_Picture_addScan_8 : decode c_Picture_addScan 8 = .ok (.aload_n 0, 1) := by decide +kernel
theorem d_Picture_addScan_9 : decode c_Picture_addScan 9 = .ok (.getfield 18, 3) := by decide +kernel
theorem d_Picture_addScan_12 : decode c_Picture_addScan 12 = .ok (.iload_n 2, 1) := by decide +kernel
theorem d_Picture_addScan_13 : decode c_Picture_addScan 13 = .ok (.invokevirtual 66, 3) := by decide +kernel
theorem d_Picture_addScan_16 : decode c_Picture_addScan 16 = .ok (.aload_n 0, 1) := by decide +kernel
theorem d_Picture_addScan_17 : decode c_Picture_addScan 17 = .ok (.getfield 18, 3) := by decide +kernel
theorem d_Picture_addScan_20 : decode c_Picture_addScan 20 = .ok (.iload_n 3, 1) := by decide +kernel
theorem d_Picture_addScan_21 : decode c_Picture_addScan 21 = .ok (.invokevirtual 66, 3) := by decide +kernel
theorem d_Picture_addScan_24 : decode c_Picture_addScan 24 = .ok (.aload_n 0, 1) := by decide +kernel
theorem d_Picture_addScan_25 : decode c_Picture_addScan 25 = .ok (.getfield 18, 3) := by decide +kernel
theorem d_Picture_addScan_28 : decode c_Picture_addScan 28 = .ok (.iload 4, 2) := by decide +kernel
theorem d_Picture_addScan_30 : decode c_Picture_addScan 30 = .ok (.invokevirtual 66, 3) := by decide +kernel
theorem d_Picture_addScan_33 : decode c_Picture_addScan 33 = .ok (.aload_n 0, 1) := by decide +kernel
theorem d_Picture_addScan_34 : decode c_Picture_addScan 34 = .ok (.getfield 18, 3) := by decide +kernel
theorem d_Picture_addScan_37 : decode c_Picture_addScan 37 = .ok (.aload_n 0, 1) := by decide +kernel
theorem d_Picture_addScan_38 : decode c_Picture_addScan 38 = .ok (.getfield 60, 3) := by decide +kernel
theorem d_Picture_addScan_41 : decode c_Picture_addScan 41 = .ok (.invokevirtual 66, 3) := by decide +kernel
theorem d_Picture_addScan_44 : decode c_Picture_addScan 44 = .ok (.return_, 1) := by decide +kernel
theorem d_Parser_finish_0 : decode c_Parser_finish 0 = .ok (.aload_n 0, 1) := by decide +kernel
theorem d_Parser_finish_1 : decode c_Parser_finish 1 = .ok (.getfield 40, 3) := by decide +kernel
theorem d_Parser_finish_4 : decode c_Parser_finish 4 = .ok (.ifCond .eq 10, 3) := by decide +kernel
theorem d_Parser_finish_7 : decode c_Parser_finish 7 = .ok (.aload_n 0, 1) := by decide +kernel
theorem d_Parser_finish_8 : decode c_Parser_finish 8 = .ok (.getfield 50, 3) := by decide +kernel
theorem d_Parser_finish_11 : decode c_Parser_finish 11 = .ok (.invokevirtual 54, 3) := by decide +kernel
theorem d_Parser_finish_14 : decode c_Parser_finish 14 = .ok (.aload_n 0, 1) := by decide +kernel
theorem d_Parser_finish_15 : decode c_Parser_finish 15 = .ok (.getfield 40, 3) := by decide +kernel
theorem d_Parser_finish_18 : decode c_Parser_finish 18 = .ok (.ireturn, 1) := by decide +kernel
theorem d_Reader_segment_0 : decode c_Reader_segment 0 = .ok (.aload_n 0, 1) := by decide +kernel
theorem d_Reader_segment_1 : decode c_Reader_segment 1 = .ok (.getfield 21, 3) := by decide +kernel
theorem d_Reader_segment_4 : decode c_Reader_segment 4 = .ok (.iload_n 1, 1) := by decide +kernel
theorem d_Reader_segment_5 : decode c_Reader_segment 5 = .ok (.iload_n 2, 1) := by decide +kernel
theorem d_Reader_segment_6 : decode c_Reader_segment 6 = .ok (.invokevirtual 59, 3) := by decide +kernel
theorem d_Reader_segment_9 : decode c_Reader_segment 9 = .ok (.ireturn, 1) := by decide +kernel
theorem d_Picture_ofSegment_0 : decode c_Picture_ofSegment 0 = .ok (.iload_n 1, 1) := by decide +kernel
theorem d_Picture_ofSegment_1 : decode c_Picture_ofSegment 1 = .ok (.ifCond .lt 11, 3) := by decide +kernel
theorem d_Picture_ofSegment_4 : decode c_Picture_ofSegment 4 = .ok (.iload_n 1, 1) := by decide +kernel
theorem d_Picture_ofSegment_5 : decode c_Picture_ofSegment 5 = .ok (.aload_n 0, 1) := by decide +kernel
theorem d_Picture_ofSegment_6 : decode c_Picture_ofSegment 6 = .ok (.invokevirtual 70, 3) := by decide +kernel
theorem d_Picture_ofSegment_9 : decode c_Picture_ofSegment 9 = .ok (.if_icmp .lt 5, 3) := by decide +kernel
theorem d_Picture_ofSegment_12 : decode c_Picture_ofSegment 12 = .ok (.iconst (-1), 1) := by decide +kernel
theorem d_Picture_ofSegment_13 : decode c_Picture_ofSegment 13 = .ok (.ireturn, 1) := by decide +kernel
theorem d_Picture_ofSegment_14 : decode c_Picture_ofSegment 14 = .ok (.aload_n 0, 1) := by decide +kernel
theorem d_Picture_ofSegment_15 : decode c_Picture_ofSegment 15 = .ok (.getfield 12, 3) := by decide +kernel
theorem d_Picture_ofSegment_18 : decode c_Picture_ofSegment 18 = .ok (.iload_n 1, 1) := by decide +kernel
theorem d_Picture_ofSegment_19 : decode c_Picture_ofSegment 19 = .ok (.iconst 2, 1) := by decide +kernel
theorem d_Picture_ofSegment_20 : decode c_Picture_ofSegment 20 = .ok (.imul, 1) := by decide +kernel
theorem d_Picture_ofSegment_21 : decode c_Picture_ofSegment 21 = .ok (.iconst 1, 1) := by decide +kernel
theorem d_Picture_ofSegment_22 : decode c_Picture_ofSegment 22 = .ok (.iadd, 1) := by decide +kernel
theorem d_Picture_ofSegment_23 : decode c_Picture_ofSegment 23 = .ok (.invokevirtual 74, 3) := by decide +kernel
theorem d_Picture_ofSegment_26 : decode c_Picture_ofSegment 26 = .ok (.istore_n 3, 1) := by decide +kernel
theorem d_Picture_ofSegment_27 : decode c_Picture_ofSegment 27 = .ok (.iload_n 2, 1) := by decide +kernel
theorem d_Picture_ofSegment_28 : decode c_Picture_ofSegment 28 = .ok (.tableswitch 84 0 3 #[32, 43, 54, 56], 32) := by decide +kernel
theorem d_Picture_ofSegment_60 : decode c_Picture_ofSegment 60 = .ok (.aload_n 0, 1) := by decide +kernel
theorem d_Picture_ofSegment_61 : decode c_Picture_ofSegment 61 = .ok (.getfield 31, 3) := by decide +kernel
theorem d_Picture_ofSegment_64 : decode c_Picture_ofSegment 64 = .ok (.iload_n 3, 1) := by decide +kernel
theorem d_Picture_ofSegment_65 : decode c_Picture_ofSegment 65 = .ok (.iconst 3, 1) := by decide +kernel
theorem d_Picture_ofSegment_66 : decode c_Picture_ofSegment 66 = .ok (.isub, 1) := by decide +kernel
theorem d_Picture_ofSegment_67 : decode c_Picture_ofSegment 67 = .ok (.invokevirtual 78, 3) := by decide +kernel
theorem d_Picture_ofSegment_70 : decode c_Picture_ofSegment 70 = .ok (.ireturn, 1) := by decide +kernel
theorem d_Picture_ofSegment_71 : decode c_Picture_ofSegment 71 = .ok (.aload_n 0, 1) := by decide +kernel
theorem d_Picture_ofSegment_72 : decode c_Picture_ofSegment 72 = .ok (.getfield 12, 3) := by decide +kernel
theorem d_Picture_ofSegment_75 : decode c_Picture_ofSegment 75 = .ok (.iload_n 1, 1) := by decide +kernel
theorem d_Picture_ofSegment_76 : decode c_Picture_ofSegment 76 = .ok (.iconst 2, 1) := by decide +kernel
theorem d_Picture_ofSegment_77 : decode c_Picture_ofSegment 77 = .ok (.imul, 1) := by decide +kernel
theorem d_Picture_ofSegment_78 : decode c_Picture_ofSegment 78 = .ok (.invokevirtual 74, 3) := by decide +kernel
theorem d_Picture_ofSegment_81 : decode c_Picture_ofSegment 81 = .ok (.ireturn, 1) := by decide +kernel
theorem d_Picture_ofSegment_82 : decode c_Picture_ofSegment 82 = .ok (.iload_n 3, 1) := by decide +kernel
theorem d_Picture_ofSegment_83 : decode c_Picture_ofSegment 83 = .ok (.ireturn, 1) := by decide +kernel
theorem d_Picture_ofSegment_84 : decode c_Picture_ofSegment 84 = .ok (.sipush 256, 3) := by decide +kernel
theorem d_Picture_ofSegment_87 : decode c_Picture_ofSegment 87 = .ok (.aload_n 0, 1) := by decide +kernel
theorem d_Picture_ofSegment_88 : decode c_Picture_ofSegment 88 = .ok (.getfield 31, 3) := by decide +kernel
theorem d_Picture_ofSegment_91 : decode c_Picture_ofSegment 91 = .ok (.iload_n 3, 1) := by decide +kernel
theorem d_Picture_ofSegment_92 : decode c_Picture_ofSegment 92 = .ok (.iconst 2, 1) := by decide +kernel
theorem d_Picture_ofSegment_93 : decode c_Picture_ofSegment 93 = .ok (.isub, 1) := by decide +kernel
theorem d_Picture_ofSegment_94 : decode c_Picture_ofSegment 94 = .ok (.invokevirtual 78, 3) := by decide +kernel
theorem d_Picture_ofSegment_97 : decode c_Picture_ofSegment 97 = .ok (.imul, 1) := by decide +kernel
theorem d_Picture_ofSegment_98 : decode c_Picture_ofSegment 98 = .ok (.aload_n 0, 1) := by decide +kernel
theorem d_Picture_ofSegment_99 : decode c_Picture_ofSegment 99 = .ok (.getfield 31, 3) := by decide +kernel
theorem d_Picture_ofSegment_102 : decode c_Picture_ofSegment 102 = .ok (.iload_n 3, 1) := by decide +kernel
theorem d_Picture_ofSegment_103 : decode c_Picture_ofSegment 103 = .ok (.iconst 1, 1) := by decide +kernel
theorem d_Picture_ofSegment_104 : decode c_Picture_ofSegment 104 = .ok (.isub, 1) := by decide +kernel
theorem d_Picture_ofSegment_105 : decode c_Picture_ofSegment 105 = .ok (.invokevirtual 78, 3) := by decide +kernel
theorem d_Picture_ofSegment_108 : decode c_Picture_ofSegment 108 = .ok (.iadd, 1) := by decide +kernel
theorem d_Picture_ofSegment_109 : decode c_Picture_ofSegment 109 = .ok (.iconst 2, 1) := by decide +kernel
theorem d_Picture_ofSegment_110 : decode c_Picture_ofSegment 110 = .ok (.isub, 1) := by decide +kernel
theorem d_Picture_ofSegment_111 : decode c_Picture_ofSegment 111 = .ok (.ireturn, 1) := by decide +kernel
theorem d_Picture_ofSegment_112 : decode c_Picture_ofSegment 112 = .ok (.iconst (-1), 1) := by decide +kernel
theorem d_Picture_ofSegment_113 : decode c_Picture_ofSegment 113 = .ok (.ireturn, 1) := by decide +kernel
theorem d_Picture_segmentCount_0 : decode c_Picture_segmentCount 0 = .ok (.aload_n 0, 1) := by decide +kernel
theorem d_Picture_segmentCount_1 : decode c_Picture_segmentCount 1 = .ok (.getfield 12, 3) := by decide +kernel
theorem d_Picture_segmentCount_4 : decode c_Picture_segmentCount 4 = .ok (.getfield 38, 3) := by decide +kernel
theorem d_Picture_segmentCount_7 : decode c_Picture_segmentCount 7 = .ok (.iconst 2, 1) := by decide +kernel
theorem d_Picture_segmentCount_8 : decode c_Picture_segmentCount 8 = .ok (.idiv, 1) := by decide +kernel
theorem d_Picture_segmentCount_9 : decode c_Picture_segmentCount 9 = .ok (.ireturn, 1) := by decide +kernel
theorem d_Numbers_at_0 : decode c_Numbers_at 0 = .ok (.iload_n 1, 1) := by decide +kernel
theorem d_Numbers_at_1 : decode c_Numbers_at 1 = .ok (.ifCond .lt 20, 3) := by decide +kernel
theorem d_Numbers_at_4 : decode c_Numbers_at 4 = .ok (.iload_n 1, 1) := by decide +kernel
theorem d_Numbers_at_5 : decode c_Numbers_at 5 = .ok (.aload_n 0, 1) := by decide +kernel
theorem d_Numbers_at_6 : decode c_Numbers_at 6 = .ok (.getfield 15, 3) := by decide +kernel
theorem d_Numbers_at_9 : decode c_Numbers_at 9 = .ok (.if_icmp .ge 12, 3) := by decide +kernel
theorem d_Numbers_at_12 : decode c_Numbers_at 12 = .ok (.aload_n 0, 1) := by decide +kernel
theorem d_Numbers_at_13 : decode c_Numbers_at 13 = .ok (.getfield 9, 3) := by decide +kernel
theorem d_Numbers_at_16 : decode c_Numbers_at 16 = .ok (.iload_n 1, 1) := by decide +kernel
theorem d_Numbers_at_17 : decode c_Numbers_at 17 = .ok (.iaload, 1) := by decide +kernel
theorem d_Numbers_at_18 : decode c_Numbers_at 18 = .ok (.goto 4, 3) := by decide +kernel
theorem d_Numbers_at_21 : decode c_Numbers_at 21 = .ok (.iconst (-1), 1) := by decide +kernel
theorem d_Numbers_at_22 : decode c_Numbers_at 22 = .ok (.ireturn, 1) := by decide +kernel
theorem d_Reader_frame_0 : decode c_Reader_frame 0 = .ok (.aload_n 0, 1) := by decide +kernel
theorem d_Reader_frame_1 : decode c_Reader_frame 1 = .ok (.getfield 21, 3) := by decide +kernel
theorem d_Reader_frame_4 : decode c_Reader_frame 4 = .ok (.iload_n 1, 1) := by decide +kernel
theorem d_Reader_frame_5 : decode c_Reader_frame 5 = .ok (.invokevirtual 63, 3) := by decide +kernel
theorem d_Reader_frame_8 : decode c_Reader_frame 8 = .ok (.ireturn, 1) := by decide +kernel
theorem d_Picture_ofFrame_0 : decode c_Picture_ofFrame 0 = .ok (.aload_n 0, 1) := by decide +kernel
theorem d_Picture_ofFrame_1 : decode c_Picture_ofFrame 1 = .ok (.getfield 48, 3) := by decide +kernel
theorem d_Picture_ofFrame_4 : decode c_Picture_ofFrame 4 = .ok (.iconst (-1), 1) := by decide +kernel
theorem d_Picture_ofFrame_5 : decode c_Picture_ofFrame 5 = .ok (.if_icmp .ne 5, 3) := by decide +kernel
theorem d_Picture_ofFrame_8 : decode c_Picture_ofFrame 8 = .ok (.iconst (-1), 1) := by decide +kernel
theorem d_Picture_ofFrame_9 : decode c_Picture_ofFrame 9 = .ok (.ireturn, 1) := by decide +kernel
theorem d_Picture_ofFrame_10 : decode c_Picture_ofFrame 10 = .ok (.iload_n 1, 1) := by decide +kernel
theorem d_Picture_ofFrame_11 : decode c_Picture_ofFrame 11 = .ok (.tableswitch 69 0 5 #[37, 42, 47, 52, 57, 63], 37) := by decide +kernel
theorem d_Picture_ofFrame_48 : decode c_Picture_ofFrame 48 = .ok (.aload_n 0, 1) := by decide +kernel
theorem d_Picture_ofFrame_49 : decode c_Picture_ofFrame 49 = .ok (.getfield 48, 3) := by decide +kernel
theorem d_Picture_ofFrame_52 : decode c_Picture_ofFrame 52 = .ok (.ireturn, 1) := by decide +kernel
theorem d_Picture_ofFrame_53 : decode c_Picture_ofFrame 53 = .ok (.aload_n 0, 1) := by decide +kernel
theorem d_Picture_ofFrame_54 : decode c_Picture_ofFrame 54 = .ok (.getfield 51, 3) := by decide +kernel
theorem d_Picture_ofFrame_57 : decode c_Picture_ofFrame 57 = .ok (.ireturn, 1) := by decide +kernel
theorem d_Picture_ofFrame_58 : decode c_Picture_ofFrame 58 = .ok (.aload_n 0, 1) := by decide +kernel
theorem d_Picture_ofFrame_59 : decode c_Picture_ofFrame 59 = .ok (.getfield 54, 3) := by decide +kernel
theorem d_Picture_ofFrame_62 : decode c_Picture_ofFrame 62 = .ok (.ireturn, 1) := by decide +kernel
theorem d_Picture_ofFrame_63 : decode c_Picture_ofFrame 63 = .ok (.aload_n 0, 1) := by decide +kernel
theorem d_Picture_ofFrame_64 : decode c_Picture_ofFrame 64 = .ok (.getfield 57, 3) := by decide +kernel
theorem d_Picture_ofFrame_67 : decode c_Picture_ofFrame 67 = .ok (.ireturn, 1) := by decide +kernel
theorem d_Picture_ofFrame_68 : decode c_Picture_ofFrame 68 = .ok (.aload_n 0, 1) := by decide +kernel
theorem d_Picture_ofFrame_69 : decode c_Picture_ofFrame 69 = .ok (.iconst 1, 1) := by decide +kernel
theorem d_Picture_ofFrame_70 : decode c_Picture_ofFrame 70 = .ok (.invokevirtual 81, 3) := by decide +kernel
theorem d_Picture_ofFrame_73 : decode c_Picture_ofFrame 73 = .ok (.ireturn, 1) := by decide +kernel
theorem d_Picture_ofFrame_74 : decode c_Picture_ofFrame 74 = .ok (.aload_n 0, 1) := by decide +kernel
theorem d_Picture_ofFrame_75 : decode c_Picture_ofFrame 75 = .ok (.iconst 2, 1) := by decide +kernel
theorem d_Picture_ofFrame_76 : decode c_Picture_ofFrame 76 = .ok (.invokevirtual 81, 3) := by decide +kernel
theorem d_Picture_ofFrame_79 : decode c_Picture_ofFrame 79 = .ok (.ireturn, 1) := by decide +kernel
theorem d_Picture_ofFrame_80 : decode c_Picture_ofFrame 80 = .ok (.iconst (-1), 1) := by decide +kernel
theorem d_Picture_ofFrame_81 : decode c_Picture_ofFrame 81 = .ok (.ireturn, 1) := by decide +kernel
theorem d_Picture_greatest_0 : decode c_Picture_greatest 0 = .ok (.iconst 0, 1) := by decide +kernel
theorem d_Picture_greatest_1 : decode c_Picture_greatest 1 = .ok (.istore_n 2, 1) := by decide +kernel
theorem d_Picture_greatest_2 : decode c_Picture_greatest 2 = .ok (.iconst 0, 1) := by decide +kernel
theorem d_Picture_greatest_3 : decode c_Picture_greatest 3 = .ok (.istore_n 3, 1) := by decide +kernel
theorem d_Picture_greatest_4 : decode c_Picture_greatest 4 = .ok (.iload_n 3, 1) := by decide +kernel
theorem d_Picture_greatest_5 : decode c_Picture_greatest 5 = .ok (.aload_n 0, 1) := by decide +kernel
theorem d_Picture_greatest_6 : decode c_Picture_greatest 6 = .ok (.getfield 57, 3) := by decide +kernel
theorem d_Picture_greatest_9 : decode c_Picture_greatest 9 = .ok (.if_icmp .ge 20, 3) := by decide +kernel
theorem d_Picture_greatest_12 : decode c_Picture_greatest 12 = .ok (.iload_n 2, 1) := by decide +kernel
theorem d_Picture_greatest_13 : decode c_Picture_greatest 13 = .ok (.aload_n 0, 1) := by decide +kernel
theorem d_Picture_greatest_14 : decode c_Picture_greatest 14 = .ok (.iload_n 3, 1) := by decide +kernel
theorem d_Picture_greatest_15 : decode c_Picture_greatest 15 = .ok (.iload_n 1, 1) := by decide +kernel
theorem d_Picture_greatest_16 : decode c_Picture_greatest 16 = .ok (.invokevirtual 84, 3) := by decide +kernel
theorem d_Picture_greatest_19 : decode c_Picture_greatest 19 = .ok (.invokestatic 88, 3) := by decide +kernel
theorem d_Picture_greatest_22 : decode c_Picture_greatest 22 = .ok (.istore_n 2, 1) := by decide +kernel
theorem d_Picture_greatest_23 : decode c_Picture_greatest 23 = .ok (.iinc 3 1, 3) := by decide +kernel
theorem d_Picture_greatest_26 : decode c_Picture_greatest 26 = .ok (.goto (-22), 3) := by decide +kernel
theorem d_Picture_greatest_29 : decode c_Picture_greatest 29 = .ok (.iload_n 2, 1) := by decide +kernel
theorem d_Picture_greatest_30 : decode c_Picture_greatest 30 = .ok (.ireturn, 1) := by decide +kernel
theorem d_Math_max_0 : decode c_Math_max 0 = .ok (.iload_n 0, 1) := by decide +kernel
theorem d_Math_max_1 : decode c_Math_max 1 = .ok (.iload_n 1, 1) := by decide +kernel
theorem d_Math_max_2 : decode c_Math_max 2 = .ok (.if_icmp .lt 7, 3) := by decide +kernel
theorem d_Math_max_5 : decode c_Math_max 5 = .ok (.iload_n 0, 1) := by decide +kernel
theorem d_Math_max_6 : decode c_Math_max 6 = .ok (.goto 4, 3) := by decide +kernel
theorem d_Math_max_9 : decode c_Math_max 9 = .ok (.iload_n 1, 1) := by decide +kernel
theorem d_Math_max_10 : decode c_Math_max 10 = .ok (.ireturn, 1) := by decide +kernel
theorem d_Reader_component_0 : decode c_Reader_component 0 = .ok (.aload_n 0, 1) := by decide +kernel
theorem d_Reader_component_1 : decode c_Reader_component 1 = .ok (.getfield 21, 3) := by decide +kernel
theorem d_Reader_component_4 : decode c_Reader_component 4 = .ok (.iload_n 1, 1) := by decide +kernel
theorem d_Reader_component_5 : decode c_Reader_component 5 = .ok (.iload_n 2, 1) := by decide +kernel
theorem d_Reader_component_6 : decode c_Reader_component 6 = .ok (.invokevirtual 67, 3) := by decide +kernel
theorem d_Reader_component_9 : decode c_Reader_component 9 = .ok (.ireturn, 1) := by decide +kernel
theorem d_Reader_scan_0 : decode c_Reader_scan 0 = .ok (.aload_n 0, 1) := by decide +kernel
theorem d_Reader_scan_1 : decode c_Reader_scan 1 = .ok (.getfield 21, 3) := by decide +kernel
theorem d_Reader_scan_4 : decode c_Reader_scan 4 = .ok (.iload_n 1, 1) := by decide +kernel
theorem d_Reader_scan_5 : decode c_Reader_scan 5 = .ok (.iload_n 2, 1) := by decide +kernel
theorem d_Reader_scan_6 : decode c_Reader_scan 6 = .ok (.invokevirtual 70, 3) := by decide +kernel
theorem d_Reader_scan_9 : decode c_Reader_scan 9 = .ok (.ireturn, 1) := by decide +kernel
theorem d_Picture_ofScan_0 : decode c_Picture_ofScan 0 = .ok (.iload_n 1, 1) := by decide +kernel
theorem d_Picture_ofScan_1 : decode c_Picture_ofScan 1 = .ok (.ifCond .lt 11, 3) := by decide +kernel
theorem d_Picture_ofScan_4 : decode c_Picture_ofScan 4 = .ok (.iload_n 1, 1) := by decide +kernel
theorem d_Picture_ofScan_5 : decode c_Picture_ofScan 5 = .ok (.aload_n 0, 1) := by decide +kernel
theorem d_Picture_ofScan_6 : decode c_Picture_ofScan 6 = .ok (.invokevirtual 93, 3) := by decide +kernel
theorem d_Picture_ofScan_9 : decode c_Picture_ofScan 9 = .ok (.if_icmp .lt 5, 3) := by decide +kernel
theorem d_Picture_ofScan_12 : decode c_Picture_ofScan 12 = .ok (.iconst (-1), 1) := by decide +kernel
theorem d_Picture_ofScan_13 : decode c_Picture_ofScan 13 = .ok (.ireturn, 1) := by decide +kernel
theorem d_Picture_ofScan_14 : decode c_Picture_ofScan 14 = .ok (.iload_n 1, 1) := by decide +kernel
theorem d_Picture_ofScan_15 : decode c_Picture_ofScan 15 = .ok (.iconst 5, 1) := by decide +kernel
theorem d_Picture_ofScan_16 : decode c_Picture_ofScan 16 = .ok (.imul, 1) := by decide +kernel
theorem d_Picture_ofScan_17 : decode c_Picture_ofScan 17 = .ok (.istore_n 3, 1) := by decide +kernel
theorem d_Picture_ofScan_18 : decode c_Picture_ofScan 18 = .ok (.aload_n 0, 1) := by decide +kernel
theorem d_Picture_ofScan_19 : decode c_Picture_ofScan 19 = .ok (.getfield 18, 3) := by decide +kernel
theorem d_Picture_ofScan_22 : decode c_Picture_ofScan 22 = .ok (.iload_n 3, 1) := by decide +kernel
theorem d_Picture_ofScan_23 : decode c_Picture_ofScan 23 = .ok (.invokevirtual 74, 3) := by decide +kernel
theorem d_Picture_ofScan_26 : decode c_Picture_ofScan 26 = .ok (.istore 4, 2) := by decide +kernel
theorem d_Picture_ofScan_28 : decode c_Picture_ofScan 28 = .ok (.aload_n 0, 1) := by decide +kernel
theorem d_Picture_ofScan_29 : decode c_Picture_ofScan 29 = .ok (.getfield 31, 3) := by decide +kernel
theorem d_Picture_ofScan_32 : decode c_Picture_ofScan 32 = .ok (.iload 4, 2) := by decide +kernel
theorem d_Picture_ofScan_34 : decode c_Picture_ofScan 34 = .ok (.invokevirtual 78, 3) := by decide +kernel
theorem d_Picture_ofScan_37 : decode c_Picture_ofScan 37 = .ok (.istore 5, 2) := by decide +kernel
theorem d_Picture_ofScan_39 : decode c_Picture_ofScan 39 = .ok (.iload 4, 2) := by decide +kernel
theorem d_Picture_ofScan_41 : decode c_Picture_ofScan 41 = .ok (.iconst 1, 1) := by decide +kernel
theorem d_Picture_ofScan_42 : decode c_Picture_ofScan 42 = .ok (.iadd, 1) := by decide +kernel
theorem d_Picture_ofScan_43 : decode c_Picture_ofScan 43 = .ok (.iconst 2, 1) := by decide +kernel
theorem d_Picture_ofScan_44 : decode c_Picture_ofScan 44 = .ok (.iload 5, 2) := by decide +kernel
theorem d_Picture_ofScan_46 : decode c_Picture_ofScan 46 = .ok (.imul, 1) := by decide +kernel
theorem d_Picture_ofScan_47 : decode c_Picture_ofScan 47 = .ok (.iadd, 1) := by decide +kernel
theorem d_Picture_ofScan_48 : decode c_Picture_ofScan 48 = .ok (.istore 6, 2) := by decide +kernel
theorem d_Picture_ofScan_50 : decode c_Picture_ofScan 50 = .ok (.iload_n 2, 1) := by decide +kernel
theorem d_Picture_ofScan_51 : decode c_Picture_ofScan 51 = .ok (.tableswitch 147 0 8 #[49, 52, 62, 74, 88, 103, 114, 125, 136], 49) := by decide +kernel
theorem d_Picture_ofScan_100 : decode c_Picture_ofScan 100 = .ok (.iload 5, 2) := by decide +kernel
theorem d_Picture_ofScan_102 : decode c_Picture_ofScan 102 = .ok (.ireturn, 1) := by decide +kernel
