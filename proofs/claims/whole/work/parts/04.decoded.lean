theorem d_Picture_ofScan_103 : decode c_Picture_ofScan 103 = .ok (.aload_n 0, 1) := by decide +kernel
theorem d_Picture_ofScan_104 : decode c_Picture_ofScan 104 = .ok (.getfield 31, 3) := by decide +kernel
theorem d_Picture_ofScan_107 : decode c_Picture_ofScan 107 = .ok (.iload 6, 2) := by decide +kernel
theorem d_Picture_ofScan_109 : decode c_Picture_ofScan 109 = .ok (.invokevirtual 78, 3) := by decide +kernel
theorem d_Picture_ofScan_112 : decode c_Picture_ofScan 112 = .ok (.ireturn, 1) := by decide +kernel
theorem d_Picture_ofScan_113 : decode c_Picture_ofScan 113 = .ok (.aload_n 0, 1) := by decide +kernel
theorem d_Picture_ofScan_114 : decode c_Picture_ofScan 114 = .ok (.getfield 31, 3) := by decide +kernel
theorem d_Picture_ofScan_117 : decode c_Picture_ofScan 117 = .ok (.iload 6, 2) := by decide +kernel
theorem d_Picture_ofScan_119 : decode c_Picture_ofScan 119 = .ok (.iconst 1, 1) := by decide +kernel
theorem d_Picture_ofScan_120 : decode c_Picture_ofScan 120 = .ok (.iadd, 1) := by decide +kernel
theorem d_Picture_ofScan_121 : decode c_Picture_ofScan 121 = .ok (.invokevirtual 78, 3) := by decide +kernel
theorem d_Picture_ofScan_124 : decode c_Picture_ofScan 124 = .ok (.ireturn, 1) := by decide +kernel
theorem d_Picture_ofScan_125 : decode c_Picture_ofScan 125 = .ok (.aload_n 0, 1) := by decide +kernel
theorem d_Picture_ofScan_126 : decode c_Picture_ofScan 126 = .ok (.getfield 31, 3) := by decide +kernel
theorem d_Picture_ofScan_129 : decode c_Picture_ofScan 129 = .ok (.iload 6, 2) := by decide +kernel
theorem d_Picture_ofScan_131 : decode c_Picture_ofScan 131 = .ok (.iconst 2, 1) := by decide +kernel
theorem d_Picture_ofScan_132 : decode c_Picture_ofScan 132 = .ok (.iadd, 1) := by decide +kernel
theorem d_Picture_ofScan_133 : decode c_Picture_ofScan 133 = .ok (.invokevirtual 78, 3) := by decide +kernel
theorem d_Picture_ofScan_136 : decode c_Picture_ofScan 136 = .ok (.iconst 4, 1) := by decide +kernel
theorem d_Picture_ofScan_137 : decode c_Picture_ofScan 137 = .ok (.ishr, 1) := by decide +kernel
theorem d_Picture_ofScan_138 : decode c_Picture_ofScan 138 = .ok (.ireturn, 1) := by decide +kernel
theorem d_Picture_ofScan_139 : decode c_Picture_ofScan 139 = .ok (.aload_n 0, 1) := by decide +kernel
theorem d_Picture_ofScan_140 : decode c_Picture_ofScan 140 = .ok (.getfield 31, 3) := by decide +kernel
theorem d_Picture_ofScan_143 : decode c_Picture_ofScan 143 = .ok (.iload 6, 2) := by decide +kernel
theorem d_Picture_ofScan_145 : decode c_Picture_ofScan 145 = .ok (.iconst 2, 1) := by decide +kernel
theorem d_Picture_ofScan_146 : decode c_Picture_ofScan 146 = .ok (.iadd, 1) := by decide +kernel
theorem d_Picture_ofScan_147 : decode c_Picture_ofScan 147 = .ok (.invokevirtual 78, 3) := by decide +kernel
theorem d_Picture_ofScan_150 : decode c_Picture_ofScan 150 = .ok (.bipush 15, 2) := by decide +kernel
theorem d_Picture_ofScan_152 : decode c_Picture_ofScan 152 = .ok (.iand, 1) := by decide +kernel
theorem d_Picture_ofScan_153 : decode c_Picture_ofScan 153 = .ok (.ireturn, 1) := by decide +kernel
theorem d_Picture_ofScan_154 : decode c_Picture_ofScan 154 = .ok (.aload_n 0, 1) := by decide +kernel
theorem d_Picture_ofScan_155 : decode c_Picture_ofScan 155 = .ok (.getfield 18, 3) := by decide +kernel
theorem d_Picture_ofScan_158 : decode c_Picture_ofScan 158 = .ok (.iload_n 3, 1) := by decide +kernel
theorem d_Picture_ofScan_159 : decode c_Picture_ofScan 159 = .ok (.iconst 1, 1) := by decide +kernel
theorem d_Picture_ofScan_160 : decode c_Picture_ofScan 160 = .ok (.iadd, 1) := by decide +kernel
theorem d_Picture_ofScan_161 : decode c_Picture_ofScan 161 = .ok (.invokevirtual 74, 3) := by decide +kernel
theorem d_Picture_ofScan_164 : decode c_Picture_ofScan 164 = .ok (.ireturn, 1) := by decide +kernel
theorem d_Picture_ofScan_165 : decode c_Picture_ofScan 165 = .ok (.aload_n 0, 1) := by decide +kernel
theorem d_Picture_ofScan_166 : decode c_Picture_ofScan 166 = .ok (.getfield 18, 3) := by decide +kernel
theorem d_Picture_ofScan_169 : decode c_Picture_ofScan 169 = .ok (.iload_n 3, 1) := by decide +kernel
theorem d_Picture_ofScan_170 : decode c_Picture_ofScan 170 = .ok (.iconst 2, 1) := by decide +kernel
theorem d_Picture_ofScan_171 : decode c_Picture_ofScan 171 = .ok (.iadd, 1) := by decide +kernel
theorem d_Picture_ofScan_172 : decode c_Picture_ofScan 172 = .ok (.invokevirtual 74, 3) := by decide +kernel
theorem d_Picture_ofScan_175 : decode c_Picture_ofScan 175 = .ok (.ireturn, 1) := by decide +kernel
theorem d_Picture_ofScan_176 : decode c_Picture_ofScan 176 = .ok (.aload_n 0, 1) := by decide +kernel
theorem d_Picture_ofScan_177 : decode c_Picture_ofScan 177 = .ok (.getfield 18, 3) := by decide +kernel
theorem d_Picture_ofScan_180 : decode c_Picture_ofScan 180 = .ok (.iload_n 3, 1) := by decide +kernel
theorem d_Picture_ofScan_181 : decode c_Picture_ofScan 181 = .ok (.iconst 3, 1) := by decide +kernel
theorem d_Picture_ofScan_182 : decode c_Picture_ofScan 182 = .ok (.iadd, 1) := by decide +kernel
theorem d_Picture_ofScan_183 : decode c_Picture_ofScan 183 = .ok (.invokevirtual 74, 3) := by decide +kernel
theorem d_Picture_ofScan_186 : decode c_Picture_ofScan 186 = .ok (.ireturn, 1) := by decide +kernel
theorem d_Picture_ofScan_187 : decode c_Picture_ofScan 187 = .ok (.aload_n 0, 1) := by decide +kernel
theorem d_Picture_ofScan_188 : decode c_Picture_ofScan 188 = .ok (.getfield 18, 3) := by decide +kernel
theorem d_Picture_ofScan_191 : decode c_Picture_ofScan 191 = .ok (.iload_n 3, 1) := by decide +kernel
theorem d_Picture_ofScan_192 : decode c_Picture_ofScan 192 = .ok (.iconst 4, 1) := by decide +kernel
theorem d_Picture_ofScan_193 : decode c_Picture_ofScan 193 = .ok (.iadd, 1) := by decide +kernel
theorem d_Picture_ofScan_194 : decode c_Picture_ofScan 194 = .ok (.invokevirtual 74, 3) := by decide +kernel
theorem d_Picture_ofScan_197 : decode c_Picture_ofScan 197 = .ok (.ireturn, 1) := by decide +kernel
theorem d_Picture_ofScan_198 : decode c_Picture_ofScan 198 = .ok (.iload_n 2, 1) := by decide +kernel
theorem d_Picture_ofScan_199 : decode c_Picture_ofScan 199 = .ok (.bipush 16, 2) := by decide +kernel
theorem d_Picture_ofScan_201 : decode c_Picture_ofScan 201 = .ok (.if_icmp .ge 7, 3) := by decide +kernel
theorem d_Picture_ofScan_204 : decode c_Picture_ofScan 204 = .ok (.iconst (-1), 1) := by decide +kernel
theorem d_Picture_ofScan_205 : decode c_Picture_ofScan 205 = .ok (.goto 15, 3) := by decide +kernel
theorem d_Picture_ofScan_208 : decode c_Picture_ofScan 208 = .ok (.aload_n 0, 1) := by decide +kernel
theorem d_Picture_ofScan_209 : decode c_Picture_ofScan 209 = .ok (.iload 4, 2) := by decide +kernel
theorem d_Picture_ofScan_211 : decode c_Picture_ofScan 211 = .ok (.iload 5, 2) := by decide +kernel
theorem d_Picture_ofScan_213 : decode c_Picture_ofScan 213 = .ok (.iload_n 2, 1) := by decide +kernel
theorem d_Picture_ofScan_214 : decode c_Picture_ofScan 214 = .ok (.bipush 16, 2) := by decide +kernel
theorem d_Picture_ofScan_216 : decode c_Picture_ofScan 216 = .ok (.isub, 1) := by decide +kernel
theorem d_Picture_ofScan_217 : decode c_Picture_ofScan 217 = .ok (.invokevirtual 96, 3) := by decide +kernel
theorem d_Picture_ofScan_220 : decode c_Picture_ofScan 220 = .ok (.ireturn, 1) := by decide +kernel
theorem d_Picture_ofScanComponent_0 : decode c_Picture_ofScanComponent 0 = .ok (.iload_n 3, 1) := by decide +kernel
theorem d_Picture_ofScanComponent_1 : decode c_Picture_ofScanComponent 1 = .ok (.iconst 4, 1) := by decide +kernel
theorem d_Picture_ofScanComponent_2 : decode c_Picture_ofScanComponent 2 = .ok (.idiv, 1) := by decide +kernel
theorem d_Picture_ofScanComponent_3 : decode c_Picture_ofScanComponent 3 = .ok (.istore 4, 2) := by decide +kernel
theorem d_Picture_ofScanComponent_5 : decode c_Picture_ofScanComponent 5 = .ok (.iload 4, 2) := by decide +kernel
theorem d_Picture_ofScanComponent_7 : decode c_Picture_ofScanComponent 7 = .ok (.iload_n 2, 1) := by decide +kernel
theorem d_Picture_ofScanComponent_8 : decode c_Picture_ofScanComponent 8 = .ok (.if_icmp .lt 5, 3) := by decide +kernel
theorem d_Picture_ofScanComponent_11 : decode c_Picture_ofScanComponent 11 = .ok (.iconst (-1), 1) := by decide +kernel
theorem d_Picture_ofScanComponent_12 : decode c_Picture_ofScanComponent 12 = .ok (.ireturn, 1) := by decide +kernel
theorem d_Picture_ofScanComponent_13 : decode c_Picture_ofScanComponent 13 = .ok (.iload_n 1, 1) := by decide +kernel
theorem d_Picture_ofScanComponent_14 : decode c_Picture_ofScanComponent 14 = .ok (.iconst 1, 1) := by decide +kernel
theorem d_Picture_ofScanComponent_15 : decode c_Picture_ofScanComponent 15 = .ok (.iadd, 1) := by decide +kernel
theorem d_Picture_ofScanComponent_16 : decode c_Picture_ofScanComponent 16 = .ok (.iconst 2, 1) := by decide +kernel
theorem d_Picture_ofScanComponent_17 : decode c_Picture_ofScanComponent 17 = .ok (.iload 4, 2) := by decide +kernel
theorem d_Picture_ofScanComponent_19 : decode c_Picture_ofScanComponent 19 = .ok (.imul, 1) := by decide +kernel
theorem d_Picture_ofScanComponent_20 : decode c_Picture_ofScanComponent 20 = .ok (.iadd, 1) := by decide +kernel
theorem d_Picture_ofScanComponent_21 : decode c_Picture_ofScanComponent 21 = .ok (.istore 5, 2) := by decide +kernel
theorem d_Picture_ofScanComponent_23 : decode c_Picture_ofScanComponent 23 = .ok (.iload_n 3, 1) := by decide +kernel
theorem d_Picture_ofScanComponent_24 : decode c_Picture_ofScanComponent 24 = .ok (.iconst 4, 1) := by decide +kernel
theorem d_Picture_ofScanComponent_25 : decode c_Picture_ofScanComponent 25 = .ok (.irem, 1) := by decide +kernel
theorem d_Picture_ofScanComponent_26 : decode c_Picture_ofScanComponent 26 = .ok (.tableswitch 69 0 2 #[26, 40, 54], 26) := by decide +kernel
theorem d_Picture_ofScanComponent_52 : decode c_Picture_ofScanComponent 52 = .ok (.aload_n 0, 1) := by decide +kernel
theorem d_Picture_ofScanComponent_53 : decode c_Picture_ofScanComponent 53 = .ok (.aload_n 0, 1) := by decide +kernel
theorem d_Picture_ofScanComponent_54 : decode c_Picture_ofScanComponent 54 = .ok (.getfield 31, 3) := by decide +kernel
theorem d_Picture_ofScanComponent_57 : decode c_Picture_ofScanComponent 57 = .ok (.iload 5, 2) := by decide +kernel
theorem d_Picture_ofScanComponent_59 : decode c_Picture_ofScanComponent 59 = .ok (.invokevirtual 78, 3) := by decide +kernel
theorem d_Picture_ofScanComponent_62 : decode c_Picture_ofScanComponent 62 = .ok (.invokevirtual 100, 3) := by decide +kernel
theorem d_Picture_ofScanComponent_65 : decode c_Picture_ofScanComponent 65 = .ok (.ireturn, 1) := by decide +kernel
theorem d_Picture_ofScanComponent_66 : decode c_Picture_ofScanComponent 66 = .ok (.aload_n 0, 1) := by decide +kernel
theorem d_Picture_ofScanComponent_67 : decode c_Picture_ofScanComponent 67 = .ok (.getfield 31, 3) := by decide +kernel
theorem d_Picture_ofScanComponent_70 : decode c_Picture_ofScanComponent 70 = .ok (.iload 5, 2) := by decide +kernel
theorem d_Picture_ofScanComponent_72 : decode c_Picture_ofScanComponent 72 = .ok (.iconst 1, 1) := by decide +kernel
theorem d_Picture_ofScanComponent_73 : decode c_Picture_ofScanComponent 73 = .ok (.iadd, 1) := by decide +kernel
theorem d_Picture_ofScanComponent_74 : decode c_Picture_ofScanComponent 74 = .ok (.invokevirtual 78, 3) := by decide +kernel
theorem d_Picture_ofScanComponent_77 : decode c_Picture_ofScanComponent 77 = .ok (.iconst 4, 1) := by decide +kernel
theorem d_Picture_ofScanComponent_78 : decode c_Picture_ofScanComponent 78 = .ok (.ishr, 1) := by decide +kernel
theorem d_Picture_ofScanComponent_79 : decode c_Picture_ofScanComponent 79 = .ok (.ireturn, 1) := by decide +kernel
theorem d_Picture_ofScanComponent_80 : decode c_Picture_ofScanComponent 80 = .ok (.aload_n 0, 1) := by decide +kernel
theorem d_Picture_ofScanComponent_81 : decode c_Picture_ofScanComponent 81 = .ok (.getfield 31, 3) := by decide +kernel
theorem d_Picture_ofScanComponent_84 : decode c_Picture_ofScanComponent 84 = .ok (.iload 5, 2) := by decide +kernel
theorem d_Picture_ofScanComponent_86 : decode c_Picture_ofScanComponent 86 = .ok (.iconst 1, 1) := by decide +kernel
theorem d_Picture_ofScanComponent_87 : decode c_Picture_ofScanComponent 87 = .ok (.iadd, 1) := by decide +kernel
theorem d_Picture_ofScanComponent_88 : decode c_Picture_ofScanComponent 88 = .ok (.invokevirtual 78, 3) := by decide +kernel
theorem d_Picture_ofScanComponent_91 : decode c_Picture_ofScanComponent 91 = .ok (.bipush 15, 2) := by decide +kernel
theorem d_Picture_ofScanComponent_93 : decode c_Picture_ofScanComponent 93 = .ok (.iand, 1) := by decide +kernel
theorem d_Picture_ofScanComponent_94 : decode c_Picture_ofScanComponent 94 = .ok (.ireturn, 1) := by decide +kernel
theorem d_Picture_ofScanComponent_95 : decode c_Picture_ofScanComponent 95 = .ok (.iconst (-1), 1) := by decide +kernel
theorem d_Picture_ofScanComponent_96 : decode c_Picture_ofScanComponent 96 = .ok (.ireturn, 1) := by decide +kernel
theorem d_Reader_data_0 : decode c_Reader_data 0 = .ok (.aload_n 0, 1) := by decide +kernel
theorem d_Reader_data_1 : decode c_Reader_data 1 = .ok (.getfield 21, 3) := by decide +kernel
theorem d_Reader_data_4 : decode c_Reader_data 4 = .ok (.iload_n 1, 1) := by decide +kernel
theorem d_Reader_data_5 : decode c_Reader_data 5 = .ok (.iload_n 2, 1) := by decide +kernel
theorem d_Reader_data_6 : decode c_Reader_data 6 = .ok (.invokevirtual 73, 3) := by decide +kernel
theorem d_Reader_data_9 : decode c_Reader_data 9 = .ok (.ireturn, 1) := by decide +kernel
theorem d_Picture_dataByte_0 : decode c_Picture_dataByte 0 = .ok (.iload_n 1, 1) := by decide +kernel
theorem d_Picture_dataByte_1 : decode c_Picture_dataByte 1 = .ok (.ifCond .lt 15, 3) := by decide +kernel
theorem d_Picture_dataByte_4 : decode c_Picture_dataByte 4 = .ok (.iload_n 1, 1) := by decide +kernel
theorem d_Picture_dataByte_5 : decode c_Picture_dataByte 5 = .ok (.aload_n 0, 1) := by decide +kernel
theorem d_Picture_dataByte_6 : decode c_Picture_dataByte 6 = .ok (.invokevirtual 93, 3) := by decide +kernel
theorem d_Picture_dataByte_9 : decode c_Picture_dataByte 9 = .ok (.if_icmp .ge 7, 3) := by decide +kernel
theorem d_Picture_dataByte_12 : decode c_Picture_dataByte 12 = .ok (.iload_n 2, 1) := by decide +kernel
theorem d_Picture_dataByte_13 : decode c_Picture_dataByte 13 = .ok (.ifCond .ge 5, 3) := by decide +kernel
theorem d_Picture_dataByte_16 : decode c_Picture_dataByte 16 = .ok (.iconst (-1), 1) := by decide +kernel
theorem d_Picture_dataByte_17 : decode c_Picture_dataByte 17 = .ok (.ireturn, 1) := by decide +kernel
theorem d_Picture_dataByte_18 : decode c_Picture_dataByte 18 = .ok (.aload_n 0, 1) := by decide +kernel
theorem d_Picture_dataByte_19 : decode c_Picture_dataByte 19 = .ok (.getfield 18, 3) := by decide +kernel
theorem d_Picture_dataByte_22 : decode c_Picture_dataByte 22 = .ok (.iload_n 1, 1) := by decide +kernel
theorem d_Picture_dataByte_23 : decode c_Picture_dataByte 23 = .ok (.iconst 5, 1) := by decide +kernel
theorem d_Picture_dataByte_24 : decode c_Picture_dataByte 24 = .ok (.imul, 1) := by decide +kernel
theorem d_Picture_dataByte_25 : decode c_Picture_dataByte 25 = .ok (.iconst 1, 1) := by decide +kernel
theorem d_Picture_dataByte_26 : decode c_Picture_dataByte 26 = .ok (.iadd, 1) := by decide +kernel
theorem d_Picture_dataByte_27 : decode c_Picture_dataByte 27 = .ok (.invokevirtual 74, 3) := by decide +kernel
theorem d_Picture_dataByte_30 : decode c_Picture_dataByte 30 = .ok (.istore_n 3, 1) := by decide +kernel
theorem d_Picture_dataByte_31 : decode c_Picture_dataByte 31 = .ok (.iload_n 3, 1) := by decide +kernel
theorem d_Picture_dataByte_32 : decode c_Picture_dataByte 32 = .ok (.aload_n 0, 1) := by decide +kernel
theorem d_Picture_dataByte_33 : decode c_Picture_dataByte 33 = .ok (.getfield 18, 3) := by decide +kernel
theorem d_Picture_dataByte_36 : decode c_Picture_dataByte 36 = .ok (.iload_n 1, 1) := by decide +kernel
theorem d_Picture_dataByte_37 : decode c_Picture_dataByte 37 = .ok (.iconst 5, 1) := by decide +kernel
theorem d_Picture_dataByte_38 : decode c_Picture_dataByte 38 = .ok (.imul, 1) := by decide +kernel
theorem d_Picture_dataByte_39 : decode c_Picture_dataByte 39 = .ok (.iconst 2, 1) := by decide +kernel
theorem d_Picture_dataByte_40 : decode c_Picture_dataByte 40 = .ok (.iadd, 1) := by decide +kernel
theorem d_Picture_dataByte_41 : decode c_Picture_dataByte 41 = .ok (.invokevirtual 74, 3) := by decide +kernel
theorem d_Picture_dataByte_44 : decode c_Picture_dataByte 44 = .ok (.iadd, 1) := by decide +kernel
theorem d_Picture_dataByte_45 : decode c_Picture_dataByte 45 = .ok (.istore 4, 2) := by decide +kernel
theorem d_Picture_dataByte_47 : decode c_Picture_dataByte 47 = .ok (.iload_n 2, 1) := by decide +kernel
theorem d_Picture_dataByte_48 : decode c_Picture_dataByte 48 = .ok (.istore 5, 2) := by decide +kernel
theorem d_Picture_dataByte_50 : decode c_Picture_dataByte 50 = .ok (.iload_n 3, 1) := by decide +kernel
theorem d_Picture_dataByte_51 : decode c_Picture_dataByte 51 = .ok (.iload 4, 2) := by decide +kernel
theorem d_Picture_dataByte_53 : decode c_Picture_dataByte 53 = .ok (.if_icmp .ge 88, 3) := by decide +kernel
theorem d_Picture_dataByte_56 : decode c_Picture_dataByte 56 = .ok (.aload_n 0, 1) := by decide +kernel
theorem d_Picture_dataByte_57 : decode c_Picture_dataByte 57 = .ok (.getfield 31, 3) := by decide +kernel
theorem d_Picture_dataByte_60 : decode c_Picture_dataByte 60 = .ok (.iload_n 3, 1) := by decide +kernel
theorem d_Picture_dataByte_61 : decode c_Picture_dataByte 61 = .ok (.invokevirtual 78, 3) := by decide +kernel
theorem d_Picture_dataByte_64 : decode c_Picture_dataByte 64 = .ok (.istore 6, 2) := by decide +kernel
theorem d_Picture_dataByte_66 : decode c_Picture_dataByte 66 = .ok (.iload 6, 2) := by decide +kernel
theorem d_Picture_dataByte_68 : decode c_Picture_dataByte 68 = .ok (.sipush 255, 3) := by decide +kernel
theorem d_Picture_dataByte_71 : decode c_Picture_dataByte 71 = .ok (.if_icmp .ne 20, 3) := by decide +kernel
theorem d_Picture_dataByte_74 : decode c_Picture_dataByte 74 = .ok (.aload_n 0, 1) := by decide +kernel
theorem d_Picture_dataByte_75 : decode c_Picture_dataByte 75 = .ok (.getfield 31, 3) := by decide +kernel
theorem d_Picture_dataByte_78 : decode c_Picture_dataByte 78 = .ok (.iload_n 3, 1) := by decide +kernel
theorem d_Picture_dataByte_79 : decode c_Picture_dataByte 79 = .ok (.iconst 1, 1) := by decide +kernel
theorem d_Picture_dataByte_80 : decode c_Picture_dataByte 80 = .ok (.iadd, 1) := by decide +kernel
theorem d_Picture_dataByte_81 : decode c_Picture_dataByte 81 = .ok (.invokevirtual 78, 3) := by decide +kernel
theorem d_Picture_dataByte_84 : decode c_Picture_dataByte 84 = .ok (.ifCond .eq 7, 3) := by decide +kernel
theorem d_Picture_dataByte_87 : decode c_Picture_dataByte 87 = .ok (.iconst 1, 1) := by decide +kernel
theorem d_Picture_dataByte_88 : decode c_Picture_dataByte 88 = .ok (.goto 4, 3) := by decide +kernel
theorem d_Picture_dataByte_91 : decode c_Picture_dataByte 91 = .ok (.iconst 0, 1) := by decide +kernel
theorem d_Picture_dataByte_92 : decode c_Picture_dataByte 92 = .ok (.istore 7, 2) := by decide +kernel
theorem d_Picture_dataByte_94 : decode c_Picture_dataByte 94 = .ok (.iload 7, 2) := by decide +kernel
theorem d_Picture_dataByte_96 : decode c_Picture_dataByte 96 = .ok (.ifCond .ne 11, 3) := by decide +kernel
theorem d_Picture_dataByte_99 : decode c_Picture_dataByte 99 = .ok (.iload 5, 2) := by decide +kernel
theorem d_Picture_dataByte_101 : decode c_Picture_dataByte 101 = .ok (.ifCond .ne 6, 3) := by decide +kernel
theorem d_Picture_dataByte_104 : decode c_Picture_dataByte 104 = .ok (.iload 6, 2) := by decide +kernel
theorem d_Picture_dataByte_106 : decode c_Picture_dataByte 106 = .ok (.ireturn, 1) := by decide +kernel
theorem d_Picture_dataByte_107 : decode c_Picture_dataByte 107 = .ok (.iload 5, 2) := by decide +kernel
theorem d_Picture_dataByte_109 : decode c_Picture_dataByte 109 = .ok (.iload 7, 2) := by decide +kernel
theorem d_Picture_dataByte_111 : decode c_Picture_dataByte 111 = .ok (.ifCond .eq 7, 3) := by decide +kernel
theorem d_Picture_dataByte_114 : decode c_Picture_dataByte 114 = .ok (.iconst 0, 1) := by decide +kernel
theorem d_Picture_dataByte_115 : decode c_Picture_dataByte 115 = .ok (.goto 4, 3) := by decide +kernel
theorem d_Picture_dataByte_118 : decode c_Picture_dataByte 118 = .ok (.iconst 1, 1) := by decide +kernel
theorem d_Picture_dataByte_119 : decode c_Picture_dataByte 119 = .ok (.isub, 1) := by decide +kernel
theorem d_Picture_dataByte_120 : decode c_Picture_dataByte 120 = .ok (.istore 5, 2) := by decide +kernel
theorem d_Picture_dataByte_122 : decode c_Picture_dataByte 122 = .ok (.iload_n 3, 1) := by decide +kernel
theorem d_Picture_dataByte_123 : decode c_Picture_dataByte 123 = .ok (.iload 6, 2) := by decide +kernel
theorem d_Picture_dataByte_125 : decode c_Picture_dataByte 125 = .ok (.sipush 255, 3) := by decide +kernel
theorem d_Picture_dataByte_128 : decode c_Picture_dataByte 128 = .ok (.if_icmp .ne 7, 3) := by decide +kernel
theorem d_Picture_dataByte_131 : decode c_Picture_dataByte 131 = .ok (.iconst 2, 1) := by decide +kernel
theorem d_Picture_dataByte_132 : decode c_Picture_dataByte 132 = .ok (.goto 4, 3) := by decide +kernel
theorem d_Picture_dataByte_135 : decode c_Picture_dataByte 135 = .ok (.iconst 1, 1) := by decide +kernel
theorem d_Picture_dataByte_136 : decode c_Picture_dataByte 136 = .ok (.iadd, 1) := by decide +kernel
theorem d_Picture_dataByte_137 : decode c_Picture_dataByte 137 = .ok (.istore_n 3, 1) := by decide +kernel
theorem d_Picture_dataByte_138 : decode c_Picture_dataByte 138 = .ok (.goto (-88), 3) := by decide +kernel
theorem d_Picture_dataByte_141 : decode c_Picture_dataByte 141 = .ok (.iconst (-1), 1) := by decide +kernel
theorem d_Picture_dataByte_142 : decode c_Picture_dataByte 142 = .ok (.ireturn, 1) := by decide +kernel
theorem d_Reader_quantiser_0 : decode c_Reader_quantiser 0 = .ok (.aload_n 0, 1) := by decide +kernel
theorem d_Reader_quantiser_1 : decode c_Reader_quantiser 1 = .ok (.getfield 21, 3) := by decide +kernel
theorem d_Reader_quantiser_4 : decode c_Reader_quantiser 4 = .ok (.iload_n 1, 1) := by decide +kernel
theorem d_Reader_quantiser_5 : decode c_Reader_quantiser 5 = .ok (.iload_n 2, 1) := by decide +kernel
theorem d_Reader_quantiser_6 : decode c_Reader_quantiser 6 = .ok (.invokevirtual 76, 3) := by decide +kernel
theorem d_Reader_quantiser_9 : decode c_Reader_quantiser 9 = .ok (.ireturn, 1) := by decide +kernel
theorem d_Picture_quantiserValue_0 : decode c_Picture_quantiserValue 0 = .ok (.aload_n 0, 1) := by decide +kernel
theorem d_Picture_quantiserValue_1 : decode c_Picture_quantiserValue 1 = .ok (.iload_n 1, 1) := by decide +kernel
theorem d_Picture_quantiserValue_2 : decode c_Picture_quantiserValue 2 = .ok (.invokevirtual 103, 3) := by decide +kernel
theorem d_Picture_quantiserValue_5 : decode c_Picture_quantiserValue 5 = .ok (.ifCond .eq 13, 3) := by decide +kernel
theorem d_Picture_quantiserValue_8 : decode c_Picture_quantiserValue 8 = .ok (.iload_n 2, 1) := by decide +kernel
theorem d_Picture_quantiserValue_9 : decode c_Picture_quantiserValue 9 = .ok (.ifCond .lt 9, 3) := by decide +kernel
theorem d_Picture_quantiserValue_12 : decode c_Picture_quantiserValue 12 = .ok (.iload_n 2, 1) := by decide +kernel
theorem d_Picture_quantiserValue_13 : decode c_Picture_quantiserValue 13 = .ok (.bipush 64, 2) := by decide +kernel
theorem d_Picture_quantiserValue_15 : decode c_Picture_quantiserValue 15 = .ok (.if_icmp .lt 5, 3) := by decide +kernel
theorem d_Picture_quantiserValue_18 : decode c_Picture_quantiserValue 18 = .ok (.iconst (-1), 1) := by decide +kernel
theorem d_Picture_quantiserValue_19 : decode c_Picture_quantiserValue 19 = .ok (.ireturn, 1) := by decide +kernel
theorem d_Picture_quantiserValue_20 : decode c_Picture_quantiserValue 20 = .ok (.aload_n 0, 1) := by decide +kernel
theorem d_Picture_quantiserValue_21 : decode c_Picture_quantiserValue 21 = .ok (.getfield 31, 3) := by decide +kernel
theorem d_Picture_quantiserValue_24 : decode c_Picture_quantiserValue 24 = .ok (.aload_n 0, 1) := by decide +kernel
theorem d_Picture_quantiserValue_25 : decode c_Picture_quantiserValue 25 = .ok (.getfield 25, 3) := by decide +kernel
theorem d_Picture_quantiserValue_28 : decode c_Picture_quantiserValue 28 = .ok (.iload_n 1, 1) := by decide +kernel
theorem d_Picture_quantiserValue_29 : decode c_Picture_quantiserValue 29 = .ok (.iaload, 1) := by decide +kernel
theorem d_Picture_quantiserValue_30 : decode c_Picture_quantiserValue 30 = .ok (.iload_n 2, 1) := by decide +kernel
theorem d_Picture_quantiserValue_31 : decode c_Picture_quantiserValue 31 = .ok (.iadd, 1) := by decide +kernel
theorem d_Picture_quantiserValue_32 : decode c_Picture_quantiserValue 32 = .ok (.invokevirtual 78, 3) := by decide +kernel
theorem d_Picture_quantiserValue_35 : decode c_Picture_quantiserValue 35 = .ok (.ireturn, 1) := by decide +kernel
theorem d_Reader_word_0 : decode c_Reader_word 0 = .ok (.aload_n 0, 1) := by decide +kernel
theorem d_Reader_word_1 : decode c_Reader_word 1 = .ok (.getfield 21, 3) := by decide +kernel
theorem d_Reader_word_4 : decode c_Reader_word 4 = .ok (.iload_n 1, 1) := by decide +kernel
theorem d_Reader_word_5 : decode c_Reader_word 5 = .ok (.iload_n 2, 1) := by decide +kernel
theorem d_Reader_word_6 : decode c_Reader_word 6 = .ok (.iload_n 3, 1) := by decide +kernel
theorem d_Reader_word_7 : decode c_Reader_word 7 = .ok (.invokevirtual 79, 3) := by decide +kernel
theorem d_Reader_word_10 : decode c_Reader_word 10 = .ok (.ireturn, 1) := by decide +kernel
theorem d_Picture_ofWords_0 : decode c_Picture_ofWords 0 = .ok (.aload_n 0, 1) := by decide +kernel
theorem d_Picture_ofWords_1 : decode c_Picture_ofWords 1 = .ok (.iload_n 1, 1) := by decide +kernel
theorem d_Picture_ofWords_2 : decode c_Picture_ofWords 2 = .ok (.invokevirtual 107, 3) := by decide +kernel
theorem d_Picture_ofWords_5 : decode c_Picture_ofWords 5 = .ok (.istore 4, 2) := by decide +kernel
theorem d_Picture_ofWords_7 : decode c_Picture_ofWords 7 = .ok (.iload 4, 2) := by decide +kernel
theorem d_Picture_ofWords_9 : decode c_Picture_ofWords 9 = .ok (.iconst (-1), 1) := by decide +kernel
theorem d_Picture_ofWords_10 : decode c_Picture_ofWords 10 = .ok (.if_icmp .ne 5, 3) := by decide +kernel
theorem d_Picture_ofWords_13 : decode c_Picture_ofWords 13 = .ok (.iconst (-1), 1) := by decide +kernel
theorem d_Picture_ofWords_14 : decode c_Picture_ofWords 14 = .ok (.ireturn, 1) := by decide +kernel
theorem d_Picture_ofWords_15 : decode c_Picture_ofWords 15 = .ok (.iload_n 2, 1) := by decide +kernel
theorem d_Picture_ofWords_16 : decode c_Picture_ofWords 16 = .ok (.ifCond .ne 28, 3) := by decide +kernel
theorem d_Picture_ofWords_19 : decode c_Picture_ofWords 19 = .ok (.iload_n 3, 1) := by decide +kernel
theorem d_Picture_ofWords_20 : decode c_Picture_ofWords 20 = .ok (.iconst 1, 1) := by decide +kernel
theorem d_Picture_ofWords_21 : decode c_Picture_ofWords 21 = .ok (.if_icmp .lt 23, 3) := by decide +kernel
theorem d_Picture_ofWords_24 : decode c_Picture_ofWords 24 = .ok (.iload_n 3, 1) := by decide +kernel
theorem d_Picture_ofWords_25 : decode c_Picture_ofWords 25 = .ok (.bipush 16, 2) := by decide +kernel
theorem d_Picture_ofWords_27 : decode c_Picture_ofWords 27 = .ok (.if_icmp .gt 17, 3) := by decide +kernel
theorem d_Picture_ofWords_30 : decode c_Picture_ofWords 30 = .ok (.aload_n 0, 1) := by decide +kernel
theorem d_Picture_ofWords_31 : decode c_Picture_ofWords 31 = .ok (.getfield 31, 3) := by decide +kernel
theorem d_Picture_ofWords_34 : decode c_Picture_ofWords 34 = .ok (.iload 4, 2) := by decide +kernel
theorem d_Picture_ofWords_36 : decode c_Picture_ofWords 36 = .ok (.iload_n 3, 1) := by decide +kernel
theorem d_Picture_ofWords_37 : decode c_Picture_ofWords 37 = .ok (.iadd, 1) := by decide +kernel
theorem d_Picture_ofWords_38 : decode c_Picture_ofWords 38 = .ok (.iconst 1, 1) := by decide +kernel
theorem d_Picture_ofWords_39 : decode c_Picture_ofWords 39 = .ok (.isub, 1) := by decide +kernel
theorem d_Picture_ofWords_40 : decode c_Picture_ofWords 40 = .ok (.invokevirtual 78, 3) := by decide +kernel
theorem d_Picture_ofWords_43 : decode c_Picture_ofWords 43 = .ok (.ireturn, 1) := by decide +kernel
theorem d_Picture_ofWords_44 : decode c_Picture_ofWords 44 = .ok (.iload_n 2, 1) := by decide +kernel
theorem d_Picture_ofWords_45 : decode c_Picture_ofWords 45 = .ok (.iconst 1, 1) := by decide +kernel
theorem d_Picture_ofWords_46 : decode c_Picture_ofWords 46 = .ok (.if_icmp .ne 32, 3) := by decide +kernel
theorem d_Picture_ofWords_49 : decode c_Picture_ofWords 49 = .ok (.iload_n 3, 1) := by decide +kernel
theorem d_Picture_ofWords_50 : decode c_Picture_ofWords 50 = .ok (.ifCond .lt 28, 3) := by decide +kernel
theorem d_Picture_ofWords_53 : decode c_Picture_ofWords 53 = .ok (.iload_n 3, 1) := by decide +kernel
theorem d_Picture_ofWords_54 : decode c_Picture_ofWords 54 = .ok (.aload_n 0, 1) := by decide +kernel
theorem d_Picture_ofWords_55 : decode c_Picture_ofWords 55 = .ok (.iload 4, 2) := by decide +kernel
theorem d_Picture_ofWords_57 : decode c_Picture_ofWords 57 = .ok (.invokevirtual 110, 3) := by decide +kernel
theorem d_Picture_ofWords_60 : decode c_Picture_ofWords 60 = .ok (.if_icmp .ge 18, 3) := by decide +kernel
theorem d_Picture_ofWords_63 : decode c_Picture_ofWords 63 = .ok (.aload_n 0, 1) := by decide +kernel
theorem d_Picture_ofWords_64 : decode c_Picture_ofWords 64 = .ok (.getfield 31, 3) := by decide +kernel
theorem d_Picture_ofWords_67 : decode c_Picture_ofWords 67 = .ok (.iload 4, 2) := by decide +kernel
theorem d_Picture_ofWords_69 : decode c_Picture_ofWords 69 = .ok (.bipush 16, 2) := by decide +kernel
theorem d_Picture_ofWords_71 : decode c_Picture_ofWords 71 = .ok (.iadd, 1) := by decide +kernel
theorem d_Picture_ofWords_72 : decode c_Picture_ofWords 72 = .ok (.iload_n 3, 1) := by decide +kernel
theorem d_Picture_ofWords_73 : decode c_Picture_ofWords 73 = .ok (.iadd, 1) := by decide +kernel
theorem d_Picture_ofWords_74 : decode c_Picture_ofWords 74 = .ok (.invokevirtual 78, 3) := by decide +kernel
theorem d_Picture_ofWords_77 : decode c_Picture_ofWords 77 = .ok (.ireturn, 1) := by decide +kernel
theorem d_Picture_ofWords_78 : decode c_Picture_ofWords 78 = .ok (.iconst (-1), 1) := by decide +kernel
theorem d_Picture_ofWords_79 : decode c_Picture_ofWords 79 = .ok (.ireturn, 1) := by decide +kernel
theorem d_Picture_wordCount_0 : decode c_Picture_wordCount 0 = .ok (.iconst 0, 1) := by decide +kernel
theorem d_Picture_wordCount_1 : decode c_Picture_wordCount 1 = .ok (.istore_n 2, 1) := by decide +kernel
theorem d_Picture_wordCount_2 : decode c_Picture_wordCount 2 = .ok (.iconst 1, 1) := by decide +kernel
theorem d_Picture_wordCount_3 : decode c_Picture_wordCount 3 = .ok (.istore_n 3, 1) := by decide +kernel
theorem d_Picture_wordCount_4 : decode c_Picture_wordCount 4 = .ok (.iload_n 3, 1) := by decide +kernel
theorem d_Picture_wordCount_5 : decode c_Picture_wordCount 5 = .ok (.bipush 16, 2) := by decide +kernel
theorem d_Picture_wordCount_7 : decode c_Picture_wordCount 7 = .ok (.if_icmp .gt 24, 3) := by decide +kernel
theorem d_Picture_wordCount_10 : decode c_Picture_wordCount 10 = .ok (.iload_n 2, 1) := by decide +kernel
theorem d_Picture_wordCount_11 : decode c_Picture_wordCount 11 = .ok (.aload_n 0, 1) := by decide +kernel
theorem d_Picture_wordCount_12 : decode c_Picture_wordCount 12 = .ok (.getfield 31, 3) := by decide +kernel
theorem d_Picture_wordCount_15 : decode c_Picture_wordCount 15 = .ok (.iload_n 1, 1) := by decide +kernel
theorem d_Picture_wordCount_16 : decode c_Picture_wordCount 16 = .ok (.iload_n 3, 1) := by decide +kernel
theorem d_Picture_wordCount_17 : decode c_Picture_wordCount 17 = .ok (.iadd, 1) := by decide +kernel
theorem d_Picture_wordCount_18 : decode c_Picture_wordCount 18 = .ok (.iconst 1, 1) := by decide +kernel
theorem d_Picture_wordCount_19 : decode c_Picture_wordCount 19 = .ok (.isub, 1) := by decide +kernel
theorem d_Picture_wordCount_20 : decode c_Picture_wordCount 20 = .ok (.invokevirtual 78, 3) := by decide +kernel
theorem d_Picture_wordCount_23 : decode c_Picture_wordCount 23 = .ok (.iadd, 1) := by decide +kernel
theorem d_Picture_wordCount_24 : decode c_Picture_wordCount 24 = .ok (.istore_n 2, 1) := by decide +kernel
theorem d_Picture_wordCount_25 : decode c_Picture_wordCount 25 = .ok (.iinc 3 1, 3) := by decide +kernel
theorem d_Picture_wordCount_28 : decode c_Picture_wordCount 28 = .ok (.goto (-24), 3) := by decide +kernel
theorem d_Picture_wordCount_31 : decode c_Picture_wordCount 31 = .ok (.iload_n 2, 1) := by decide +kernel
theorem d_Picture_wordCount_32 : decode c_Picture_wordCount 32 = .ok (.ireturn, 1) := by decide +kernel
theorem d_Reader_look_0 : decode c_Reader_look 0 = .ok (.iload_n 1, 1) := by decide +kernel
theorem d_Reader_look_1 : decode c_Reader_look 1 = .ok (.tableswitch 99 0 6 #[43, 51, 59, 67, 75, 83, 91], 43) := by decide +kernel
theorem d_Reader_look_44 : decode c_Reader_look 44 = .ok (.aload_n 0, 1) := by decide +kernel
theorem d_Reader_look_45 : decode c_Reader_look 45 = .ok (.getfield 10, 3) := by decide +kernel
theorem d_Reader_look_48 : decode c_Reader_look 48 = .ok (.getfield 34, 3) := by decide +kernel
theorem d_Reader_look_51 : decode c_Reader_look 51 = .ok (.ireturn, 1) := by decide +kernel
theorem d_Reader_look_52 : decode c_Reader_look 52 = .ok (.aload_n 0, 1) := by decide +kernel
theorem d_Reader_look_53 : decode c_Reader_look 53 = .ok (.getfield 30, 3) := by decide +kernel
theorem d_Reader_look_56 : decode c_Reader_look 56 = .ok (.getfield 83, 3) := by decide +kernel
theorem d_Reader_look_59 : decode c_Reader_look 59 = .ok (.ireturn, 1) := by decide +kernel
theorem d_Reader_look_60 : decode c_Reader_look 60 = .ok (.aload_n 0, 1) := by decide +kernel
theorem d_Reader_look_61 : decode c_Reader_look 61 = .ok (.getfield 30, 3) := by decide +kernel
theorem d_Reader_look_64 : decode c_Reader_look 64 = .ok (.getfield 86, 3) := by decide +kernel
theorem d_Reader_look_67 : decode c_Reader_look 67 = .ok (.ireturn, 1) := by decide +kernel
theorem d_Reader_look_68 : decode c_Reader_look 68 = .ok (.aload_n 0, 1) := by decide +kernel
theorem d_Reader_look_69 : decode c_Reader_look 69 = .ok (.getfield 21, 3) := by decide +kernel
theorem d_Reader_look_72 : decode c_Reader_look 72 = .ok (.invokevirtual 89, 3) := by decide +kernel
theorem d_Reader_look_75 : decode c_Reader_look 75 = .ok (.ireturn, 1) := by decide +kernel
theorem d_Reader_look_76 : decode c_Reader_look 76 = .ok (.aload_n 0, 1) := by decide +kernel
theorem d_Reader_look_77 : decode c_Reader_look 77 = .ok (.getfield 21, 3) := by decide +kernel
theorem d_Reader_look_80 : decode c_Reader_look 80 = .ok (.invokevirtual 92, 3) := by decide +kernel
theorem d_Reader_look_83 : decode c_Reader_look 83 = .ok (.ireturn, 1) := by decide +kernel
theorem d_Reader_look_84 : decode c_Reader_look 84 = .ok (.aload_n 0, 1) := by decide +kernel
theorem d_Reader_look_85 : decode c_Reader_look 85 = .ok (.getfield 21, 3) := by decide +kernel
theorem d_Reader_look_88 : decode c_Reader_look 88 = .ok (.getfield 95, 3) := by decide +kernel
theorem d_Reader_look_91 : decode c_Reader_look 91 = .ok (.ireturn, 1) := by decide +kernel
theorem d_Reader_look_92 : decode c_Reader_look 92 = .ok (.aload_n 0, 1) := by decide +kernel
theorem d_Reader_look_93 : decode c_Reader_look 93 = .ok (.getfield 21, 3) := by decide +kernel
theorem d_Reader_look_96 : decode c_Reader_look 96 = .ok (.getfield 98, 3) := by decide +kernel
theorem d_Reader_look_99 : decode c_Reader_look 99 = .ok (.ireturn, 1) := by decide +kernel
theorem d_Reader_look_100 : decode c_Reader_look 100 = .ok (.iconst (-1), 1) := by decide +kernel
theorem d_Reader_look_101 : decode c_Reader_look 101 = .ok (.ireturn, 1) := by decide +kernel
theorem d_Model_init_0 : decode c_Model_init 0 = .ok (.aload_n 0, 1) := by decide +kernel
theorem d_Model_init_1 : decode c_Model_init 1 = .ok (.invokespecial 1, 3) := by decide +kernel
theorem d_Model_init_4 : decode c_Model_init 4 = .ok (.aload_n 0, 1) := by decide +kernel
theorem d_Model_init_5 : decode c_Model_init 5 = .ok (.sipush 16384, 3) := by decide +kernel
theorem d_Model_init_8 : decode c_Model_init 8 = .ok (.newarray .byte, 2) := by decide +kernel
theorem d_Model_init_10 : decode c_Model_init 10 = .ok (.putfield 7, 3) := by decide +kernel
theorem d_Model_init_13 : decode c_Model_init 13 = .ok (.aload_n 0, 1) := by decide +kernel
theorem d_Model_init_14 : decode c_Model_init 14 = .ok (.iconst (-1), 1) := by decide +kernel
theorem d_Model_init_15 : decode c_Model_init 15 = .ok (.putfield 13, 3) := by decide +kernel
theorem d_Model_init_18 : decode c_Model_init 18 = .ok (.aload_n 0, 1) := by decide +kernel
theorem d_Model_init_19 : decode c_Model_init 19 = .ok (.sipush 16384, 3) := by decide +kernel
theorem d_Model_init_22 : decode c_Model_init 22 = .ok (.newarray .int, 2) := by decide +kernel
theorem d_Model_init_24 : decode c_Model_init 24 = .ok (.putfield 17, 3) := by decide +kernel
theorem d_Model_init_27 : decode c_Model_init 27 = .ok (.aload_n 0, 1) := by decide +kernel
theorem d_Model_init_28 : decode c_Model_init 28 = .ok (.iconst 4, 1) := by decide +kernel
theorem d_Model_init_29 : decode c_Model_init 29 = .ok (.newarray .int, 2) := by decide +kernel
theorem d_Model_init_31 : decode c_Model_init 31 = .ok (.putfield 21, 3) := by decide +kernel
theorem d_Model_init_34 : decode c_Model_init 34 = .ok (.aload_n 0, 1) := by decide +kernel
theorem d_Model_init_35 : decode c_Model_init 35 = .ok (.iconst 4, 1) := by decide +kernel
theorem d_Model_init_36 : decode c_Model_init 36 = .ok (.newarray .int, 2) := by decide +kernel
theorem d_Model_init_38 : decode c_Model_init 38 = .ok (.putfield 24, 3) := by decide +kernel
theorem d_Model_init_41 : decode c_Model_init 41 = .ok (.aload_n 0, 1) := by decide +kernel
theorem d_Model_init_42 : decode c_Model_init 42 = .ok (.iconst 4, 1) := by decide +kernel
theorem d_Model_init_43 : decode c_Model_init 43 = .ok (.newarray .int, 2) := by decide +kernel
theorem d_Model_init_45 : decode c_Model_init 45 = .ok (.putfield 27, 3) := by decide +kernel
theorem d_Model_init_48 : decode c_Model_init 48 = .ok (.aload_n 0, 1) := by decide +kernel
theorem d_Model_init_49 : decode c_Model_init 49 = .ok (.iconst 4, 1) := by decide +kernel
theorem d_Model_init_50 : decode c_Model_init 50 = .ok (.newarray .int, 2) := by decide +kernel
theorem d_Model_init_52 : decode c_Model_init 52 = .ok (.putfield 30, 3) := by decide +kernel
theorem d_Model_init_55 : decode c_Model_init 55 = .ok (.aload_n 0, 1) := by decide +kernel
theorem d_Model_init_56 : decode c_Model_init 56 = .ok (.iconst 4, 1) := by decide +kernel
theorem d_Model_init_57 : decode c_Model_init 57 = .ok (.newarray .boolean, 2) := by decide +kernel
theorem d_Model_init_59 : decode c_Model_init 59 = .ok (.putfield 33, 3) := by decide +kernel
theorem d_Model_init_62 : decode c_Model_init 62 = .ok (.aload_n 0, 1) := by decide +kernel
theorem d_Model_init_63 : decode c_Model_init 63 = .ok (.sipush 256, 3) := by decide +kernel
theorem d_Model_init_66 : decode c_Model_init 66 = .ok (.newarray .int, 2) := by decide +kernel
theorem d_Model_init_68 : decode c_Model_init 68 = .ok (.putfield 37, 3) := by decide +kernel
theorem d_Model_init_71 : decode c_Model_init 71 = .ok (.aload_n 0, 1) := by decide +kernel
theorem d_Model_init_72 : decode c_Model_init 72 = .ok (.bipush 8, 2) := by decide +kernel
theorem d_Model_init_74 : decode c_Model_init 74 = .ok (.newarray .boolean, 2) := by decide +kernel
theorem d_Model_init_76 : decode c_Model_init 76 = .ok (.putfield 40, 3) := by decide +kernel
theorem d_Model_init_79 : decode c_Model_init 79 = .ok (.aload_n 0, 1) := by decide +kernel
theorem d_Model_init_80 : decode c_Model_init 80 = .ok (.sipush 136, 3) := by decide +kernel
theorem d_Model_init_83 : decode c_Model_init 83 = .ok (.newarray .int, 2) := by decide +kernel
theorem d_Model_init_85 : decode c_Model_init 85 = .ok (.putfield 43, 3) := by decide +kernel
theorem d_Model_init_88 : decode c_Model_init 88 = .ok (.aload_n 0, 1) := by decide +kernel
theorem d_Model_init_89 : decode c_Model_init 89 = .ok (.sipush 2048, 3) := by decide +kernel
theorem d_Model_init_92 : decode c_Model_init 92 = .ok (.newarray .int, 2) := by decide +kernel
theorem d_Model_init_94 : decode c_Model_init 94 = .ok (.putfield 46, 3) := by decide +kernel
theorem d_Model_init_97 : decode c_Model_init 97 = .ok (.aload_n 0, 1) := by decide +kernel
theorem d_Model_init_98 : decode c_Model_init 98 = .ok (.bipush 8, 2) := by decide +kernel
theorem d_Model_init_100 : decode c_Model_init 100 = .ok (.newarray .int, 2) := by decide +kernel
theorem d_Model_init_102 : decode c_Model_init 102 = .ok (.putfield 49, 3) := by decide +kernel
theorem d_Model_init_105 : decode c_Model_init 105 = .ok (.aload_n 0, 1) := by decide +kernel
theorem d_Model_init_106 : decode c_Model_init 106 = .ok (.ldc 52, 2) := by decide +kernel
theorem d_Model_init_108 : decode c_Model_init 108 = .ok (.newarray .int, 2) := by decide +kernel
theorem d_Model_init_110 : decode c_Model_init 110 = .ok (.putfield 53, 3) := by decide +kernel
theorem d_Model_init_113 : decode c_Model_init 113 = .ok (.aload_n 0, 1) := by decide +kernel
theorem d_Model_init_114 : decode c_Model_init 114 = .ok (.sipush 256, 3) := by decide +kernel
theorem d_Model_init_117 : decode c_Model_init 117 = .ok (.newarray .int, 2) := by decide +kernel
theorem d_Model_init_119 : decode c_Model_init 119 = .ok (.putfield 56, 3) := by decide +kernel
theorem d_Model_init_122 : decode c_Model_init 122 = .ok (.aload_n 0, 1) := by decide +kernel
theorem d_Model_init_123 : decode c_Model_init 123 = .ok (.iconst 4, 1) := by decide +kernel
theorem d_Model_init_124 : decode c_Model_init 124 = .ok (.newarray .int, 2) := by decide +kernel
theorem d_Model_init_126 : decode c_Model_init 126 = .ok (.putfield 59, 3) := by decide +kernel
theorem d_Model_init_129 : decode c_Model_init 129 = .ok (.aload_n 0, 1) := by decide +kernel
theorem d_Model_init_130 : decode c_Model_init 130 = .ok (.iconst 4, 1) := by decide +kernel
theorem d_Model_init_131 : decode c_Model_init 131 = .ok (.newarray .int, 2) := by decide +kernel
theorem d_Model_init_133 : decode c_Model_init 133 = .ok (.putfield 62, 3) := by decide +kernel
theorem d_Model_init_136 : decode c_Model_init 136 = .ok (.aload_n 0, 1) := by decide +kernel
theorem d_Model_init_137 : decode c_Model_init 137 = .ok (.iconst 4, 1) := by decide +kernel
theorem d_Model_init_138 : decode c_Model_init 138 = .ok (.newarray .int, 2) := by decide +kernel
theorem d_Model_init_140 : decode c_Model_init 140 = .ok (.putfield 65, 3) := by decide +kernel
theorem d_Model_init_143 : decode c_Model_init 143 = .ok (.aload_n 0, 1) := by decide +kernel
theorem d_Model_init_144 : decode c_Model_init 144 = .ok (.iconst 4, 1) := by decide +kernel
theorem d_Model_init_145 : decode c_Model_init 145 = .ok (.newarray .int, 2) := by decide +kernel
theorem d_Model_init_147 : decode c_Model_init 147 = .ok (.putfield 68, 3) := by decide +kernel
theorem d_Model_init_150 : decode c_Model_init 150 = .ok (.aload_n 0, 1) := by decide +kernel
theorem d_Model_init_151 : decode c_Model_init 151 = .ok (.sipush 256, 3) := by decide +kernel
theorem d_Model_init_154 : decode c_Model_init 154 = .ok (.newarray .boolean, 2) := by decide +kernel
theorem d_Model_init_156 : decode c_Model_init 156 = .ok (.putfield 71, 3) := by decide +kernel
theorem d_Model_init_159 : decode c_Model_init 159 = .ok (.aload_n 0, 1) := by decide +kernel
theorem d_Model_init_160 : decode c_Model_init 160 = .ok (.invokevirtual 74, 3) := by decide +kernel
theorem d_Model_init_163 : decode c_Model_init 163 = .ok (.return_, 1) := by decide +kernel
theorem d_Model_forget_0 : decode c_Model_forget 0 = .ok (.aload_n 0, 1) := by decide +kernel
theorem d_Model_forget_1 : decode c_Model_forget 1 = .ok (.iconst (-1), 1) := by decide +kernel
theorem d_Model_forget_2 : decode c_Model_forget 2 = .ok (.putfield 80, 3) := by decide +kernel
theorem d_Model_forget_5 : decode c_Model_forget 5 = .ok (.aload_n 0, 1) := by decide +kernel
theorem d_Model_forget_6 : decode c_Model_forget 6 = .ok (.iconst 0, 1) := by decide +kernel
theorem d_Model_forget_7 : decode c_Model_forget 7 = .ok (.putfield 83, 3) := by decide +kernel
theorem d_Model_forget_10 : decode c_Model_forget 10 = .ok (.aload_n 0, 1) := by decide +kernel
theorem d_Model_forget_11 : decode c_Model_forget 11 = .ok (.iconst 0, 1) := by decide +kernel
theorem d_Model_forget_12 : decode c_Model_forget 12 = .ok (.putfield 86, 3) := by decide +kernel
theorem d_Model_forget_15 : decode c_Model_forget 15 = .ok (.aload_n 0, 1) := by decide +kernel
theorem d_Model_forget_16 : decode c_Model_forget 16 = .ok (.iconst 0, 1) := by decide +kernel
theorem d_Model_forget_17 : decode c_Model_forget 17 = .ok (.putfield 89, 3) := by decide +kernel
theorem d_Model_forget_20 : decode c_Model_forget 20 = .ok (.aload_n 0, 1) := by decide +kernel
theorem d_Model_forget_21 : decode c_Model_forget 21 = .ok (.iconst 0, 1) := by decide +kernel
theorem d_Model_forget_22 : decode c_Model_forget 22 = .ok (.putfield 92, 3) := by decide +kernel
theorem d_Model_forget_25 : decode c_Model_forget 25 = .ok (.aload_n 0, 1) := by decide +kernel
theorem d_Model_forget_26 : decode c_Model_forget 26 = .ok (.iconst 0, 1) := by decide +kernel
theorem d_Model_forget_27 : decode c_Model_forget 27 = .ok (.putfield 95, 3) := by decide +kernel
theorem d_Model_forget_30 : decode c_Model_forget 30 = .ok (.aload_n 0, 1) := by decide +kernel
theorem d_Model_forget_31 : decode c_Model_forget 31 = .ok (.iconst 0, 1) := by decide +kernel
theorem d_Model_forget_32 : decode c_Model_forget 32 = .ok (.putfield 98, 3) := by decide +kernel
theorem d_Model_forget_35 : decode c_Model_forget 35 = .ok (.aload_n 0, 1) := by decide +kernel
theorem d_Model_forget_36 : decode c_Model_forget 36 = .ok (.iconst 0, 1) := by decide +kernel
theorem d_Model_forget_37 : decode c_Model_forget 37 = .ok (.putfield 101, 3) := by decide +kernel
theorem d_Model_forget_40 : decode c_Model_forget 40 = .ok (.iconst 0, 1) := by decide +kernel
theorem d_Model_forget_41 : decode c_Model_forget 41 = .ok (.istore_n 1, 1) := by decide +kernel
theorem d_Model_forget_42 : decode c_Model_forget 42 = .ok (.iload_n 1, 1) := by decide +kernel
theorem d_Model_forget_43 : decode c_Model_forget 43 = .ok (.iconst 4, 1) := by decide +kernel
theorem d_Model_forget_44 : decode c_Model_forget 44 = .ok (.if_icmp .ge 16, 3) := by decide +kernel
theorem d_Model_forget_47 : decode c_Model_forget 47 = .ok (.aload_n 0, 1) := by decide +kernel
theorem d_Model_forget_48 : decode c_Model_forget 48 = .ok (.getfield 33, 3) := by decide +kernel
theorem d_Model_forget_51 : decode c_Model_forget 51 = .ok (.iload_n 1, 1) := by decide +kernel
theorem d_Model_forget_52 : decode c_Model_forget 52 = .ok (.iconst 0, 1) := by decide +kernel
theorem d_Model_forget_53 : decode c_Model_forget 53 = .ok (.bastore, 1) := by decide +kernel
theorem d_Model_forget_54 : decode c_Model_forget 54 = .ok (.iinc 1 1, 3) := by decide +kernel
theorem d_Model_forget_57 : decode c_Model_forget 57 = .ok (.goto (-15), 3) := by decide +kernel
theorem d_Model_forget_60 : decode c_Model_forget 60 = .ok (.iconst 0, 1) := by decide +kernel
theorem d_Model_forget_61 : decode c_Model_forget 61 = .ok (.istore_n 1, 1) := by decide +kernel
theorem d_Model_forget_62 : decode c_Model_forget 62 = .ok (.iload_n 1, 1) := by decide +kernel
theorem d_Model_forget_63 : decode c_Model_forget 63 = .ok (.bipush 8, 2) := by decide +kernel
theorem d_Model_forget_65 : decode c_Model_forget 65 = .ok (.if_icmp .ge 16, 3) := by decide +kernel
theorem d_Model_forget_68 : decode c_Model_forget 68 = .ok (.aload_n 0, 1) := by decide +kernel
theorem d_Model_forget_69 : decode c_Model_forget 69 = .ok (.getfield 40, 3) := by decide +kernel
theorem d_Model_forget_72 : decode c_Model_forget 72 = .ok (.iload_n 1, 1) := by decide +kernel
theorem d_Model_forget_73 : decode c_Model_forget 73 = .ok (.iconst 0, 1) := by decide +kernel
theorem d_Model_forget_74 : decode c_Model_forget 74 = .ok (.bastore, 1) := by decide +kernel
theorem d_Model_forget_75 : decode c_Model_forget 75 = .ok (.iinc 1 1, 3) := by decide +kernel
theorem d_Model_forget_78 : decode c_Model_forget 78 = .ok (.goto (-16), 3) := by decide +kernel
theorem d_Model_forget_81 : decode c_Model_forget 81 = .ok (.iconst 0, 1) := by decide +kernel
theorem d_Model_forget_82 : decode c_Model_forget 82 = .ok (.istore_n 1, 1) := by decide +kernel
theorem d_Model_forget_83 : decode c_Model_forget 83 = .ok (.iload_n 1, 1) := by decide +kernel
theorem d_Model_forget_84 : decode c_Model_forget 84 = .ok (.sipush 256, 3) := by decide +kernel
theorem d_Model_forget_87 : decode c_Model_forget 87 = .ok (.if_icmp .ge 16, 3) := by decide +kernel
theorem d_Model_forget_90 : decode c_Model_forget 90 = .ok (.aload_n 0, 1) := by decide +kernel
theorem d_Model_forget_91 : decode c_Model_forget 91 = .ok (.getfield 56, 3) := by decide +kernel
theorem d_Model_forget_94 : decode c_Model_forget 94 = .ok (.iload_n 1, 1) := by decide +kernel
theorem d_Model_forget_95 : decode c_Model_forget 95 = .ok (.iconst (-1), 1) := by decide +kernel
theorem d_Model_forget_96 : decode c_Model_forget 96 = .ok (.iastore, 1) := by decide +kernel
theorem d_Model_forget_97 : decode c_Model_forget 97 = .ok (.iinc 1 1, 3) := by decide +kernel
theorem d_Model_forget_100 : decode c_Model_forget 100 = .ok (.goto (-17), 3) := by decide +kernel
theorem d_Model_forget_103 : decode c_Model_forget 103 = .ok (.return_, 1) := by decide +kernel
theorem d_Model_give_0 : decode c_Model_give 0 = .ok (.aload_n 0, 1) := by decide +kernel
theorem d_Model_give_1 : decode c_Model_give 1 = .ok (.iconst 0, 1) := by decide +kernel
theorem d_Model_give_2 : decode c_Model_give 2 = .ok (.putfield 77, 3) := by decide +kernel
theorem d_Model_give_5 : decode c_Model_give 5 = .ok (.iload_n 3, 1) := by decide +kernel
theorem d_Model_give_6 : decode c_Model_give 6 = .ok (.iconst 1, 1) := by decide +kernel
theorem d_Model_give_7 : decode c_Model_give 7 = .ok (.if_icmp .lt 21, 3) := by decide +kernel
theorem d_Model_give_10 : decode c_Model_give 10 = .ok (.iload_n 3, 1) := by decide +kernel
theorem d_Model_give_11 : decode c_Model_give 11 = .ok (.bipush 8, 2) := by decide +kernel
theorem d_Model_give_13 : decode c_Model_give 13 = .ok (.if_icmp .gt 15, 3) := by decide +kernel
theorem d_Model_give_16 : decode c_Model_give 16 = .ok (.aload_n 0, 1) := by decide +kernel
theorem d_Model_give_17 : decode c_Model_give 17 = .ok (.getfield 104, 3) := by decide +kernel
theorem d_Model_give_20 : decode c_Model_give 20 = .ok (.iload_n 3, 1) := by decide +kernel
theorem d_Model_give_21 : decode c_Model_give 21 = .ok (.iadd, 1) := by decide +kernel
theorem d_Model_give_22 : decode c_Model_give 22 = .ok (.sipush 16384, 3) := by decide +kernel
theorem d_Model_give_25 : decode c_Model_give 25 = .ok (.if_icmp .le 5, 3) := by decide +kernel
theorem d_Model_give_28 : decode c_Model_give 28 = .ok (.iconst 0, 1) := by decide +kernel
theorem d_Model_give_29 : decode c_Model_give 29 = .ok (.ireturn, 1) := by decide +kernel
theorem d_Model_give_30 : decode c_Model_give 30 = .ok (.iload_n 3, 1) := by decide +kernel
theorem d_Model_give_31 : decode c_Model_give 31 = .ok (.iconst 1, 1) := by decide +kernel
theorem d_Model_give_32 : decode c_Model_give 32 = .ok (.isub, 1) := by decide +kernel
theorem d_Model_give_33 : decode c_Model_give 33 = .ok (.istore 4, 2) := by decide +kernel
theorem d_Model_give_35 : decode c_Model_give 35 = .ok (.iload 4, 2) := by decide +kernel
theorem d_Model_give_37 : decode c_Model_give 37 = .ok (.ifCond .lt 37, 3) := by decide +kernel
theorem d_Model_give_40 : decode c_Model_give 40 = .ok (.aload_n 0, 1) := by decide +kernel
theorem d_Model_give_41 : decode c_Model_give 41 = .ok (.getfield 7, 3) := by decide +kernel
theorem d_Model_give_44 : decode c_Model_give 44 = .ok (.aload_n 0, 1) := by decide +kernel
theorem d_Model_give_45 : decode c_Model_give 45 = .ok (.getfield 104, 3) := by decide +kernel
theorem d_Model_give_48 : decode c_Model_give 48 = .ok (.lload_n 1, 1) := by decide +kernel
theorem d_Model_give_49 : decode c_Model_give 49 = .ok (.bipush 8, 2) := by decide +kernel
theorem d_Model_give_51 : decode c_Model_give 51 = .ok (.iload 4, 2) := by decide +kernel
theorem d_Model_give_53 : decode c_Model_give 53 = .ok (.imul, 1) := by decide +kernel
theorem d_Model_give_54 : decode c_Model_give 54 = .ok (.lshr, 1) := by decide +kernel
theorem d_Model_give_55 : decode c_Model_give 55 = .ok (.l2i, 1) := by decide +kernel
theorem d_Model_give_56 : decode c_Model_give 56 = .ok (.i2b, 1) := by decide +kernel
theorem d_Model_give_57 : decode c_Model_give 57 = .ok (.bastore, 1) := by decide +kernel
theorem d_Model_give_58 : decode c_Model_give 58 = .ok (.aload_n 0, 1) := by decide +kernel
theorem d_Model_give_59 : decode c_Model_give 59 = .ok (.dup, 1) := by decide +kernel
theorem d_Model_give_60 : decode c_Model_give 60 = .ok (.getfield 104, 3) := by decide +kernel
theorem d_Model_give_63 : decode c_Model_give 63 = .ok (.iconst 1, 1) := by decide +kernel
theorem d_Model_give_64 : decode c_Model_give 64 = .ok (.iadd, 1) := by decide +kernel
theorem d_Model_give_65 : decode c_Model_give 65 = .ok (.putfield 104, 3) := by decide +kernel
theorem d_Model_give_68 : decode c_Model_give 68 = .ok (.iinc 4 (-1), 3) := by decide +kernel
theorem d_Model_give_71 : decode c_Model_give 71 = .ok (.goto (-36), 3) := by decide +kernel
theorem d_Model_give_74 : decode c_Model_give 74 = .ok (.aload_n 0, 1) := by decide +kernel
theorem d_Model_give_75 : decode c_Model_give 75 = .ok (.iconst 0, 1) := by decide +kernel
theorem d_Model_give_76 : decode c_Model_give 76 = .ok (.putfield 107, 3) := by decide +kernel
theorem d_Model_give_79 : decode c_Model_give 79 = .ok (.aload_n 0, 1) := by decide +kernel
theorem d_Model_give_80 : decode c_Model_give 80 = .ok (.iconst (-1), 1) := by decide +kernel
theorem d_Model_give_81 : decode c_Model_give 81 = .ok (.putfield 13, 3) := by decide +kernel
theorem d_Model_give_84 : decode c_Model_give 84 = .ok (.aload_n 0, 1) := by decide +kernel
theorem d_Model_give_85 : decode c_Model_give 85 = .ok (.invokevirtual 74, 3) := by decide +kernel
theorem d_Model_give_88 : decode c_Model_give 88 = .ok (.iconst 1, 1) := by decide +kernel
theorem d_Model_give_89 : decode c_Model_give 89 = .ok (.ireturn, 1) := by decide +kernel
theorem d_Model_wipe_0 : decode c_Model_wipe 0 = .ok (.aload_n 0, 1) := by decide +kernel
theorem d_Model_wipe_1 : decode c_Model_wipe 1 = .ok (.iconst 0, 1) := by decide +kernel
theorem d_Model_wipe_2 : decode c_Model_wipe 2 = .ok (.putfield 77, 3) := by decide +kernel
theorem d_Model_wipe_5 : decode c_Model_wipe 5 = .ok (.aload_n 0, 1) := by decide +kernel
theorem d_Model_wipe_6 : decode c_Model_wipe 6 = .ok (.iconst 0, 1) := by decide +kernel
theorem d_Model_wipe_7 : decode c_Model_wipe 7 = .ok (.putfield 104, 3) := by decide +kernel
theorem d_Model_wipe_10 : decode c_Model_wipe 10 = .ok (.aload_n 0, 1) := by decide +kernel
theorem d_Model_wipe_11 : decode c_Model_wipe 11 = .ok (.iconst 0, 1) := by decide +kernel
theorem d_Model_wipe_12 : decode c_Model_wipe 12 = .ok (.putfield 107, 3) := by decide +kernel
theorem d_Model_wipe_15 : decode c_Model_wipe 15 = .ok (.aload_n 0, 1) := by decide +kernel
theorem d_Model_wipe_16 : decode c_Model_wipe 16 = .ok (.iconst (-1), 1) := by decide +kernel
theorem d_Model_wipe_17 : decode c_Model_wipe 17 = .ok (.putfield 13, 3) := by decide +kernel
theorem d_Model_wipe_20 : decode c_Model_wipe 20 = .ok (.aload_n 0, 1) := by decide +kernel
theorem d_Model_wipe_21 : decode c_Model_wipe 21 = .ok (.invokevirtual 74, 3) := by decide +kernel
theorem d_Model_wipe_24 : decode c_Model_wipe 24 = .ok (.return_, 1) := by decide +kernel
theorem d_Model_read_0 : decode c_Model_read 0 = .ok (.aload_n 0, 1) := by decide +kernel
theorem d_Model_read_1 : decode c_Model_read 1 = .ok (.iconst 0, 1) := by decide +kernel
theorem d_Model_read_2 : decode c_Model_read 2 = .ok (.putfield 77, 3) := by decide +kernel
theorem d_Model_read_5 : decode c_Model_read 5 = .ok (.aload_n 0, 1) := by decide +kernel
theorem d_Model_read_6 : decode c_Model_read 6 = .ok (.iconst 0, 1) := by decide +kernel
theorem d_Model_read_7 : decode c_Model_read 7 = .ok (.putfield 107, 3) := by decide +kernel
theorem d_Model_read_10 : decode c_Model_read 10 = .ok (.aload_n 0, 1) := by decide +kernel
theorem d_Model_read_11 : decode c_Model_read 11 = .ok (.iconst (-1), 1) := by decide +kernel
theorem d_Model_read_12 : decode c_Model_read 12 = .ok (.putfield 13, 3) := by decide +kernel
theorem d_Model_read_15 : decode c_Model_read 15 = .ok (.aload_n 0, 1) := by decide +kernel
theorem d_Model_read_16 : decode c_Model_read 16 = .ok (.invokevirtual 74, 3) := by decide +kernel
theorem d_Model_read_19 : decode c_Model_read 19 = .ok (.aload_n 0, 1) := by decide +kernel
theorem d_Model_read_20 : decode c_Model_read 20 = .ok (.iconst 0, 1) := by decide +kernel
theorem d_Model_read_21 : decode c_Model_read 21 = .ok (.putfield 113, 3) := by decide +kernel
theorem d_Model_read_24 : decode c_Model_read 24 = .ok (.aload_n 0, 1) := by decide +kernel
theorem d_Model_read_25 : decode c_Model_read 25 = .ok (.iconst (-1), 1) := by decide +kernel
theorem d_Model_read_26 : decode c_Model_read 26 = .ok (.putfield 110, 3) := by decide +kernel
theorem d_Model_read_29 : decode c_Model_read 29 = .ok (.aload_n 0, 1) := by decide +kernel
theorem d_Model_read_30 : decode c_Model_read 30 = .ok (.invokevirtual 213, 3) := by decide +kernel
theorem d_Model_read_33 : decode c_Model_read 33 = .ok (.aload_n 0, 1) := by decide +kernel
theorem d_Model_read_34 : decode c_Model_read 34 = .ok (.getfield 107, 3) := by decide +kernel
theorem d_Model_read_37 : decode c_Model_read 37 = .ok (.ifCond .le 7, 3) := by decide +kernel
theorem d_Model_read_40 : decode c_Model_read 40 = .ok (.aload_n 0, 1) := by decide +kernel
theorem d_Model_read_41 : decode c_Model_read 41 = .ok (.invokevirtual 74, 3) := by decide +kernel
theorem d_Model_read_44 : decode c_Model_read 44 = .ok (.aload_n 0, 1) := by decide +kernel
theorem d_Model_read_45 : decode c_Model_read 45 = .ok (.getfield 107, 3) := by decide +kernel
theorem d_Model_read_48 : decode c_Model_read 48 = .ok (.ireturn, 1) := by decide +kernel
theorem d_Model_readFile_0 : decode c_Model_readFile 0 = .ok (.aload_n 0, 1) := by decide +kernel
theorem d_Model_readFile_1 : decode c_Model_readFile 1 = .ok (.invokevirtual 128, 3) := by decide +kernel
theorem d_Model_readFile_4 : decode c_Model_readFile 4 = .ok (.istore_n 1, 1) := by decide +kernel
theorem d_Model_readFile_5 : decode c_Model_readFile 5 = .ok (.aload_n 0, 1) := by decide +kernel
theorem d_Model_readFile_6 : decode c_Model_readFile 6 = .ok (.getfield 107, 3) := by decide +kernel
theorem d_Model_readFile_9 : decode c_Model_readFile 9 = .ok (.ifCond .ne 17, 3) := by decide +kernel
theorem d_Model_readFile_12 : decode c_Model_readFile 12 = .ok (.iload_n 1, 1) := by decide +kernel
theorem d_Model_readFile_13 : decode c_Model_readFile 13 = .ok (.sipush 255, 3) := by decide +kernel
theorem d_Model_readFile_16 : decode c_Model_readFile 16 = .ok (.if_icmp .eq 10, 3) := by decide +kernel
theorem d_Model_readFile_19 : decode c_Model_readFile 19 = .ok (.aload_n 0, 1) := by decide +kernel
theorem d_Model_readFile_20 : decode c_Model_readFile 20 = .ok (.iconst 2, 1) := by decide +kernel
theorem d_Model_readFile_21 : decode c_Model_readFile 21 = .ok (.iconst 0, 1) := by decide +kernel
theorem d_Model_readFile_22 : decode c_Model_readFile 22 = .ok (.invokevirtual 120, 3) := by decide +kernel
theorem d_Model_readFile_25 : decode c_Model_readFile 25 = .ok (.istore_n 2, 1) := by decide +kernel
theorem d_Model_readFile_26 : decode c_Model_readFile 26 = .ok (.aload_n 0, 1) := by decide +kernel
theorem d_Model_readFile_27 : decode c_Model_readFile 27 = .ok (.invokevirtual 128, 3) := by decide +kernel
theorem d_Model_readFile_30 : decode c_Model_readFile 30 = .ok (.istore_n 1, 1) := by decide +kernel
theorem d_Model_readFile_31 : decode c_Model_readFile 31 = .ok (.aload_n 0, 1) := by decide +kernel
theorem d_Model_readFile_32 : decode c_Model_readFile 32 = .ok (.getfield 107, 3) := by decide +kernel
theorem d_Model_readFile_35 : decode c_Model_readFile 35 = .ok (.ifCond .ne 17, 3) := by decide +kernel
theorem d_Model_readFile_38 : decode c_Model_readFile 38 = .ok (.iload_n 1, 1) := by decide +kernel
theorem d_Model_readFile_39 : decode c_Model_readFile 39 = .ok (.sipush 216, 3) := by decide +kernel
theorem d_Model_readFile_42 : decode c_Model_readFile 42 = .ok (.if_icmp .eq 10, 3) := by decide +kernel
theorem d_Model_readFile_45 : decode c_Model_readFile 45 = .ok (.aload_n 0, 1) := by decide +kernel
theorem d_Model_readFile_46 : decode c_Model_readFile 46 = .ok (.iconst 2, 1) := by decide +kernel
theorem d_Model_readFile_47 : decode c_Model_readFile 47 = .ok (.iconst 0, 1) := by decide +kernel
theorem d_Model_readFile_48 : decode c_Model_readFile 48 = .ok (.invokevirtual 120, 3) := by decide +kernel
theorem d_Model_readFile_51 : decode c_Model_readFile 51 = .ok (.istore_n 2, 1) := by decide +kernel
theorem d_Model_readFile_52 : decode c_Model_readFile 52 = .ok (.iconst 0, 1) := by decide +kernel
theorem d_Model_readFile_53 : decode c_Model_readFile 53 = .ok (.istore_n 2, 1) := by decide +kernel
theorem d_Model_readFile_54 : decode c_Model_readFile 54 = .ok (.iconst 1, 1) := by decide +kernel
theorem d_Model_readFile_55 : decode c_Model_readFile 55 = .ok (.istore_n 3, 1) := by decide +kernel
theorem d_Model_readFile_56 : decode c_Model_readFile 56 = .ok (.iload_n 3, 1) := by decide +kernel
theorem d_Model_readFile_57 : decode c_Model_readFile 57 = .ok (.ifCond .eq 219, 3) := by decide +kernel
theorem d_Model_readFile_60 : decode c_Model_readFile 60 = .ok (.aload_n 0, 1) := by decide +kernel
theorem d_Model_readFile_61 : decode c_Model_readFile 61 = .ok (.getfield 107, 3) := by decide +kernel
theorem d_Model_readFile_64 : decode c_Model_readFile 64 = .ok (.ifCond .ne 212, 3) := by decide +kernel
theorem d_Model_readFile_67 : decode c_Model_readFile 67 = .ok (.aload_n 0, 1) := by decide +kernel
theorem d_Model_readFile_68 : decode c_Model_readFile 68 = .ok (.invokevirtual 178, 3) := by decide +kernel
theorem d_Model_readFile_71 : decode c_Model_readFile 71 = .ok (.istore 4, 2) := by decide +kernel
theorem d_Model_readFile_73 : decode c_Model_readFile 73 = .ok (.aload_n 0, 1) := by decide +kernel
theorem d_Model_readFile_74 : decode c_Model_readFile 74 = .ok (.getfield 113, 3) := by decide +kernel
theorem d_Model_readFile_77 : decode c_Model_readFile 77 = .ok (.iconst 1, 1) := by decide +kernel
theorem d_Model_readFile_78 : decode c_Model_readFile 78 = .ok (.isub, 1) := by decide +kernel
theorem d_Model_readFile_79 : decode c_Model_readFile 79 = .ok (.istore 5, 2) := by decide +kernel
theorem d_Model_readFile_81 : decode c_Model_readFile 81 = .ok (.iload_n 2, 1) := by decide +kernel
theorem d_Model_readFile_82 : decode c_Model_readFile 82 = .ok (.istore 6, 2) := by decide +kernel
theorem d_Model_readFile_84 : decode c_Model_readFile 84 = .ok (.iconst 0, 1) := by decide +kernel
theorem d_Model_readFile_85 : decode c_Model_readFile 85 = .ok (.istore_n 2, 1) := by decide +kernel
theorem d_Model_readFile_86 : decode c_Model_readFile 86 = .ok (.iload 4, 2) := by decide +kernel
theorem d_Model_readFile_88 : decode c_Model_readFile 88 = .ok (.sipush 217, 3) := by decide +kernel
theorem d_Model_readFile_91 : decode c_Model_readFile 91 = .ok (.if_icmp .ne 10, 3) := by decide +kernel
theorem d_Model_readFile_94 : decode c_Model_readFile 94 = .ok (.aload_n 0, 1) := by decide +kernel
theorem d_Model_readFile_95 : decode c_Model_readFile 95 = .ok (.invokevirtual 181, 3) := by decide +kernel
theorem d_Model_readFile_98 : decode c_Model_readFile 98 = .ok (.ifCond .ne 89, 3) := by decide +kernel
theorem d_Model_readFile_101 : decode c_Model_readFile 101 = .ok (.iload 4, 2) := by decide +kernel
theorem d_Model_readFile_103 : decode c_Model_readFile 103 = .ok (.sipush 224, 3) := by decide +kernel
theorem d_Model_readFile_106 : decode c_Model_readFile 106 = .ok (.if_icmp .lt 11, 3) := by decide +kernel
theorem d_Model_readFile_109 : decode c_Model_readFile 109 = .ok (.iload 4, 2) := by decide +kernel
theorem d_Model_readFile_111 : decode c_Model_readFile 111 = .ok (.sipush 239, 3) := by decide +kernel
theorem d_Model_readFile_114 : decode c_Model_readFile 114 = .ok (.if_icmp .le 73, 3) := by decide +kernel
theorem d_Model_readFile_117 : decode c_Model_readFile 117 = .ok (.iload 4, 2) := by decide +kernel
theorem d_Model_readFile_119 : decode c_Model_readFile 119 = .ok (.sipush 254, 3) := by decide +kernel
theorem d_Model_readFile_122 : decode c_Model_readFile 122 = .ok (.if_icmp .eq 65, 3) := by decide +kernel
theorem d_Model_readFile_125 : decode c_Model_readFile 125 = .ok (.iload 4, 2) := by decide +kernel
theorem d_Model_readFile_127 : decode c_Model_readFile 127 = .ok (.sipush 219, 3) := by decide +kernel
theorem d_Model_readFile_130 : decode c_Model_readFile 130 = .ok (.if_icmp .eq 57, 3) := by decide +kernel
theorem d_Model_readFile_133 : decode c_Model_readFile 133 = .ok (.iload 4, 2) := by decide +kernel
theorem d_Model_readFile_135 : decode c_Model_readFile 135 = .ok (.sipush 196, 3) := by decide +kernel
theorem d_Model_readFile_138 : decode c_Model_readFile 138 = .ok (.if_icmp .eq 49, 3) := by decide +kernel
theorem d_Model_readFile_141 : decode c_Model_readFile 141 = .ok (.iload 4, 2) := by decide +kernel
theorem d_Model_readFile_143 : decode c_Model_readFile 143 = .ok (.sipush 221, 3) := by decide +kernel
theorem d_Model_readFile_146 : decode c_Model_readFile 146 = .ok (.if_icmp .eq 41, 3) := by decide +kernel
theorem d_Model_readFile_149 : decode c_Model_readFile 149 = .ok (.iload 4, 2) := by decide +kernel
theorem d_Model_readFile_151 : decode c_Model_readFile 151 = .ok (.sipush 192, 3) := by decide +kernel
theorem d_Model_readFile_154 : decode c_Model_readFile 154 = .ok (.if_icmp .eq 11, 3) := by decide +kernel
theorem d_Model_readFile_157 : decode c_Model_readFile 157 = .ok (.iload 4, 2) := by decide +kernel
theorem d_Model_readFile_159 : decode c_Model_readFile 159 = .ok (.sipush 194, 3) := by decide +kernel
theorem d_Model_readFile_162 : decode c_Model_readFile 162 = .ok (.if_icmp .ne 10, 3) := by decide +kernel
theorem d_Model_readFile_165 : decode c_Model_readFile 165 = .ok (.aload_n 0, 1) := by decide +kernel
theorem d_Model_readFile_166 : decode c_Model_readFile 166 = .ok (.getfield 86, 3) := by decide +kernel
theorem d_Model_readFile_169 : decode c_Model_readFile 169 = .ok (.ifCond .eq 18, 3) := by decide +kernel
theorem d_Model_readFile_172 : decode c_Model_readFile 172 = .ok (.iload 4, 2) := by decide +kernel
theorem d_Model_readFile_174 : decode c_Model_readFile 174 = .ok (.sipush 218, 3) := by decide +kernel
theorem d_Model_readFile_177 : decode c_Model_readFile 177 = .ok (.if_icmp .ne 14, 3) := by decide +kernel
theorem d_Model_readFile_180 : decode c_Model_readFile 180 = .ok (.aload_n 0, 1) := by decide +kernel
theorem d_Model_readFile_181 : decode c_Model_readFile 181 = .ok (.getfield 86, 3) := by decide +kernel
theorem d_Model_readFile_184 : decode c_Model_readFile 184 = .ok (.ifCond .le 7, 3) := by decide +kernel
theorem d_Model_readFile_187 : decode c_Model_readFile 187 = .ok (.iconst 1, 1) := by decide +kernel
theorem d_Model_readFile_188 : decode c_Model_readFile 188 = .ok (.goto 4, 3) := by decide +kernel
theorem d_Model_readFile_191 : decode c_Model_readFile 191 = .ok (.iconst 0, 1) := by decide +kernel
theorem d_Model_readFile_192 : decode c_Model_readFile 192 = .ok (.istore 7, 2) := by decide +kernel
theorem d_Model_readFile_194 : decode c_Model_readFile 194 = .ok (.aload_n 0, 1) := by decide +kernel
theorem d_Model_readFile_195 : decode c_Model_readFile 195 = .ok (.getfield 107, 3) := by decide +kernel
theorem d_Model_readFile_198 : decode c_Model_readFile 198 = .ok (.ifCond .ne 33, 3) := by decide +kernel
theorem d_Model_readFile_201 : decode c_Model_readFile 201 = .ok (.iload 6, 2) := by decide +kernel
theorem d_Model_readFile_203 : decode c_Model_readFile 203 = .ok (.ifCond .eq 14, 3) := by decide +kernel
theorem d_Model_readFile_206 : decode c_Model_readFile 206 = .ok (.iload 4, 2) := by decide +kernel
theorem d_Model_readFile_208 : decode c_Model_readFile 208 = .ok (.sipush 220, 3) := by decide +kernel
theorem d_Model_readFile_211 : decode c_Model_readFile 211 = .ok (.if_icmp .eq 20, 3) := by decide +kernel
theorem d_Model_readFile_214 : decode c_Model_readFile 214 = .ok (.goto 8, 3) := by decide +kernel
theorem d_Model_readFile_217 : decode c_Model_readFile 217 = .ok (.iload 7, 2) := by decide +kernel
theorem d_Model_readFile_219 : decode c_Model_readFile 219 = .ok (.ifCond .ne 12, 3) := by decide +kernel
theorem d_Model_readFile_222 : decode c_Model_readFile 222 = .ok (.aload_n 0, 1) := by decide +kernel
theorem d_Model_readFile_223 : decode c_Model_readFile 223 = .ok (.iconst 4, 1) := by decide +kernel
theorem d_Model_readFile_224 : decode c_Model_readFile 224 = .ok (.iload 5, 2) := by decide +kernel
theorem d_Model_readFile_226 : decode c_Model_readFile 226 = .ok (.invokevirtual 120, 3) := by decide +kernel
theorem d_Model_readFile_229 : decode c_Model_readFile 229 = .ok (.istore 8, 2) := by decide +kernel
theorem d_Model_readFile_231 : decode c_Model_readFile 231 = .ok (.aload_n 0, 1) := by decide +kernel
theorem d_Model_readFile_232 : decode c_Model_readFile 232 = .ok (.getfield 107, 3) := by decide +kernel
theorem d_Model_readFile_235 : decode c_Model_readFile 235 = .ok (.ifCond .ne 24, 3) := by decide +kernel
theorem d_Model_readFile_238 : decode c_Model_readFile 238 = .ok (.iload 4, 2) := by decide +kernel
theorem d_Model_readFile_240 : decode c_Model_readFile 240 = .ok (.sipush 217, 3) := by decide +kernel
theorem d_Model_readFile_243 : decode c_Model_readFile 243 = .ok (.if_icmp .ne 16, 3) := by decide +kernel
theorem d_Model_readFile_246 : decode c_Model_readFile 246 = .ok (.aload_n 0, 1) := by decide +kernel
theorem d_Model_readFile_247 : decode c_Model_readFile 247 = .ok (.aload_n 0, 1) := by decide +kernel
theorem d_Model_readFile_248 : decode c_Model_readFile 248 = .ok (.getfield 113, 3) := by decide +kernel
theorem d_Model_readFile_251 : decode c_Model_readFile 251 = .ok (.putfield 80, 3) := by decide +kernel
theorem d_Model_readFile_254 : decode c_Model_readFile 254 = .ok (.iconst 0, 1) := by decide +kernel
theorem d_Model_readFile_255 : decode c_Model_readFile 255 = .ok (.istore_n 3, 1) := by decide +kernel
