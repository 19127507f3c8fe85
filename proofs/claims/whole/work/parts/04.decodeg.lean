theorem d_Model_keepScan_183 : decode c_Model_keepScan 183 = .ok (.imul, 1) := by decide +kernel
theorem d_Model_keepScan_184 : decode c_Model_keepScan 184 = .ok (.iload_n 3, 1) := by decide +kernel
theorem d_Model_keepScan_185 : decode c_Model_keepScan 185 = .ok (.iadd, 1) := by decide +kernel
theorem d_Model_keepScan_186 : decode c_Model_keepScan 186 = .ok (.aload_n 0, 1) := by decide +kernel
theorem d_Model_keepScan_187 : decode c_Model_keepScan 187 = .ok (.getfield 165, 3) := by decide +kernel
theorem d_Model_keepScan_190 : decode c_Model_keepScan 190 = .ok (.iastore, 1) := by decide +kernel
theorem d_Model_keepScan_191 : decode c_Model_keepScan 191 = .ok (.iinc 3 1, 3) := by decide +kernel
theorem d_Model_keepScan_194 : decode c_Model_keepScan 194 = .ok (.goto (-31), 3) := by decide +kernel
theorem d_Model_keepScan_197 : decode c_Model_keepScan 197 = .ok (.iinc 2 1, 3) := by decide +kernel
theorem d_Model_keepScan_200 : decode c_Model_keepScan 200 = .ok (.goto (-107), 3) := by decide +kernel
theorem d_Model_keepScan_203 : decode c_Model_keepScan 203 = .ok (.aload_n 0, 1) := by decide +kernel
theorem d_Model_keepScan_204 : decode c_Model_keepScan 204 = .ok (.iload_n 1, 1) := by decide +kernel
theorem d_Model_keepScan_205 : decode c_Model_keepScan 205 = .ok (.invokevirtual 175, 3) := by decide +kernel
theorem d_Model_keepScan_208 : decode c_Model_keepScan 208 = .ok (.return_, 1) := by decide +kernel
theorem d_Model_readData_0 : decode c_Model_readData 0 = .ok (.iconst 0, 1) := by decide +kernel
theorem d_Model_readData_1 : decode c_Model_readData 1 = .ok (.istore_n 2, 1) := by decide +kernel
theorem d_Model_readData_2 : decode c_Model_readData 2 = .ok (.iconst 1, 1) := by decide +kernel
theorem d_Model_readData_3 : decode c_Model_readData 3 = .ok (.istore_n 3, 1) := by decide +kernel
theorem d_Model_readData_4 : decode c_Model_readData 4 = .ok (.iload_n 3, 1) := by decide +kernel
theorem d_Model_readData_5 : decode c_Model_readData 5 = .ok (.ifCond .eq 137, 3) := by decide +kernel
theorem d_Model_readData_8 : decode c_Model_readData 8 = .ok (.aload_n 0, 1) := by decide +kernel
theorem d_Model_readData_9 : decode c_Model_readData 9 = .ok (.getfield 107, 3) := by decide +kernel
theorem d_Model_readData_12 : decode c_Model_readData 12 = .ok (.ifCond .ne 130, 3) := by decide +kernel
theorem d_Model_readData_15 : decode c_Model_readData 15 = .ok (.aload_n 0, 1) := by decide +kernel
theorem d_Model_readData_16 : decode c_Model_readData 16 = .ok (.invokevirtual 128, 3) := by decide +kernel
theorem d_Model_readData_19 : decode c_Model_readData 19 = .ok (.istore 4, 2) := by decide +kernel
theorem d_Model_readData_21 : decode c_Model_readData 21 = .ok (.aload_n 0, 1) := by decide +kernel
theorem d_Model_readData_22 : decode c_Model_readData 22 = .ok (.getfield 107, 3) := by decide +kernel
theorem d_Model_readData_25 : decode c_Model_readData 25 = .ok (.ifCond .ne 114, 3) := by decide +kernel
theorem d_Model_readData_28 : decode c_Model_readData 28 = .ok (.iload 4, 2) := by decide +kernel
theorem d_Model_readData_30 : decode c_Model_readData 30 = .ok (.sipush 255, 3) := by decide +kernel
theorem d_Model_readData_33 : decode c_Model_readData 33 = .ok (.if_icmp .ne 106, 3) := by decide +kernel
theorem d_Model_readData_36 : decode c_Model_readData 36 = .ok (.aload_n 0, 1) := by decide +kernel
theorem d_Model_readData_37 : decode c_Model_readData 37 = .ok (.invokevirtual 128, 3) := by decide +kernel
theorem d_Model_readData_40 : decode c_Model_readData 40 = .ok (.istore 5, 2) := by decide +kernel
theorem d_Model_readData_42 : decode c_Model_readData 42 = .ok (.iload 5, 2) := by decide +kernel
theorem d_Model_readData_44 : decode c_Model_readData 44 = .ok (.sipush 208, 3) := by decide +kernel
theorem d_Model_readData_47 : decode c_Model_readData 47 = .ok (.if_icmp .lt 15, 3) := by decide +kernel
theorem d_Model_readData_50 : decode c_Model_readData 50 = .ok (.iload 5, 2) := by decide +kernel
theorem d_Model_readData_52 : decode c_Model_readData 52 = .ok (.sipush 215, 3) := by decide +kernel
theorem d_Model_readData_55 : decode c_Model_readData 55 = .ok (.if_icmp .gt 7, 3) := by decide +kernel
theorem d_Model_readData_58 : decode c_Model_readData 58 = .ok (.iconst 1, 1) := by decide +kernel
theorem d_Model_readData_59 : decode c_Model_readData 59 = .ok (.goto 4, 3) := by decide +kernel
theorem d_Model_readData_62 : decode c_Model_readData 62 = .ok (.iconst 0, 1) := by decide +kernel
theorem d_Model_readData_63 : decode c_Model_readData 63 = .ok (.istore 6, 2) := by decide +kernel
theorem d_Model_readData_65 : decode c_Model_readData 65 = .ok (.aload_n 0, 1) := by decide +kernel
theorem d_Model_readData_66 : decode c_Model_readData 66 = .ok (.getfield 107, 3) := by decide +kernel
theorem d_Model_readData_69 : decode c_Model_readData 69 = .ok (.ifCond .ne 41, 3) := by decide +kernel
theorem d_Model_readData_72 : decode c_Model_readData 72 = .ok (.iload 6, 2) := by decide +kernel
theorem d_Model_readData_74 : decode c_Model_readData 74 = .ok (.ifCond .eq 36, 3) := by decide +kernel
theorem d_Model_readData_77 : decode c_Model_readData 77 = .ok (.aload_n 0, 1) := by decide +kernel
theorem d_Model_readData_78 : decode c_Model_readData 78 = .ok (.getfield 98, 3) := by decide +kernel
theorem d_Model_readData_81 : decode c_Model_readData 81 = .ok (.ifCond .eq 16, 3) := by decide +kernel
theorem d_Model_readData_84 : decode c_Model_readData 84 = .ok (.iload 5, 2) := by decide +kernel
theorem d_Model_readData_86 : decode c_Model_readData 86 = .ok (.sipush 208, 3) := by decide +kernel
theorem d_Model_readData_89 : decode c_Model_readData 89 = .ok (.iload_n 2, 1) := by decide +kernel
theorem d_Model_readData_90 : decode c_Model_readData 90 = .ok (.bipush 8, 2) := by decide +kernel
theorem d_Model_readData_92 : decode c_Model_readData 92 = .ok (.irem, 1) := by decide +kernel
theorem d_Model_readData_93 : decode c_Model_readData 93 = .ok (.iadd, 1) := by decide +kernel
theorem d_Model_readData_94 : decode c_Model_readData 94 = .ok (.if_icmp .eq 16, 3) := by decide +kernel
theorem d_Model_readData_97 : decode c_Model_readData 97 = .ok (.aload_n 0, 1) := by decide +kernel
theorem d_Model_readData_98 : decode c_Model_readData 98 = .ok (.iconst 4, 1) := by decide +kernel
theorem d_Model_readData_99 : decode c_Model_readData 99 = .ok (.aload_n 0, 1) := by decide +kernel
theorem d_Model_readData_100 : decode c_Model_readData 100 = .ok (.getfield 113, 3) := by decide +kernel
theorem d_Model_readData_103 : decode c_Model_readData 103 = .ok (.iconst 1, 1) := by decide +kernel
theorem d_Model_readData_104 : decode c_Model_readData 104 = .ok (.isub, 1) := by decide +kernel
theorem d_Model_readData_105 : decode c_Model_readData 105 = .ok (.invokevirtual 120, 3) := by decide +kernel
theorem d_Model_readData_108 : decode c_Model_readData 108 = .ok (.istore 7, 2) := by decide +kernel
theorem d_Model_readData_110 : decode c_Model_readData 110 = .ok (.iload_n 2, 1) := by decide +kernel
theorem d_Model_readData_111 : decode c_Model_readData 111 = .ok (.iload 6, 2) := by decide +kernel
theorem d_Model_readData_113 : decode c_Model_readData 113 = .ok (.ifCond .eq 7, 3) := by decide +kernel
theorem d_Model_readData_116 : decode c_Model_readData 116 = .ok (.iconst 1, 1) := by decide +kernel
theorem d_Model_readData_117 : decode c_Model_readData 117 = .ok (.goto 4, 3) := by decide +kernel
theorem d_Model_readData_120 : decode c_Model_readData 120 = .ok (.iconst 0, 1) := by decide +kernel
theorem d_Model_readData_121 : decode c_Model_readData 121 = .ok (.iadd, 1) := by decide +kernel
theorem d_Model_readData_122 : decode c_Model_readData 122 = .ok (.istore_n 2, 1) := by decide +kernel
theorem d_Model_readData_123 : decode c_Model_readData 123 = .ok (.iload 5, 2) := by decide +kernel
theorem d_Model_readData_125 : decode c_Model_readData 125 = .ok (.ifCond .eq 8, 3) := by decide +kernel
theorem d_Model_readData_128 : decode c_Model_readData 128 = .ok (.iload 6, 2) := by decide +kernel
theorem d_Model_readData_130 : decode c_Model_readData 130 = .ok (.ifCond .eq 7, 3) := by decide +kernel
theorem d_Model_readData_133 : decode c_Model_readData 133 = .ok (.iconst 1, 1) := by decide +kernel
theorem d_Model_readData_134 : decode c_Model_readData 134 = .ok (.goto 4, 3) := by decide +kernel
theorem d_Model_readData_137 : decode c_Model_readData 137 = .ok (.iconst 0, 1) := by decide +kernel
theorem d_Model_readData_138 : decode c_Model_readData 138 = .ok (.istore_n 3, 1) := by decide +kernel
theorem d_Model_readData_139 : decode c_Model_readData 139 = .ok (.goto (-135), 3) := by decide +kernel
theorem d_Model_readData_142 : decode c_Model_readData 142 = .ok (.aload_n 0, 1) := by decide +kernel
theorem d_Model_readData_143 : decode c_Model_readData 143 = .ok (.aload_n 0, 1) := by decide +kernel
theorem d_Model_readData_144 : decode c_Model_readData 144 = .ok (.getfield 107, 3) := by decide +kernel
theorem d_Model_readData_147 : decode c_Model_readData 147 = .ok (.ifCond .ne 12, 3) := by decide +kernel
theorem d_Model_readData_150 : decode c_Model_readData 150 = .ok (.aload_n 0, 1) := by decide +kernel
theorem d_Model_readData_151 : decode c_Model_readData 151 = .ok (.getfield 113, 3) := by decide +kernel
theorem d_Model_readData_154 : decode c_Model_readData 154 = .ok (.iconst 2, 1) := by decide +kernel
theorem d_Model_readData_155 : decode c_Model_readData 155 = .ok (.isub, 1) := by decide +kernel
theorem d_Model_readData_156 : decode c_Model_readData 156 = .ok (.goto 7, 3) := by decide +kernel
theorem d_Model_readData_159 : decode c_Model_readData 159 = .ok (.aload_n 0, 1) := by decide +kernel
theorem d_Model_readData_160 : decode c_Model_readData 160 = .ok (.getfield 113, 3) := by decide +kernel
theorem d_Model_readData_163 : decode c_Model_readData 163 = .ok (.putfield 113, 3) := by decide +kernel
theorem d_Model_readData_166 : decode c_Model_readData 166 = .ok (.aload_n 0, 1) := by decide +kernel
theorem d_Model_readData_167 : decode c_Model_readData 167 = .ok (.getfield 53, 3) := by decide +kernel
theorem d_Model_readData_170 : decode c_Model_readData 170 = .ok (.iload_n 1, 1) := by decide +kernel
theorem d_Model_readData_171 : decode c_Model_readData 171 = .ok (.bipush 6, 2) := by decide +kernel
theorem d_Model_readData_173 : decode c_Model_readData 173 = .ok (.iadd, 1) := by decide +kernel
theorem d_Model_readData_174 : decode c_Model_readData 174 = .ok (.aload_n 0, 1) := by decide +kernel
theorem d_Model_readData_175 : decode c_Model_readData 175 = .ok (.getfield 113, 3) := by decide +kernel
theorem d_Model_readData_178 : decode c_Model_readData 178 = .ok (.aload_n 0, 1) := by decide +kernel
theorem d_Model_readData_179 : decode c_Model_readData 179 = .ok (.getfield 53, 3) := by decide +kernel
theorem d_Model_readData_182 : decode c_Model_readData 182 = .ok (.iload_n 1, 1) := by decide +kernel
theorem d_Model_readData_183 : decode c_Model_readData 183 = .ok (.iconst 5, 1) := by decide +kernel
theorem d_Model_readData_184 : decode c_Model_readData 184 = .ok (.iadd, 1) := by decide +kernel
theorem d_Model_readData_185 : decode c_Model_readData 185 = .ok (.iaload, 1) := by decide +kernel
theorem d_Model_readData_186 : decode c_Model_readData 186 = .ok (.isub, 1) := by decide +kernel
theorem d_Model_readData_187 : decode c_Model_readData 187 = .ok (.iastore, 1) := by decide +kernel
theorem d_Model_readData_188 : decode c_Model_readData 188 = .ok (.aload_n 0, 1) := by decide +kernel
theorem d_Model_readData_189 : decode c_Model_readData 189 = .ok (.getfield 53, 3) := by decide +kernel
theorem d_Model_readData_192 : decode c_Model_readData 192 = .ok (.iload_n 1, 1) := by decide +kernel
theorem d_Model_readData_193 : decode c_Model_readData 193 = .ok (.bipush 7, 2) := by decide +kernel
theorem d_Model_readData_195 : decode c_Model_readData 195 = .ok (.iadd, 1) := by decide +kernel
theorem d_Model_readData_196 : decode c_Model_readData 196 = .ok (.iload_n 2, 1) := by decide +kernel
theorem d_Model_readData_197 : decode c_Model_readData 197 = .ok (.iastore, 1) := by decide +kernel
theorem d_Model_readData_198 : decode c_Model_readData 198 = .ok (.aload_n 0, 1) := by decide +kernel
theorem d_Model_readData_199 : decode c_Model_readData 199 = .ok (.dup, 1) := by decide +kernel
theorem d_Model_readData_200 : decode c_Model_readData 200 = .ok (.getfield 101, 3) := by decide +kernel
theorem d_Model_readData_203 : decode c_Model_readData 203 = .ok (.iconst 1, 1) := by decide +kernel
theorem d_Model_readData_204 : decode c_Model_readData 204 = .ok (.iadd, 1) := by decide +kernel
theorem d_Model_readData_205 : decode c_Model_readData 205 = .ok (.putfield 101, 3) := by decide +kernel
theorem d_Model_readData_208 : decode c_Model_readData 208 = .ok (.return_, 1) := by decide +kernel
theorem d_Model_segment_0 : decode c_Model_segment 0 = .ok (.aload_n 0, 1) := by decide +kernel
theorem d_Model_segment_1 : decode c_Model_segment 1 = .ok (.iconst 0, 1) := by decide +kernel
theorem d_Model_segment_2 : decode c_Model_segment 2 = .ok (.putfield 77, 3) := by decide +kernel
theorem d_Model_segment_5 : decode c_Model_segment 5 = .ok (.iload_n 1, 1) := by decide +kernel
theorem d_Model_segment_6 : decode c_Model_segment 6 = .ok (.ifCond .lt 20, 3) := by decide +kernel
theorem d_Model_segment_9 : decode c_Model_segment 9 = .ok (.iload_n 1, 1) := by decide +kernel
theorem d_Model_segment_10 : decode c_Model_segment 10 = .ok (.aload_n 0, 1) := by decide +kernel
theorem d_Model_segment_11 : decode c_Model_segment 11 = .ok (.getfield 83, 3) := by decide +kernel
theorem d_Model_segment_14 : decode c_Model_segment 14 = .ok (.if_icmp .ge 12, 3) := by decide +kernel
theorem d_Model_segment_17 : decode c_Model_segment 17 = .ok (.iload_n 2, 1) := by decide +kernel
theorem d_Model_segment_18 : decode c_Model_segment 18 = .ok (.ifCond .lt 8, 3) := by decide +kernel
theorem d_Model_segment_21 : decode c_Model_segment 21 = .ok (.iload_n 2, 1) := by decide +kernel
theorem d_Model_segment_22 : decode c_Model_segment 22 = .ok (.iconst 3, 1) := by decide +kernel
theorem d_Model_segment_23 : decode c_Model_segment 23 = .ok (.if_icmp .le 7, 3) := by decide +kernel
theorem d_Model_segment_26 : decode c_Model_segment 26 = .ok (.iconst (-1), 1) := by decide +kernel
theorem d_Model_segment_27 : decode c_Model_segment 27 = .ok (.goto 13, 3) := by decide +kernel
theorem d_Model_segment_30 : decode c_Model_segment 30 = .ok (.aload_n 0, 1) := by decide +kernel
theorem d_Model_segment_31 : decode c_Model_segment 31 = .ok (.getfield 17, 3) := by decide +kernel
theorem d_Model_segment_34 : decode c_Model_segment 34 = .ok (.iconst 4, 1) := by decide +kernel
theorem d_Model_segment_35 : decode c_Model_segment 35 = .ok (.iload_n 1, 1) := by decide +kernel
theorem d_Model_segment_36 : decode c_Model_segment 36 = .ok (.imul, 1) := by decide +kernel
theorem d_Model_segment_37 : decode c_Model_segment 37 = .ok (.iload_n 2, 1) := by decide +kernel
theorem d_Model_segment_38 : decode c_Model_segment 38 = .ok (.iadd, 1) := by decide +kernel
theorem d_Model_segment_39 : decode c_Model_segment 39 = .ok (.iaload, 1) := by decide +kernel
theorem d_Model_segment_40 : decode c_Model_segment 40 = .ok (.ireturn, 1) := by decide +kernel
theorem d_Model_frame_0 : decode c_Model_frame 0 = .ok (.aload_n 0, 1) := by decide +kernel
theorem d_Model_frame_1 : decode c_Model_frame 1 = .ok (.iconst 0, 1) := by decide +kernel
theorem d_Model_frame_2 : decode c_Model_frame 2 = .ok (.putfield 77, 3) := by decide +kernel
theorem d_Model_frame_5 : decode c_Model_frame 5 = .ok (.aload_n 0, 1) := by decide +kernel
theorem d_Model_frame_6 : decode c_Model_frame 6 = .ok (.getfield 86, 3) := by decide +kernel
theorem d_Model_frame_9 : decode c_Model_frame 9 = .ok (.ifCond .ne 5, 3) := by decide +kernel
theorem d_Model_frame_12 : decode c_Model_frame 12 = .ok (.iconst (-1), 1) := by decide +kernel
theorem d_Model_frame_13 : decode c_Model_frame 13 = .ok (.ireturn, 1) := by decide +kernel
theorem d_Model_frame_14 : decode c_Model_frame 14 = .ok (.iconst 0, 1) := by decide +kernel
theorem d_Model_frame_15 : decode c_Model_frame 15 = .ok (.istore_n 2, 1) := by decide +kernel
theorem d_Model_frame_16 : decode c_Model_frame 16 = .ok (.iconst 0, 1) := by decide +kernel
theorem d_Model_frame_17 : decode c_Model_frame 17 = .ok (.istore_n 3, 1) := by decide +kernel
theorem d_Model_frame_18 : decode c_Model_frame 18 = .ok (.iconst 0, 1) := by decide +kernel
theorem d_Model_frame_19 : decode c_Model_frame 19 = .ok (.istore 4, 2) := by decide +kernel
theorem d_Model_frame_21 : decode c_Model_frame 21 = .ok (.iload 4, 2) := by decide +kernel
theorem d_Model_frame_23 : decode c_Model_frame 23 = .ok (.aload_n 0, 1) := by decide +kernel
theorem d_Model_frame_24 : decode c_Model_frame 24 = .ok (.getfield 95, 3) := by decide +kernel
theorem d_Model_frame_27 : decode c_Model_frame 27 = .ok (.if_icmp .ge 55, 3) := by decide +kernel
theorem d_Model_frame_30 : decode c_Model_frame 30 = .ok (.aload_n 0, 1) := by decide +kernel
theorem d_Model_frame_31 : decode c_Model_frame 31 = .ok (.getfield 24, 3) := by decide +kernel
theorem d_Model_frame_34 : decode c_Model_frame 34 = .ok (.iload 4, 2) := by decide +kernel
theorem d_Model_frame_36 : decode c_Model_frame 36 = .ok (.iaload, 1) := by decide +kernel
theorem d_Model_frame_37 : decode c_Model_frame 37 = .ok (.iload_n 2, 1) := by decide +kernel
theorem d_Model_frame_38 : decode c_Model_frame 38 = .ok (.if_icmp .le 13, 3) := by decide +kernel
theorem d_Model_frame_41 : decode c_Model_frame 41 = .ok (.aload_n 0, 1) := by decide +kernel
theorem d_Model_frame_42 : decode c_Model_frame 42 = .ok (.getfield 24, 3) := by decide +kernel
theorem d_Model_frame_45 : decode c_Model_frame 45 = .ok (.iload 4, 2) := by decide +kernel
theorem d_Model_frame_47 : decode c_Model_frame 47 = .ok (.iaload, 1) := by decide +kernel
theorem d_Model_frame_48 : decode c_Model_frame 48 = .ok (.goto 4, 3) := by decide +kernel
theorem d_Model_frame_51 : decode c_Model_frame 51 = .ok (.iload_n 2, 1) := by decide +kernel
theorem d_Model_frame_52 : decode c_Model_frame 52 = .ok (.istore_n 2, 1) := by decide +kernel
theorem d_Model_frame_53 : decode c_Model_frame 53 = .ok (.aload_n 0, 1) := by decide +kernel
theorem d_Model_frame_54 : decode c_Model_frame 54 = .ok (.getfield 27, 3) := by decide +kernel
theorem d_Model_frame_57 : decode c_Model_frame 57 = .ok (.iload 4, 2) := by decide +kernel
theorem d_Model_frame_59 : decode c_Model_frame 59 = .ok (.iaload, 1) := by decide +kernel
theorem d_Model_frame_60 : decode c_Model_frame 60 = .ok (.iload_n 3, 1) := by decide +kernel
theorem d_Model_frame_61 : decode c_Model_frame 61 = .ok (.if_icmp .le 13, 3) := by decide +kernel
theorem d_Model_frame_64 : decode c_Model_frame 64 = .ok (.aload_n 0, 1) := by decide +kernel
theorem d_Model_frame_65 : decode c_Model_frame 65 = .ok (.getfield 27, 3) := by decide +kernel
theorem d_Model_frame_68 : decode c_Model_frame 68 = .ok (.iload 4, 2) := by decide +kernel
theorem d_Model_frame_70 : decode c_Model_frame 70 = .ok (.iaload, 1) := by decide +kernel
theorem d_Model_frame_71 : decode c_Model_frame 71 = .ok (.goto 4, 3) := by decide +kernel
theorem d_Model_frame_74 : decode c_Model_frame 74 = .ok (.iload_n 3, 1) := by decide +kernel
theorem d_Model_frame_75 : decode c_Model_frame 75 = .ok (.istore_n 3, 1) := by decide +kernel
theorem d_Model_frame_76 : decode c_Model_frame 76 = .ok (.iinc 4 1, 3) := by decide +kernel
theorem d_Model_frame_79 : decode c_Model_frame 79 = .ok (.goto (-58), 3) := by decide +kernel
theorem d_Model_frame_82 : decode c_Model_frame 82 = .ok (.iload_n 1, 1) := by decide +kernel
theorem d_Model_frame_83 : decode c_Model_frame 83 = .ok (.ifCond .ne 10, 3) := by decide +kernel
theorem d_Model_frame_86 : decode c_Model_frame 86 = .ok (.aload_n 0, 1) := by decide +kernel
theorem d_Model_frame_87 : decode c_Model_frame 87 = .ok (.getfield 86, 3) := by decide +kernel
theorem d_Model_frame_90 : decode c_Model_frame 90 = .ok (.goto 58, 3) := by decide +kernel
theorem d_Model_frame_93 : decode c_Model_frame 93 = .ok (.iload_n 1, 1) := by decide +kernel
theorem d_Model_frame_94 : decode c_Model_frame 94 = .ok (.iconst 1, 1) := by decide +kernel
theorem d_Model_frame_95 : decode c_Model_frame 95 = .ok (.if_icmp .ne 10, 3) := by decide +kernel
theorem d_Model_frame_98 : decode c_Model_frame 98 = .ok (.aload_n 0, 1) := by decide +kernel
theorem d_Model_frame_99 : decode c_Model_frame 99 = .ok (.getfield 89, 3) := by decide +kernel
theorem d_Model_frame_102 : decode c_Model_frame 102 = .ok (.goto 46, 3) := by decide +kernel
theorem d_Model_frame_105 : decode c_Model_frame 105 = .ok (.iload_n 1, 1) := by decide +kernel
theorem d_Model_frame_106 : decode c_Model_frame 106 = .ok (.iconst 2, 1) := by decide +kernel
theorem d_Model_frame_107 : decode c_Model_frame 107 = .ok (.if_icmp .ne 10, 3) := by decide +kernel
theorem d_Model_frame_110 : decode c_Model_frame 110 = .ok (.aload_n 0, 1) := by decide +kernel
theorem d_Model_frame_111 : decode c_Model_frame 111 = .ok (.getfield 92, 3) := by decide +kernel
theorem d_Model_frame_114 : decode c_Model_frame 114 = .ok (.goto 34, 3) := by decide +kernel
theorem d_Model_frame_117 : decode c_Model_frame 117 = .ok (.iload_n 1, 1) := by decide +kernel
theorem d_Model_frame_118 : decode c_Model_frame 118 = .ok (.iconst 3, 1) := by decide +kernel
theorem d_Model_frame_119 : decode c_Model_frame 119 = .ok (.if_icmp .ne 10, 3) := by decide +kernel
theorem d_Model_frame_122 : decode c_Model_frame 122 = .ok (.aload_n 0, 1) := by decide +kernel
theorem d_Model_frame_123 : decode c_Model_frame 123 = .ok (.getfield 95, 3) := by decide +kernel
theorem d_Model_frame_126 : decode c_Model_frame 126 = .ok (.goto 22, 3) := by decide +kernel
theorem d_Model_frame_129 : decode c_Model_frame 129 = .ok (.iload_n 1, 1) := by decide +kernel
theorem d_Model_frame_130 : decode c_Model_frame 130 = .ok (.iconst 4, 1) := by decide +kernel
theorem d_Model_frame_131 : decode c_Model_frame 131 = .ok (.if_icmp .ne 7, 3) := by decide +kernel
theorem d_Model_frame_134 : decode c_Model_frame 134 = .ok (.iload_n 2, 1) := by decide +kernel
theorem d_Model_frame_135 : decode c_Model_frame 135 = .ok (.goto 13, 3) := by decide +kernel
theorem d_Model_frame_138 : decode c_Model_frame 138 = .ok (.iload_n 1, 1) := by decide +kernel
theorem d_Model_frame_139 : decode c_Model_frame 139 = .ok (.iconst 5, 1) := by decide +kernel
theorem d_Model_frame_140 : decode c_Model_frame 140 = .ok (.if_icmp .ne 7, 3) := by decide +kernel
theorem d_Model_frame_143 : decode c_Model_frame 143 = .ok (.iload_n 3, 1) := by decide +kernel
theorem d_Model_frame_144 : decode c_Model_frame 144 = .ok (.goto 4, 3) := by decide +kernel
theorem d_Model_frame_147 : decode c_Model_frame 147 = .ok (.iconst (-1), 1) := by decide +kernel
theorem d_Model_frame_148 : decode c_Model_frame 148 = .ok (.ireturn, 1) := by decide +kernel
theorem d_Model_component_0 : decode c_Model_component 0 = .ok (.aload_n 0, 1) := by decide +kernel
theorem d_Model_component_1 : decode c_Model_component 1 = .ok (.iconst 0, 1) := by decide +kernel
theorem d_Model_component_2 : decode c_Model_component 2 = .ok (.putfield 77, 3) := by decide +kernel
theorem d_Model_component_5 : decode c_Model_component 5 = .ok (.iload_n 1, 1) := by decide +kernel
theorem d_Model_component_6 : decode c_Model_component 6 = .ok (.ifCond .lt 11, 3) := by decide +kernel
theorem d_Model_component_9 : decode c_Model_component 9 = .ok (.iload_n 1, 1) := by decide +kernel
theorem d_Model_component_10 : decode c_Model_component 10 = .ok (.aload_n 0, 1) := by decide +kernel
theorem d_Model_component_11 : decode c_Model_component 11 = .ok (.getfield 95, 3) := by decide +kernel
theorem d_Model_component_14 : decode c_Model_component 14 = .ok (.if_icmp .lt 5, 3) := by decide +kernel
theorem d_Model_component_17 : decode c_Model_component 17 = .ok (.iconst (-1), 1) := by decide +kernel
theorem d_Model_component_18 : decode c_Model_component 18 = .ok (.ireturn, 1) := by decide +kernel
theorem d_Model_component_19 : decode c_Model_component 19 = .ok (.iload_n 2, 1) := by decide +kernel
theorem d_Model_component_20 : decode c_Model_component 20 = .ok (.ifCond .ne 12, 3) := by decide +kernel
theorem d_Model_component_23 : decode c_Model_component 23 = .ok (.aload_n 0, 1) := by decide +kernel
theorem d_Model_component_24 : decode c_Model_component 24 = .ok (.getfield 21, 3) := by decide +kernel
theorem d_Model_component_27 : decode c_Model_component 27 = .ok (.iload_n 1, 1) := by decide +kernel
theorem d_Model_component_28 : decode c_Model_component 28 = .ok (.iaload, 1) := by decide +kernel
theorem d_Model_component_29 : decode c_Model_component 29 = .ok (.goto 46, 3) := by decide +kernel
theorem d_Model_component_32 : decode c_Model_component 32 = .ok (.iload_n 2, 1) := by decide +kernel
theorem d_Model_component_33 : decode c_Model_component 33 = .ok (.iconst 1, 1) := by decide +kernel
theorem d_Model_component_34 : decode c_Model_component 34 = .ok (.if_icmp .ne 12, 3) := by decide +kernel
theorem d_Model_component_37 : decode c_Model_component 37 = .ok (.aload_n 0, 1) := by decide +kernel
theorem d_Model_component_38 : decode c_Model_component 38 = .ok (.getfield 24, 3) := by decide +kernel
theorem d_Model_component_41 : decode c_Model_component 41 = .ok (.iload_n 1, 1) := by decide +kernel
theorem d_Model_component_42 : decode c_Model_component 42 = .ok (.iaload, 1) := by decide +kernel
theorem d_Model_component_43 : decode c_Model_component 43 = .ok (.goto 32, 3) := by decide +kernel
theorem d_Model_component_46 : decode c_Model_component 46 = .ok (.iload_n 2, 1) := by decide +kernel
theorem d_Model_component_47 : decode c_Model_component 47 = .ok (.iconst 2, 1) := by decide +kernel
theorem d_Model_component_48 : decode c_Model_component 48 = .ok (.if_icmp .ne 12, 3) := by decide +kernel
theorem d_Model_component_51 : decode c_Model_component 51 = .ok (.aload_n 0, 1) := by decide +kernel
theorem d_Model_component_52 : decode c_Model_component 52 = .ok (.getfield 27, 3) := by decide +kernel
theorem d_Model_component_55 : decode c_Model_component 55 = .ok (.iload_n 1, 1) := by decide +kernel
theorem d_Model_component_56 : decode c_Model_component 56 = .ok (.iaload, 1) := by decide +kernel
theorem d_Model_component_57 : decode c_Model_component 57 = .ok (.goto 18, 3) := by decide +kernel
theorem d_Model_component_60 : decode c_Model_component 60 = .ok (.iload_n 2, 1) := by decide +kernel
theorem d_Model_component_61 : decode c_Model_component 61 = .ok (.iconst 3, 1) := by decide +kernel
theorem d_Model_component_62 : decode c_Model_component 62 = .ok (.if_icmp .ne 12, 3) := by decide +kernel
theorem d_Model_component_65 : decode c_Model_component 65 = .ok (.aload_n 0, 1) := by decide +kernel
theorem d_Model_component_66 : decode c_Model_component 66 = .ok (.getfield 30, 3) := by decide +kernel
theorem d_Model_component_69 : decode c_Model_component 69 = .ok (.iload_n 1, 1) := by decide +kernel
theorem d_Model_component_70 : decode c_Model_component 70 = .ok (.iaload, 1) := by decide +kernel
theorem d_Model_component_71 : decode c_Model_component 71 = .ok (.goto 4, 3) := by decide +kernel
theorem d_Model_component_74 : decode c_Model_component 74 = .ok (.iconst (-1), 1) := by decide +kernel
theorem d_Model_component_75 : decode c_Model_component 75 = .ok (.ireturn, 1) := by decide +kernel
theorem d_Model_scan_0 : decode c_Model_scan 0 = .ok (.aload_n 0, 1) := by decide +kernel
theorem d_Model_scan_1 : decode c_Model_scan 1 = .ok (.iconst 0, 1) := by decide +kernel
theorem d_Model_scan_2 : decode c_Model_scan 2 = .ok (.putfield 77, 3) := by decide +kernel
theorem d_Model_scan_5 : decode c_Model_scan 5 = .ok (.iload_n 1, 1) := by decide +kernel
theorem d_Model_scan_6 : decode c_Model_scan 6 = .ok (.ifCond .lt 15, 3) := by decide +kernel
theorem d_Model_scan_9 : decode c_Model_scan 9 = .ok (.iload_n 1, 1) := by decide +kernel
theorem d_Model_scan_10 : decode c_Model_scan 10 = .ok (.aload_n 0, 1) := by decide +kernel
theorem d_Model_scan_11 : decode c_Model_scan 11 = .ok (.getfield 101, 3) := by decide +kernel
theorem d_Model_scan_14 : decode c_Model_scan 14 = .ok (.if_icmp .ge 7, 3) := by decide +kernel
theorem d_Model_scan_17 : decode c_Model_scan 17 = .ok (.iload_n 2, 1) := by decide +kernel
theorem d_Model_scan_18 : decode c_Model_scan 18 = .ok (.ifCond .ge 5, 3) := by decide +kernel
theorem d_Model_scan_21 : decode c_Model_scan 21 = .ok (.iconst (-1), 1) := by decide +kernel
theorem d_Model_scan_22 : decode c_Model_scan 22 = .ok (.ireturn, 1) := by decide +kernel
theorem d_Model_scan_23 : decode c_Model_scan 23 = .ok (.iload_n 2, 1) := by decide +kernel
theorem d_Model_scan_24 : decode c_Model_scan 24 = .ok (.bipush 9, 2) := by decide +kernel
theorem d_Model_scan_26 : decode c_Model_scan 26 = .ok (.if_icmp .ge 15, 3) := by decide +kernel
theorem d_Model_scan_29 : decode c_Model_scan 29 = .ok (.aload_n 0, 1) := by decide +kernel
theorem d_Model_scan_30 : decode c_Model_scan 30 = .ok (.getfield 53, 3) := by decide +kernel
theorem d_Model_scan_33 : decode c_Model_scan 33 = .ok (.bipush 30, 2) := by decide +kernel
theorem d_Model_scan_35 : decode c_Model_scan 35 = .ok (.iload_n 1, 1) := by decide +kernel
theorem d_Model_scan_36 : decode c_Model_scan 36 = .ok (.imul, 1) := by decide +kernel
theorem d_Model_scan_37 : decode c_Model_scan 37 = .ok (.iload_n 2, 1) := by decide +kernel
theorem d_Model_scan_38 : decode c_Model_scan 38 = .ok (.iadd, 1) := by decide +kernel
theorem d_Model_scan_39 : decode c_Model_scan 39 = .ok (.iaload, 1) := by decide +kernel
theorem d_Model_scan_40 : decode c_Model_scan 40 = .ok (.ireturn, 1) := by decide +kernel
theorem d_Model_scan_41 : decode c_Model_scan 41 = .ok (.iload_n 2, 1) := by decide +kernel
theorem d_Model_scan_42 : decode c_Model_scan 42 = .ok (.bipush 16, 2) := by decide +kernel
theorem d_Model_scan_44 : decode c_Model_scan 44 = .ok (.if_icmp .lt 32, 3) := by decide +kernel
theorem d_Model_scan_47 : decode c_Model_scan 47 = .ok (.iload_n 2, 1) := by decide +kernel
theorem d_Model_scan_48 : decode c_Model_scan 48 = .ok (.bipush 16, 2) := by decide +kernel
theorem d_Model_scan_50 : decode c_Model_scan 50 = .ok (.isub, 1) := by decide +kernel
theorem d_Model_scan_51 : decode c_Model_scan 51 = .ok (.iconst 4, 1) := by decide +kernel
theorem d_Model_scan_52 : decode c_Model_scan 52 = .ok (.idiv, 1) := by decide +kernel
theorem d_Model_scan_53 : decode c_Model_scan 53 = .ok (.aload_n 0, 1) := by decide +kernel
theorem d_Model_scan_54 : decode c_Model_scan 54 = .ok (.getfield 53, 3) := by decide +kernel
theorem d_Model_scan_57 : decode c_Model_scan 57 = .ok (.bipush 30, 2) := by decide +kernel
theorem d_Model_scan_59 : decode c_Model_scan 59 = .ok (.iload_n 1, 1) := by decide +kernel
theorem d_Model_scan_60 : decode c_Model_scan 60 = .ok (.imul, 1) := by decide +kernel
theorem d_Model_scan_61 : decode c_Model_scan 61 = .ok (.iaload, 1) := by decide +kernel
theorem d_Model_scan_62 : decode c_Model_scan 62 = .ok (.if_icmp .ge 14, 3) := by decide +kernel
theorem d_Model_scan_65 : decode c_Model_scan 65 = .ok (.iload_n 2, 1) := by decide +kernel
theorem d_Model_scan_66 : decode c_Model_scan 66 = .ok (.iconst 4, 1) := by decide +kernel
theorem d_Model_scan_67 : decode c_Model_scan 67 = .ok (.irem, 1) := by decide +kernel
theorem d_Model_scan_68 : decode c_Model_scan 68 = .ok (.iconst 3, 1) := by decide +kernel
theorem d_Model_scan_69 : decode c_Model_scan 69 = .ok (.if_icmp .ge 7, 3) := by decide +kernel
theorem d_Model_scan_72 : decode c_Model_scan 72 = .ok (.iconst 1, 1) := by decide +kernel
theorem d_Model_scan_73 : decode c_Model_scan 73 = .ok (.goto 4, 3) := by decide +kernel
theorem d_Model_scan_76 : decode c_Model_scan 76 = .ok (.iconst 0, 1) := by decide +kernel
theorem d_Model_scan_77 : decode c_Model_scan 77 = .ok (.istore_n 3, 1) := by decide +kernel
theorem d_Model_scan_78 : decode c_Model_scan 78 = .ok (.iload_n 3, 1) := by decide +kernel
theorem d_Model_scan_79 : decode c_Model_scan 79 = .ok (.ifCond .eq 23, 3) := by decide +kernel
theorem d_Model_scan_82 : decode c_Model_scan 82 = .ok (.aload_n 0, 1) := by decide +kernel
theorem d_Model_scan_83 : decode c_Model_scan 83 = .ok (.getfield 53, 3) := by decide +kernel
theorem d_Model_scan_86 : decode c_Model_scan 86 = .ok (.bipush 30, 2) := by decide +kernel
theorem d_Model_scan_88 : decode c_Model_scan 88 = .ok (.iload_n 1, 1) := by decide +kernel
theorem d_Model_scan_89 : decode c_Model_scan 89 = .ok (.imul, 1) := by decide +kernel
theorem d_Model_scan_90 : decode c_Model_scan 90 = .ok (.bipush 10, 2) := by decide +kernel
theorem d_Model_scan_92 : decode c_Model_scan 92 = .ok (.iadd, 1) := by decide +kernel
theorem d_Model_scan_93 : decode c_Model_scan 93 = .ok (.iload_n 2, 1) := by decide +kernel
theorem d_Model_scan_94 : decode c_Model_scan 94 = .ok (.iadd, 1) := by decide +kernel
theorem d_Model_scan_95 : decode c_Model_scan 95 = .ok (.bipush 16, 2) := by decide +kernel
theorem d_Model_scan_97 : decode c_Model_scan 97 = .ok (.isub, 1) := by decide +kernel
theorem d_Model_scan_98 : decode c_Model_scan 98 = .ok (.iaload, 1) := by decide +kernel
theorem d_Model_scan_99 : decode c_Model_scan 99 = .ok (.goto 4, 3) := by decide +kernel
theorem d_Model_scan_102 : decode c_Model_scan 102 = .ok (.iconst (-1), 1) := by decide +kernel
theorem d_Model_scan_103 : decode c_Model_scan 103 = .ok (.ireturn, 1) := by decide +kernel
theorem d_Model_data_0 : decode c_Model_data 0 = .ok (.aload_n 0, 1) := by decide +kernel
theorem d_Model_data_1 : decode c_Model_data 1 = .ok (.iconst 0, 1) := by decide +kernel
theorem d_Model_data_2 : decode c_Model_data 2 = .ok (.putfield 77, 3) := by decide +kernel
theorem d_Model_data_5 : decode c_Model_data 5 = .ok (.iload_n 1, 1) := by decide +kernel
theorem d_Model_data_6 : decode c_Model_data 6 = .ok (.ifCond .lt 15, 3) := by decide +kernel
theorem d_Model_data_9 : decode c_Model_data 9 = .ok (.iload_n 1, 1) := by decide +kernel
theorem d_Model_data_10 : decode c_Model_data 10 = .ok (.aload_n 0, 1) := by decide +kernel
theorem d_Model_data_11 : decode c_Model_data 11 = .ok (.getfield 101, 3) := by decide +kernel
theorem d_Model_data_14 : decode c_Model_data 14 = .ok (.if_icmp .ge 7, 3) := by decide +kernel
theorem d_Model_data_17 : decode c_Model_data 17 = .ok (.iload_n 2, 1) := by decide +kernel
theorem d_Model_data_18 : decode c_Model_data 18 = .ok (.ifCond .ge 5, 3) := by decide +kernel
theorem d_Model_data_21 : decode c_Model_data 21 = .ok (.iconst (-1), 1) := by decide +kernel
theorem d_Model_data_22 : decode c_Model_data 22 = .ok (.ireturn, 1) := by decide +kernel
theorem d_Model_data_23 : decode c_Model_data 23 = .ok (.aload_n 0, 1) := by decide +kernel
theorem d_Model_data_24 : decode c_Model_data 24 = .ok (.getfield 53, 3) := by decide +kernel
theorem d_Model_data_27 : decode c_Model_data 27 = .ok (.bipush 30, 2) := by decide +kernel
theorem d_Model_data_29 : decode c_Model_data 29 = .ok (.iload_n 1, 1) := by decide +kernel
theorem d_Model_data_30 : decode c_Model_data 30 = .ok (.imul, 1) := by decide +kernel
theorem d_Model_data_31 : decode c_Model_data 31 = .ok (.iconst 5, 1) := by decide +kernel
theorem d_Model_data_32 : decode c_Model_data 32 = .ok (.iadd, 1) := by decide +kernel
theorem d_Model_data_33 : decode c_Model_data 33 = .ok (.iaload, 1) := by decide +kernel
theorem d_Model_data_34 : decode c_Model_data 34 = .ok (.istore_n 3, 1) := by decide +kernel
theorem d_Model_data_35 : decode c_Model_data 35 = .ok (.iload_n 3, 1) := by decide +kernel
theorem d_Model_data_36 : decode c_Model_data 36 = .ok (.aload_n 0, 1) := by decide +kernel
theorem d_Model_data_37 : decode c_Model_data 37 = .ok (.getfield 53, 3) := by decide +kernel
theorem d_Model_data_40 : decode c_Model_data 40 = .ok (.bipush 30, 2) := by decide +kernel
theorem d_Model_data_42 : decode c_Model_data 42 = .ok (.iload_n 1, 1) := by decide +kernel
theorem d_Model_data_43 : decode c_Model_data 43 = .ok (.imul, 1) := by decide +kernel
theorem d_Model_data_44 : decode c_Model_data 44 = .ok (.bipush 6, 2) := by decide +kernel
theorem d_Model_data_46 : decode c_Model_data 46 = .ok (.iadd, 1) := by decide +kernel
theorem d_Model_data_47 : decode c_Model_data 47 = .ok (.iaload, 1) := by decide +kernel
theorem d_Model_data_48 : decode c_Model_data 48 = .ok (.iadd, 1) := by decide +kernel
theorem d_Model_data_49 : decode c_Model_data 49 = .ok (.istore 4, 2) := by decide +kernel
theorem d_Model_data_51 : decode c_Model_data 51 = .ok (.iload_n 2, 1) := by decide +kernel
theorem d_Model_data_52 : decode c_Model_data 52 = .ok (.istore 5, 2) := by decide +kernel
theorem d_Model_data_54 : decode c_Model_data 54 = .ok (.iload_n 3, 1) := by decide +kernel
theorem d_Model_data_55 : decode c_Model_data 55 = .ok (.iload 4, 2) := by decide +kernel
theorem d_Model_data_57 : decode c_Model_data 57 = .ok (.if_icmp .ge 78, 3) := by decide +kernel
theorem d_Model_data_60 : decode c_Model_data 60 = .ok (.aload_n 0, 1) := by decide +kernel
theorem d_Model_data_61 : decode c_Model_data 61 = .ok (.iload_n 3, 1) := by decide +kernel
theorem d_Model_data_62 : decode c_Model_data 62 = .ok (.invokevirtual 124, 3) := by decide +kernel
theorem d_Model_data_65 : decode c_Model_data 65 = .ok (.sipush 255, 3) := by decide +kernel
theorem d_Model_data_68 : decode c_Model_data 68 = .ok (.if_icmp .ne 7, 3) := by decide +kernel
theorem d_Model_data_71 : decode c_Model_data 71 = .ok (.iconst 1, 1) := by decide +kernel
theorem d_Model_data_72 : decode c_Model_data 72 = .ok (.goto 4, 3) := by decide +kernel
theorem d_Model_data_75 : decode c_Model_data 75 = .ok (.iconst 0, 1) := by decide +kernel
theorem d_Model_data_76 : decode c_Model_data 76 = .ok (.istore 6, 2) := by decide +kernel
theorem d_Model_data_78 : decode c_Model_data 78 = .ok (.iload 6, 2) := by decide +kernel
theorem d_Model_data_80 : decode c_Model_data 80 = .ok (.ifCond .eq 17, 3) := by decide +kernel
theorem d_Model_data_83 : decode c_Model_data 83 = .ok (.aload_n 0, 1) := by decide +kernel
theorem d_Model_data_84 : decode c_Model_data 84 = .ok (.iload_n 3, 1) := by decide +kernel
theorem d_Model_data_85 : decode c_Model_data 85 = .ok (.iconst 1, 1) := by decide +kernel
theorem d_Model_data_86 : decode c_Model_data 86 = .ok (.iadd, 1) := by decide +kernel
theorem d_Model_data_87 : decode c_Model_data 87 = .ok (.invokevirtual 124, 3) := by decide +kernel
theorem d_Model_data_90 : decode c_Model_data 90 = .ok (.ifCond .le 7, 3) := by decide +kernel
theorem d_Model_data_93 : decode c_Model_data 93 = .ok (.iconst 1, 1) := by decide +kernel
theorem d_Model_data_94 : decode c_Model_data 94 = .ok (.goto 4, 3) := by decide +kernel
theorem d_Model_data_97 : decode c_Model_data 97 = .ok (.iconst 0, 1) := by decide +kernel
theorem d_Model_data_98 : decode c_Model_data 98 = .ok (.istore 7, 2) := by decide +kernel
theorem d_Model_data_100 : decode c_Model_data 100 = .ok (.iload 7, 2) := by decide +kernel
theorem d_Model_data_102 : decode c_Model_data 102 = .ok (.ifCond .ne 17, 3) := by decide +kernel
theorem d_Model_data_105 : decode c_Model_data 105 = .ok (.iload 5, 2) := by decide +kernel
theorem d_Model_data_107 : decode c_Model_data 107 = .ok (.ifCond .ne 9, 3) := by decide +kernel
theorem d_Model_data_110 : decode c_Model_data 110 = .ok (.aload_n 0, 1) := by decide +kernel
theorem d_Model_data_111 : decode c_Model_data 111 = .ok (.iload_n 3, 1) := by decide +kernel
theorem d_Model_data_112 : decode c_Model_data 112 = .ok (.invokevirtual 124, 3) := by decide +kernel
theorem d_Model_data_115 : decode c_Model_data 115 = .ok (.ireturn, 1) := by decide +kernel
theorem d_Model_data_116 : decode c_Model_data 116 = .ok (.iinc 5 (-1), 3) := by decide +kernel
theorem d_Model_data_119 : decode c_Model_data 119 = .ok (.iload_n 3, 1) := by decide +kernel
theorem d_Model_data_120 : decode c_Model_data 120 = .ok (.iload 6, 2) := by decide +kernel
theorem d_Model_data_122 : decode c_Model_data 122 = .ok (.ifCond .eq 7, 3) := by decide +kernel
theorem d_Model_data_125 : decode c_Model_data 125 = .ok (.iconst 2, 1) := by decide +kernel
theorem d_Model_data_126 : decode c_Model_data 126 = .ok (.goto 4, 3) := by decide +kernel
theorem d_Model_data_129 : decode c_Model_data 129 = .ok (.iconst 1, 1) := by decide +kernel
theorem d_Model_data_130 : decode c_Model_data 130 = .ok (.iadd, 1) := by decide +kernel
theorem d_Model_data_131 : decode c_Model_data 131 = .ok (.istore_n 3, 1) := by decide +kernel
theorem d_Model_data_132 : decode c_Model_data 132 = .ok (.goto (-78), 3) := by decide +kernel
theorem d_Model_data_135 : decode c_Model_data 135 = .ok (.iconst (-1), 1) := by decide +kernel
theorem d_Model_data_136 : decode c_Model_data 136 = .ok (.ireturn, 1) := by decide +kernel
theorem d_Model_quantiser_0 : decode c_Model_quantiser 0 = .ok (.aload_n 0, 1) := by decide +kernel
theorem d_Model_quantiser_1 : decode c_Model_quantiser 1 = .ok (.iconst 0, 1) := by decide +kernel
theorem d_Model_quantiser_2 : decode c_Model_quantiser 2 = .ok (.putfield 77, 3) := by decide +kernel
theorem d_Model_quantiser_5 : decode c_Model_quantiser 5 = .ok (.iload_n 1, 1) := by decide +kernel
theorem d_Model_quantiser_6 : decode c_Model_quantiser 6 = .ok (.ifCond .lt 33, 3) := by decide +kernel
theorem d_Model_quantiser_9 : decode c_Model_quantiser 9 = .ok (.iload_n 1, 1) := by decide +kernel
theorem d_Model_quantiser_10 : decode c_Model_quantiser 10 = .ok (.iconst 4, 1) := by decide +kernel
theorem d_Model_quantiser_11 : decode c_Model_quantiser 11 = .ok (.if_icmp .ge 28, 3) := by decide +kernel
theorem d_Model_quantiser_14 : decode c_Model_quantiser 14 = .ok (.iload_n 2, 1) := by decide +kernel
theorem d_Model_quantiser_15 : decode c_Model_quantiser 15 = .ok (.ifCond .lt 24, 3) := by decide +kernel
theorem d_Model_quantiser_18 : decode c_Model_quantiser 18 = .ok (.iload_n 2, 1) := by decide +kernel
theorem d_Model_quantiser_19 : decode c_Model_quantiser 19 = .ok (.bipush 64, 2) := by decide +kernel
theorem d_Model_quantiser_21 : decode c_Model_quantiser 21 = .ok (.if_icmp .ge 18, 3) := by decide +kernel
theorem d_Model_quantiser_24 : decode c_Model_quantiser 24 = .ok (.aload_n 0, 1) := by decide +kernel
theorem d_Model_quantiser_25 : decode c_Model_quantiser 25 = .ok (.getfield 33, 3) := by decide +kernel
theorem d_Model_quantiser_28 : decode c_Model_quantiser 28 = .ok (.iload_n 1, 1) := by decide +kernel
theorem d_Model_quantiser_29 : decode c_Model_quantiser 29 = .ok (.iconst 3, 1) := by decide +kernel
theorem d_Model_quantiser_30 : decode c_Model_quantiser 30 = .ok (.iand, 1) := by decide +kernel
theorem d_Model_quantiser_31 : decode c_Model_quantiser 31 = .ok (.baload, 1) := by decide +kernel
theorem d_Model_quantiser_32 : decode c_Model_quantiser 32 = .ok (.ifCond .eq 7, 3) := by decide +kernel
theorem d_Model_quantiser_35 : decode c_Model_quantiser 35 = .ok (.iconst 1, 1) := by decide +kernel
theorem d_Model_quantiser_36 : decode c_Model_quantiser 36 = .ok (.goto 4, 3) := by decide +kernel
theorem d_Model_quantiser_39 : decode c_Model_quantiser 39 = .ok (.iconst 0, 1) := by decide +kernel
theorem d_Model_quantiser_40 : decode c_Model_quantiser 40 = .ok (.istore_n 3, 1) := by decide +kernel
theorem d_Model_quantiser_41 : decode c_Model_quantiser 41 = .ok (.iload_n 3, 1) := by decide +kernel
theorem d_Model_quantiser_42 : decode c_Model_quantiser 42 = .ok (.ifCond .eq 17, 3) := by decide +kernel
theorem d_Model_quantiser_45 : decode c_Model_quantiser 45 = .ok (.aload_n 0, 1) := by decide +kernel
theorem d_Model_quantiser_46 : decode c_Model_quantiser 46 = .ok (.getfield 37, 3) := by decide +kernel
theorem d_Model_quantiser_49 : decode c_Model_quantiser 49 = .ok (.bipush 64, 2) := by decide +kernel
theorem d_Model_quantiser_51 : decode c_Model_quantiser 51 = .ok (.iload_n 1, 1) := by decide +kernel
theorem d_Model_quantiser_52 : decode c_Model_quantiser 52 = .ok (.imul, 1) := by decide +kernel
theorem d_Model_quantiser_53 : decode c_Model_quantiser 53 = .ok (.iload_n 2, 1) := by decide +kernel
theorem d_Model_quantiser_54 : decode c_Model_quantiser 54 = .ok (.iadd, 1) := by decide +kernel
theorem d_Model_quantiser_55 : decode c_Model_quantiser 55 = .ok (.iaload, 1) := by decide +kernel
theorem d_Model_quantiser_56 : decode c_Model_quantiser 56 = .ok (.goto 4, 3) := by decide +kernel
theorem d_Model_quantiser_59 : decode c_Model_quantiser 59 = .ok (.iconst (-1), 1) := by decide +kernel
theorem d_Model_quantiser_60 : decode c_Model_quantiser 60 = .ok (.ireturn, 1) := by decide +kernel
theorem d_Model_word_0 : decode c_Model_word 0 = .ok (.aload_n 0, 1) := by decide +kernel
theorem d_Model_word_1 : decode c_Model_word 1 = .ok (.iconst 0, 1) := by decide +kernel
theorem d_Model_word_2 : decode c_Model_word 2 = .ok (.putfield 77, 3) := by decide +kernel
theorem d_Model_word_5 : decode c_Model_word 5 = .ok (.iload_n 1, 1) := by decide +kernel
theorem d_Model_word_6 : decode c_Model_word 6 = .ok (.ifCond .lt 8, 3) := by decide +kernel
theorem d_Model_word_9 : decode c_Model_word 9 = .ok (.iload_n 1, 1) := by decide +kernel
theorem d_Model_word_10 : decode c_Model_word 10 = .ok (.iconst 4, 1) := by decide +kernel
theorem d_Model_word_11 : decode c_Model_word 11 = .ok (.if_icmp .lt 15, 3) := by decide +kernel
theorem d_Model_word_14 : decode c_Model_word 14 = .ok (.iload_n 1, 1) := by decide +kernel
theorem d_Model_word_15 : decode c_Model_word 15 = .ok (.bipush 16, 2) := by decide +kernel
theorem d_Model_word_17 : decode c_Model_word 17 = .ok (.if_icmp .lt 13, 3) := by decide +kernel
theorem d_Model_word_20 : decode c_Model_word 20 = .ok (.iload_n 1, 1) := by decide +kernel
theorem d_Model_word_21 : decode c_Model_word 21 = .ok (.bipush 20, 2) := by decide +kernel
theorem d_Model_word_23 : decode c_Model_word 23 = .ok (.if_icmp .ge 7, 3) := by decide +kernel
theorem d_Model_word_26 : decode c_Model_word 26 = .ok (.iconst 1, 1) := by decide +kernel
theorem d_Model_word_27 : decode c_Model_word 27 = .ok (.goto 4, 3) := by decide +kernel
theorem d_Model_word_30 : decode c_Model_word 30 = .ok (.iconst 0, 1) := by decide +kernel
theorem d_Model_word_31 : decode c_Model_word 31 = .ok (.istore 4, 2) := by decide +kernel
theorem d_Model_word_33 : decode c_Model_word 33 = .ok (.iload 4, 2) := by decide +kernel
theorem d_Model_word_35 : decode c_Model_word 35 = .ok (.ifCond .ne 7, 3) := by decide +kernel
theorem d_Model_word_38 : decode c_Model_word 38 = .ok (.iconst 0, 1) := by decide +kernel
theorem d_Model_word_39 : decode c_Model_word 39 = .ok (.goto 16, 3) := by decide +kernel
theorem d_Model_word_42 : decode c_Model_word 42 = .ok (.iload_n 1, 1) := by decide +kernel
theorem d_Model_word_43 : decode c_Model_word 43 = .ok (.iconst 4, 1) := by decide +kernel
theorem d_Model_word_44 : decode c_Model_word 44 = .ok (.if_icmp .ge 7, 3) := by decide +kernel
theorem d_Model_word_47 : decode c_Model_word 47 = .ok (.iload_n 1, 1) := by decide +kernel
theorem d_Model_word_48 : decode c_Model_word 48 = .ok (.goto 7, 3) := by decide +kernel
theorem d_Model_word_51 : decode c_Model_word 51 = .ok (.iload_n 1, 1) := by decide +kernel
theorem d_Model_word_52 : decode c_Model_word 52 = .ok (.bipush 12, 2) := by decide +kernel
theorem d_Model_word_54 : decode c_Model_word 54 = .ok (.isub, 1) := by decide +kernel
theorem d_Model_word_55 : decode c_Model_word 55 = .ok (.istore 5, 2) := by decide +kernel
theorem d_Model_word_57 : decode c_Model_word 57 = .ok (.iload 4, 2) := by decide +kernel
theorem d_Model_word_59 : decode c_Model_word 59 = .ok (.ifCond .eq 13, 3) := by decide +kernel
theorem d_Model_word_62 : decode c_Model_word 62 = .ok (.aload_n 0, 1) := by decide +kernel
theorem d_Model_word_63 : decode c_Model_word 63 = .ok (.getfield 40, 3) := by decide +kernel
theorem d_Model_word_66 : decode c_Model_word 66 = .ok (.iload 5, 2) := by decide +kernel
theorem d_Model_word_68 : decode c_Model_word 68 = .ok (.baload, 1) := by decide +kernel
theorem d_Model_word_69 : decode c_Model_word 69 = .ok (.ifCond .ne 5, 3) := by decide +kernel
theorem d_Model_word_72 : decode c_Model_word 72 = .ok (.iconst (-1), 1) := by decide +kernel
theorem d_Model_word_73 : decode c_Model_word 73 = .ok (.ireturn, 1) := by decide +kernel
theorem d_Model_word_74 : decode c_Model_word 74 = .ok (.iload_n 2, 1) := by decide +kernel
theorem d_Model_word_75 : decode c_Model_word 75 = .ok (.ifCond .ne 31, 3) := by decide +kernel
theorem d_Model_word_78 : decode c_Model_word 78 = .ok (.iload_n 3, 1) := by decide +kernel
theorem d_Model_word_79 : decode c_Model_word 79 = .ok (.iconst 1, 1) := by decide +kernel
theorem d_Model_word_80 : decode c_Model_word 80 = .ok (.if_icmp .lt 24, 3) := by decide +kernel
theorem d_Model_word_83 : decode c_Model_word 83 = .ok (.iload_n 3, 1) := by decide +kernel
theorem d_Model_word_84 : decode c_Model_word 84 = .ok (.bipush 16, 2) := by decide +kernel
theorem d_Model_word_86 : decode c_Model_word 86 = .ok (.if_icmp .gt 18, 3) := by decide +kernel
theorem d_Model_word_89 : decode c_Model_word 89 = .ok (.aload_n 0, 1) := by decide +kernel
theorem d_Model_word_90 : decode c_Model_word 90 = .ok (.getfield 43, 3) := by decide +kernel
theorem d_Model_word_93 : decode c_Model_word 93 = .ok (.bipush 17, 2) := by decide +kernel
theorem d_Model_word_95 : decode c_Model_word 95 = .ok (.iload 5, 2) := by decide +kernel
theorem d_Model_word_97 : decode c_Model_word 97 = .ok (.imul, 1) := by decide +kernel
theorem d_Model_word_98 : decode c_Model_word 98 = .ok (.iload_n 3, 1) := by decide +kernel
theorem d_Model_word_99 : decode c_Model_word 99 = .ok (.iadd, 1) := by decide +kernel
theorem d_Model_word_100 : decode c_Model_word 100 = .ok (.iaload, 1) := by decide +kernel
theorem d_Model_word_101 : decode c_Model_word 101 = .ok (.goto 4, 3) := by decide +kernel
theorem d_Model_word_104 : decode c_Model_word 104 = .ok (.iconst (-1), 1) := by decide +kernel
theorem d_Model_word_105 : decode c_Model_word 105 = .ok (.ireturn, 1) := by decide +kernel
theorem d_Model_word_106 : decode c_Model_word 106 = .ok (.iload_n 2, 1) := by decide +kernel
theorem d_Model_word_107 : decode c_Model_word 107 = .ok (.iconst 1, 1) := by decide +kernel
theorem d_Model_word_108 : decode c_Model_word 108 = .ok (.if_icmp .ne 34, 3) := by decide +kernel
theorem d_Model_word_111 : decode c_Model_word 111 = .ok (.iload_n 3, 1) := by decide +kernel
theorem d_Model_word_112 : decode c_Model_word 112 = .ok (.ifCond .lt 30, 3) := by decide +kernel
theorem d_Model_word_115 : decode c_Model_word 115 = .ok (.iload_n 3, 1) := by decide +kernel
theorem d_Model_word_116 : decode c_Model_word 116 = .ok (.aload_n 0, 1) := by decide +kernel
theorem d_Model_word_117 : decode c_Model_word 117 = .ok (.getfield 49, 3) := by decide +kernel
theorem d_Model_word_120 : decode c_Model_word 120 = .ok (.iload 5, 2) := by decide +kernel
theorem d_Model_word_122 : decode c_Model_word 122 = .ok (.iaload, 1) := by decide +kernel
theorem d_Model_word_123 : decode c_Model_word 123 = .ok (.if_icmp .ge 19, 3) := by decide +kernel
theorem d_Model_word_126 : decode c_Model_word 126 = .ok (.aload_n 0, 1) := by decide +kernel
theorem d_Model_word_127 : decode c_Model_word 127 = .ok (.getfield 46, 3) := by decide +kernel
theorem d_Model_word_130 : decode c_Model_word 130 = .ok (.sipush 256, 3) := by decide +kernel
theorem d_Model_word_133 : decode c_Model_word 133 = .ok (.iload 5, 2) := by decide +kernel
theorem d_Model_word_135 : decode c_Model_word 135 = .ok (.imul, 1) := by decide +kernel
theorem d_Model_word_136 : decode c_Model_word 136 = .ok (.iload_n 3, 1) := by decide +kernel
theorem d_Model_word_137 : decode c_Model_word 137 = .ok (.iadd, 1) := by decide +kernel
theorem d_Model_word_138 : decode c_Model_word 138 = .ok (.iaload, 1) := by decide +kernel
theorem d_Model_word_139 : decode c_Model_word 139 = .ok (.goto 4, 3) := by decide +kernel
theorem d_Model_word_142 : decode c_Model_word 142 = .ok (.iconst (-1), 1) := by decide +kernel
theorem d_Model_word_143 : decode c_Model_word 143 = .ok (.ireturn, 1) := by decide +kernel
theorem d_Model_look_0 : decode c_Model_look 0 = .ok (.aload_n 0, 1) := by decide +kernel
theorem d_Model_look_1 : decode c_Model_look 1 = .ok (.iconst 0, 1) := by decide +kernel
theorem d_Model_look_2 : decode c_Model_look 2 = .ok (.putfield 77, 3) := by decide +kernel
theorem d_Model_look_5 : decode c_Model_look 5 = .ok (.iload_n 1, 1) := by decide +kernel
theorem d_Model_look_6 : decode c_Model_look 6 = .ok (.tableswitch 77 0 6 #[42, 47, 52, 57, 62, 67, 72], 42) := by decide +kernel
theorem d_Model_look_48 : decode c_Model_look 48 = .ok (.aload_n 0, 1) := by decide +kernel
theorem d_Model_look_49 : decode c_Model_look 49 = .ok (.getfield 104, 3) := by decide +kernel
theorem d_Model_look_52 : decode c_Model_look 52 = .ok (.ireturn, 1) := by decide +kernel
theorem d_Model_look_53 : decode c_Model_look 53 = .ok (.aload_n 0, 1) := by decide +kernel
theorem d_Model_look_54 : decode c_Model_look 54 = .ok (.getfield 107, 3) := by decide +kernel
theorem d_Model_look_57 : decode c_Model_look 57 = .ok (.ireturn, 1) := by decide +kernel
theorem d_Model_look_58 : decode c_Model_look 58 = .ok (.aload_n 0, 1) := by decide +kernel
theorem d_Model_look_59 : decode c_Model_look 59 = .ok (.getfield 13, 3) := by decide +kernel
theorem d_Model_look_62 : decode c_Model_look 62 = .ok (.ireturn, 1) := by decide +kernel
theorem d_Model_look_63 : decode c_Model_look 63 = .ok (.aload_n 0, 1) := by decide +kernel
theorem d_Model_look_64 : decode c_Model_look 64 = .ok (.getfield 83, 3) := by decide +kernel
theorem d_Model_look_67 : decode c_Model_look 67 = .ok (.ireturn, 1) := by decide +kernel
theorem d_Model_look_68 : decode c_Model_look 68 = .ok (.aload_n 0, 1) := by decide +kernel
theorem d_Model_look_69 : decode c_Model_look 69 = .ok (.getfield 101, 3) := by decide +kernel
theorem d_Model_look_72 : decode c_Model_look 72 = .ok (.ireturn, 1) := by decide +kernel
theorem d_Model_look_73 : decode c_Model_look 73 = .ok (.aload_n 0, 1) := by decide +kernel
theorem d_Model_look_74 : decode c_Model_look 74 = .ok (.getfield 98, 3) := by decide +kernel
theorem d_Model_look_77 : decode c_Model_look 77 = .ok (.ireturn, 1) := by decide +kernel
theorem d_Model_look_78 : decode c_Model_look 78 = .ok (.aload_n 0, 1) := by decide +kernel
theorem d_Model_look_79 : decode c_Model_look 79 = .ok (.getfield 80, 3) := by decide +kernel
theorem d_Model_look_82 : decode c_Model_look 82 = .ok (.ireturn, 1) := by decide +kernel
theorem d_Model_look_83 : decode c_Model_look 83 = .ok (.iconst (-1), 1) := by decide +kernel
theorem d_Model_look_84 : decode c_Model_look 84 = .ok (.ireturn, 1) := by decide +kernel
theorem d_Law_law_0 : decode code 0 = .ok (.new 7, 3) := by decide +kernel
theorem d_Law_law_3 : decode code 3 = .ok (.dup, 1) := by decide +kernel
theorem d_Law_law_4 : decode code 4 = .ok (.invokespecial 9, 3) := by decide +kernel
theorem d_Law_law_7 : decode code 7 = .ok (.astore_n 1, 1) := by decide +kernel
theorem d_Law_law_8 : decode code 8 = .ok (.new 10, 3) := by decide +kernel
theorem d_Law_law_11 : decode code 11 = .ok (.dup, 1) := by decide +kernel
theorem d_Law_law_12 : decode code 12 = .ok (.invokespecial 12, 3) := by decide +kernel
theorem d_Law_law_15 : decode code 15 = .ok (.astore_n 2, 1) := by decide +kernel
theorem d_Law_law_16 : decode code 16 = .ok (.iconst 0, 1) := by decide +kernel
theorem d_Law_law_17 : decode code 17 = .ok (.istore_n 3, 1) := by decide +kernel
theorem d_Law_law_18 : decode code 18 = .ok (.iload_n 3, 1) := by decide +kernel
theorem d_Law_law_19 : decode code 19 = .ok (.aload_n 0, 1) := by decide +kernel
theorem d_Law_law_20 : decode code 20 = .ok (.arraylength, 1) := by decide +kernel
theorem d_Law_law_21 : decode code 21 = .ok (.iconst 4, 1) := by decide +kernel
theorem d_Law_law_22 : decode code 22 = .ok (.isub, 1) := by decide +kernel
theorem d_Law_law_23 : decode code 23 = .ok (.if_icmp .gt 416, 3) := by decide +kernel
theorem d_Law_law_26 : decode code 26 = .ok (.aload_n 0, 1) := by decide +kernel
theorem d_Law_law_27 : decode code 27 = .ok (.iload_n 3, 1) := by decide +kernel
theorem d_Law_law_28 : decode code 28 = .ok (.iaload, 1) := by decide +kernel
theorem d_Law_law_29 : decode code 29 = .ok (.bipush 15, 2) := by decide +kernel
theorem d_Law_law_31 : decode code 31 = .ok (.iand, 1) := by decide +kernel
theorem d_Law_law_32 : decode code 32 = .ok (.tableswitch 401 0 10 #[60, 123, 134, 147, 180, 203, 236, 269, 302, 335, 378], 60) := by decide +kernel
theorem d_Law_law_92 : decode code 92 = .ok (.aload_n 1, 1) := by decide +kernel
theorem d_Law_law_93 : decode code 93 = .ok (.aload_n 0, 1) := by decide +kernel
theorem d_Law_law_94 : decode code 94 = .ok (.iload_n 3, 1) := by decide +kernel
theorem d_Law_law_95 : decode code 95 = .ok (.iconst 1, 1) := by decide +kernel
theorem d_Law_law_96 : decode code 96 = .ok (.iadd, 1) := by decide +kernel
theorem d_Law_law_97 : decode code 97 = .ok (.iaload, 1) := by decide +kernel
theorem d_Law_law_98 : decode code 98 = .ok (.i2l, 1) := by decide +kernel
theorem d_Law_law_99 : decode code 99 = .ok (.bipush 32, 2) := by decide +kernel
theorem d_Law_law_101 : decode code 101 = .ok (.lshl, 1) := by decide +kernel
theorem d_Law_law_102 : decode code 102 = .ok (.aload_n 0, 1) := by decide +kernel
theorem d_Law_law_103 : decode code 103 = .ok (.iload_n 3, 1) := by decide +kernel
theorem d_Law_law_104 : decode code 104 = .ok (.iconst 2, 1) := by decide +kernel
theorem d_Law_law_105 : decode code 105 = .ok (.iadd, 1) := by decide +kernel
theorem d_Law_law_106 : decode code 106 = .ok (.iaload, 1) := by decide +kernel
theorem d_Law_law_107 : decode code 107 = .ok (.i2l, 1) := by decide +kernel
theorem d_Law_law_108 : decode code 108 = .ok (.ldc2_w 13, 3) := by decide +kernel
theorem d_Law_law_111 : decode code 111 = .ok (.land, 1) := by decide +kernel
theorem d_Law_law_112 : decode code 112 = .ok (.lor, 1) := by decide +kernel
theorem d_Law_law_113 : decode code 113 = .ok (.aload_n 0, 1) := by decide +kernel
theorem d_Law_law_114 : decode code 114 = .ok (.iload_n 3, 1) := by decide +kernel
theorem d_Law_law_115 : decode code 115 = .ok (.iconst 3, 1) := by decide +kernel
theorem d_Law_law_116 : decode code 116 = .ok (.iadd, 1) := by decide +kernel
theorem d_Law_law_117 : decode code 117 = .ok (.iaload, 1) := by decide +kernel
theorem d_Law_law_118 : decode code 118 = .ok (.invokevirtual 15, 3) := by decide +kernel
theorem d_Law_law_121 : decode code 121 = .ok (.aload_n 2, 1) := by decide +kernel
theorem d_Law_law_122 : decode code 122 = .ok (.aload_n 0, 1) := by decide +kernel
theorem d_Law_law_123 : decode code 123 = .ok (.iload_n 3, 1) := by decide +kernel
theorem d_Law_law_124 : decode code 124 = .ok (.iconst 1, 1) := by decide +kernel
theorem d_Law_law_125 : decode code 125 = .ok (.iadd, 1) := by decide +kernel
theorem d_Law_law_126 : decode code 126 = .ok (.iaload, 1) := by decide +kernel
theorem d_Law_law_127 : decode code 127 = .ok (.i2l, 1) := by decide +kernel
theorem d_Law_law_128 : decode code 128 = .ok (.bipush 32, 2) := by decide +kernel
theorem d_Law_law_130 : decode code 130 = .ok (.lshl, 1) := by decide +kernel
theorem d_Law_law_131 : decode code 131 = .ok (.aload_n 0, 1) := by decide +kernel
theorem d_Law_law_132 : decode code 132 = .ok (.iload_n 3, 1) := by decide +kernel
theorem d_Law_law_133 : decode code 133 = .ok (.iconst 2, 1) := by decide +kernel
theorem d_Law_law_134 : decode code 134 = .ok (.iadd, 1) := by decide +kernel
theorem d_Law_law_135 : decode code 135 = .ok (.iaload, 1) := by decide +kernel
theorem d_Law_law_136 : decode code 136 = .ok (.i2l, 1) := by decide +kernel
theorem d_Law_law_137 : decode code 137 = .ok (.ldc2_w 13, 3) := by decide +kernel
theorem d_Law_law_140 : decode code 140 = .ok (.land, 1) := by decide +kernel
theorem d_Law_law_141 : decode code 141 = .ok (.lor, 1) := by decide +kernel
theorem d_Law_law_142 : decode code 142 = .ok (.aload_n 0, 1) := by decide +kernel
theorem d_Law_law_143 : decode code 143 = .ok (.iload_n 3, 1) := by decide +kernel
theorem d_Law_law_144 : decode code 144 = .ok (.iconst 3, 1) := by decide +kernel
theorem d_Law_law_145 : decode code 145 = .ok (.iadd, 1) := by decide +kernel
theorem d_Law_law_146 : decode code 146 = .ok (.iaload, 1) := by decide +kernel
theorem d_Law_law_147 : decode code 147 = .ok (.invokevirtual 19, 3) := by decide +kernel
theorem d_Law_law_150 : decode code 150 = .ok (.if_icmp .eq 283, 3) := by decide +kernel
theorem d_Law_law_153 : decode code 153 = .ok (.iconst 0, 1) := by decide +kernel
theorem d_Law_law_154 : decode code 154 = .ok (.ireturn, 1) := by decide +kernel
theorem d_Law_law_155 : decode code 155 = .ok (.aload_n 1, 1) := by decide +kernel
theorem d_Law_law_156 : decode code 156 = .ok (.invokevirtual 20, 3) := by decide +kernel
theorem d_Law_law_159 : decode code 159 = .ok (.aload_n 2, 1) := by decide +kernel
theorem d_Law_law_160 : decode code 160 = .ok (.invokevirtual 23, 3) := by decide +kernel
theorem d_Law_law_163 : decode code 163 = .ok (.goto 270, 3) := by decide +kernel
theorem d_Law_law_166 : decode code 166 = .ok (.aload_n 1, 1) := by decide +kernel
theorem d_Law_law_167 : decode code 167 = .ok (.invokevirtual 24, 3) := by decide +kernel
theorem d_Law_law_170 : decode code 170 = .ok (.aload_n 2, 1) := by decide +kernel
theorem d_Law_law_171 : decode code 171 = .ok (.invokevirtual 28, 3) := by decide +kernel
theorem d_Law_law_174 : decode code 174 = .ok (.if_icmp .eq 259, 3) := by decide +kernel
theorem d_Law_law_177 : decode code 177 = .ok (.iconst 0, 1) := by decide +kernel
theorem d_Law_law_178 : decode code 178 = .ok (.ireturn, 1) := by decide +kernel
theorem d_Law_law_179 : decode code 179 = .ok (.aload_n 1, 1) := by decide +kernel
theorem d_Law_law_180 : decode code 180 = .ok (.aload_n 0, 1) := by decide +kernel
theorem d_Law_law_181 : decode code 181 = .ok (.iload_n 3, 1) := by decide +kernel
theorem d_Law_law_182 : decode code 182 = .ok (.iconst 1, 1) := by decide +kernel
theorem d_Law_law_183 : decode code 183 = .ok (.iadd, 1) := by decide +kernel
theorem d_Law_law_184 : decode code 184 = .ok (.iaload, 1) := by decide +kernel
theorem d_Law_law_185 : decode code 185 = .ok (.aload_n 0, 1) := by decide +kernel
theorem d_Law_law_186 : decode code 186 = .ok (.iload_n 3, 1) := by decide +kernel
theorem d_Law_law_187 : decode code 187 = .ok (.iconst 2, 1) := by decide +kernel
theorem d_Law_law_188 : decode code 188 = .ok (.iadd, 1) := by decide +kernel
theorem d_Law_law_189 : decode code 189 = .ok (.iaload, 1) := by decide +kernel
theorem d_Law_law_190 : decode code 190 = .ok (.invokevirtual 29, 3) := by decide +kernel
theorem d_Law_law_193 : decode code 193 = .ok (.aload_n 2, 1) := by decide +kernel
theorem d_Law_law_194 : decode code 194 = .ok (.aload_n 0, 1) := by decide +kernel
theorem d_Law_law_195 : decode code 195 = .ok (.iload_n 3, 1) := by decide +kernel
theorem d_Law_law_196 : decode code 196 = .ok (.iconst 1, 1) := by decide +kernel
theorem d_Law_law_197 : decode code 197 = .ok (.iadd, 1) := by decide +kernel
theorem d_Law_law_198 : decode code 198 = .ok (.iaload, 1) := by decide +kernel
theorem d_Law_law_199 : decode code 199 = .ok (.aload_n 0, 1) := by decide +kernel
theorem d_Law_law_200 : decode code 200 = .ok (.iload_n 3, 1) := by decide +kernel
theorem d_Law_law_201 : decode code 201 = .ok (.iconst 2, 1) := by decide +kernel
theorem d_Law_law_202 : decode code 202 = .ok (.iadd, 1) := by decide +kernel
theorem d_Law_law_203 : decode code 203 = .ok (.iaload, 1) := by decide +kernel
theorem d_Law_law_204 : decode code 204 = .ok (.invokevirtual 33, 3) := by decide +kernel
theorem d_Law_law_207 : decode code 207 = .ok (.if_icmp .eq 226, 3) := by decide +kernel
theorem d_Law_law_210 : decode code 210 = .ok (.iconst 0, 1) := by decide +kernel
theorem d_Law_law_211 : decode code 211 = .ok (.ireturn, 1) := by decide +kernel
theorem d_Law_law_212 : decode code 212 = .ok (.aload_n 1, 1) := by decide +kernel
theorem d_Law_law_213 : decode code 213 = .ok (.aload_n 0, 1) := by decide +kernel
theorem d_Law_law_214 : decode code 214 = .ok (.iload_n 3, 1) := by decide +kernel
theorem d_Law_law_215 : decode code 215 = .ok (.iconst 1, 1) := by decide +kernel
theorem d_Law_law_216 : decode code 216 = .ok (.iadd, 1) := by decide +kernel
theorem d_Law_law_217 : decode code 217 = .ok (.iaload, 1) := by decide +kernel
theorem d_Law_law_218 : decode code 218 = .ok (.invokevirtual 34, 3) := by decide +kernel
theorem d_Law_law_221 : decode code 221 = .ok (.aload_n 2, 1) := by decide +kernel
theorem d_Law_law_222 : decode code 222 = .ok (.aload_n 0, 1) := by decide +kernel
theorem d_Law_law_223 : decode code 223 = .ok (.iload_n 3, 1) := by decide +kernel
theorem d_Law_law_224 : decode code 224 = .ok (.iconst 1, 1) := by decide +kernel
theorem d_Law_law_225 : decode code 225 = .ok (.iadd, 1) := by decide +kernel
theorem d_Law_law_226 : decode code 226 = .ok (.iaload, 1) := by decide +kernel
theorem d_Law_law_227 : decode code 227 = .ok (.invokevirtual 38, 3) := by decide +kernel
theorem d_Law_law_230 : decode code 230 = .ok (.if_icmp .eq 203, 3) := by decide +kernel
theorem d_Law_law_233 : decode code 233 = .ok (.iconst 0, 1) := by decide +kernel
theorem d_Law_law_234 : decode code 234 = .ok (.ireturn, 1) := by decide +kernel
theorem d_Law_law_235 : decode code 235 = .ok (.aload_n 1, 1) := by decide +kernel
theorem d_Law_law_236 : decode code 236 = .ok (.aload_n 0, 1) := by decide +kernel
theorem d_Law_law_237 : decode code 237 = .ok (.iload_n 3, 1) := by decide +kernel
theorem d_Law_law_238 : decode code 238 = .ok (.iconst 1, 1) := by decide +kernel
