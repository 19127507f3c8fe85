theorem d_Model_readFile_256 : decode c_Model_readFile 256 = .ok (.goto 17, 3) := by decide +kernel
theorem d_Model_readFile_259 : decode c_Model_readFile 259 = .ok (.aload_n 0, 1) := by decide +kernel
theorem d_Model_readFile_260 : decode c_Model_readFile 260 = .ok (.getfield 107, 3) := by decide +kernel
theorem d_Model_readFile_263 : decode c_Model_readFile 263 = .ok (.ifCond .ne 10, 3) := by decide +kernel
theorem d_Model_readFile_266 : decode c_Model_readFile 266 = .ok (.aload_n 0, 1) := by decide +kernel
theorem d_Model_readFile_267 : decode c_Model_readFile 267 = .ok (.iload 4, 2) := by decide +kernel
theorem d_Model_readFile_269 : decode c_Model_readFile 269 = .ok (.invokevirtual 185, 3) := by decide +kernel
theorem d_Model_readFile_272 : decode c_Model_readFile 272 = .ok (.istore_n 2, 1) := by decide +kernel
theorem d_Model_readFile_273 : decode c_Model_readFile 273 = .ok (.goto (-217), 3) := by decide +kernel
theorem d_Model_readFile_276 : decode c_Model_readFile 276 = .ok (.return_, 1) := by decide +kernel
theorem d_Model_next_0 : decode c_Model_next 0 = .ok (.aload_n 0, 1) := by decide +kernel
theorem d_Model_next_1 : decode c_Model_next 1 = .ok (.getfield 107, 3) := by decide +kernel
theorem d_Model_next_4 : decode c_Model_next 4 = .ok (.ifCond .le 5, 3) := by decide +kernel
theorem d_Model_next_7 : decode c_Model_next 7 = .ok (.iconst 0, 1) := by decide +kernel
theorem d_Model_next_8 : decode c_Model_next 8 = .ok (.ireturn, 1) := by decide +kernel
theorem d_Model_next_9 : decode c_Model_next 9 = .ok (.aload_n 0, 1) := by decide +kernel
theorem d_Model_next_10 : decode c_Model_next 10 = .ok (.getfield 110, 3) := by decide +kernel
theorem d_Model_next_13 : decode c_Model_next 13 = .ok (.ifCond .lt 24, 3) := by decide +kernel
theorem d_Model_next_16 : decode c_Model_next 16 = .ok (.aload_n 0, 1) := by decide +kernel
theorem d_Model_next_17 : decode c_Model_next 17 = .ok (.getfield 113, 3) := by decide +kernel
theorem d_Model_next_20 : decode c_Model_next 20 = .ok (.aload_n 0, 1) := by decide +kernel
theorem d_Model_next_21 : decode c_Model_next 21 = .ok (.getfield 110, 3) := by decide +kernel
theorem d_Model_next_24 : decode c_Model_next 24 = .ok (.if_icmp .ne 13, 3) := by decide +kernel
theorem d_Model_next_27 : decode c_Model_next 27 = .ok (.aload_n 0, 1) := by decide +kernel
theorem d_Model_next_28 : decode c_Model_next 28 = .ok (.iconst 5, 1) := by decide +kernel
theorem d_Model_next_29 : decode c_Model_next 29 = .ok (.aload_n 0, 1) := by decide +kernel
theorem d_Model_next_30 : decode c_Model_next 30 = .ok (.invokevirtual 116, 3) := by decide +kernel
theorem d_Model_next_33 : decode c_Model_next 33 = .ok (.invokevirtual 120, 3) := by decide +kernel
theorem d_Model_next_36 : decode c_Model_next 36 = .ok (.ireturn, 1) := by decide +kernel
theorem d_Model_next_37 : decode c_Model_next 37 = .ok (.aload_n 0, 1) := by decide +kernel
theorem d_Model_next_38 : decode c_Model_next 38 = .ok (.getfield 113, 3) := by decide +kernel
theorem d_Model_next_41 : decode c_Model_next 41 = .ok (.aload_n 0, 1) := by decide +kernel
theorem d_Model_next_42 : decode c_Model_next 42 = .ok (.getfield 104, 3) := by decide +kernel
theorem d_Model_next_45 : decode c_Model_next 45 = .ok (.if_icmp .ne 13, 3) := by decide +kernel
theorem d_Model_next_48 : decode c_Model_next 48 = .ok (.aload_n 0, 1) := by decide +kernel
theorem d_Model_next_49 : decode c_Model_next 49 = .ok (.iconst 1, 1) := by decide +kernel
theorem d_Model_next_50 : decode c_Model_next 50 = .ok (.aload_n 0, 1) := by decide +kernel
theorem d_Model_next_51 : decode c_Model_next 51 = .ok (.getfield 104, 3) := by decide +kernel
theorem d_Model_next_54 : decode c_Model_next 54 = .ok (.invokevirtual 120, 3) := by decide +kernel
theorem d_Model_next_57 : decode c_Model_next 57 = .ok (.ireturn, 1) := by decide +kernel
theorem d_Model_next_58 : decode c_Model_next 58 = .ok (.aload_n 0, 1) := by decide +kernel
theorem d_Model_next_59 : decode c_Model_next 59 = .ok (.dup, 1) := by decide +kernel
theorem d_Model_next_60 : decode c_Model_next 60 = .ok (.getfield 113, 3) := by decide +kernel
theorem d_Model_next_63 : decode c_Model_next 63 = .ok (.iconst 1, 1) := by decide +kernel
theorem d_Model_next_64 : decode c_Model_next 64 = .ok (.iadd, 1) := by decide +kernel
theorem d_Model_next_65 : decode c_Model_next 65 = .ok (.putfield 113, 3) := by decide +kernel
theorem d_Model_next_68 : decode c_Model_next 68 = .ok (.aload_n 0, 1) := by decide +kernel
theorem d_Model_next_69 : decode c_Model_next 69 = .ok (.aload_n 0, 1) := by decide +kernel
theorem d_Model_next_70 : decode c_Model_next 70 = .ok (.getfield 113, 3) := by decide +kernel
theorem d_Model_next_73 : decode c_Model_next 73 = .ok (.iconst 1, 1) := by decide +kernel
theorem d_Model_next_74 : decode c_Model_next 74 = .ok (.isub, 1) := by decide +kernel
theorem d_Model_next_75 : decode c_Model_next 75 = .ok (.invokevirtual 124, 3) := by decide +kernel
theorem d_Model_next_78 : decode c_Model_next 78 = .ok (.ireturn, 1) := by decide +kernel
theorem d_Model_lengthAt_0 : decode c_Model_lengthAt 0 = .ok (.aload_n 0, 1) := by decide +kernel
theorem d_Model_lengthAt_1 : decode c_Model_lengthAt 1 = .ok (.getfield 131, 3) := by decide +kernel
theorem d_Model_lengthAt_4 : decode c_Model_lengthAt 4 = .ok (.ireturn, 1) := by decide +kernel
theorem d_Model_wrong_0 : decode c_Model_wrong 0 = .ok (.aload_n 0, 1) := by decide +kernel
theorem d_Model_wrong_1 : decode c_Model_wrong 1 = .ok (.getfield 107, 3) := by decide +kernel
theorem d_Model_wrong_4 : decode c_Model_wrong 4 = .ok (.ifCond .ne 13, 3) := by decide +kernel
theorem d_Model_wrong_7 : decode c_Model_wrong 7 = .ok (.aload_n 0, 1) := by decide +kernel
theorem d_Model_wrong_8 : decode c_Model_wrong 8 = .ok (.iload_n 1, 1) := by decide +kernel
theorem d_Model_wrong_9 : decode c_Model_wrong 9 = .ok (.putfield 107, 3) := by decide +kernel
theorem d_Model_wrong_12 : decode c_Model_wrong 12 = .ok (.aload_n 0, 1) := by decide +kernel
theorem d_Model_wrong_13 : decode c_Model_wrong 13 = .ok (.iload_n 2, 1) := by decide +kernel
theorem d_Model_wrong_14 : decode c_Model_wrong 14 = .ok (.putfield 13, 3) := by decide +kernel
theorem d_Model_wrong_17 : decode c_Model_wrong 17 = .ok (.iconst 0, 1) := by decide +kernel
theorem d_Model_wrong_18 : decode c_Model_wrong 18 = .ok (.ireturn, 1) := by decide +kernel
theorem d_Model_byteAt_0 : decode c_Model_byteAt 0 = .ok (.aload_n 0, 1) := by decide +kernel
theorem d_Model_byteAt_1 : decode c_Model_byteAt 1 = .ok (.getfield 7, 3) := by decide +kernel
theorem d_Model_byteAt_4 : decode c_Model_byteAt 4 = .ok (.iload_n 1, 1) := by decide +kernel
theorem d_Model_byteAt_5 : decode c_Model_byteAt 5 = .ok (.baload, 1) := by decide +kernel
theorem d_Model_byteAt_6 : decode c_Model_byteAt 6 = .ok (.sipush 255, 3) := by decide +kernel
theorem d_Model_byteAt_9 : decode c_Model_byteAt 9 = .ok (.iand, 1) := by decide +kernel
theorem d_Model_byteAt_10 : decode c_Model_byteAt 10 = .ok (.ireturn, 1) := by decide +kernel
theorem d_Model_marker_0 : decode c_Model_marker 0 = .ok (.aload_n 0, 1) := by decide +kernel
theorem d_Model_marker_1 : decode c_Model_marker 1 = .ok (.aload_n 0, 1) := by decide +kernel
theorem d_Model_marker_2 : decode c_Model_marker 2 = .ok (.getfield 113, 3) := by decide +kernel
theorem d_Model_marker_5 : decode c_Model_marker 5 = .ok (.putfield 134, 3) := by decide +kernel
theorem d_Model_marker_8 : decode c_Model_marker 8 = .ok (.aload_n 0, 1) := by decide +kernel
theorem d_Model_marker_9 : decode c_Model_marker 9 = .ok (.invokevirtual 128, 3) := by decide +kernel
theorem d_Model_marker_12 : decode c_Model_marker 12 = .ok (.istore_n 1, 1) := by decide +kernel
theorem d_Model_marker_13 : decode c_Model_marker 13 = .ok (.aload_n 0, 1) := by decide +kernel
theorem d_Model_marker_14 : decode c_Model_marker 14 = .ok (.getfield 107, 3) := by decide +kernel
theorem d_Model_marker_17 : decode c_Model_marker 17 = .ok (.ifCond .ne 22, 3) := by decide +kernel
theorem d_Model_marker_20 : decode c_Model_marker 20 = .ok (.iload_n 1, 1) := by decide +kernel
theorem d_Model_marker_21 : decode c_Model_marker 21 = .ok (.sipush 255, 3) := by decide +kernel
theorem d_Model_marker_24 : decode c_Model_marker 24 = .ok (.if_icmp .eq 15, 3) := by decide +kernel
theorem d_Model_marker_27 : decode c_Model_marker 27 = .ok (.aload_n 0, 1) := by decide +kernel
theorem d_Model_marker_28 : decode c_Model_marker 28 = .ok (.iconst 3, 1) := by decide +kernel
theorem d_Model_marker_29 : decode c_Model_marker 29 = .ok (.aload_n 0, 1) := by decide +kernel
theorem d_Model_marker_30 : decode c_Model_marker 30 = .ok (.getfield 113, 3) := by decide +kernel
theorem d_Model_marker_33 : decode c_Model_marker 33 = .ok (.iconst 1, 1) := by decide +kernel
theorem d_Model_marker_34 : decode c_Model_marker 34 = .ok (.isub, 1) := by decide +kernel
theorem d_Model_marker_35 : decode c_Model_marker 35 = .ok (.invokevirtual 120, 3) := by decide +kernel
theorem d_Model_marker_38 : decode c_Model_marker 38 = .ok (.ireturn, 1) := by decide +kernel
theorem d_Model_marker_39 : decode c_Model_marker 39 = .ok (.aload_n 0, 1) := by decide +kernel
theorem d_Model_marker_40 : decode c_Model_marker 40 = .ok (.getfield 107, 3) := by decide +kernel
theorem d_Model_marker_43 : decode c_Model_marker 43 = .ok (.ifCond .ne 18, 3) := by decide +kernel
theorem d_Model_marker_46 : decode c_Model_marker 46 = .ok (.iload_n 1, 1) := by decide +kernel
theorem d_Model_marker_47 : decode c_Model_marker 47 = .ok (.sipush 255, 3) := by decide +kernel
theorem d_Model_marker_50 : decode c_Model_marker 50 = .ok (.if_icmp .ne 11, 3) := by decide +kernel
theorem d_Model_marker_53 : decode c_Model_marker 53 = .ok (.aload_n 0, 1) := by decide +kernel
theorem d_Model_marker_54 : decode c_Model_marker 54 = .ok (.invokevirtual 128, 3) := by decide +kernel
theorem d_Model_marker_57 : decode c_Model_marker 57 = .ok (.istore_n 1, 1) := by decide +kernel
theorem d_Model_marker_58 : decode c_Model_marker 58 = .ok (.goto (-19), 3) := by decide +kernel
theorem d_Model_marker_61 : decode c_Model_marker 61 = .ok (.aload_n 0, 1) := by decide +kernel
theorem d_Model_marker_62 : decode c_Model_marker 62 = .ok (.getfield 107, 3) := by decide +kernel
theorem d_Model_marker_65 : decode c_Model_marker 65 = .ok (.ifCond .ne 19, 3) := by decide +kernel
theorem d_Model_marker_68 : decode c_Model_marker 68 = .ok (.iload_n 1, 1) := by decide +kernel
theorem d_Model_marker_69 : decode c_Model_marker 69 = .ok (.ifCond .ne 15, 3) := by decide +kernel
theorem d_Model_marker_72 : decode c_Model_marker 72 = .ok (.aload_n 0, 1) := by decide +kernel
theorem d_Model_marker_73 : decode c_Model_marker 73 = .ok (.iconst 4, 1) := by decide +kernel
theorem d_Model_marker_74 : decode c_Model_marker 74 = .ok (.aload_n 0, 1) := by decide +kernel
theorem d_Model_marker_75 : decode c_Model_marker 75 = .ok (.getfield 113, 3) := by decide +kernel
theorem d_Model_marker_78 : decode c_Model_marker 78 = .ok (.iconst 1, 1) := by decide +kernel
theorem d_Model_marker_79 : decode c_Model_marker 79 = .ok (.isub, 1) := by decide +kernel
theorem d_Model_marker_80 : decode c_Model_marker 80 = .ok (.invokevirtual 120, 3) := by decide +kernel
theorem d_Model_marker_83 : decode c_Model_marker 83 = .ok (.ireturn, 1) := by decide +kernel
theorem d_Model_marker_84 : decode c_Model_marker 84 = .ok (.iload_n 1, 1) := by decide +kernel
theorem d_Model_marker_85 : decode c_Model_marker 85 = .ok (.ireturn, 1) := by decide +kernel
theorem d_Model_isSent_0 : decode c_Model_isSent 0 = .ok (.aload_n 0, 1) := by decide +kernel
theorem d_Model_isSent_1 : decode c_Model_isSent 1 = .ok (.getfield 95, 3) := by decide +kernel
theorem d_Model_isSent_4 : decode c_Model_isSent 4 = .ok (.ifCond .le 7, 3) := by decide +kernel
theorem d_Model_isSent_7 : decode c_Model_isSent 7 = .ok (.iconst 1, 1) := by decide +kernel
theorem d_Model_isSent_8 : decode c_Model_isSent 8 = .ok (.goto 4, 3) := by decide +kernel
theorem d_Model_isSent_11 : decode c_Model_isSent 11 = .ok (.iconst 0, 1) := by decide +kernel
theorem d_Model_isSent_12 : decode c_Model_isSent 12 = .ok (.istore_n 1, 1) := by decide +kernel
theorem d_Model_isSent_13 : decode c_Model_isSent 13 = .ok (.iconst 0, 1) := by decide +kernel
theorem d_Model_isSent_14 : decode c_Model_isSent 14 = .ok (.istore_n 2, 1) := by decide +kernel
theorem d_Model_isSent_15 : decode c_Model_isSent 15 = .ok (.iload_n 2, 1) := by decide +kernel
theorem d_Model_isSent_16 : decode c_Model_isSent 16 = .ok (.aload_n 0, 1) := by decide +kernel
theorem d_Model_isSent_17 : decode c_Model_isSent 17 = .ok (.getfield 95, 3) := by decide +kernel
theorem d_Model_isSent_20 : decode c_Model_isSent 20 = .ok (.if_icmp .ge 31, 3) := by decide +kernel
theorem d_Model_isSent_23 : decode c_Model_isSent 23 = .ok (.iload_n 1, 1) := by decide +kernel
theorem d_Model_isSent_24 : decode c_Model_isSent 24 = .ok (.ifCond .eq 19, 3) := by decide +kernel
theorem d_Model_isSent_27 : decode c_Model_isSent 27 = .ok (.aload_n 0, 1) := by decide +kernel
theorem d_Model_isSent_28 : decode c_Model_isSent 28 = .ok (.getfield 56, 3) := by decide +kernel
theorem d_Model_isSent_31 : decode c_Model_isSent 31 = .ok (.bipush 64, 2) := by decide +kernel
theorem d_Model_isSent_33 : decode c_Model_isSent 33 = .ok (.iload_n 2, 1) := by decide +kernel
theorem d_Model_isSent_34 : decode c_Model_isSent 34 = .ok (.imul, 1) := by decide +kernel
theorem d_Model_isSent_35 : decode c_Model_isSent 35 = .ok (.iaload, 1) := by decide +kernel
theorem d_Model_isSent_36 : decode c_Model_isSent 36 = .ok (.ifCond .lt 7, 3) := by decide +kernel
theorem d_Model_isSent_39 : decode c_Model_isSent 39 = .ok (.iconst 1, 1) := by decide +kernel
theorem d_Model_isSent_40 : decode c_Model_isSent 40 = .ok (.goto 4, 3) := by decide +kernel
theorem d_Model_isSent_43 : decode c_Model_isSent 43 = .ok (.iconst 0, 1) := by decide +kernel
theorem d_Model_isSent_44 : decode c_Model_isSent 44 = .ok (.istore_n 1, 1) := by decide +kernel
theorem d_Model_isSent_45 : decode c_Model_isSent 45 = .ok (.iinc 2 1, 3) := by decide +kernel
theorem d_Model_isSent_48 : decode c_Model_isSent 48 = .ok (.goto (-33), 3) := by decide +kernel
theorem d_Model_isSent_51 : decode c_Model_isSent 51 = .ok (.iload_n 1, 1) := by decide +kernel
theorem d_Model_isSent_52 : decode c_Model_isSent 52 = .ok (.ireturn, 1) := by decide +kernel
theorem d_Model_segment1_0 : decode c_Model_segment1 0 = .ok (.aload_n 0, 1) := by decide +kernel
theorem d_Model_segment1_1 : decode c_Model_segment1 1 = .ok (.invokevirtual 189, 3) := by decide +kernel
theorem d_Model_segment1_4 : decode c_Model_segment1 4 = .ok (.aload_n 0, 1) := by decide +kernel
theorem d_Model_segment1_5 : decode c_Model_segment1 5 = .ok (.getfield 107, 3) := by decide +kernel
theorem d_Model_segment1_8 : decode c_Model_segment1 8 = .ok (.ifCond .le 5, 3) := by decide +kernel
theorem d_Model_segment1_11 : decode c_Model_segment1 11 = .ok (.iconst 0, 1) := by decide +kernel
theorem d_Model_segment1_12 : decode c_Model_segment1 12 = .ok (.ireturn, 1) := by decide +kernel
theorem d_Model_segment1_13 : decode c_Model_segment1 13 = .ok (.iload_n 1, 1) := by decide +kernel
theorem d_Model_segment1_14 : decode c_Model_segment1 14 = .ok (.sipush 219, 3) := by decide +kernel
theorem d_Model_segment1_17 : decode c_Model_segment1 17 = .ok (.if_icmp .ne 10, 3) := by decide +kernel
theorem d_Model_segment1_20 : decode c_Model_segment1 20 = .ok (.aload_n 0, 1) := by decide +kernel
theorem d_Model_segment1_21 : decode c_Model_segment1 21 = .ok (.invokevirtual 192, 3) := by decide +kernel
theorem d_Model_segment1_24 : decode c_Model_segment1 24 = .ok (.goto 137, 3) := by decide +kernel
theorem d_Model_segment1_27 : decode c_Model_segment1 27 = .ok (.iload_n 1, 1) := by decide +kernel
theorem d_Model_segment1_28 : decode c_Model_segment1 28 = .ok (.sipush 196, 3) := by decide +kernel
theorem d_Model_segment1_31 : decode c_Model_segment1 31 = .ok (.if_icmp .ne 10, 3) := by decide +kernel
theorem d_Model_segment1_34 : decode c_Model_segment1 34 = .ok (.aload_n 0, 1) := by decide +kernel
theorem d_Model_segment1_35 : decode c_Model_segment1 35 = .ok (.invokevirtual 195, 3) := by decide +kernel
theorem d_Model_segment1_38 : decode c_Model_segment1 38 = .ok (.goto 123, 3) := by decide +kernel
theorem d_Model_segment1_41 : decode c_Model_segment1 41 = .ok (.iload_n 1, 1) := by decide +kernel
theorem d_Model_segment1_42 : decode c_Model_segment1 42 = .ok (.sipush 221, 3) := by decide +kernel
theorem d_Model_segment1_45 : decode c_Model_segment1 45 = .ok (.if_icmp .ne 30, 3) := by decide +kernel
theorem d_Model_segment1_48 : decode c_Model_segment1 48 = .ok (.aload_n 0, 1) := by decide +kernel
theorem d_Model_segment1_49 : decode c_Model_segment1 49 = .ok (.invokevirtual 137, 3) := by decide +kernel
theorem d_Model_segment1_52 : decode c_Model_segment1 52 = .ok (.istore_n 2, 1) := by decide +kernel
theorem d_Model_segment1_53 : decode c_Model_segment1 53 = .ok (.aload_n 0, 1) := by decide +kernel
theorem d_Model_segment1_54 : decode c_Model_segment1 54 = .ok (.aload_n 0, 1) := by decide +kernel
theorem d_Model_segment1_55 : decode c_Model_segment1 55 = .ok (.getfield 107, 3) := by decide +kernel
theorem d_Model_segment1_58 : decode c_Model_segment1 58 = .ok (.ifCond .ne 7, 3) := by decide +kernel
theorem d_Model_segment1_61 : decode c_Model_segment1 61 = .ok (.iload_n 2, 1) := by decide +kernel
theorem d_Model_segment1_62 : decode c_Model_segment1 62 = .ok (.goto 7, 3) := by decide +kernel
theorem d_Model_segment1_65 : decode c_Model_segment1 65 = .ok (.aload_n 0, 1) := by decide +kernel
theorem d_Model_segment1_66 : decode c_Model_segment1 66 = .ok (.getfield 98, 3) := by decide +kernel
theorem d_Model_segment1_69 : decode c_Model_segment1 69 = .ok (.putfield 98, 3) := by decide +kernel
theorem d_Model_segment1_72 : decode c_Model_segment1 72 = .ok (.goto 89, 3) := by decide +kernel
theorem d_Model_segment1_75 : decode c_Model_segment1 75 = .ok (.iload_n 1, 1) := by decide +kernel
theorem d_Model_segment1_76 : decode c_Model_segment1 76 = .ok (.sipush 192, 3) := by decide +kernel
theorem d_Model_segment1_79 : decode c_Model_segment1 79 = .ok (.if_icmp .eq 10, 3) := by decide +kernel
theorem d_Model_segment1_82 : decode c_Model_segment1 82 = .ok (.iload_n 1, 1) := by decide +kernel
theorem d_Model_segment1_83 : decode c_Model_segment1 83 = .ok (.sipush 194, 3) := by decide +kernel
theorem d_Model_segment1_86 : decode c_Model_segment1 86 = .ok (.if_icmp .ne 11, 3) := by decide +kernel
theorem d_Model_segment1_89 : decode c_Model_segment1 89 = .ok (.aload_n 0, 1) := by decide +kernel
theorem d_Model_segment1_90 : decode c_Model_segment1 90 = .ok (.iload_n 1, 1) := by decide +kernel
theorem d_Model_segment1_91 : decode c_Model_segment1 91 = .ok (.invokevirtual 198, 3) := by decide +kernel
theorem d_Model_segment1_94 : decode c_Model_segment1 94 = .ok (.goto 67, 3) := by decide +kernel
theorem d_Model_segment1_97 : decode c_Model_segment1 97 = .ok (.iload_n 1, 1) := by decide +kernel
theorem d_Model_segment1_98 : decode c_Model_segment1 98 = .ok (.sipush 218, 3) := by decide +kernel
theorem d_Model_segment1_101 : decode c_Model_segment1 101 = .ok (.if_icmp .ne 10, 3) := by decide +kernel
theorem d_Model_segment1_104 : decode c_Model_segment1 104 = .ok (.aload_n 0, 1) := by decide +kernel
theorem d_Model_segment1_105 : decode c_Model_segment1 105 = .ok (.invokevirtual 201, 3) := by decide +kernel
theorem d_Model_segment1_108 : decode c_Model_segment1 108 = .ok (.goto 53, 3) := by decide +kernel
theorem d_Model_segment1_111 : decode c_Model_segment1 111 = .ok (.iload_n 1, 1) := by decide +kernel
theorem d_Model_segment1_112 : decode c_Model_segment1 112 = .ok (.sipush 220, 3) := by decide +kernel
theorem d_Model_segment1_115 : decode c_Model_segment1 115 = .ok (.if_icmp .ne 42, 3) := by decide +kernel
theorem d_Model_segment1_118 : decode c_Model_segment1 118 = .ok (.aload_n 0, 1) := by decide +kernel
theorem d_Model_segment1_119 : decode c_Model_segment1 119 = .ok (.invokevirtual 137, 3) := by decide +kernel
theorem d_Model_segment1_122 : decode c_Model_segment1 122 = .ok (.istore_n 2, 1) := by decide +kernel
theorem d_Model_segment1_123 : decode c_Model_segment1 123 = .ok (.aload_n 0, 1) := by decide +kernel
theorem d_Model_segment1_124 : decode c_Model_segment1 124 = .ok (.aload_n 0, 1) := by decide +kernel
theorem d_Model_segment1_125 : decode c_Model_segment1 125 = .ok (.getfield 107, 3) := by decide +kernel
theorem d_Model_segment1_128 : decode c_Model_segment1 128 = .ok (.ifCond .gt 13, 3) := by decide +kernel
theorem d_Model_segment1_131 : decode c_Model_segment1 131 = .ok (.iload_n 2, 1) := by decide +kernel
theorem d_Model_segment1_132 : decode c_Model_segment1 132 = .ok (.ifCond .le 13, 3) := by decide +kernel
theorem d_Model_segment1_135 : decode c_Model_segment1 135 = .ok (.iload_n 2, 1) := by decide +kernel
theorem d_Model_segment1_136 : decode c_Model_segment1 136 = .ok (.bipush 64, 2) := by decide +kernel
theorem d_Model_segment1_138 : decode c_Model_segment1 138 = .ok (.if_icmp .gt 7, 3) := by decide +kernel
theorem d_Model_segment1_141 : decode c_Model_segment1 141 = .ok (.iconst 1, 1) := by decide +kernel
theorem d_Model_segment1_142 : decode c_Model_segment1 142 = .ok (.goto 4, 3) := by decide +kernel
theorem d_Model_segment1_145 : decode c_Model_segment1 145 = .ok (.iconst 0, 1) := by decide +kernel
theorem d_Model_segment1_146 : decode c_Model_segment1 146 = .ok (.invokevirtual 140, 3) := by decide +kernel
theorem d_Model_segment1_149 : decode c_Model_segment1 149 = .ok (.aload_n 0, 1) := by decide +kernel
theorem d_Model_segment1_150 : decode c_Model_segment1 150 = .ok (.iload_n 2, 1) := by decide +kernel
theorem d_Model_segment1_151 : decode c_Model_segment1 151 = .ok (.putfield 92, 3) := by decide +kernel
theorem d_Model_segment1_154 : decode c_Model_segment1 154 = .ok (.goto 7, 3) := by decide +kernel
theorem d_Model_segment1_157 : decode c_Model_segment1 157 = .ok (.aload_n 0, 1) := by decide +kernel
theorem d_Model_segment1_158 : decode c_Model_segment1 158 = .ok (.invokevirtual 204, 3) := by decide +kernel
theorem d_Model_segment1_161 : decode c_Model_segment1 161 = .ok (.aload_n 0, 1) := by decide +kernel
theorem d_Model_segment1_162 : decode c_Model_segment1 162 = .ok (.iload_n 1, 1) := by decide +kernel
theorem d_Model_segment1_163 : decode c_Model_segment1 163 = .ok (.invokevirtual 207, 3) := by decide +kernel
theorem d_Model_segment1_166 : decode c_Model_segment1 166 = .ok (.iload_n 1, 1) := by decide +kernel
theorem d_Model_segment1_167 : decode c_Model_segment1 167 = .ok (.sipush 218, 3) := by decide +kernel
theorem d_Model_segment1_170 : decode c_Model_segment1 170 = .ok (.if_icmp .ne 35, 3) := by decide +kernel
theorem d_Model_segment1_173 : decode c_Model_segment1 173 = .ok (.aload_n 0, 1) := by decide +kernel
theorem d_Model_segment1_174 : decode c_Model_segment1 174 = .ok (.getfield 107, 3) := by decide +kernel
theorem d_Model_segment1_177 : decode c_Model_segment1 177 = .ok (.ifCond .ne 28, 3) := by decide +kernel
theorem d_Model_segment1_180 : decode c_Model_segment1 180 = .ok (.aload_n 0, 1) := by decide +kernel
theorem d_Model_segment1_181 : decode c_Model_segment1 181 = .ok (.invokevirtual 210, 3) := by decide +kernel
theorem d_Model_segment1_184 : decode c_Model_segment1 184 = .ok (.aload_n 0, 1) := by decide +kernel
theorem d_Model_segment1_185 : decode c_Model_segment1 185 = .ok (.getfield 92, 3) := by decide +kernel
theorem d_Model_segment1_188 : decode c_Model_segment1 188 = .ok (.ifCond .ne 15, 3) := by decide +kernel
theorem d_Model_segment1_191 : decode c_Model_segment1 191 = .ok (.aload_n 0, 1) := by decide +kernel
theorem d_Model_segment1_192 : decode c_Model_segment1 192 = .ok (.getfield 101, 3) := by decide +kernel
theorem d_Model_segment1_195 : decode c_Model_segment1 195 = .ok (.iconst 1, 1) := by decide +kernel
theorem d_Model_segment1_196 : decode c_Model_segment1 196 = .ok (.if_icmp .ne 7, 3) := by decide +kernel
theorem d_Model_segment1_199 : decode c_Model_segment1 199 = .ok (.iconst 1, 1) := by decide +kernel
theorem d_Model_segment1_200 : decode c_Model_segment1 200 = .ok (.goto 4, 3) := by decide +kernel
theorem d_Model_segment1_203 : decode c_Model_segment1 203 = .ok (.iconst 0, 1) := by decide +kernel
theorem d_Model_segment1_204 : decode c_Model_segment1 204 = .ok (.ireturn, 1) := by decide +kernel
theorem d_Model_segment1_205 : decode c_Model_segment1 205 = .ok (.iconst 0, 1) := by decide +kernel
theorem d_Model_segment1_206 : decode c_Model_segment1 206 = .ok (.ireturn, 1) := by decide +kernel
theorem d_Model_open_0 : decode c_Model_open 0 = .ok (.aload_n 0, 1) := by decide +kernel
theorem d_Model_open_1 : decode c_Model_open 1 = .ok (.aload_n 0, 1) := by decide +kernel
theorem d_Model_open_2 : decode c_Model_open 2 = .ok (.getfield 113, 3) := by decide +kernel
theorem d_Model_open_5 : decode c_Model_open 5 = .ok (.putfield 131, 3) := by decide +kernel
theorem d_Model_open_8 : decode c_Model_open 8 = .ok (.aload_n 0, 1) := by decide +kernel
theorem d_Model_open_9 : decode c_Model_open 9 = .ok (.invokevirtual 137, 3) := by decide +kernel
theorem d_Model_open_12 : decode c_Model_open 12 = .ok (.istore_n 1, 1) := by decide +kernel
theorem d_Model_open_13 : decode c_Model_open 13 = .ok (.aload_n 0, 1) := by decide +kernel
theorem d_Model_open_14 : decode c_Model_open 14 = .ok (.getfield 107, 3) := by decide +kernel
theorem d_Model_open_17 : decode c_Model_open 17 = .ok (.ifCond .ne 18, 3) := by decide +kernel
theorem d_Model_open_20 : decode c_Model_open 20 = .ok (.iload_n 1, 1) := by decide +kernel
theorem d_Model_open_21 : decode c_Model_open 21 = .ok (.iconst 2, 1) := by decide +kernel
theorem d_Model_open_22 : decode c_Model_open 22 = .ok (.if_icmp .ge 13, 3) := by decide +kernel
theorem d_Model_open_25 : decode c_Model_open 25 = .ok (.aload_n 0, 1) := by decide +kernel
theorem d_Model_open_26 : decode c_Model_open 26 = .ok (.iconst 5, 1) := by decide +kernel
theorem d_Model_open_27 : decode c_Model_open 27 = .ok (.aload_n 0, 1) := by decide +kernel
theorem d_Model_open_28 : decode c_Model_open 28 = .ok (.getfield 131, 3) := by decide +kernel
theorem d_Model_open_31 : decode c_Model_open 31 = .ok (.invokevirtual 120, 3) := by decide +kernel
theorem d_Model_open_34 : decode c_Model_open 34 = .ok (.istore_n 2, 1) := by decide +kernel
theorem d_Model_open_35 : decode c_Model_open 35 = .ok (.aload_n 0, 1) := by decide +kernel
theorem d_Model_open_36 : decode c_Model_open 36 = .ok (.aload_n 0, 1) := by decide +kernel
theorem d_Model_open_37 : decode c_Model_open 37 = .ok (.getfield 131, 3) := by decide +kernel
theorem d_Model_open_40 : decode c_Model_open 40 = .ok (.iload_n 1, 1) := by decide +kernel
theorem d_Model_open_41 : decode c_Model_open 41 = .ok (.iadd, 1) := by decide +kernel
theorem d_Model_open_42 : decode c_Model_open 42 = .ok (.putfield 110, 3) := by decide +kernel
theorem d_Model_open_45 : decode c_Model_open 45 = .ok (.return_, 1) := by decide +kernel
theorem d_Model_two_0 : decode c_Model_two 0 = .ok (.aload_n 0, 1) := by decide +kernel
theorem d_Model_two_1 : decode c_Model_two 1 = .ok (.invokevirtual 128, 3) := by decide +kernel
theorem d_Model_two_4 : decode c_Model_two 4 = .ok (.istore_n 1, 1) := by decide +kernel
theorem d_Model_two_5 : decode c_Model_two 5 = .ok (.sipush 256, 3) := by decide +kernel
theorem d_Model_two_8 : decode c_Model_two 8 = .ok (.iload_n 1, 1) := by decide +kernel
theorem d_Model_two_9 : decode c_Model_two 9 = .ok (.imul, 1) := by decide +kernel
theorem d_Model_two_10 : decode c_Model_two 10 = .ok (.aload_n 0, 1) := by decide +kernel
theorem d_Model_two_11 : decode c_Model_two 11 = .ok (.invokevirtual 128, 3) := by decide +kernel
theorem d_Model_two_14 : decode c_Model_two 14 = .ok (.iadd, 1) := by decide +kernel
theorem d_Model_two_15 : decode c_Model_two 15 = .ok (.ireturn, 1) := by decide +kernel
theorem d_Model_readQuantisers_0 : decode c_Model_readQuantisers 0 = .ok (.iconst 1, 1) := by decide +kernel
theorem d_Model_readQuantisers_1 : decode c_Model_readQuantisers 1 = .ok (.istore_n 1, 1) := by decide +kernel
theorem d_Model_readQuantisers_2 : decode c_Model_readQuantisers 2 = .ok (.iload_n 1, 1) := by decide +kernel
theorem d_Model_readQuantisers_3 : decode c_Model_readQuantisers 3 = .ok (.ifCond .eq 131, 3) := by decide +kernel
theorem d_Model_readQuantisers_6 : decode c_Model_readQuantisers 6 = .ok (.aload_n 0, 1) := by decide +kernel
theorem d_Model_readQuantisers_7 : decode c_Model_readQuantisers 7 = .ok (.getfield 107, 3) := by decide +kernel
theorem d_Model_readQuantisers_10 : decode c_Model_readQuantisers 10 = .ok (.ifCond .ne 124, 3) := by decide +kernel
theorem d_Model_readQuantisers_13 : decode c_Model_readQuantisers 13 = .ok (.aload_n 0, 1) := by decide +kernel
theorem d_Model_readQuantisers_14 : decode c_Model_readQuantisers 14 = .ok (.invokevirtual 128, 3) := by decide +kernel
theorem d_Model_readQuantisers_17 : decode c_Model_readQuantisers 17 = .ok (.istore_n 2, 1) := by decide +kernel
theorem d_Model_readQuantisers_18 : decode c_Model_readQuantisers 18 = .ok (.aload_n 0, 1) := by decide +kernel
theorem d_Model_readQuantisers_19 : decode c_Model_readQuantisers 19 = .ok (.aload_n 0, 1) := by decide +kernel
theorem d_Model_readQuantisers_20 : decode c_Model_readQuantisers 20 = .ok (.getfield 107, 3) := by decide +kernel
theorem d_Model_readQuantisers_23 : decode c_Model_readQuantisers 23 = .ok (.ifCond .gt 8, 3) := by decide +kernel
theorem d_Model_readQuantisers_26 : decode c_Model_readQuantisers 26 = .ok (.iload_n 2, 1) := by decide +kernel
theorem d_Model_readQuantisers_27 : decode c_Model_readQuantisers 27 = .ok (.iconst 4, 1) := by decide +kernel
theorem d_Model_readQuantisers_28 : decode c_Model_readQuantisers 28 = .ok (.if_icmp .ge 7, 3) := by decide +kernel
theorem d_Model_readQuantisers_31 : decode c_Model_readQuantisers 31 = .ok (.iconst 1, 1) := by decide +kernel
theorem d_Model_readQuantisers_32 : decode c_Model_readQuantisers 32 = .ok (.goto 4, 3) := by decide +kernel
theorem d_Model_readQuantisers_35 : decode c_Model_readQuantisers 35 = .ok (.iconst 0, 1) := by decide +kernel
theorem d_Model_readQuantisers_36 : decode c_Model_readQuantisers 36 = .ok (.invokevirtual 140, 3) := by decide +kernel
theorem d_Model_readQuantisers_39 : decode c_Model_readQuantisers 39 = .ok (.iconst 0, 1) := by decide +kernel
theorem d_Model_readQuantisers_40 : decode c_Model_readQuantisers 40 = .ok (.istore_n 3, 1) := by decide +kernel
theorem d_Model_readQuantisers_41 : decode c_Model_readQuantisers 41 = .ok (.iload_n 3, 1) := by decide +kernel
theorem d_Model_readQuantisers_42 : decode c_Model_readQuantisers 42 = .ok (.bipush 64, 2) := by decide +kernel
theorem d_Model_readQuantisers_44 : decode c_Model_readQuantisers 44 = .ok (.if_icmp .ge 56, 3) := by decide +kernel
theorem d_Model_readQuantisers_47 : decode c_Model_readQuantisers 47 = .ok (.aload_n 0, 1) := by decide +kernel
theorem d_Model_readQuantisers_48 : decode c_Model_readQuantisers 48 = .ok (.getfield 107, 3) := by decide +kernel
theorem d_Model_readQuantisers_51 : decode c_Model_readQuantisers 51 = .ok (.ifCond .ne 49, 3) := by decide +kernel
theorem d_Model_readQuantisers_54 : decode c_Model_readQuantisers 54 = .ok (.aload_n 0, 1) := by decide +kernel
theorem d_Model_readQuantisers_55 : decode c_Model_readQuantisers 55 = .ok (.invokevirtual 128, 3) := by decide +kernel
theorem d_Model_readQuantisers_58 : decode c_Model_readQuantisers 58 = .ok (.istore 4, 2) := by decide +kernel
theorem d_Model_readQuantisers_60 : decode c_Model_readQuantisers 60 = .ok (.aload_n 0, 1) := by decide +kernel
theorem d_Model_readQuantisers_61 : decode c_Model_readQuantisers 61 = .ok (.aload_n 0, 1) := by decide +kernel
theorem d_Model_readQuantisers_62 : decode c_Model_readQuantisers 62 = .ok (.getfield 107, 3) := by decide +kernel
theorem d_Model_readQuantisers_65 : decode c_Model_readQuantisers 65 = .ok (.ifCond .gt 8, 3) := by decide +kernel
theorem d_Model_readQuantisers_68 : decode c_Model_readQuantisers 68 = .ok (.iload 4, 2) := by decide +kernel
theorem d_Model_readQuantisers_70 : decode c_Model_readQuantisers 70 = .ok (.ifCond .le 7, 3) := by decide +kernel
theorem d_Model_readQuantisers_73 : decode c_Model_readQuantisers 73 = .ok (.iconst 1, 1) := by decide +kernel
theorem d_Model_readQuantisers_74 : decode c_Model_readQuantisers 74 = .ok (.goto 4, 3) := by decide +kernel
theorem d_Model_readQuantisers_77 : decode c_Model_readQuantisers 77 = .ok (.iconst 0, 1) := by decide +kernel
theorem d_Model_readQuantisers_78 : decode c_Model_readQuantisers 78 = .ok (.invokevirtual 140, 3) := by decide +kernel
theorem d_Model_readQuantisers_81 : decode c_Model_readQuantisers 81 = .ok (.aload_n 0, 1) := by decide +kernel
theorem d_Model_readQuantisers_82 : decode c_Model_readQuantisers 82 = .ok (.getfield 37, 3) := by decide +kernel
theorem d_Model_readQuantisers_85 : decode c_Model_readQuantisers 85 = .ok (.bipush 64, 2) := by decide +kernel
theorem d_Model_readQuantisers_87 : decode c_Model_readQuantisers 87 = .ok (.iload_n 2, 1) := by decide +kernel
theorem d_Model_readQuantisers_88 : decode c_Model_readQuantisers 88 = .ok (.imul, 1) := by decide +kernel
theorem d_Model_readQuantisers_89 : decode c_Model_readQuantisers 89 = .ok (.iload_n 3, 1) := by decide +kernel
theorem d_Model_readQuantisers_90 : decode c_Model_readQuantisers 90 = .ok (.iadd, 1) := by decide +kernel
theorem d_Model_readQuantisers_91 : decode c_Model_readQuantisers 91 = .ok (.iload 4, 2) := by decide +kernel
theorem d_Model_readQuantisers_93 : decode c_Model_readQuantisers 93 = .ok (.iastore, 1) := by decide +kernel
theorem d_Model_readQuantisers_94 : decode c_Model_readQuantisers 94 = .ok (.iinc 3 1, 3) := by decide +kernel
theorem d_Model_readQuantisers_97 : decode c_Model_readQuantisers 97 = .ok (.goto (-56), 3) := by decide +kernel
theorem d_Model_readQuantisers_100 : decode c_Model_readQuantisers 100 = .ok (.aload_n 0, 1) := by decide +kernel
theorem d_Model_readQuantisers_101 : decode c_Model_readQuantisers 101 = .ok (.getfield 107, 3) := by decide +kernel
theorem d_Model_readQuantisers_104 : decode c_Model_readQuantisers 104 = .ok (.ifCond .ne 10, 3) := by decide +kernel
theorem d_Model_readQuantisers_107 : decode c_Model_readQuantisers 107 = .ok (.aload_n 0, 1) := by decide +kernel
theorem d_Model_readQuantisers_108 : decode c_Model_readQuantisers 108 = .ok (.getfield 33, 3) := by decide +kernel
theorem d_Model_readQuantisers_111 : decode c_Model_readQuantisers 111 = .ok (.iload_n 2, 1) := by decide +kernel
theorem d_Model_readQuantisers_112 : decode c_Model_readQuantisers 112 = .ok (.iconst 1, 1) := by decide +kernel
theorem d_Model_readQuantisers_113 : decode c_Model_readQuantisers 113 = .ok (.bastore, 1) := by decide +kernel
theorem d_Model_readQuantisers_114 : decode c_Model_readQuantisers 114 = .ok (.aload_n 0, 1) := by decide +kernel
theorem d_Model_readQuantisers_115 : decode c_Model_readQuantisers 115 = .ok (.getfield 113, 3) := by decide +kernel
theorem d_Model_readQuantisers_118 : decode c_Model_readQuantisers 118 = .ok (.aload_n 0, 1) := by decide +kernel
theorem d_Model_readQuantisers_119 : decode c_Model_readQuantisers 119 = .ok (.getfield 110, 3) := by decide +kernel
theorem d_Model_readQuantisers_122 : decode c_Model_readQuantisers 122 = .ok (.if_icmp .ge 7, 3) := by decide +kernel
theorem d_Model_readQuantisers_125 : decode c_Model_readQuantisers 125 = .ok (.iconst 1, 1) := by decide +kernel
theorem d_Model_readQuantisers_126 : decode c_Model_readQuantisers 126 = .ok (.goto 4, 3) := by decide +kernel
theorem d_Model_readQuantisers_129 : decode c_Model_readQuantisers 129 = .ok (.iconst 0, 1) := by decide +kernel
theorem d_Model_readQuantisers_130 : decode c_Model_readQuantisers 130 = .ok (.istore_n 1, 1) := by decide +kernel
theorem d_Model_readQuantisers_131 : decode c_Model_readQuantisers 131 = .ok (.goto (-129), 3) := by decide +kernel
theorem d_Model_readQuantisers_134 : decode c_Model_readQuantisers 134 = .ok (.return_, 1) := by decide +kernel
theorem d_Model_must_0 : decode c_Model_must 0 = .ok (.iload_n 1, 1) := by decide +kernel
theorem d_Model_must_1 : decode c_Model_must 1 = .ok (.ifCond .ne 16, 3) := by decide +kernel
theorem d_Model_must_4 : decode c_Model_must 4 = .ok (.aload_n 0, 1) := by decide +kernel
theorem d_Model_must_5 : decode c_Model_must 5 = .ok (.bipush 6, 2) := by decide +kernel
theorem d_Model_must_7 : decode c_Model_must 7 = .ok (.aload_n 0, 1) := by decide +kernel
theorem d_Model_must_8 : decode c_Model_must 8 = .ok (.getfield 113, 3) := by decide +kernel
theorem d_Model_must_11 : decode c_Model_must 11 = .ok (.iconst 1, 1) := by decide +kernel
theorem d_Model_must_12 : decode c_Model_must 12 = .ok (.isub, 1) := by decide +kernel
theorem d_Model_must_13 : decode c_Model_must 13 = .ok (.invokevirtual 120, 3) := by decide +kernel
theorem d_Model_must_16 : decode c_Model_must 16 = .ok (.istore_n 2, 1) := by decide +kernel
theorem d_Model_must_17 : decode c_Model_must 17 = .ok (.return_, 1) := by decide +kernel
theorem d_Model_readWords_0 : decode c_Model_readWords 0 = .ok (.iconst 1, 1) := by decide +kernel
theorem d_Model_readWords_1 : decode c_Model_readWords 1 = .ok (.istore_n 1, 1) := by decide +kernel
theorem d_Model_readWords_2 : decode c_Model_readWords 2 = .ok (.iload_n 1, 1) := by decide +kernel
theorem d_Model_readWords_3 : decode c_Model_readWords 3 = .ok (.ifCond .eq 94, 3) := by decide +kernel
theorem d_Model_readWords_6 : decode c_Model_readWords 6 = .ok (.aload_n 0, 1) := by decide +kernel
theorem d_Model_readWords_7 : decode c_Model_readWords 7 = .ok (.getfield 107, 3) := by decide +kernel
theorem d_Model_readWords_10 : decode c_Model_readWords 10 = .ok (.ifCond .ne 87, 3) := by decide +kernel
theorem d_Model_readWords_13 : decode c_Model_readWords 13 = .ok (.aload_n 0, 1) := by decide +kernel
theorem d_Model_readWords_14 : decode c_Model_readWords 14 = .ok (.invokevirtual 128, 3) := by decide +kernel
theorem d_Model_readWords_17 : decode c_Model_readWords 17 = .ok (.istore_n 2, 1) := by decide +kernel
theorem d_Model_readWords_18 : decode c_Model_readWords 18 = .ok (.aload_n 0, 1) := by decide +kernel
theorem d_Model_readWords_19 : decode c_Model_readWords 19 = .ok (.aload_n 0, 1) := by decide +kernel
theorem d_Model_readWords_20 : decode c_Model_readWords 20 = .ok (.getfield 107, 3) := by decide +kernel
theorem d_Model_readWords_23 : decode c_Model_readWords 23 = .ok (.ifCond .gt 20, 3) := by decide +kernel
theorem d_Model_readWords_26 : decode c_Model_readWords 26 = .ok (.iload_n 2, 1) := by decide +kernel
theorem d_Model_readWords_27 : decode c_Model_readWords 27 = .ok (.iconst 4, 1) := by decide +kernel
theorem d_Model_readWords_28 : decode c_Model_readWords 28 = .ok (.if_icmp .lt 15, 3) := by decide +kernel
theorem d_Model_readWords_31 : decode c_Model_readWords 31 = .ok (.iload_n 2, 1) := by decide +kernel
theorem d_Model_readWords_32 : decode c_Model_readWords 32 = .ok (.bipush 16, 2) := by decide +kernel
theorem d_Model_readWords_34 : decode c_Model_readWords 34 = .ok (.if_icmp .lt 13, 3) := by decide +kernel
theorem d_Model_readWords_37 : decode c_Model_readWords 37 = .ok (.iload_n 2, 1) := by decide +kernel
theorem d_Model_readWords_38 : decode c_Model_readWords 38 = .ok (.bipush 20, 2) := by decide +kernel
theorem d_Model_readWords_40 : decode c_Model_readWords 40 = .ok (.if_icmp .ge 7, 3) := by decide +kernel
theorem d_Model_readWords_43 : decode c_Model_readWords 43 = .ok (.iconst 1, 1) := by decide +kernel
theorem d_Model_readWords_44 : decode c_Model_readWords 44 = .ok (.goto 4, 3) := by decide +kernel
theorem d_Model_readWords_47 : decode c_Model_readWords 47 = .ok (.iconst 0, 1) := by decide +kernel
theorem d_Model_readWords_48 : decode c_Model_readWords 48 = .ok (.invokevirtual 140, 3) := by decide +kernel
theorem d_Model_readWords_51 : decode c_Model_readWords 51 = .ok (.iload_n 2, 1) := by decide +kernel
theorem d_Model_readWords_52 : decode c_Model_readWords 52 = .ok (.iconst 4, 1) := by decide +kernel
theorem d_Model_readWords_53 : decode c_Model_readWords 53 = .ok (.if_icmp .ge 7, 3) := by decide +kernel
theorem d_Model_readWords_56 : decode c_Model_readWords 56 = .ok (.iload_n 2, 1) := by decide +kernel
theorem d_Model_readWords_57 : decode c_Model_readWords 57 = .ok (.goto 7, 3) := by decide +kernel
theorem d_Model_readWords_60 : decode c_Model_readWords 60 = .ok (.iload_n 2, 1) := by decide +kernel
theorem d_Model_readWords_61 : decode c_Model_readWords 61 = .ok (.bipush 12, 2) := by decide +kernel
theorem d_Model_readWords_63 : decode c_Model_readWords 63 = .ok (.isub, 1) := by decide +kernel
theorem d_Model_readWords_64 : decode c_Model_readWords 64 = .ok (.istore_n 3, 1) := by decide +kernel
theorem d_Model_readWords_65 : decode c_Model_readWords 65 = .ok (.aload_n 0, 1) := by decide +kernel
theorem d_Model_readWords_66 : decode c_Model_readWords 66 = .ok (.getfield 107, 3) := by decide +kernel
theorem d_Model_readWords_69 : decode c_Model_readWords 69 = .ok (.ifCond .ne 8, 3) := by decide +kernel
theorem d_Model_readWords_72 : decode c_Model_readWords 72 = .ok (.aload_n 0, 1) := by decide +kernel
theorem d_Model_readWords_73 : decode c_Model_readWords 73 = .ok (.iload_n 3, 1) := by decide +kernel
theorem d_Model_readWords_74 : decode c_Model_readWords 74 = .ok (.invokevirtual 144, 3) := by decide +kernel
theorem d_Model_readWords_77 : decode c_Model_readWords 77 = .ok (.aload_n 0, 1) := by decide +kernel
theorem d_Model_readWords_78 : decode c_Model_readWords 78 = .ok (.getfield 113, 3) := by decide +kernel
theorem d_Model_readWords_81 : decode c_Model_readWords 81 = .ok (.aload_n 0, 1) := by decide +kernel
theorem d_Model_readWords_82 : decode c_Model_readWords 82 = .ok (.getfield 110, 3) := by decide +kernel
theorem d_Model_readWords_85 : decode c_Model_readWords 85 = .ok (.if_icmp .ge 7, 3) := by decide +kernel
theorem d_Model_readWords_88 : decode c_Model_readWords 88 = .ok (.iconst 1, 1) := by decide +kernel
theorem d_Model_readWords_89 : decode c_Model_readWords 89 = .ok (.goto 4, 3) := by decide +kernel
theorem d_Model_readWords_92 : decode c_Model_readWords 92 = .ok (.iconst 0, 1) := by decide +kernel
theorem d_Model_readWords_93 : decode c_Model_readWords 93 = .ok (.istore_n 1, 1) := by decide +kernel
theorem d_Model_readWords_94 : decode c_Model_readWords 94 = .ok (.goto (-92), 3) := by decide +kernel
theorem d_Model_readWords_97 : decode c_Model_readWords 97 = .ok (.return_, 1) := by decide +kernel
theorem d_Model_readTable_0 : decode c_Model_readTable 0 = .ok (.iconst 0, 1) := by decide +kernel
theorem d_Model_readTable_1 : decode c_Model_readTable 1 = .ok (.istore_n 2, 1) := by decide +kernel
theorem d_Model_readTable_2 : decode c_Model_readTable 2 = .ok (.lconst 0, 1) := by decide +kernel
theorem d_Model_readTable_3 : decode c_Model_readTable 3 = .ok (.lstore_n 3, 1) := by decide +kernel
theorem d_Model_readTable_4 : decode c_Model_readTable 4 = .ok (.iconst 1, 1) := by decide +kernel
theorem d_Model_readTable_5 : decode c_Model_readTable 5 = .ok (.istore 5, 2) := by decide +kernel
theorem d_Model_readTable_7 : decode c_Model_readTable 7 = .ok (.iload 5, 2) := by decide +kernel
theorem d_Model_readTable_9 : decode c_Model_readTable 9 = .ok (.bipush 16, 2) := by decide +kernel
theorem d_Model_readTable_11 : decode c_Model_readTable 11 = .ok (.if_icmp .gt 117, 3) := by decide +kernel
theorem d_Model_readTable_14 : decode c_Model_readTable 14 = .ok (.aload_n 0, 1) := by decide +kernel
theorem d_Model_readTable_15 : decode c_Model_readTable 15 = .ok (.getfield 107, 3) := by decide +kernel
theorem d_Model_readTable_18 : decode c_Model_readTable 18 = .ok (.ifCond .ne 110, 3) := by decide +kernel
theorem d_Model_readTable_21 : decode c_Model_readTable 21 = .ok (.aload_n 0, 1) := by decide +kernel
theorem d_Model_readTable_22 : decode c_Model_readTable 22 = .ok (.invokevirtual 128, 3) := by decide +kernel
theorem d_Model_readTable_25 : decode c_Model_readTable 25 = .ok (.istore 6, 2) := by decide +kernel
theorem d_Model_readTable_27 : decode c_Model_readTable 27 = .ok (.aload_n 0, 1) := by decide +kernel
theorem d_Model_readTable_28 : decode c_Model_readTable 28 = .ok (.getfield 43, 3) := by decide +kernel
theorem d_Model_readTable_31 : decode c_Model_readTable 31 = .ok (.bipush 17, 2) := by decide +kernel
theorem d_Model_readTable_33 : decode c_Model_readTable 33 = .ok (.iload_n 1, 1) := by decide +kernel
theorem d_Model_readTable_34 : decode c_Model_readTable 34 = .ok (.imul, 1) := by decide +kernel
theorem d_Model_readTable_35 : decode c_Model_readTable 35 = .ok (.iload 5, 2) := by decide +kernel
theorem d_Model_readTable_37 : decode c_Model_readTable 37 = .ok (.iadd, 1) := by decide +kernel
theorem d_Model_readTable_38 : decode c_Model_readTable 38 = .ok (.iload 6, 2) := by decide +kernel
theorem d_Model_readTable_40 : decode c_Model_readTable 40 = .ok (.iastore, 1) := by decide +kernel
theorem d_Model_readTable_41 : decode c_Model_readTable 41 = .ok (.iload_n 2, 1) := by decide +kernel
theorem d_Model_readTable_42 : decode c_Model_readTable 42 = .ok (.iload 6, 2) := by decide +kernel
theorem d_Model_readTable_44 : decode c_Model_readTable 44 = .ok (.iadd, 1) := by decide +kernel
theorem d_Model_readTable_45 : decode c_Model_readTable 45 = .ok (.istore_n 2, 1) := by decide +kernel
theorem d_Model_readTable_46 : decode c_Model_readTable 46 = .ok (.ldc2_w 148, 3) := by decide +kernel
theorem d_Model_readTable_49 : decode c_Model_readTable 49 = .ok (.lload_n 3, 1) := by decide +kernel
theorem d_Model_readTable_50 : decode c_Model_readTable 50 = .ok (.lmul, 1) := by decide +kernel
theorem d_Model_readTable_51 : decode c_Model_readTable 51 = .ok (.iload 6, 2) := by decide +kernel
theorem d_Model_readTable_53 : decode c_Model_readTable 53 = .ok (.i2l, 1) := by decide +kernel
theorem d_Model_readTable_54 : decode c_Model_readTable 54 = .ok (.ladd, 1) := by decide +kernel
theorem d_Model_readTable_55 : decode c_Model_readTable 55 = .ok (.lstore_n 3, 1) := by decide +kernel
theorem d_Model_readTable_56 : decode c_Model_readTable 56 = .ok (.aload_n 0, 1) := by decide +kernel
theorem d_Model_readTable_57 : decode c_Model_readTable 57 = .ok (.aload_n 0, 1) := by decide +kernel
theorem d_Model_readTable_58 : decode c_Model_readTable 58 = .ok (.getfield 107, 3) := by decide +kernel
theorem d_Model_readTable_61 : decode c_Model_readTable 61 = .ok (.ifCond .gt 26, 3) := by decide +kernel
theorem d_Model_readTable_64 : decode c_Model_readTable 64 = .ok (.iload_n 2, 1) := by decide +kernel
theorem d_Model_readTable_65 : decode c_Model_readTable 65 = .ok (.sipush 256, 3) := by decide +kernel
theorem d_Model_readTable_68 : decode c_Model_readTable 68 = .ok (.if_icmp .gt 23, 3) := by decide +kernel
theorem d_Model_readTable_71 : decode c_Model_readTable 71 = .ok (.iload 6, 2) := by decide +kernel
theorem d_Model_readTable_73 : decode c_Model_readTable 73 = .ok (.ifCond .eq 14, 3) := by decide +kernel
theorem d_Model_readTable_76 : decode c_Model_readTable 76 = .ok (.lload_n 3, 1) := by decide +kernel
theorem d_Model_readTable_77 : decode c_Model_readTable 77 = .ok (.lconst 1, 1) := by decide +kernel
theorem d_Model_readTable_78 : decode c_Model_readTable 78 = .ok (.iload 5, 2) := by decide +kernel
theorem d_Model_readTable_80 : decode c_Model_readTable 80 = .ok (.lshl, 1) := by decide +kernel
theorem d_Model_readTable_81 : decode c_Model_readTable 81 = .ok (.lconst 1, 1) := by decide +kernel
theorem d_Model_readTable_82 : decode c_Model_readTable 82 = .ok (.lsub, 1) := by decide +kernel
theorem d_Model_readTable_83 : decode c_Model_readTable 83 = .ok (.lcmp, 1) := by decide +kernel
theorem d_Model_readTable_84 : decode c_Model_readTable 84 = .ok (.ifCond .gt 7, 3) := by decide +kernel
theorem d_Model_readTable_87 : decode c_Model_readTable 87 = .ok (.iconst 1, 1) := by decide +kernel
theorem d_Model_readTable_88 : decode c_Model_readTable 88 = .ok (.goto 4, 3) := by decide +kernel
theorem d_Model_readTable_91 : decode c_Model_readTable 91 = .ok (.iconst 0, 1) := by decide +kernel
theorem d_Model_readTable_92 : decode c_Model_readTable 92 = .ok (.invokevirtual 140, 3) := by decide +kernel
theorem d_Model_readTable_95 : decode c_Model_readTable 95 = .ok (.aload_n 0, 1) := by decide +kernel
theorem d_Model_readTable_96 : decode c_Model_readTable 96 = .ok (.aload_n 0, 1) := by decide +kernel
theorem d_Model_readTable_97 : decode c_Model_readTable 97 = .ok (.getfield 107, 3) := by decide +kernel
theorem d_Model_readTable_100 : decode c_Model_readTable 100 = .ok (.ifCond .gt 14, 3) := by decide +kernel
theorem d_Model_readTable_103 : decode c_Model_readTable 103 = .ok (.iload 5, 2) := by decide +kernel
theorem d_Model_readTable_105 : decode c_Model_readTable 105 = .ok (.bipush 16, 2) := by decide +kernel
theorem d_Model_readTable_107 : decode c_Model_readTable 107 = .ok (.if_icmp .lt 7, 3) := by decide +kernel
theorem d_Model_readTable_110 : decode c_Model_readTable 110 = .ok (.iload_n 2, 1) := by decide +kernel
theorem d_Model_readTable_111 : decode c_Model_readTable 111 = .ok (.ifCond .le 7, 3) := by decide +kernel
theorem d_Model_readTable_114 : decode c_Model_readTable 114 = .ok (.iconst 1, 1) := by decide +kernel
theorem d_Model_readTable_115 : decode c_Model_readTable 115 = .ok (.goto 4, 3) := by decide +kernel
theorem d_Model_readTable_118 : decode c_Model_readTable 118 = .ok (.iconst 0, 1) := by decide +kernel
theorem d_Model_readTable_119 : decode c_Model_readTable 119 = .ok (.invokevirtual 140, 3) := by decide +kernel
theorem d_Model_readTable_122 : decode c_Model_readTable 122 = .ok (.iinc 5 1, 3) := by decide +kernel
theorem d_Model_readTable_125 : decode c_Model_readTable 125 = .ok (.goto (-118), 3) := by decide +kernel
theorem d_Model_readTable_128 : decode c_Model_readTable 128 = .ok (.iconst 0, 1) := by decide +kernel
theorem d_Model_readTable_129 : decode c_Model_readTable 129 = .ok (.istore 5, 2) := by decide +kernel
theorem d_Model_readTable_131 : decode c_Model_readTable 131 = .ok (.iload 5, 2) := by decide +kernel
theorem d_Model_readTable_133 : decode c_Model_readTable 133 = .ok (.sipush 256, 3) := by decide +kernel
theorem d_Model_readTable_136 : decode c_Model_readTable 136 = .ok (.if_icmp .ge 17, 3) := by decide +kernel
theorem d_Model_readTable_139 : decode c_Model_readTable 139 = .ok (.aload_n 0, 1) := by decide +kernel
theorem d_Model_readTable_140 : decode c_Model_readTable 140 = .ok (.getfield 71, 3) := by decide +kernel
theorem d_Model_readTable_143 : decode c_Model_readTable 143 = .ok (.iload 5, 2) := by decide +kernel
theorem d_Model_readTable_145 : decode c_Model_readTable 145 = .ok (.iconst 0, 1) := by decide +kernel
theorem d_Model_readTable_146 : decode c_Model_readTable 146 = .ok (.bastore, 1) := by decide +kernel
theorem d_Model_readTable_147 : decode c_Model_readTable 147 = .ok (.iinc 5 1, 3) := by decide +kernel
theorem d_Model_readTable_150 : decode c_Model_readTable 150 = .ok (.goto (-19), 3) := by decide +kernel
theorem d_Model_readTable_153 : decode c_Model_readTable 153 = .ok (.iconst 0, 1) := by decide +kernel
theorem d_Model_readTable_154 : decode c_Model_readTable 154 = .ok (.istore 5, 2) := by decide +kernel
theorem d_Model_readTable_156 : decode c_Model_readTable 156 = .ok (.iload 5, 2) := by decide +kernel
theorem d_Model_readTable_158 : decode c_Model_readTable 158 = .ok (.iload_n 2, 1) := by decide +kernel
theorem d_Model_readTable_159 : decode c_Model_readTable 159 = .ok (.if_icmp .ge 83, 3) := by decide +kernel
theorem d_Model_readTable_162 : decode c_Model_readTable 162 = .ok (.aload_n 0, 1) := by decide +kernel
theorem d_Model_readTable_163 : decode c_Model_readTable 163 = .ok (.getfield 107, 3) := by decide +kernel
theorem d_Model_readTable_166 : decode c_Model_readTable 166 = .ok (.ifCond .ne 76, 3) := by decide +kernel
theorem d_Model_readTable_169 : decode c_Model_readTable 169 = .ok (.aload_n 0, 1) := by decide +kernel
theorem d_Model_readTable_170 : decode c_Model_readTable 170 = .ok (.invokevirtual 128, 3) := by decide +kernel
theorem d_Model_readTable_173 : decode c_Model_readTable 173 = .ok (.istore 6, 2) := by decide +kernel
theorem d_Model_readTable_175 : decode c_Model_readTable 175 = .ok (.aload_n 0, 1) := by decide +kernel
theorem d_Model_readTable_176 : decode c_Model_readTable 176 = .ok (.aload_n 0, 1) := by decide +kernel
theorem d_Model_readTable_177 : decode c_Model_readTable 177 = .ok (.getfield 107, 3) := by decide +kernel
theorem d_Model_readTable_180 : decode c_Model_readTable 180 = .ok (.ifCond .gt 25, 3) := by decide +kernel
theorem d_Model_readTable_183 : decode c_Model_readTable 183 = .ok (.aload_n 0, 1) := by decide +kernel
theorem d_Model_readTable_184 : decode c_Model_readTable 184 = .ok (.getfield 71, 3) := by decide +kernel
theorem d_Model_readTable_187 : decode c_Model_readTable 187 = .ok (.iload 6, 2) := by decide +kernel
theorem d_Model_readTable_189 : decode c_Model_readTable 189 = .ok (.baload, 1) := by decide +kernel
theorem d_Model_readTable_190 : decode c_Model_readTable 190 = .ok (.ifCond .ne 19, 3) := by decide +kernel
theorem d_Model_readTable_193 : decode c_Model_readTable 193 = .ok (.iload_n 1, 1) := by decide +kernel
theorem d_Model_readTable_194 : decode c_Model_readTable 194 = .ok (.iconst 3, 1) := by decide +kernel
theorem d_Model_readTable_195 : decode c_Model_readTable 195 = .ok (.if_icmp .gt 10, 3) := by decide +kernel
theorem d_Model_readTable_198 : decode c_Model_readTable 198 = .ok (.iload 6, 2) := by decide +kernel
theorem d_Model_readTable_200 : decode c_Model_readTable 200 = .ok (.bipush 12, 2) := by decide +kernel
theorem d_Model_readTable_202 : decode c_Model_readTable 202 = .ok (.if_icmp .ge 7, 3) := by decide +kernel
theorem d_Model_readTable_205 : decode c_Model_readTable 205 = .ok (.iconst 1, 1) := by decide +kernel
theorem d_Model_readTable_206 : decode c_Model_readTable 206 = .ok (.goto 4, 3) := by decide +kernel
theorem d_Model_readTable_209 : decode c_Model_readTable 209 = .ok (.iconst 0, 1) := by decide +kernel
theorem d_Model_readTable_210 : decode c_Model_readTable 210 = .ok (.invokevirtual 140, 3) := by decide +kernel
theorem d_Model_readTable_213 : decode c_Model_readTable 213 = .ok (.aload_n 0, 1) := by decide +kernel
theorem d_Model_readTable_214 : decode c_Model_readTable 214 = .ok (.getfield 71, 3) := by decide +kernel
theorem d_Model_readTable_217 : decode c_Model_readTable 217 = .ok (.iload 6, 2) := by decide +kernel
theorem d_Model_readTable_219 : decode c_Model_readTable 219 = .ok (.iconst 1, 1) := by decide +kernel
theorem d_Model_readTable_220 : decode c_Model_readTable 220 = .ok (.bastore, 1) := by decide +kernel
theorem d_Model_readTable_221 : decode c_Model_readTable 221 = .ok (.aload_n 0, 1) := by decide +kernel
theorem d_Model_readTable_222 : decode c_Model_readTable 222 = .ok (.getfield 46, 3) := by decide +kernel
theorem d_Model_readTable_225 : decode c_Model_readTable 225 = .ok (.sipush 256, 3) := by decide +kernel
theorem d_Model_readTable_228 : decode c_Model_readTable 228 = .ok (.iload_n 1, 1) := by decide +kernel
theorem d_Model_readTable_229 : decode c_Model_readTable 229 = .ok (.imul, 1) := by decide +kernel
theorem d_Model_readTable_230 : decode c_Model_readTable 230 = .ok (.iload 5, 2) := by decide +kernel
theorem d_Model_readTable_232 : decode c_Model_readTable 232 = .ok (.iadd, 1) := by decide +kernel
theorem d_Model_readTable_233 : decode c_Model_readTable 233 = .ok (.iload 6, 2) := by decide +kernel
theorem d_Model_readTable_235 : decode c_Model_readTable 235 = .ok (.iastore, 1) := by decide +kernel
theorem d_Model_readTable_236 : decode c_Model_readTable 236 = .ok (.iinc 5 1, 3) := by decide +kernel
theorem d_Model_readTable_239 : decode c_Model_readTable 239 = .ok (.goto (-83), 3) := by decide +kernel
theorem d_Model_readTable_242 : decode c_Model_readTable 242 = .ok (.aload_n 0, 1) := by decide +kernel
theorem d_Model_readTable_243 : decode c_Model_readTable 243 = .ok (.getfield 49, 3) := by decide +kernel
theorem d_Model_readTable_246 : decode c_Model_readTable 246 = .ok (.iload_n 1, 1) := by decide +kernel
theorem d_Model_readTable_247 : decode c_Model_readTable 247 = .ok (.iload_n 2, 1) := by decide +kernel
theorem d_Model_readTable_248 : decode c_Model_readTable 248 = .ok (.iastore, 1) := by decide +kernel
theorem d_Model_readTable_249 : decode c_Model_readTable 249 = .ok (.aload_n 0, 1) := by decide +kernel
theorem d_Model_readTable_250 : decode c_Model_readTable 250 = .ok (.getfield 107, 3) := by decide +kernel
theorem d_Model_readTable_253 : decode c_Model_readTable 253 = .ok (.ifCond .ne 10, 3) := by decide +kernel
theorem d_Model_readTable_256 : decode c_Model_readTable 256 = .ok (.aload_n 0, 1) := by decide +kernel
theorem d_Model_readTable_257 : decode c_Model_readTable 257 = .ok (.getfield 40, 3) := by decide +kernel
theorem d_Model_readTable_260 : decode c_Model_readTable 260 = .ok (.iload_n 1, 1) := by decide +kernel
theorem d_Model_readTable_261 : decode c_Model_readTable 261 = .ok (.iconst 1, 1) := by decide +kernel
theorem d_Model_readTable_262 : decode c_Model_readTable 262 = .ok (.bastore, 1) := by decide +kernel
theorem d_Model_readTable_263 : decode c_Model_readTable 263 = .ok (.return_, 1) := by decide +kernel
theorem d_Model_readFrame_0 : decode c_Model_readFrame 0 = .ok (.aload_n 0, 1) := by decide +kernel
theorem d_Model_readFrame_1 : decode c_Model_readFrame 1 = .ok (.aload_n 0, 1) := by decide +kernel
theorem d_Model_readFrame_2 : decode c_Model_readFrame 2 = .ok (.invokevirtual 128, 3) := by decide +kernel
theorem d_Model_readFrame_5 : decode c_Model_readFrame 5 = .ok (.bipush 8, 2) := by decide +kernel
theorem d_Model_readFrame_7 : decode c_Model_readFrame 7 = .ok (.if_icmp .eq 10, 3) := by decide +kernel
theorem d_Model_readFrame_10 : decode c_Model_readFrame 10 = .ok (.aload_n 0, 1) := by decide +kernel
theorem d_Model_readFrame_11 : decode c_Model_readFrame 11 = .ok (.getfield 107, 3) := by decide +kernel
theorem d_Model_readFrame_14 : decode c_Model_readFrame 14 = .ok (.ifCond .le 7, 3) := by decide +kernel
theorem d_Model_readFrame_17 : decode c_Model_readFrame 17 = .ok (.iconst 1, 1) := by decide +kernel
theorem d_Model_readFrame_18 : decode c_Model_readFrame 18 = .ok (.goto 4, 3) := by decide +kernel
theorem d_Model_readFrame_21 : decode c_Model_readFrame 21 = .ok (.iconst 0, 1) := by decide +kernel
theorem d_Model_readFrame_22 : decode c_Model_readFrame 22 = .ok (.invokevirtual 140, 3) := by decide +kernel
theorem d_Model_readFrame_25 : decode c_Model_readFrame 25 = .ok (.aload_n 0, 1) := by decide +kernel
theorem d_Model_readFrame_26 : decode c_Model_readFrame 26 = .ok (.aload_n 0, 1) := by decide +kernel
theorem d_Model_readFrame_27 : decode c_Model_readFrame 27 = .ok (.invokevirtual 137, 3) := by decide +kernel
theorem d_Model_readFrame_30 : decode c_Model_readFrame 30 = .ok (.putfield 92, 3) := by decide +kernel
theorem d_Model_readFrame_33 : decode c_Model_readFrame 33 = .ok (.aload_n 0, 1) := by decide +kernel
theorem d_Model_readFrame_34 : decode c_Model_readFrame 34 = .ok (.aload_n 0, 1) := by decide +kernel
theorem d_Model_readFrame_35 : decode c_Model_readFrame 35 = .ok (.getfield 107, 3) := by decide +kernel
theorem d_Model_readFrame_38 : decode c_Model_readFrame 38 = .ok (.ifCond .gt 12, 3) := by decide +kernel
theorem d_Model_readFrame_41 : decode c_Model_readFrame 41 = .ok (.aload_n 0, 1) := by decide +kernel
theorem d_Model_readFrame_42 : decode c_Model_readFrame 42 = .ok (.getfield 92, 3) := by decide +kernel
theorem d_Model_readFrame_45 : decode c_Model_readFrame 45 = .ok (.bipush 64, 2) := by decide +kernel
theorem d_Model_readFrame_47 : decode c_Model_readFrame 47 = .ok (.if_icmp .gt 7, 3) := by decide +kernel
theorem d_Model_readFrame_50 : decode c_Model_readFrame 50 = .ok (.iconst 1, 1) := by decide +kernel
theorem d_Model_readFrame_51 : decode c_Model_readFrame 51 = .ok (.goto 4, 3) := by decide +kernel
theorem d_Model_readFrame_54 : decode c_Model_readFrame 54 = .ok (.iconst 0, 1) := by decide +kernel
theorem d_Model_readFrame_55 : decode c_Model_readFrame 55 = .ok (.invokevirtual 140, 3) := by decide +kernel
theorem d_Model_readFrame_58 : decode c_Model_readFrame 58 = .ok (.aload_n 0, 1) := by decide +kernel
theorem d_Model_readFrame_59 : decode c_Model_readFrame 59 = .ok (.aload_n 0, 1) := by decide +kernel
theorem d_Model_readFrame_60 : decode c_Model_readFrame 60 = .ok (.invokevirtual 137, 3) := by decide +kernel
theorem d_Model_readFrame_63 : decode c_Model_readFrame 63 = .ok (.putfield 89, 3) := by decide +kernel
theorem d_Model_readFrame_66 : decode c_Model_readFrame 66 = .ok (.aload_n 0, 1) := by decide +kernel
theorem d_Model_readFrame_67 : decode c_Model_readFrame 67 = .ok (.aload_n 0, 1) := by decide +kernel
theorem d_Model_readFrame_68 : decode c_Model_readFrame 68 = .ok (.getfield 107, 3) := by decide +kernel
theorem d_Model_readFrame_71 : decode c_Model_readFrame 71 = .ok (.ifCond .gt 19, 3) := by decide +kernel
theorem d_Model_readFrame_74 : decode c_Model_readFrame 74 = .ok (.aload_n 0, 1) := by decide +kernel
theorem d_Model_readFrame_75 : decode c_Model_readFrame 75 = .ok (.getfield 89, 3) := by decide +kernel
theorem d_Model_readFrame_78 : decode c_Model_readFrame 78 = .ok (.ifCond .le 16, 3) := by decide +kernel
theorem d_Model_readFrame_81 : decode c_Model_readFrame 81 = .ok (.aload_n 0, 1) := by decide +kernel
theorem d_Model_readFrame_82 : decode c_Model_readFrame 82 = .ok (.getfield 89, 3) := by decide +kernel
theorem d_Model_readFrame_85 : decode c_Model_readFrame 85 = .ok (.bipush 64, 2) := by decide +kernel
theorem d_Model_readFrame_87 : decode c_Model_readFrame 87 = .ok (.if_icmp .gt 7, 3) := by decide +kernel
theorem d_Model_readFrame_90 : decode c_Model_readFrame 90 = .ok (.iconst 1, 1) := by decide +kernel
theorem d_Model_readFrame_91 : decode c_Model_readFrame 91 = .ok (.goto 4, 3) := by decide +kernel
theorem d_Model_readFrame_94 : decode c_Model_readFrame 94 = .ok (.iconst 0, 1) := by decide +kernel
theorem d_Model_readFrame_95 : decode c_Model_readFrame 95 = .ok (.invokevirtual 140, 3) := by decide +kernel
theorem d_Model_readFrame_98 : decode c_Model_readFrame 98 = .ok (.aload_n 0, 1) := by decide +kernel
theorem d_Model_readFrame_99 : decode c_Model_readFrame 99 = .ok (.invokevirtual 128, 3) := by decide +kernel
theorem d_Model_readFrame_102 : decode c_Model_readFrame 102 = .ok (.istore_n 2, 1) := by decide +kernel
theorem d_Model_readFrame_103 : decode c_Model_readFrame 103 = .ok (.aload_n 0, 1) := by decide +kernel
theorem d_Model_readFrame_104 : decode c_Model_readFrame 104 = .ok (.aload_n 0, 1) := by decide +kernel
theorem d_Model_readFrame_105 : decode c_Model_readFrame 105 = .ok (.getfield 107, 3) := by decide +kernel
theorem d_Model_readFrame_108 : decode c_Model_readFrame 108 = .ok (.ifCond .gt 12, 3) := by decide +kernel
theorem d_Model_readFrame_111 : decode c_Model_readFrame 111 = .ok (.iload_n 2, 1) := by decide +kernel
theorem d_Model_readFrame_112 : decode c_Model_readFrame 112 = .ok (.ifCond .le 12, 3) := by decide +kernel
theorem d_Model_readFrame_115 : decode c_Model_readFrame 115 = .ok (.iload_n 2, 1) := by decide +kernel
theorem d_Model_readFrame_116 : decode c_Model_readFrame 116 = .ok (.iconst 5, 1) := by decide +kernel
theorem d_Model_readFrame_117 : decode c_Model_readFrame 117 = .ok (.if_icmp .ge 7, 3) := by decide +kernel
theorem d_Model_readFrame_120 : decode c_Model_readFrame 120 = .ok (.iconst 1, 1) := by decide +kernel
theorem d_Model_readFrame_121 : decode c_Model_readFrame 121 = .ok (.goto 4, 3) := by decide +kernel
theorem d_Model_readFrame_124 : decode c_Model_readFrame 124 = .ok (.iconst 0, 1) := by decide +kernel
theorem d_Model_readFrame_125 : decode c_Model_readFrame 125 = .ok (.invokevirtual 140, 3) := by decide +kernel
theorem d_Model_readFrame_128 : decode c_Model_readFrame 128 = .ok (.iconst 0, 1) := by decide +kernel
theorem d_Model_readFrame_129 : decode c_Model_readFrame 129 = .ok (.istore_n 3, 1) := by decide +kernel
theorem d_Model_readFrame_130 : decode c_Model_readFrame 130 = .ok (.iload_n 3, 1) := by decide +kernel
theorem d_Model_readFrame_131 : decode c_Model_readFrame 131 = .ok (.iload_n 2, 1) := by decide +kernel
theorem d_Model_readFrame_132 : decode c_Model_readFrame 132 = .ok (.if_icmp .ge 213, 3) := by decide +kernel
theorem d_Model_readFrame_135 : decode c_Model_readFrame 135 = .ok (.aload_n 0, 1) := by decide +kernel
theorem d_Model_readFrame_136 : decode c_Model_readFrame 136 = .ok (.getfield 107, 3) := by decide +kernel
theorem d_Model_readFrame_139 : decode c_Model_readFrame 139 = .ok (.ifCond .ne 206, 3) := by decide +kernel
theorem d_Model_readFrame_142 : decode c_Model_readFrame 142 = .ok (.aload_n 0, 1) := by decide +kernel
theorem d_Model_readFrame_143 : decode c_Model_readFrame 143 = .ok (.getfield 21, 3) := by decide +kernel
theorem d_Model_readFrame_146 : decode c_Model_readFrame 146 = .ok (.iload_n 3, 1) := by decide +kernel
theorem d_Model_readFrame_147 : decode c_Model_readFrame 147 = .ok (.aload_n 0, 1) := by decide +kernel
theorem d_Model_readFrame_148 : decode c_Model_readFrame 148 = .ok (.invokevirtual 128, 3) := by decide +kernel
theorem d_Model_readFrame_151 : decode c_Model_readFrame 151 = .ok (.iastore, 1) := by decide +kernel
theorem d_Model_readFrame_152 : decode c_Model_readFrame 152 = .ok (.iconst 0, 1) := by decide +kernel
theorem d_Model_readFrame_153 : decode c_Model_readFrame 153 = .ok (.istore 4, 2) := by decide +kernel
theorem d_Model_readFrame_155 : decode c_Model_readFrame 155 = .ok (.iconst 0, 1) := by decide +kernel
theorem d_Model_readFrame_156 : decode c_Model_readFrame 156 = .ok (.istore 5, 2) := by decide +kernel
theorem d_Model_readFrame_158 : decode c_Model_readFrame 158 = .ok (.iload 5, 2) := by decide +kernel
theorem d_Model_readFrame_160 : decode c_Model_readFrame 160 = .ok (.iload_n 3, 1) := by decide +kernel
theorem d_Model_readFrame_161 : decode c_Model_readFrame 161 = .ok (.if_icmp .ge 37, 3) := by decide +kernel
theorem d_Model_readFrame_164 : decode c_Model_readFrame 164 = .ok (.iload 4, 2) := by decide +kernel
theorem d_Model_readFrame_166 : decode c_Model_readFrame 166 = .ok (.ifCond .ne 19, 3) := by decide +kernel
theorem d_Model_readFrame_169 : decode c_Model_readFrame 169 = .ok (.aload_n 0, 1) := by decide +kernel
theorem d_Model_readFrame_170 : decode c_Model_readFrame 170 = .ok (.getfield 21, 3) := by decide +kernel
theorem d_Model_readFrame_173 : decode c_Model_readFrame 173 = .ok (.iload 5, 2) := by decide +kernel
theorem d_Model_readFrame_175 : decode c_Model_readFrame 175 = .ok (.iaload, 1) := by decide +kernel
theorem d_Model_readFrame_176 : decode c_Model_readFrame 176 = .ok (.aload_n 0, 1) := by decide +kernel
theorem d_Model_readFrame_177 : decode c_Model_readFrame 177 = .ok (.getfield 21, 3) := by decide +kernel
theorem d_Model_readFrame_180 : decode c_Model_readFrame 180 = .ok (.iload_n 3, 1) := by decide +kernel
theorem d_Model_readFrame_181 : decode c_Model_readFrame 181 = .ok (.iaload, 1) := by decide +kernel
theorem d_Model_readFrame_182 : decode c_Model_readFrame 182 = .ok (.if_icmp .ne 7, 3) := by decide +kernel
theorem d_Model_readFrame_185 : decode c_Model_readFrame 185 = .ok (.iconst 1, 1) := by decide +kernel
theorem d_Model_readFrame_186 : decode c_Model_readFrame 186 = .ok (.goto 4, 3) := by decide +kernel
theorem d_Model_readFrame_189 : decode c_Model_readFrame 189 = .ok (.iconst 0, 1) := by decide +kernel
theorem d_Model_readFrame_190 : decode c_Model_readFrame 190 = .ok (.istore 4, 2) := by decide +kernel
theorem d_Model_readFrame_192 : decode c_Model_readFrame 192 = .ok (.iinc 5 1, 3) := by decide +kernel
theorem d_Model_readFrame_195 : decode c_Model_readFrame 195 = .ok (.goto (-37), 3) := by decide +kernel
theorem d_Model_readFrame_198 : decode c_Model_readFrame 198 = .ok (.aload_n 0, 1) := by decide +kernel
theorem d_Model_readFrame_199 : decode c_Model_readFrame 199 = .ok (.aload_n 0, 1) := by decide +kernel
theorem d_Model_readFrame_200 : decode c_Model_readFrame 200 = .ok (.getfield 107, 3) := by decide +kernel
theorem d_Model_readFrame_203 : decode c_Model_readFrame 203 = .ok (.ifCond .gt 8, 3) := by decide +kernel
theorem d_Model_readFrame_206 : decode c_Model_readFrame 206 = .ok (.iload 4, 2) := by decide +kernel
theorem d_Model_readFrame_208 : decode c_Model_readFrame 208 = .ok (.ifCond .ne 7, 3) := by decide +kernel
theorem d_Model_readFrame_211 : decode c_Model_readFrame 211 = .ok (.iconst 1, 1) := by decide +kernel
theorem d_Model_readFrame_212 : decode c_Model_readFrame 212 = .ok (.goto 4, 3) := by decide +kernel
theorem d_Model_readFrame_215 : decode c_Model_readFrame 215 = .ok (.iconst 0, 1) := by decide +kernel
theorem d_Model_readFrame_216 : decode c_Model_readFrame 216 = .ok (.invokevirtual 140, 3) := by decide +kernel
theorem d_Model_readFrame_219 : decode c_Model_readFrame 219 = .ok (.aload_n 0, 1) := by decide +kernel
theorem d_Model_readFrame_220 : decode c_Model_readFrame 220 = .ok (.invokevirtual 128, 3) := by decide +kernel
theorem d_Model_readFrame_223 : decode c_Model_readFrame 223 = .ok (.istore 5, 2) := by decide +kernel
theorem d_Model_readFrame_225 : decode c_Model_readFrame 225 = .ok (.aload_n 0, 1) := by decide +kernel
theorem d_Model_readFrame_226 : decode c_Model_readFrame 226 = .ok (.getfield 24, 3) := by decide +kernel
theorem d_Model_readFrame_229 : decode c_Model_readFrame 229 = .ok (.iload_n 3, 1) := by decide +kernel
theorem d_Model_readFrame_230 : decode c_Model_readFrame 230 = .ok (.iload 5, 2) := by decide +kernel
theorem d_Model_readFrame_232 : decode c_Model_readFrame 232 = .ok (.bipush 16, 2) := by decide +kernel
theorem d_Model_readFrame_234 : decode c_Model_readFrame 234 = .ok (.idiv, 1) := by decide +kernel
theorem d_Model_readFrame_235 : decode c_Model_readFrame 235 = .ok (.iastore, 1) := by decide +kernel
theorem d_Model_readFrame_236 : decode c_Model_readFrame 236 = .ok (.aload_n 0, 1) := by decide +kernel
theorem d_Model_readFrame_237 : decode c_Model_readFrame 237 = .ok (.getfield 27, 3) := by decide +kernel
theorem d_Model_readFrame_240 : decode c_Model_readFrame 240 = .ok (.iload_n 3, 1) := by decide +kernel
theorem d_Model_readFrame_241 : decode c_Model_readFrame 241 = .ok (.iload 5, 2) := by decide +kernel
theorem d_Model_readFrame_243 : decode c_Model_readFrame 243 = .ok (.bipush 16, 2) := by decide +kernel
theorem d_Model_readFrame_245 : decode c_Model_readFrame 245 = .ok (.irem, 1) := by decide +kernel
theorem d_Model_readFrame_246 : decode c_Model_readFrame 246 = .ok (.iastore, 1) := by decide +kernel
theorem d_Model_readFrame_247 : decode c_Model_readFrame 247 = .ok (.aload_n 0, 1) := by decide +kernel
theorem d_Model_readFrame_248 : decode c_Model_readFrame 248 = .ok (.aload_n 0, 1) := by decide +kernel
theorem d_Model_readFrame_249 : decode c_Model_readFrame 249 = .ok (.getfield 107, 3) := by decide +kernel
theorem d_Model_readFrame_252 : decode c_Model_readFrame 252 = .ok (.ifCond .gt 43, 3) := by decide +kernel
theorem d_Model_readFrame_255 : decode c_Model_readFrame 255 = .ok (.aload_n 0, 1) := by decide +kernel
theorem d_Model_readFrame_256 : decode c_Model_readFrame 256 = .ok (.getfield 24, 3) := by decide +kernel
theorem d_Model_readFrame_259 : decode c_Model_readFrame 259 = .ok (.iload_n 3, 1) := by decide +kernel
