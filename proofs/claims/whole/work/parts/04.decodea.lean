theorem d_Reader_init_0 : decode c_Reader_init 0 = .ok (.aload_n 0, 1) := by decide +kernel
theorem d_Reader_init_1 : decode c_Reader_init 1 = .ok (.invokespecial 1, 3) := by decide +kernel
theorem d_Reader_init_4 : decode c_Reader_init 4 = .ok (.aload_n 0, 1) := by decide +kernel
theorem d_Reader_init_5 : decode c_Reader_init 5 = .ok (.new 7, 3) := by decide +kernel
theorem d_Reader_init_8 : decode c_Reader_init 8 = .ok (.dup, 1) := by decide +kernel
theorem d_Reader_init_9 : decode c_Reader_init 9 = .ok (.invokespecial 9, 3) := by decide +kernel
theorem d_Reader_init_12 : decode c_Reader_init 12 = .ok (.putfield 10, 3) := by decide +kernel
theorem d_Reader_init_15 : decode c_Reader_init 15 = .ok (.aload_n 0, 1) := by decide +kernel
theorem d_Reader_init_16 : decode c_Reader_init 16 = .ok (.new 16, 3) := by decide +kernel
theorem d_Reader_init_19 : decode c_Reader_init 19 = .ok (.dup, 1) := by decide +kernel
theorem d_Reader_init_20 : decode c_Reader_init 20 = .ok (.aload_n 0, 1) := by decide +kernel
theorem d_Reader_init_21 : decode c_Reader_init 21 = .ok (.getfield 10, 3) := by decide +kernel
theorem d_Reader_init_24 : decode c_Reader_init 24 = .ok (.invokespecial 18, 3) := by decide +kernel
theorem d_Reader_init_27 : decode c_Reader_init 27 = .ok (.putfield 21, 3) := by decide +kernel
theorem d_Reader_init_30 : decode c_Reader_init 30 = .ok (.aload_n 0, 1) := by decide +kernel
theorem d_Reader_init_31 : decode c_Reader_init 31 = .ok (.new 25, 3) := by decide +kernel
theorem d_Reader_init_34 : decode c_Reader_init 34 = .ok (.dup, 1) := by decide +kernel
theorem d_Reader_init_35 : decode c_Reader_init 35 = .ok (.aload_n 0, 1) := by decide +kernel
theorem d_Reader_init_36 : decode c_Reader_init 36 = .ok (.getfield 10, 3) := by decide +kernel
theorem d_Reader_init_39 : decode c_Reader_init 39 = .ok (.aload_n 0, 1) := by decide +kernel
theorem d_Reader_init_40 : decode c_Reader_init 40 = .ok (.getfield 21, 3) := by decide +kernel
theorem d_Reader_init_43 : decode c_Reader_init 43 = .ok (.invokespecial 27, 3) := by decide +kernel
theorem d_Reader_init_46 : decode c_Reader_init 46 = .ok (.putfield 30, 3) := by decide +kernel
theorem d_Reader_init_49 : decode c_Reader_init 49 = .ok (.return_, 1) := by decide +kernel
theorem d_Bytes_init_0 : decode c_Bytes_init 0 = .ok (.aload_n 0, 1) := by decide +kernel
theorem d_Bytes_init_1 : decode c_Bytes_init 1 = .ok (.invokespecial 3, 3) := by decide +kernel
theorem d_Bytes_init_4 : decode c_Bytes_init 4 = .ok (.aload_n 0, 1) := by decide +kernel
theorem d_Bytes_init_5 : decode c_Bytes_init 5 = .ok (.bipush 64, 2) := by decide +kernel
theorem d_Bytes_init_7 : decode c_Bytes_init 7 = .ok (.newarray .byte, 2) := by decide +kernel
theorem d_Bytes_init_9 : decode c_Bytes_init 9 = .ok (.putfield 9, 3) := by decide +kernel
theorem d_Bytes_init_12 : decode c_Bytes_init 12 = .ok (.aload_n 0, 1) := by decide +kernel
theorem d_Bytes_init_13 : decode c_Bytes_init 13 = .ok (.iconst 0, 1) := by decide +kernel
theorem d_Bytes_init_14 : decode c_Bytes_init 14 = .ok (.putfield 15, 3) := by decide +kernel
theorem d_Bytes_init_17 : decode c_Bytes_init 17 = .ok (.return_, 1) := by decide +kernel
theorem d_Picture_init_0 : decode c_Picture_init 0 = .ok (.aload_n 0, 1) := by decide +kernel
theorem d_Picture_init_1 : decode c_Picture_init 1 = .ok (.invokespecial 3, 3) := by decide +kernel
theorem d_Picture_init_4 : decode c_Picture_init 4 = .ok (.aload_n 0, 1) := by decide +kernel
theorem d_Picture_init_5 : decode c_Picture_init 5 = .ok (.new 9, 3) := by decide +kernel
theorem d_Picture_init_8 : decode c_Picture_init 8 = .ok (.dup, 1) := by decide +kernel
theorem d_Picture_init_9 : decode c_Picture_init 9 = .ok (.invokespecial 11, 3) := by decide +kernel
theorem d_Picture_init_12 : decode c_Picture_init 12 = .ok (.putfield 12, 3) := by decide +kernel
theorem d_Picture_init_15 : decode c_Picture_init 15 = .ok (.aload_n 0, 1) := by decide +kernel
theorem d_Picture_init_16 : decode c_Picture_init 16 = .ok (.new 9, 3) := by decide +kernel
theorem d_Picture_init_19 : decode c_Picture_init 19 = .ok (.dup, 1) := by decide +kernel
theorem d_Picture_init_20 : decode c_Picture_init 20 = .ok (.invokespecial 11, 3) := by decide +kernel
theorem d_Picture_init_23 : decode c_Picture_init 23 = .ok (.putfield 18, 3) := by decide +kernel
theorem d_Picture_init_26 : decode c_Picture_init 26 = .ok (.aload_n 0, 1) := by decide +kernel
theorem d_Picture_init_27 : decode c_Picture_init 27 = .ok (.bipush 16, 2) := by decide +kernel
theorem d_Picture_init_29 : decode c_Picture_init 29 = .ok (.newarray .int, 2) := by decide +kernel
theorem d_Picture_init_31 : decode c_Picture_init 31 = .ok (.putfield 21, 3) := by decide +kernel
theorem d_Picture_init_34 : decode c_Picture_init 34 = .ok (.aload_n 0, 1) := by decide +kernel
theorem d_Picture_init_35 : decode c_Picture_init 35 = .ok (.iconst 4, 1) := by decide +kernel
theorem d_Picture_init_36 : decode c_Picture_init 36 = .ok (.newarray .int, 2) := by decide +kernel
theorem d_Picture_init_38 : decode c_Picture_init 38 = .ok (.putfield 25, 3) := by decide +kernel
theorem d_Picture_init_41 : decode c_Picture_init 41 = .ok (.aload_n 0, 1) := by decide +kernel
theorem d_Picture_init_42 : decode c_Picture_init 42 = .ok (.bipush 8, 2) := by decide +kernel
theorem d_Picture_init_44 : decode c_Picture_init 44 = .ok (.newarray .int, 2) := by decide +kernel
theorem d_Picture_init_46 : decode c_Picture_init 46 = .ok (.putfield 28, 3) := by decide +kernel
theorem d_Picture_init_49 : decode c_Picture_init 49 = .ok (.aload_n 0, 1) := by decide +kernel
theorem d_Picture_init_50 : decode c_Picture_init 50 = .ok (.aload_n 1, 1) := by decide +kernel
theorem d_Picture_init_51 : decode c_Picture_init 51 = .ok (.putfield 31, 3) := by decide +kernel
theorem d_Picture_init_54 : decode c_Picture_init 54 = .ok (.aload_n 0, 1) := by decide +kernel
theorem d_Picture_init_55 : decode c_Picture_init 55 = .ok (.invokevirtual 35, 3) := by decide +kernel
theorem d_Picture_init_58 : decode c_Picture_init 58 = .ok (.return_, 1) := by decide +kernel
theorem d_Numbers_init_0 : decode c_Numbers_init 0 = .ok (.aload_n 0, 1) := by decide +kernel
theorem d_Numbers_init_1 : decode c_Numbers_init 1 = .ok (.invokespecial 3, 3) := by decide +kernel
theorem d_Numbers_init_4 : decode c_Numbers_init 4 = .ok (.aload_n 0, 1) := by decide +kernel
theorem d_Numbers_init_5 : decode c_Numbers_init 5 = .ok (.bipush 16, 2) := by decide +kernel
theorem d_Numbers_init_7 : decode c_Numbers_init 7 = .ok (.newarray .int, 2) := by decide +kernel
theorem d_Numbers_init_9 : decode c_Numbers_init 9 = .ok (.putfield 9, 3) := by decide +kernel
theorem d_Numbers_init_12 : decode c_Numbers_init 12 = .ok (.aload_n 0, 1) := by decide +kernel
theorem d_Numbers_init_13 : decode c_Numbers_init 13 = .ok (.iconst 0, 1) := by decide +kernel
theorem d_Numbers_init_14 : decode c_Numbers_init 14 = .ok (.putfield 15, 3) := by decide +kernel
theorem d_Numbers_init_17 : decode c_Numbers_init 17 = .ok (.return_, 1) := by decide +kernel
theorem d_Picture_clear_0 : decode c_Picture_clear 0 = .ok (.aload_n 0, 1) := by decide +kernel
theorem d_Picture_clear_1 : decode c_Picture_clear 1 = .ok (.getfield 12, 3) := by decide +kernel
theorem d_Picture_clear_4 : decode c_Picture_clear 4 = .ok (.iconst 0, 1) := by decide +kernel
theorem d_Picture_clear_5 : decode c_Picture_clear 5 = .ok (.putfield 38, 3) := by decide +kernel
theorem d_Picture_clear_8 : decode c_Picture_clear 8 = .ok (.aload_n 0, 1) := by decide +kernel
theorem d_Picture_clear_9 : decode c_Picture_clear 9 = .ok (.getfield 18, 3) := by decide +kernel
theorem d_Picture_clear_12 : decode c_Picture_clear 12 = .ok (.iconst 0, 1) := by decide +kernel
theorem d_Picture_clear_13 : decode c_Picture_clear 13 = .ok (.putfield 38, 3) := by decide +kernel
theorem d_Picture_clear_16 : decode c_Picture_clear 16 = .ok (.aload_n 0, 1) := by decide +kernel
theorem d_Picture_clear_17 : decode c_Picture_clear 17 = .ok (.getfield 25, 3) := by decide +kernel
theorem d_Picture_clear_20 : decode c_Picture_clear 20 = .ok (.iconst (-1), 1) := by decide +kernel
theorem d_Picture_clear_21 : decode c_Picture_clear 21 = .ok (.invokestatic 42, 3) := by decide +kernel
theorem d_Picture_clear_24 : decode c_Picture_clear 24 = .ok (.aload_n 0, 1) := by decide +kernel
theorem d_Picture_clear_25 : decode c_Picture_clear 25 = .ok (.getfield 28, 3) := by decide +kernel
theorem d_Picture_clear_28 : decode c_Picture_clear 28 = .ok (.iconst (-1), 1) := by decide +kernel
theorem d_Picture_clear_29 : decode c_Picture_clear 29 = .ok (.invokestatic 42, 3) := by decide +kernel
theorem d_Picture_clear_32 : decode c_Picture_clear 32 = .ok (.aload_n 0, 1) := by decide +kernel
theorem d_Picture_clear_33 : decode c_Picture_clear 33 = .ok (.iconst (-1), 1) := by decide +kernel
theorem d_Picture_clear_34 : decode c_Picture_clear 34 = .ok (.putfield 48, 3) := by decide +kernel
theorem d_Picture_clear_37 : decode c_Picture_clear 37 = .ok (.aload_n 0, 1) := by decide +kernel
theorem d_Picture_clear_38 : decode c_Picture_clear 38 = .ok (.iconst 0, 1) := by decide +kernel
theorem d_Picture_clear_39 : decode c_Picture_clear 39 = .ok (.putfield 51, 3) := by decide +kernel
theorem d_Picture_clear_42 : decode c_Picture_clear 42 = .ok (.aload_n 0, 1) := by decide +kernel
theorem d_Picture_clear_43 : decode c_Picture_clear 43 = .ok (.iconst 0, 1) := by decide +kernel
theorem d_Picture_clear_44 : decode c_Picture_clear 44 = .ok (.putfield 54, 3) := by decide +kernel
theorem d_Picture_clear_47 : decode c_Picture_clear 47 = .ok (.aload_n 0, 1) := by decide +kernel
theorem d_Picture_clear_48 : decode c_Picture_clear 48 = .ok (.iconst 0, 1) := by decide +kernel
theorem d_Picture_clear_49 : decode c_Picture_clear 49 = .ok (.putfield 57, 3) := by decide +kernel
theorem d_Picture_clear_52 : decode c_Picture_clear 52 = .ok (.aload_n 0, 1) := by decide +kernel
theorem d_Picture_clear_53 : decode c_Picture_clear 53 = .ok (.iconst 0, 1) := by decide +kernel
theorem d_Picture_clear_54 : decode c_Picture_clear 54 = .ok (.putfield 60, 3) := by decide +kernel
theorem d_Picture_clear_57 : decode c_Picture_clear 57 = .ok (.aload_n 0, 1) := by decide +kernel
theorem d_Picture_clear_58 : decode c_Picture_clear 58 = .ok (.iconst (-1), 1) := by decide +kernel
theorem d_Picture_clear_59 : decode c_Picture_clear 59 = .ok (.putfield 63, 3) := by decide +kernel
theorem d_Picture_clear_62 : decode c_Picture_clear 62 = .ok (.return_, 1) := by decide +kernel
theorem d_Arrays_fillI_0 : decode c_Arrays_fillI 0 = .ok (.iconst 0, 1) := by decide +kernel
theorem d_Arrays_fillI_1 : decode c_Arrays_fillI 1 = .ok (.istore_n 2, 1) := by decide +kernel
theorem d_Arrays_fillI_2 : decode c_Arrays_fillI 2 = .ok (.aload_n 0, 1) := by decide +kernel
theorem d_Arrays_fillI_3 : decode c_Arrays_fillI 3 = .ok (.arraylength, 1) := by decide +kernel
theorem d_Arrays_fillI_4 : decode c_Arrays_fillI 4 = .ok (.istore_n 3, 1) := by decide +kernel
theorem d_Arrays_fillI_5 : decode c_Arrays_fillI 5 = .ok (.iload_n 2, 1) := by decide +kernel
theorem d_Arrays_fillI_6 : decode c_Arrays_fillI 6 = .ok (.iload_n 3, 1) := by decide +kernel
theorem d_Arrays_fillI_7 : decode c_Arrays_fillI 7 = .ok (.if_icmp .ge 13, 3) := by decide +kernel
theorem d_Arrays_fillI_10 : decode c_Arrays_fillI 10 = .ok (.aload_n 0, 1) := by decide +kernel
theorem d_Arrays_fillI_11 : decode c_Arrays_fillI 11 = .ok (.iload_n 2, 1) := by decide +kernel
theorem d_Arrays_fillI_12 : decode c_Arrays_fillI 12 = .ok (.iload_n 1, 1) := by decide +kernel
theorem d_Arrays_fillI_13 : decode c_Arrays_fillI 13 = .ok (.iastore, 1) := by decide +kernel
theorem d_Arrays_fillI_14 : decode c_Arrays_fillI 14 = .ok (.iinc 2 1, 3) := by decide +kernel
theorem d_Arrays_fillI_17 : decode c_Arrays_fillI 17 = .ok (.goto (-12), 3) := by decide +kernel
theorem d_Arrays_fillI_20 : decode c_Arrays_fillI 20 = .ok (.return_, 1) := by decide +kernel
theorem d_Parser_init_0 : decode c_Parser_init 0 = .ok (.aload_n 0, 1) := by decide +kernel
theorem d_Parser_init_1 : decode c_Parser_init 1 = .ok (.invokespecial 3, 3) := by decide +kernel
theorem d_Parser_init_4 : decode c_Parser_init 4 = .ok (.aload_n 0, 1) := by decide +kernel
theorem d_Parser_init_5 : decode c_Parser_init 5 = .ok (.new 9, 3) := by decide +kernel
theorem d_Parser_init_8 : decode c_Parser_init 8 = .ok (.dup, 1) := by decide +kernel
theorem d_Parser_init_9 : decode c_Parser_init 9 = .ok (.invokespecial 11, 3) := by decide +kernel
theorem d_Parser_init_12 : decode c_Parser_init 12 = .ok (.putfield 12, 3) := by decide +kernel
theorem d_Parser_init_15 : decode c_Parser_init 15 = .ok (.aload_n 0, 1) := by decide +kernel
theorem d_Parser_init_16 : decode c_Parser_init 16 = .ok (.sipush 256, 3) := by decide +kernel
theorem d_Parser_init_19 : decode c_Parser_init 19 = .ok (.newarray .int, 2) := by decide +kernel
theorem d_Parser_init_21 : decode c_Parser_init 21 = .ok (.putfield 18, 3) := by decide +kernel
theorem d_Parser_init_24 : decode c_Parser_init 24 = .ok (.aload_n 0, 1) := by decide +kernel
theorem d_Parser_init_25 : decode c_Parser_init 25 = .ok (.iconst 4, 1) := by decide +kernel
theorem d_Parser_init_26 : decode c_Parser_init 26 = .ok (.newarray .long, 2) := by decide +kernel
theorem d_Parser_init_28 : decode c_Parser_init 28 = .ok (.putfield 22, 3) := by decide +kernel
theorem d_Parser_init_31 : decode c_Parser_init 31 = .ok (.aload_n 0, 1) := by decide +kernel
theorem d_Parser_init_32 : decode c_Parser_init 32 = .ok (.iconst 0, 1) := by decide +kernel
theorem d_Parser_init_33 : decode c_Parser_init 33 = .ok (.putfield 26, 3) := by decide +kernel
theorem d_Parser_init_36 : decode c_Parser_init 36 = .ok (.aload_n 0, 1) := by decide +kernel
theorem d_Parser_init_37 : decode c_Parser_init 37 = .ok (.iconst 0, 1) := by decide +kernel
theorem d_Parser_init_38 : decode c_Parser_init 38 = .ok (.putfield 30, 3) := by decide +kernel
theorem d_Parser_init_41 : decode c_Parser_init 41 = .ok (.aload_n 0, 1) := by decide +kernel
theorem d_Parser_init_42 : decode c_Parser_init 42 = .ok (.iconst 0, 1) := by decide +kernel
theorem d_Parser_init_43 : decode c_Parser_init 43 = .ok (.putfield 33, 3) := by decide +kernel
theorem d_Parser_init_46 : decode c_Parser_init 46 = .ok (.aload_n 0, 1) := by decide +kernel
theorem d_Parser_init_47 : decode c_Parser_init 47 = .ok (.iconst 0, 1) := by decide +kernel
theorem d_Parser_init_48 : decode c_Parser_init 48 = .ok (.putfield 36, 3) := by decide +kernel
theorem d_Parser_init_51 : decode c_Parser_init 51 = .ok (.aload_n 0, 1) := by decide +kernel
theorem d_Parser_init_52 : decode c_Parser_init 52 = .ok (.iconst 0, 1) := by decide +kernel
theorem d_Parser_init_53 : decode c_Parser_init 53 = .ok (.putfield 40, 3) := by decide +kernel
theorem d_Parser_init_56 : decode c_Parser_init 56 = .ok (.aload_n 0, 1) := by decide +kernel
theorem d_Parser_init_57 : decode c_Parser_init 57 = .ok (.iconst (-1), 1) := by decide +kernel
theorem d_Parser_init_58 : decode c_Parser_init 58 = .ok (.putfield 43, 3) := by decide +kernel
theorem d_Parser_init_61 : decode c_Parser_init 61 = .ok (.aload_n 0, 1) := by decide +kernel
theorem d_Parser_init_62 : decode c_Parser_init 62 = .ok (.aload_n 1, 1) := by decide +kernel
theorem d_Parser_init_63 : decode c_Parser_init 63 = .ok (.putfield 46, 3) := by decide +kernel
theorem d_Parser_init_66 : decode c_Parser_init 66 = .ok (.aload_n 0, 1) := by decide +kernel
theorem d_Parser_init_67 : decode c_Parser_init 67 = .ok (.aload_n 2, 1) := by decide +kernel
theorem d_Parser_init_68 : decode c_Parser_init 68 = .ok (.putfield 50, 3) := by decide +kernel
theorem d_Parser_init_71 : decode c_Parser_init 71 = .ok (.return_, 1) := by decide +kernel
theorem d_Scan_init_0 : decode c_Scan_init 0 = .ok (.aload_n 0, 1) := by decide +kernel
theorem d_Scan_init_1 : decode c_Scan_init 1 = .ok (.invokespecial 3, 3) := by decide +kernel
theorem d_Scan_init_4 : decode c_Scan_init 4 = .ok (.aload_n 0, 1) := by decide +kernel
theorem d_Scan_init_5 : decode c_Scan_init 5 = .ok (.iconst 4, 1) := by decide +kernel
theorem d_Scan_init_6 : decode c_Scan_init 6 = .ok (.newarray .int, 2) := by decide +kernel
theorem d_Scan_init_8 : decode c_Scan_init 8 = .ok (.putfield 9, 3) := by decide +kernel
theorem d_Scan_init_11 : decode c_Scan_init 11 = .ok (.return_, 1) := by decide +kernel
theorem d_Reader_give_0 : decode c_Reader_give 0 = .ok (.iload_n 3, 1) := by decide +kernel
theorem d_Reader_give_1 : decode c_Reader_give 1 = .ok (.iconst 1, 1) := by decide +kernel
theorem d_Reader_give_2 : decode c_Reader_give 2 = .ok (.if_icmp .lt 24, 3) := by decide +kernel
theorem d_Reader_give_5 : decode c_Reader_give 5 = .ok (.iload_n 3, 1) := by decide +kernel
theorem d_Reader_give_6 : decode c_Reader_give 6 = .ok (.bipush 8, 2) := by decide +kernel
theorem d_Reader_give_8 : decode c_Reader_give 8 = .ok (.if_icmp .gt 18, 3) := by decide +kernel
theorem d_Reader_give_11 : decode c_Reader_give 11 = .ok (.iload_n 3, 1) := by decide +kernel
theorem d_Reader_give_12 : decode c_Reader_give 12 = .ok (.sipush 16384, 3) := by decide +kernel
theorem d_Reader_give_15 : decode c_Reader_give 15 = .ok (.aload_n 0, 1) := by decide +kernel
theorem d_Reader_give_16 : decode c_Reader_give 16 = .ok (.getfield 10, 3) := by decide +kernel
theorem d_Reader_give_19 : decode c_Reader_give 19 = .ok (.getfield 34, 3) := by decide +kernel
theorem d_Reader_give_22 : decode c_Reader_give 22 = .ok (.isub, 1) := by decide +kernel
theorem d_Reader_give_23 : decode c_Reader_give 23 = .ok (.if_icmp .le 5, 3) := by decide +kernel
theorem d_Reader_give_26 : decode c_Reader_give 26 = .ok (.iconst 0, 1) := by decide +kernel
theorem d_Reader_give_27 : decode c_Reader_give 27 = .ok (.ireturn, 1) := by decide +kernel
theorem d_Reader_give_28 : decode c_Reader_give 28 = .ok (.iload_n 3, 1) := by decide +kernel
theorem d_Reader_give_29 : decode c_Reader_give 29 = .ok (.iconst 1, 1) := by decide +kernel
theorem d_Reader_give_30 : decode c_Reader_give 30 = .ok (.isub, 1) := by decide +kernel
theorem d_Reader_give_31 : decode c_Reader_give 31 = .ok (.istore 4, 2) := by decide +kernel
theorem d_Reader_give_33 : decode c_Reader_give 33 = .ok (.iload 4, 2) := by decide +kernel
theorem d_Reader_give_35 : decode c_Reader_give 35 = .ok (.ifCond .lt 24, 3) := by decide +kernel
theorem d_Reader_give_38 : decode c_Reader_give 38 = .ok (.aload_n 0, 1) := by decide +kernel
theorem d_Reader_give_39 : decode c_Reader_give 39 = .ok (.getfield 10, 3) := by decide +kernel
theorem d_Reader_give_42 : decode c_Reader_give 42 = .ok (.lload_n 1, 1) := by decide +kernel
theorem d_Reader_give_43 : decode c_Reader_give 43 = .ok (.bipush 8, 2) := by decide +kernel
theorem d_Reader_give_45 : decode c_Reader_give 45 = .ok (.iload 4, 2) := by decide +kernel
theorem d_Reader_give_47 : decode c_Reader_give 47 = .ok (.imul, 1) := by decide +kernel
theorem d_Reader_give_48 : decode c_Reader_give 48 = .ok (.lushr, 1) := by decide +kernel
theorem d_Reader_give_49 : decode c_Reader_give 49 = .ok (.l2i, 1) := by decide +kernel
theorem d_Reader_give_50 : decode c_Reader_give 50 = .ok (.invokevirtual 38, 3) := by decide +kernel
theorem d_Reader_give_53 : decode c_Reader_give 53 = .ok (.iinc 4 (-1), 3) := by decide +kernel
theorem d_Reader_give_56 : decode c_Reader_give 56 = .ok (.goto (-23), 3) := by decide +kernel
theorem d_Reader_give_59 : decode c_Reader_give 59 = .ok (.aload_n 0, 1) := by decide +kernel
theorem d_Reader_give_60 : decode c_Reader_give 60 = .ok (.getfield 30, 3) := by decide +kernel
theorem d_Reader_give_63 : decode c_Reader_give 63 = .ok (.invokevirtual 42, 3) := by decide +kernel
theorem d_Reader_give_66 : decode c_Reader_give 66 = .ok (.iconst 1, 1) := by decide +kernel
theorem d_Reader_give_67 : decode c_Reader_give 67 = .ok (.ireturn, 1) := by decide +kernel
theorem d_Bytes_add_0 : decode c_Bytes_add 0 = .ok (.aload_n 0, 1) := by decide +kernel
theorem d_Bytes_add_1 : decode c_Bytes_add 1 = .ok (.getfield 15, 3) := by decide +kernel
theorem d_Bytes_add_4 : decode c_Bytes_add 4 = .ok (.sipush 16384, 3) := by decide +kernel
theorem d_Bytes_add_7 : decode c_Bytes_add 7 = .ok (.if_icmp .lt 4, 3) := by decide +kernel
theorem d_Bytes_add_10 : decode c_Bytes_add 10 = .ok (.return_, 1) := by decide +kernel
theorem d_Bytes_add_11 : decode c_Bytes_add 11 = .ok (.aload_n 0, 1) := by decide +kernel
theorem d_Bytes_add_12 : decode c_Bytes_add 12 = .ok (.getfield 15, 3) := by decide +kernel
theorem d_Bytes_add_15 : decode c_Bytes_add 15 = .ok (.aload_n 0, 1) := by decide +kernel
theorem d_Bytes_add_16 : decode c_Bytes_add 16 = .ok (.getfield 9, 3) := by decide +kernel
theorem d_Bytes_add_19 : decode c_Bytes_add 19 = .ok (.arraylength, 1) := by decide +kernel
theorem d_Bytes_add_20 : decode c_Bytes_add 20 = .ok (.if_icmp .lt 20, 3) := by decide +kernel
theorem d_Bytes_add_23 : decode c_Bytes_add 23 = .ok (.aload_n 0, 1) := by decide +kernel
theorem d_Bytes_add_24 : decode c_Bytes_add 24 = .ok (.aload_n 0, 1) := by decide +kernel
theorem d_Bytes_add_25 : decode c_Bytes_add 25 = .ok (.getfield 9, 3) := by decide +kernel
theorem d_Bytes_add_28 : decode c_Bytes_add 28 = .ok (.iconst 2, 1) := by decide +kernel
theorem d_Bytes_add_29 : decode c_Bytes_add 29 = .ok (.aload_n 0, 1) := by decide +kernel
theorem d_Bytes_add_30 : decode c_Bytes_add 30 = .ok (.getfield 15, 3) := by decide +kernel
theorem d_Bytes_add_33 : decode c_Bytes_add 33 = .ok (.imul, 1) := by decide +kernel
theorem d_Bytes_add_34 : decode c_Bytes_add 34 = .ok (.invokestatic 19, 3) := by decide +kernel
theorem d_Bytes_add_37 : decode c_Bytes_add 37 = .ok (.putfield 9, 3) := by decide +kernel
theorem d_Bytes_add_40 : decode c_Bytes_add 40 = .ok (.aload_n 0, 1) := by decide +kernel
theorem d_Bytes_add_41 : decode c_Bytes_add 41 = .ok (.getfield 9, 3) := by decide +kernel
theorem d_Bytes_add_44 : decode c_Bytes_add 44 = .ok (.aload_n 0, 1) := by decide +kernel
theorem d_Bytes_add_45 : decode c_Bytes_add 45 = .ok (.getfield 15, 3) := by decide +kernel
theorem d_Bytes_add_48 : decode c_Bytes_add 48 = .ok (.iload_n 1, 1) := by decide +kernel
theorem d_Bytes_add_49 : decode c_Bytes_add 49 = .ok (.i2b, 1) := by decide +kernel
theorem d_Bytes_add_50 : decode c_Bytes_add 50 = .ok (.bastore, 1) := by decide +kernel
theorem d_Bytes_add_51 : decode c_Bytes_add 51 = .ok (.aload_n 0, 1) := by decide +kernel
theorem d_Bytes_add_52 : decode c_Bytes_add 52 = .ok (.dup, 1) := by decide +kernel
theorem d_Bytes_add_53 : decode c_Bytes_add 53 = .ok (.getfield 15, 3) := by decide +kernel
theorem d_Bytes_add_56 : decode c_Bytes_add 56 = .ok (.iconst 1, 1) := by decide +kernel
theorem d_Bytes_add_57 : decode c_Bytes_add 57 = .ok (.iadd, 1) := by decide +kernel
theorem d_Bytes_add_58 : decode c_Bytes_add 58 = .ok (.putfield 15, 3) := by decide +kernel
theorem d_Bytes_add_61 : decode c_Bytes_add 61 = .ok (.return_, 1) := by decide +kernel
theorem d_Arrays_copyOfB_0 : decode c_Arrays_copyOfB 0 = .ok (.iload_n 1, 1) := by decide +kernel
theorem d_Arrays_copyOfB_1 : decode c_Arrays_copyOfB 1 = .ok (.aload_n 0, 1) := by decide +kernel
theorem d_Arrays_copyOfB_2 : decode c_Arrays_copyOfB 2 = .ok (.arraylength, 1) := by decide +kernel
theorem d_Arrays_copyOfB_3 : decode c_Arrays_copyOfB 3 = .ok (.if_icmp .ne 11, 3) := by decide +kernel
theorem d_Arrays_copyOfB_6 : decode c_Arrays_copyOfB 6 = .ok (.aload_n 0, 1) := by decide +kernel
theorem d_Arrays_copyOfB_7 : decode c_Arrays_copyOfB 7 = .ok (.invokevirtual 310, 3) := by decide +kernel
theorem d_Arrays_copyOfB_10 : decode c_Arrays_copyOfB 10 = .ok (.checkcast 311, 3) := by decide +kernel
theorem d_Arrays_copyOfB_13 : decode c_Arrays_copyOfB 13 = .ok (.areturn, 1) := by decide +kernel
theorem d_Arrays_copyOfB_14 : decode c_Arrays_copyOfB 14 = .ok (.iload_n 1, 1) := by decide +kernel
theorem d_Arrays_copyOfB_15 : decode c_Arrays_copyOfB 15 = .ok (.newarray .byte, 2) := by decide +kernel
theorem d_Arrays_copyOfB_17 : decode c_Arrays_copyOfB 17 = .ok (.astore_n 2, 1) := by decide +kernel
theorem d_Arrays_copyOfB_18 : decode c_Arrays_copyOfB 18 = .ok (.aload_n 0, 1) := by decide +kernel
theorem d_Arrays_copyOfB_19 : decode c_Arrays_copyOfB 19 = .ok (.iconst 0, 1) := by decide +kernel
theorem d_Arrays_copyOfB_20 : decode c_Arrays_copyOfB 20 = .ok (.aload_n 2, 1) := by decide +kernel
theorem d_Arrays_copyOfB_21 : decode c_Arrays_copyOfB 21 = .ok (.iconst 0, 1) := by decide +kernel
theorem d_Arrays_copyOfB_22 : decode c_Arrays_copyOfB 22 = .ok (.aload_n 0, 1) := by decide +kernel
theorem d_Arrays_copyOfB_23 : decode c_Arrays_copyOfB 23 = .ok (.arraylength, 1) := by decide +kernel
theorem d_Arrays_copyOfB_24 : decode c_Arrays_copyOfB 24 = .ok (.iload_n 1, 1) := by decide +kernel
theorem d_Arrays_copyOfB_25 : decode c_Arrays_copyOfB 25 = .ok (.invokestatic 304, 3) := by decide +kernel
theorem d_Arrays_copyOfB_28 : decode c_Arrays_copyOfB 28 = .ok (.invokestatic 150, 3) := by decide +kernel
theorem d_Arrays_copyOfB_31 : decode c_Arrays_copyOfB 31 = .ok (.aload_n 2, 1) := by decide +kernel
theorem d_Arrays_copyOfB_32 : decode c_Arrays_copyOfB 32 = .ok (.areturn, 1) := by decide +kernel
theorem d_Math_min_0 : decode c_Math_min 0 = .ok (.iload_n 0, 1) := by decide +kernel
theorem d_Math_min_1 : decode c_Math_min 1 = .ok (.iload_n 1, 1) := by decide +kernel
theorem d_Math_min_2 : decode c_Math_min 2 = .ok (.if_icmp .gt 7, 3) := by decide +kernel
theorem d_Math_min_5 : decode c_Math_min 5 = .ok (.iload_n 0, 1) := by decide +kernel
theorem d_Math_min_6 : decode c_Math_min 6 = .ok (.goto 4, 3) := by decide +kernel
theorem d_Math_min_9 : decode c_Math_min 9 = .ok (.iload_n 1, 1) := by decide +kernel
theorem d_Math_min_10 : decode c_Math_min 10 = .ok (.ireturn, 1) := by decide +kernel
theorem d_Parser_forget_0 : decode c_Parser_forget 0 = .ok (.aload_n 0, 1) := by decide +kernel
theorem d_Parser_forget_1 : decode c_Parser_forget 1 = .ok (.iconst 0, 1) := by decide +kernel
theorem d_Parser_forget_2 : decode c_Parser_forget 2 = .ok (.putfield 40, 3) := by decide +kernel
theorem d_Parser_forget_5 : decode c_Parser_forget 5 = .ok (.aload_n 0, 1) := by decide +kernel
theorem d_Parser_forget_6 : decode c_Parser_forget 6 = .ok (.iconst (-1), 1) := by decide +kernel
theorem d_Parser_forget_7 : decode c_Parser_forget 7 = .ok (.putfield 43, 3) := by decide +kernel
theorem d_Parser_forget_10 : decode c_Parser_forget 10 = .ok (.aload_n 0, 1) := by decide +kernel
theorem d_Parser_forget_11 : decode c_Parser_forget 11 = .ok (.getfield 50, 3) := by decide +kernel
theorem d_Parser_forget_14 : decode c_Parser_forget 14 = .ok (.invokevirtual 54, 3) := by decide +kernel
theorem d_Parser_forget_17 : decode c_Parser_forget 17 = .ok (.return_, 1) := by decide +kernel
theorem d_Reader_wipe_0 : decode c_Reader_wipe 0 = .ok (.aload_n 0, 1) := by decide +kernel
theorem d_Reader_wipe_1 : decode c_Reader_wipe 1 = .ok (.getfield 10, 3) := by decide +kernel
theorem d_Reader_wipe_4 : decode c_Reader_wipe 4 = .ok (.iconst 0, 1) := by decide +kernel
theorem d_Reader_wipe_5 : decode c_Reader_wipe 5 = .ok (.putfield 34, 3) := by decide +kernel
theorem d_Reader_wipe_8 : decode c_Reader_wipe 8 = .ok (.aload_n 0, 1) := by decide +kernel
theorem d_Reader_wipe_9 : decode c_Reader_wipe 9 = .ok (.getfield 30, 3) := by decide +kernel
theorem d_Reader_wipe_12 : decode c_Reader_wipe 12 = .ok (.invokevirtual 42, 3) := by decide +kernel
theorem d_Reader_wipe_15 : decode c_Reader_wipe 15 = .ok (.return_, 1) := by decide +kernel
theorem d_Reader_read_0 : decode c_Reader_read 0 = .ok (.aload_n 0, 1) := by decide +kernel
theorem d_Reader_read_1 : decode c_Reader_read 1 = .ok (.getfield 30, 3) := by decide +kernel
theorem d_Reader_read_4 : decode c_Reader_read 4 = .ok (.invokevirtual 45, 3) := by decide +kernel
theorem d_Reader_read_7 : decode c_Reader_read 7 = .ok (.iconst 0, 1) := by decide +kernel
theorem d_Reader_read_8 : decode c_Reader_read 8 = .ok (.istore_n 1, 1) := by decide +kernel
theorem d_Reader_read_9 : decode c_Reader_read 9 = .ok (.iload_n 1, 1) := by decide +kernel
theorem d_Reader_read_10 : decode c_Reader_read 10 = .ok (.sipush 16384, 3) := by decide +kernel
theorem d_Reader_read_13 : decode c_Reader_read 13 = .ok (.if_icmp .ge 26, 3) := by decide +kernel
theorem d_Reader_read_16 : decode c_Reader_read 16 = .ok (.aload_n 0, 1) := by decide +kernel
theorem d_Reader_read_17 : decode c_Reader_read 17 = .ok (.getfield 30, 3) := by decide +kernel
theorem d_Reader_read_20 : decode c_Reader_read 20 = .ok (.invokevirtual 48, 3) := by decide +kernel
theorem d_Reader_read_23 : decode c_Reader_read 23 = .ok (.ifCond .eq 16, 3) := by decide +kernel
theorem d_Reader_read_26 : decode c_Reader_read 26 = .ok (.aload_n 0, 1) := by decide +kernel
theorem d_Reader_read_27 : decode c_Reader_read 27 = .ok (.getfield 30, 3) := by decide +kernel
theorem d_Reader_read_30 : decode c_Reader_read 30 = .ok (.invokevirtual 52, 3) := by decide +kernel
theorem d_Reader_read_33 : decode c_Reader_read 33 = .ok (.iinc 1 1, 3) := by decide +kernel
theorem d_Reader_read_36 : decode c_Reader_read 36 = .ok (.goto (-27), 3) := by decide +kernel
theorem d_Reader_read_39 : decode c_Reader_read 39 = .ok (.aload_n 0, 1) := by decide +kernel
theorem d_Reader_read_40 : decode c_Reader_read 40 = .ok (.getfield 30, 3) := by decide +kernel
theorem d_Reader_read_43 : decode c_Reader_read 43 = .ok (.invokevirtual 55, 3) := by decide +kernel
theorem d_Reader_read_46 : decode c_Reader_read 46 = .ok (.ireturn, 1) := by decide +kernel
theorem d_Parser_begin_0 : decode c_Parser_begin 0 = .ok (.aload_n 0, 1) := by decide +kernel
theorem d_Parser_begin_1 : decode c_Parser_begin 1 = .ok (.invokevirtual 59, 3) := by decide +kernel
theorem d_Parser_begin_4 : decode c_Parser_begin 4 = .ok (.aload_n 0, 1) := by decide +kernel
theorem d_Parser_begin_5 : decode c_Parser_begin 5 = .ok (.getfield 18, 3) := by decide +kernel
theorem d_Parser_begin_8 : decode c_Parser_begin 8 = .ok (.iconst (-1), 1) := by decide +kernel
theorem d_Parser_begin_9 : decode c_Parser_begin 9 = .ok (.invokestatic 62, 3) := by decide +kernel
theorem d_Parser_begin_12 : decode c_Parser_begin 12 = .ok (.aload_n 0, 1) := by decide +kernel
theorem d_Parser_begin_13 : decode c_Parser_begin 13 = .ok (.iconst 0, 1) := by decide +kernel
theorem d_Parser_begin_14 : decode c_Parser_begin 14 = .ok (.putfield 36, 3) := by decide +kernel
theorem d_Parser_begin_17 : decode c_Parser_begin 17 = .ok (.aload_n 0, 1) := by decide +kernel
theorem d_Parser_begin_18 : decode c_Parser_begin 18 = .ok (.getfield 46, 3) := by decide +kernel
theorem d_Parser_begin_21 : decode c_Parser_begin 21 = .ok (.getfield 68, 3) := by decide +kernel
theorem d_Parser_begin_24 : decode c_Parser_begin 24 = .ok (.ifCond .le 27, 3) := by decide +kernel
theorem d_Parser_begin_27 : decode c_Parser_begin 27 = .ok (.aload_n 0, 1) := by decide +kernel
theorem d_Parser_begin_28 : decode c_Parser_begin 28 = .ok (.getfield 46, 3) := by decide +kernel
theorem d_Parser_begin_31 : decode c_Parser_begin 31 = .ok (.iconst 0, 1) := by decide +kernel
theorem d_Parser_begin_32 : decode c_Parser_begin 32 = .ok (.invokevirtual 73, 3) := by decide +kernel
theorem d_Parser_begin_35 : decode c_Parser_begin 35 = .ok (.sipush 255, 3) := by decide +kernel
theorem d_Parser_begin_38 : decode c_Parser_begin 38 = .ok (.if_icmp .eq 13, 3) := by decide +kernel
theorem d_Parser_begin_41 : decode c_Parser_begin 41 = .ok (.aload_n 0, 1) := by decide +kernel
theorem d_Parser_begin_42 : decode c_Parser_begin 42 = .ok (.iconst 2, 1) := by decide +kernel
theorem d_Parser_begin_43 : decode c_Parser_begin 43 = .ok (.iconst 0, 1) := by decide +kernel
theorem d_Parser_begin_44 : decode c_Parser_begin 44 = .ok (.invokevirtual 77, 3) := by decide +kernel
theorem d_Parser_begin_47 : decode c_Parser_begin 47 = .ok (.pop, 1) := by decide +kernel
theorem d_Parser_begin_48 : decode c_Parser_begin 48 = .ok (.goto 51, 3) := by decide +kernel
theorem d_Parser_begin_51 : decode c_Parser_begin 51 = .ok (.aload_n 0, 1) := by decide +kernel
theorem d_Parser_begin_52 : decode c_Parser_begin 52 = .ok (.getfield 46, 3) := by decide +kernel
theorem d_Parser_begin_55 : decode c_Parser_begin 55 = .ok (.getfield 68, 3) := by decide +kernel
theorem d_Parser_begin_58 : decode c_Parser_begin 58 = .ok (.iconst 2, 1) := by decide +kernel
theorem d_Parser_begin_59 : decode c_Parser_begin 59 = .ok (.if_icmp .ge 19, 3) := by decide +kernel
theorem d_Parser_begin_62 : decode c_Parser_begin 62 = .ok (.aload_n 0, 1) := by decide +kernel
theorem d_Parser_begin_63 : decode c_Parser_begin 63 = .ok (.iconst 1, 1) := by decide +kernel
theorem d_Parser_begin_64 : decode c_Parser_begin 64 = .ok (.aload_n 0, 1) := by decide +kernel
theorem d_Parser_begin_65 : decode c_Parser_begin 65 = .ok (.getfield 46, 3) := by decide +kernel
theorem d_Parser_begin_68 : decode c_Parser_begin 68 = .ok (.getfield 68, 3) := by decide +kernel
theorem d_Parser_begin_71 : decode c_Parser_begin 71 = .ok (.invokevirtual 77, 3) := by decide +kernel
theorem d_Parser_begin_74 : decode c_Parser_begin 74 = .ok (.pop, 1) := by decide +kernel
theorem d_Parser_begin_75 : decode c_Parser_begin 75 = .ok (.goto 24, 3) := by decide +kernel
theorem d_Parser_begin_78 : decode c_Parser_begin 78 = .ok (.aload_n 0, 1) := by decide +kernel
theorem d_Parser_begin_79 : decode c_Parser_begin 79 = .ok (.getfield 46, 3) := by decide +kernel
theorem d_Parser_begin_82 : decode c_Parser_begin 82 = .ok (.iconst 1, 1) := by decide +kernel
theorem d_Parser_begin_83 : decode c_Parser_begin 83 = .ok (.invokevirtual 73, 3) := by decide +kernel
theorem d_Parser_begin_86 : decode c_Parser_begin 86 = .ok (.sipush 216, 3) := by decide +kernel
theorem d_Parser_begin_89 : decode c_Parser_begin 89 = .ok (.if_icmp .eq 10, 3) := by decide +kernel
theorem d_Parser_begin_92 : decode c_Parser_begin 92 = .ok (.aload_n 0, 1) := by decide +kernel
theorem d_Parser_begin_93 : decode c_Parser_begin 93 = .ok (.iconst 2, 1) := by decide +kernel
theorem d_Parser_begin_94 : decode c_Parser_begin 94 = .ok (.iconst 0, 1) := by decide +kernel
theorem d_Parser_begin_95 : decode c_Parser_begin 95 = .ok (.invokevirtual 77, 3) := by decide +kernel
theorem d_Parser_begin_98 : decode c_Parser_begin 98 = .ok (.pop, 1) := by decide +kernel
theorem d_Parser_begin_99 : decode c_Parser_begin 99 = .ok (.aload_n 0, 1) := by decide +kernel
theorem d_Parser_begin_100 : decode c_Parser_begin 100 = .ok (.iconst 2, 1) := by decide +kernel
theorem d_Parser_begin_101 : decode c_Parser_begin 101 = .ok (.putfield 26, 3) := by decide +kernel
theorem d_Parser_begin_104 : decode c_Parser_begin 104 = .ok (.return_, 1) := by decide +kernel
theorem d_Bytes_at_0 : decode c_Bytes_at 0 = .ok (.iload_n 1, 1) := by decide +kernel
theorem d_Bytes_at_1 : decode c_Bytes_at 1 = .ok (.ifCond .lt 24, 3) := by decide +kernel
theorem d_Bytes_at_4 : decode c_Bytes_at 4 = .ok (.iload_n 1, 1) := by decide +kernel
theorem d_Bytes_at_5 : decode c_Bytes_at 5 = .ok (.aload_n 0, 1) := by decide +kernel
theorem d_Bytes_at_6 : decode c_Bytes_at 6 = .ok (.getfield 15, 3) := by decide +kernel
theorem d_Bytes_at_9 : decode c_Bytes_at 9 = .ok (.if_icmp .ge 16, 3) := by decide +kernel
theorem d_Bytes_at_12 : decode c_Bytes_at 12 = .ok (.aload_n 0, 1) := by decide +kernel
theorem d_Bytes_at_13 : decode c_Bytes_at 13 = .ok (.getfield 9, 3) := by decide +kernel
theorem d_Bytes_at_16 : decode c_Bytes_at 16 = .ok (.iload_n 1, 1) := by decide +kernel
theorem d_Bytes_at_17 : decode c_Bytes_at 17 = .ok (.baload, 1) := by decide +kernel
theorem d_Bytes_at_18 : decode c_Bytes_at 18 = .ok (.sipush 255, 3) := by decide +kernel
theorem d_Bytes_at_21 : decode c_Bytes_at 21 = .ok (.iand, 1) := by decide +kernel
theorem d_Bytes_at_22 : decode c_Bytes_at 22 = .ok (.goto 4, 3) := by decide +kernel
theorem d_Bytes_at_25 : decode c_Bytes_at 25 = .ok (.iconst (-1), 1) := by decide +kernel
theorem d_Bytes_at_26 : decode c_Bytes_at 26 = .ok (.ireturn, 1) := by decide +kernel
theorem d_Parser_fail_0 : decode c_Parser_fail 0 = .ok (.aload_n 0, 1) := by decide +kernel
theorem d_Parser_fail_1 : decode c_Parser_fail 1 = .ok (.getfield 40, 3) := by decide +kernel
theorem d_Parser_fail_4 : decode c_Parser_fail 4 = .ok (.ifCond .ne 13, 3) := by decide +kernel
theorem d_Parser_fail_7 : decode c_Parser_fail 7 = .ok (.aload_n 0, 1) := by decide +kernel
theorem d_Parser_fail_8 : decode c_Parser_fail 8 = .ok (.iload_n 1, 1) := by decide +kernel
theorem d_Parser_fail_9 : decode c_Parser_fail 9 = .ok (.putfield 40, 3) := by decide +kernel
theorem d_Parser_fail_12 : decode c_Parser_fail 12 = .ok (.aload_n 0, 1) := by decide +kernel
theorem d_Parser_fail_13 : decode c_Parser_fail 13 = .ok (.iload_n 2, 1) := by decide +kernel
theorem d_Parser_fail_14 : decode c_Parser_fail 14 = .ok (.putfield 43, 3) := by decide +kernel
theorem d_Parser_fail_17 : decode c_Parser_fail 17 = .ok (.iconst (-1), 1) := by decide +kernel
theorem d_Parser_fail_18 : decode c_Parser_fail 18 = .ok (.ireturn, 1) := by decide +kernel
theorem d_Parser_goesOn_0 : decode c_Parser_goesOn 0 = .ok (.aload_n 0, 1) := by decide +kernel
theorem d_Parser_goesOn_1 : decode c_Parser_goesOn 1 = .ok (.getfield 40, 3) := by decide +kernel
theorem d_Parser_goesOn_4 : decode c_Parser_goesOn 4 = .ok (.ifCond .ne 18, 3) := by decide +kernel
theorem d_Parser_goesOn_7 : decode c_Parser_goesOn 7 = .ok (.aload_n 0, 1) := by decide +kernel
theorem d_Parser_goesOn_8 : decode c_Parser_goesOn 8 = .ok (.getfield 50, 3) := by decide +kernel
theorem d_Parser_goesOn_11 : decode c_Parser_goesOn 11 = .ok (.getfield 81, 3) := by decide +kernel
theorem d_Parser_goesOn_14 : decode c_Parser_goesOn 14 = .ok (.iconst (-1), 1) := by decide +kernel
theorem d_Parser_goesOn_15 : decode c_Parser_goesOn 15 = .ok (.if_icmp .ne 7, 3) := by decide +kernel
theorem d_Parser_goesOn_18 : decode c_Parser_goesOn 18 = .ok (.iconst 1, 1) := by decide +kernel
theorem d_Parser_goesOn_19 : decode c_Parser_goesOn 19 = .ok (.goto 4, 3) := by decide +kernel
theorem d_Parser_goesOn_22 : decode c_Parser_goesOn 22 = .ok (.iconst 0, 1) := by decide +kernel
theorem d_Parser_goesOn_23 : decode c_Parser_goesOn 23 = .ok (.ireturn, 1) := by decide +kernel
theorem d_Parser_readNext_0 : decode c_Parser_readNext 0 = .ok (.aload_n 0, 1) := by decide +kernel
theorem d_Parser_readNext_1 : decode c_Parser_readNext 1 = .ok (.getfield 26, 3) := by decide +kernel
theorem d_Parser_readNext_4 : decode c_Parser_readNext 4 = .ok (.istore_n 1, 1) := by decide +kernel
theorem d_Parser_readNext_5 : decode c_Parser_readNext 5 = .ok (.aload_n 0, 1) := by decide +kernel
theorem d_Parser_readNext_6 : decode c_Parser_readNext 6 = .ok (.invokevirtual 84, 3) := by decide +kernel
theorem d_Parser_readNext_9 : decode c_Parser_readNext 9 = .ok (.istore_n 2, 1) := by decide +kernel
theorem d_Parser_readNext_10 : decode c_Parser_readNext 10 = .ok (.iload_n 2, 1) := by decide +kernel
theorem d_Parser_readNext_11 : decode c_Parser_readNext 11 = .ok (.iconst (-1), 1) := by decide +kernel
theorem d_Parser_readNext_12 : decode c_Parser_readNext 12 = .ok (.if_icmp .ne 4, 3) := by decide +kernel
theorem d_Parser_readNext_15 : decode c_Parser_readNext 15 = .ok (.return_, 1) := by decide +kernel
theorem d_Parser_readNext_16 : decode c_Parser_readNext 16 = .ok (.iload_n 2, 1) := by decide +kernel
theorem d_Parser_readNext_17 : decode c_Parser_readNext 17 = .ok (.sipush 217, 3) := by decide +kernel
theorem d_Parser_readNext_20 : decode c_Parser_readNext 20 = .ok (.if_icmp .ne 15, 3) := by decide +kernel
theorem d_Parser_readNext_23 : decode c_Parser_readNext 23 = .ok (.aload_n 0, 1) := by decide +kernel
theorem d_Parser_readNext_24 : decode c_Parser_readNext 24 = .ok (.getfield 50, 3) := by decide +kernel
theorem d_Parser_readNext_27 : decode c_Parser_readNext 27 = .ok (.aload_n 0, 1) := by decide +kernel
theorem d_Parser_readNext_28 : decode c_Parser_readNext 28 = .ok (.getfield 26, 3) := by decide +kernel
theorem d_Parser_readNext_31 : decode c_Parser_readNext 31 = .ok (.putfield 81, 3) := by decide +kernel
theorem d_Parser_readNext_34 : decode c_Parser_readNext 34 = .ok (.return_, 1) := by decide +kernel
theorem d_Parser_readNext_35 : decode c_Parser_readNext 35 = .ok (.aload_n 0, 1) := by decide +kernel
theorem d_Parser_readNext_36 : decode c_Parser_readNext 36 = .ok (.invokevirtual 88, 3) := by decide +kernel
theorem d_Parser_readNext_39 : decode c_Parser_readNext 39 = .ok (.aload_n 0, 1) := by decide +kernel
theorem d_Parser_readNext_40 : decode c_Parser_readNext 40 = .ok (.getfield 50, 3) := by decide +kernel
theorem d_Parser_readNext_43 : decode c_Parser_readNext 43 = .ok (.iload_n 1, 1) := by decide +kernel
theorem d_Parser_readNext_44 : decode c_Parser_readNext 44 = .ok (.aload_n 0, 1) := by decide +kernel
theorem d_Parser_readNext_45 : decode c_Parser_readNext 45 = .ok (.getfield 26, 3) := by decide +kernel
theorem d_Parser_readNext_48 : decode c_Parser_readNext 48 = .ok (.invokevirtual 91, 3) := by decide +kernel
theorem d_Parser_readNext_51 : decode c_Parser_readNext 51 = .ok (.aload_n 0, 1) := by decide +kernel
theorem d_Parser_readNext_52 : decode c_Parser_readNext 52 = .ok (.iload_n 2, 1) := by decide +kernel
theorem d_Parser_readNext_53 : decode c_Parser_readNext 53 = .ok (.invokevirtual 95, 3) := by decide +kernel
theorem d_Parser_readNext_56 : decode c_Parser_readNext 56 = .ok (.iload_n 2, 1) := by decide +kernel
theorem d_Parser_readNext_57 : decode c_Parser_readNext 57 = .ok (.sipush 218, 3) := by decide +kernel
theorem d_Parser_readNext_60 : decode c_Parser_readNext 60 = .ok (.if_icmp .ne 7, 3) := by decide +kernel
theorem d_Parser_readNext_63 : decode c_Parser_readNext 63 = .ok (.aload_n 0, 1) := by decide +kernel
theorem d_Parser_readNext_64 : decode c_Parser_readNext 64 = .ok (.invokevirtual 99, 3) := by decide +kernel
theorem d_Parser_readNext_67 : decode c_Parser_readNext 67 = .ok (.return_, 1) := by decide +kernel
theorem d_Parser_takeMarker_0 : decode c_Parser_takeMarker 0 = .ok (.aload_n 0, 1) := by decide +kernel
theorem d_Parser_takeMarker_1 : decode c_Parser_takeMarker 1 = .ok (.getfield 46, 3) := by decide +kernel
theorem d_Parser_takeMarker_4 : decode c_Parser_takeMarker 4 = .ok (.aload_n 0, 1) := by decide +kernel
theorem d_Parser_takeMarker_5 : decode c_Parser_takeMarker 5 = .ok (.getfield 26, 3) := by decide +kernel
theorem d_Parser_takeMarker_8 : decode c_Parser_takeMarker 8 = .ok (.invokevirtual 73, 3) := by decide +kernel
theorem d_Parser_takeMarker_11 : decode c_Parser_takeMarker 11 = .ok (.istore_n 1, 1) := by decide +kernel
theorem d_Parser_takeMarker_12 : decode c_Parser_takeMarker 12 = .ok (.iload_n 1, 1) := by decide +kernel
theorem d_Parser_takeMarker_13 : decode c_Parser_takeMarker 13 = .ok (.iconst (-1), 1) := by decide +kernel
theorem d_Parser_takeMarker_14 : decode c_Parser_takeMarker 14 = .ok (.if_icmp .eq 20, 3) := by decide +kernel
theorem d_Parser_takeMarker_17 : decode c_Parser_takeMarker 17 = .ok (.iload_n 1, 1) := by decide +kernel
theorem d_Parser_takeMarker_18 : decode c_Parser_takeMarker 18 = .ok (.sipush 255, 3) := by decide +kernel
theorem d_Parser_takeMarker_21 : decode c_Parser_takeMarker 21 = .ok (.if_icmp .eq 13, 3) := by decide +kernel
theorem d_Parser_takeMarker_24 : decode c_Parser_takeMarker 24 = .ok (.aload_n 0, 1) := by decide +kernel
theorem d_Parser_takeMarker_25 : decode c_Parser_takeMarker 25 = .ok (.iconst 3, 1) := by decide +kernel
theorem d_Parser_takeMarker_26 : decode c_Parser_takeMarker 26 = .ok (.aload_n 0, 1) := by decide +kernel
theorem d_Parser_takeMarker_27 : decode c_Parser_takeMarker 27 = .ok (.getfield 26, 3) := by decide +kernel
theorem d_Parser_takeMarker_30 : decode c_Parser_takeMarker 30 = .ok (.invokevirtual 77, 3) := by decide +kernel
theorem d_Parser_takeMarker_33 : decode c_Parser_takeMarker 33 = .ok (.ireturn, 1) := by decide +kernel
theorem d_Parser_takeMarker_34 : decode c_Parser_takeMarker 34 = .ok (.aload_n 0, 1) := by decide +kernel
theorem d_Parser_takeMarker_35 : decode c_Parser_takeMarker 35 = .ok (.getfield 26, 3) := by decide +kernel
theorem d_Parser_takeMarker_38 : decode c_Parser_takeMarker 38 = .ok (.aload_n 0, 1) := by decide +kernel
theorem d_Parser_takeMarker_39 : decode c_Parser_takeMarker 39 = .ok (.getfield 46, 3) := by decide +kernel
theorem d_Parser_takeMarker_42 : decode c_Parser_takeMarker 42 = .ok (.getfield 68, 3) := by decide +kernel
theorem d_Parser_takeMarker_45 : decode c_Parser_takeMarker 45 = .ok (.if_icmp .ge 65, 3) := by decide +kernel
theorem d_Parser_takeMarker_48 : decode c_Parser_takeMarker 48 = .ok (.aload_n 0, 1) := by decide +kernel
theorem d_Parser_takeMarker_49 : decode c_Parser_takeMarker 49 = .ok (.getfield 46, 3) := by decide +kernel
theorem d_Parser_takeMarker_52 : decode c_Parser_takeMarker 52 = .ok (.aload_n 0, 1) := by decide +kernel
theorem d_Parser_takeMarker_53 : decode c_Parser_takeMarker 53 = .ok (.getfield 26, 3) := by decide +kernel
theorem d_Parser_takeMarker_56 : decode c_Parser_takeMarker 56 = .ok (.invokevirtual 73, 3) := by decide +kernel
theorem d_Parser_takeMarker_59 : decode c_Parser_takeMarker 59 = .ok (.istore_n 2, 1) := by decide +kernel
theorem d_Parser_takeMarker_60 : decode c_Parser_takeMarker 60 = .ok (.iload_n 2, 1) := by decide +kernel
theorem d_Parser_takeMarker_61 : decode c_Parser_takeMarker 61 = .ok (.sipush 255, 3) := by decide +kernel
theorem d_Parser_takeMarker_64 : decode c_Parser_takeMarker 64 = .ok (.if_icmp .eq 33, 3) := by decide +kernel
theorem d_Parser_takeMarker_67 : decode c_Parser_takeMarker 67 = .ok (.aload_n 0, 1) := by decide +kernel
theorem d_Parser_takeMarker_68 : decode c_Parser_takeMarker 68 = .ok (.iload_n 2, 1) := by decide +kernel
theorem d_Parser_takeMarker_69 : decode c_Parser_takeMarker 69 = .ok (.invokevirtual 102, 3) := by decide +kernel
theorem d_Parser_takeMarker_72 : decode c_Parser_takeMarker 72 = .ok (.ifCond .ne 13, 3) := by decide +kernel
theorem d_Parser_takeMarker_75 : decode c_Parser_takeMarker 75 = .ok (.aload_n 0, 1) := by decide +kernel
theorem d_Parser_takeMarker_76 : decode c_Parser_takeMarker 76 = .ok (.iconst 4, 1) := by decide +kernel
theorem d_Parser_takeMarker_77 : decode c_Parser_takeMarker 77 = .ok (.aload_n 0, 1) := by decide +kernel
theorem d_Parser_takeMarker_78 : decode c_Parser_takeMarker 78 = .ok (.getfield 26, 3) := by decide +kernel
theorem d_Parser_takeMarker_81 : decode c_Parser_takeMarker 81 = .ok (.invokevirtual 77, 3) := by decide +kernel
theorem d_Parser_takeMarker_84 : decode c_Parser_takeMarker 84 = .ok (.ireturn, 1) := by decide +kernel
theorem d_Parser_takeMarker_85 : decode c_Parser_takeMarker 85 = .ok (.aload_n 0, 1) := by decide +kernel
theorem d_Parser_takeMarker_86 : decode c_Parser_takeMarker 86 = .ok (.dup, 1) := by decide +kernel
theorem d_Parser_takeMarker_87 : decode c_Parser_takeMarker 87 = .ok (.getfield 26, 3) := by decide +kernel
theorem d_Parser_takeMarker_90 : decode c_Parser_takeMarker 90 = .ok (.iconst 1, 1) := by decide +kernel
theorem d_Parser_takeMarker_91 : decode c_Parser_takeMarker 91 = .ok (.iadd, 1) := by decide +kernel
theorem d_Parser_takeMarker_92 : decode c_Parser_takeMarker 92 = .ok (.putfield 26, 3) := by decide +kernel
theorem d_Parser_takeMarker_95 : decode c_Parser_takeMarker 95 = .ok (.iload_n 2, 1) := by decide +kernel
theorem d_Parser_takeMarker_96 : decode c_Parser_takeMarker 96 = .ok (.ireturn, 1) := by decide +kernel
theorem d_Parser_takeMarker_97 : decode c_Parser_takeMarker 97 = .ok (.aload_n 0, 1) := by decide +kernel
theorem d_Parser_takeMarker_98 : decode c_Parser_takeMarker 98 = .ok (.dup, 1) := by decide +kernel
theorem d_Parser_takeMarker_99 : decode c_Parser_takeMarker 99 = .ok (.getfield 26, 3) := by decide +kernel
theorem d_Parser_takeMarker_102 : decode c_Parser_takeMarker 102 = .ok (.iconst 1, 1) := by decide +kernel
theorem d_Parser_takeMarker_103 : decode c_Parser_takeMarker 103 = .ok (.iadd, 1) := by decide +kernel
theorem d_Parser_takeMarker_104 : decode c_Parser_takeMarker 104 = .ok (.putfield 26, 3) := by decide +kernel
theorem d_Parser_takeMarker_107 : decode c_Parser_takeMarker 107 = .ok (.goto (-73), 3) := by decide +kernel
theorem d_Parser_takeMarker_110 : decode c_Parser_takeMarker 110 = .ok (.aload_n 0, 1) := by decide +kernel
theorem d_Parser_takeMarker_111 : decode c_Parser_takeMarker 111 = .ok (.iconst 1, 1) := by decide +kernel
theorem d_Parser_takeMarker_112 : decode c_Parser_takeMarker 112 = .ok (.aload_n 0, 1) := by decide +kernel
theorem d_Parser_takeMarker_113 : decode c_Parser_takeMarker 113 = .ok (.getfield 46, 3) := by decide +kernel
theorem d_Parser_takeMarker_116 : decode c_Parser_takeMarker 116 = .ok (.getfield 68, 3) := by decide +kernel
theorem d_Parser_takeMarker_119 : decode c_Parser_takeMarker 119 = .ok (.invokevirtual 77, 3) := by decide +kernel
theorem d_Parser_takeMarker_122 : decode c_Parser_takeMarker 122 = .ok (.ireturn, 1) := by decide +kernel
theorem d_Parser_canStand_0 : decode c_Parser_canStand 0 = .ok (.aload_n 0, 1) := by decide +kernel
theorem d_Parser_canStand_1 : decode c_Parser_canStand 1 = .ok (.getfield 36, 3) := by decide +kernel
theorem d_Parser_canStand_4 : decode c_Parser_canStand 4 = .ok (.ifCond .ne 10, 3) := by decide +kernel
theorem d_Parser_canStand_7 : decode c_Parser_canStand 7 = .ok (.iload_n 1, 1) := by decide +kernel
theorem d_Parser_canStand_8 : decode c_Parser_canStand 8 = .ok (.sipush 220, 3) := by decide +kernel
theorem d_Parser_canStand_11 : decode c_Parser_canStand 11 = .ok (.if_icmp .ne 23, 3) := by decide +kernel
theorem d_Parser_canStand_14 : decode c_Parser_canStand 14 = .ok (.aload_n 0, 1) := by decide +kernel
theorem d_Parser_canStand_15 : decode c_Parser_canStand 15 = .ok (.getfield 36, 3) := by decide +kernel
theorem d_Parser_canStand_18 : decode c_Parser_canStand 18 = .ok (.ifCond .eq 14, 3) := by decide +kernel
theorem d_Parser_canStand_21 : decode c_Parser_canStand 21 = .ok (.iload_n 1, 1) := by decide +kernel
theorem d_Parser_canStand_22 : decode c_Parser_canStand 22 = .ok (.sipush 220, 3) := by decide +kernel
theorem d_Parser_canStand_25 : decode c_Parser_canStand 25 = .ok (.if_icmp .ne 7, 3) := by decide +kernel
theorem d_Parser_canStand_28 : decode c_Parser_canStand 28 = .ok (.iconst 1, 1) := by decide +kernel
theorem d_Parser_canStand_29 : decode c_Parser_canStand 29 = .ok (.goto 4, 3) := by decide +kernel
theorem d_Parser_canStand_32 : decode c_Parser_canStand 32 = .ok (.iconst 0, 1) := by decide +kernel
theorem d_Parser_canStand_33 : decode c_Parser_canStand 33 = .ok (.ireturn, 1) := by decide +kernel
theorem d_Parser_canStand_34 : decode c_Parser_canStand 34 = .ok (.iload_n 1, 1) := by decide +kernel
theorem d_Parser_canStand_35 : decode c_Parser_canStand 35 = .ok (.lookupswitch 125 #[(192, 67), (194, 67), (196, 65), (217, 101), (218, 84), (219, 65), (221, 65)], 65) := by decide +kernel
theorem d_Parser_canStand_100 : decode c_Parser_canStand 100 = .ok (.iconst 1, 1) := by decide +kernel
theorem d_Parser_canStand_101 : decode c_Parser_canStand 101 = .ok (.ireturn, 1) := by decide +kernel
theorem d_Parser_canStand_102 : decode c_Parser_canStand 102 = .ok (.aload_n 0, 1) := by decide +kernel
theorem d_Parser_canStand_103 : decode c_Parser_canStand 103 = .ok (.getfield 50, 3) := by decide +kernel
theorem d_Parser_canStand_106 : decode c_Parser_canStand 106 = .ok (.getfield 106, 3) := by decide +kernel
theorem d_Parser_canStand_109 : decode c_Parser_canStand 109 = .ok (.iconst (-1), 1) := by decide +kernel
theorem d_Parser_canStand_110 : decode c_Parser_canStand 110 = .ok (.if_icmp .ne 7, 3) := by decide +kernel
theorem d_Parser_canStand_113 : decode c_Parser_canStand 113 = .ok (.iconst 1, 1) := by decide +kernel
theorem d_Parser_canStand_114 : decode c_Parser_canStand 114 = .ok (.goto 4, 3) := by decide +kernel
theorem d_Parser_canStand_117 : decode c_Parser_canStand 117 = .ok (.iconst 0, 1) := by decide +kernel
theorem d_Parser_canStand_118 : decode c_Parser_canStand 118 = .ok (.ireturn, 1) := by decide +kernel
theorem d_Parser_canStand_119 : decode c_Parser_canStand 119 = .ok (.aload_n 0, 1) := by decide +kernel
theorem d_Parser_canStand_120 : decode c_Parser_canStand 120 = .ok (.getfield 50, 3) := by decide +kernel
theorem d_Parser_canStand_123 : decode c_Parser_canStand 123 = .ok (.getfield 106, 3) := by decide +kernel
theorem d_Parser_canStand_126 : decode c_Parser_canStand 126 = .ok (.iconst (-1), 1) := by decide +kernel
theorem d_Parser_canStand_127 : decode c_Parser_canStand 127 = .ok (.if_icmp .eq 7, 3) := by decide +kernel
theorem d_Parser_canStand_130 : decode c_Parser_canStand 130 = .ok (.iconst 1, 1) := by decide +kernel
theorem d_Parser_canStand_131 : decode c_Parser_canStand 131 = .ok (.goto 4, 3) := by decide +kernel
theorem d_Parser_canStand_134 : decode c_Parser_canStand 134 = .ok (.iconst 0, 1) := by decide +kernel
theorem d_Parser_canStand_135 : decode c_Parser_canStand 135 = .ok (.ireturn, 1) := by decide +kernel
theorem d_Parser_canStand_136 : decode c_Parser_canStand 136 = .ok (.aload_n 0, 1) := by decide +kernel
theorem d_Parser_canStand_137 : decode c_Parser_canStand 137 = .ok (.getfield 50, 3) := by decide +kernel
theorem d_Parser_canStand_140 : decode c_Parser_canStand 140 = .ok (.getfield 106, 3) := by decide +kernel
theorem d_Parser_canStand_143 : decode c_Parser_canStand 143 = .ok (.iconst (-1), 1) := by decide +kernel
theorem d_Parser_canStand_144 : decode c_Parser_canStand 144 = .ok (.if_icmp .eq 14, 3) := by decide +kernel
theorem d_Parser_canStand_147 : decode c_Parser_canStand 147 = .ok (.aload_n 0, 1) := by decide +kernel
theorem d_Parser_canStand_148 : decode c_Parser_canStand 148 = .ok (.invokevirtual 109, 3) := by decide +kernel
theorem d_Parser_canStand_151 : decode c_Parser_canStand 151 = .ok (.ifCond .eq 7, 3) := by decide +kernel
theorem d_Parser_canStand_154 : decode c_Parser_canStand 154 = .ok (.iconst 1, 1) := by decide +kernel
theorem d_Parser_canStand_155 : decode c_Parser_canStand 155 = .ok (.goto 4, 3) := by decide +kernel
theorem d_Parser_canStand_158 : decode c_Parser_canStand 158 = .ok (.iconst 0, 1) := by decide +kernel
theorem d_Parser_canStand_159 : decode c_Parser_canStand 159 = .ok (.ireturn, 1) := by decide +kernel
theorem d_Parser_canStand_160 : decode c_Parser_canStand 160 = .ok (.aload_n 0, 1) := by decide +kernel
theorem d_Parser_canStand_161 : decode c_Parser_canStand 161 = .ok (.iload_n 1, 1) := by decide +kernel
theorem d_Parser_canStand_162 : decode c_Parser_canStand 162 = .ok (.invokevirtual 113, 3) := by decide +kernel
theorem d_Parser_canStand_165 : decode c_Parser_canStand 165 = .ok (.ireturn, 1) := by decide +kernel
theorem d_Parser_allBegun_0 : decode c_Parser_allBegun 0 = .ok (.iconst 0, 1) := by decide +kernel
theorem d_Parser_allBegun_1 : decode c_Parser_allBegun 1 = .ok (.istore_n 1, 1) := by decide +kernel
theorem d_Parser_allBegun_2 : decode c_Parser_allBegun 2 = .ok (.iload_n 1, 1) := by decide +kernel
theorem d_Parser_allBegun_3 : decode c_Parser_allBegun 3 = .ok (.aload_n 0, 1) := by decide +kernel
theorem d_Parser_allBegun_4 : decode c_Parser_allBegun 4 = .ok (.getfield 50, 3) := by decide +kernel
theorem d_Parser_allBegun_7 : decode c_Parser_allBegun 7 = .ok (.getfield 116, 3) := by decide +kernel
theorem d_Parser_allBegun_10 : decode c_Parser_allBegun 10 = .ok (.if_icmp .ge 21, 3) := by decide +kernel
theorem d_Parser_allBegun_13 : decode c_Parser_allBegun 13 = .ok (.aload_n 0, 1) := by decide +kernel
theorem d_Parser_allBegun_14 : decode c_Parser_allBegun 14 = .ok (.iload_n 1, 1) := by decide +kernel
theorem d_Parser_allBegun_15 : decode c_Parser_allBegun 15 = .ok (.iconst 0, 1) := by decide +kernel
theorem d_Parser_allBegun_16 : decode c_Parser_allBegun 16 = .ok (.invokevirtual 119, 3) := by decide +kernel
theorem d_Parser_allBegun_19 : decode c_Parser_allBegun 19 = .ok (.iconst (-1), 1) := by decide +kernel
theorem d_Parser_allBegun_20 : decode c_Parser_allBegun 20 = .ok (.if_icmp .ne 5, 3) := by decide +kernel
theorem d_Parser_allBegun_23 : decode c_Parser_allBegun 23 = .ok (.iconst 0, 1) := by decide +kernel
theorem d_Parser_allBegun_24 : decode c_Parser_allBegun 24 = .ok (.ireturn, 1) := by decide +kernel
theorem d_Parser_allBegun_25 : decode c_Parser_allBegun 25 = .ok (.iinc 1 1, 3) := by decide +kernel
theorem d_Parser_allBegun_28 : decode c_Parser_allBegun 28 = .ok (.goto (-26), 3) := by decide +kernel
theorem d_Parser_allBegun_31 : decode c_Parser_allBegun 31 = .ok (.iconst 1, 1) := by decide +kernel
theorem d_Parser_allBegun_32 : decode c_Parser_allBegun 32 = .ok (.ireturn, 1) := by decide +kernel
theorem d_Parser_latestOf_0 : decode c_Parser_latestOf 0 = .ok (.iload_n 1, 1) := by decide +kernel
theorem d_Parser_latestOf_1 : decode c_Parser_latestOf 1 = .ok (.bipush 64, 2) := by decide +kernel
theorem d_Parser_latestOf_3 : decode c_Parser_latestOf 3 = .ok (.imul, 1) := by decide +kernel
theorem d_Parser_latestOf_4 : decode c_Parser_latestOf 4 = .ok (.iload_n 2, 1) := by decide +kernel
theorem d_Parser_latestOf_5 : decode c_Parser_latestOf 5 = .ok (.iadd, 1) := by decide +kernel
theorem d_Parser_latestOf_6 : decode c_Parser_latestOf 6 = .ok (.istore_n 3, 1) := by decide +kernel
theorem d_Parser_latestOf_7 : decode c_Parser_latestOf 7 = .ok (.iload_n 3, 1) := by decide +kernel
theorem d_Parser_latestOf_8 : decode c_Parser_latestOf 8 = .ok (.ifCond .lt 21, 3) := by decide +kernel
theorem d_Parser_latestOf_11 : decode c_Parser_latestOf 11 = .ok (.iload_n 3, 1) := by decide +kernel
theorem d_Parser_latestOf_12 : decode c_Parser_latestOf 12 = .ok (.aload_n 0, 1) := by decide +kernel
theorem d_Parser_latestOf_13 : decode c_Parser_latestOf 13 = .ok (.getfield 18, 3) := by decide +kernel
theorem d_Parser_latestOf_16 : decode c_Parser_latestOf 16 = .ok (.arraylength, 1) := by decide +kernel
theorem d_Parser_latestOf_17 : decode c_Parser_latestOf 17 = .ok (.if_icmp .ge 12, 3) := by decide +kernel
theorem d_Parser_latestOf_20 : decode c_Parser_latestOf 20 = .ok (.aload_n 0, 1) := by decide +kernel
theorem d_Parser_latestOf_21 : decode c_Parser_latestOf 21 = .ok (.getfield 18, 3) := by decide +kernel
theorem d_Parser_latestOf_24 : decode c_Parser_latestOf 24 = .ok (.iload_n 3, 1) := by decide +kernel
theorem d_Parser_latestOf_25 : decode c_Parser_latestOf 25 = .ok (.iaload, 1) := by decide +kernel
theorem d_Parser_latestOf_26 : decode c_Parser_latestOf 26 = .ok (.goto 4, 3) := by decide +kernel
theorem d_Parser_latestOf_29 : decode c_Parser_latestOf 29 = .ok (.iconst (-1), 1) := by decide +kernel
theorem d_Parser_latestOf_30 : decode c_Parser_latestOf 30 = .ok (.ireturn, 1) := by decide +kernel
theorem d_Parser_isFree_0 : decode c_Parser_isFree 0 = .ok (.iload_n 1, 1) := by decide +kernel
theorem d_Parser_isFree_1 : decode c_Parser_isFree 1 = .ok (.sipush 254, 3) := by decide +kernel
theorem d_Parser_isFree_4 : decode c_Parser_isFree 4 = .ok (.if_icmp .eq 17, 3) := by decide +kernel
theorem d_Parser_isFree_7 : decode c_Parser_isFree 7 = .ok (.iload_n 1, 1) := by decide +kernel
theorem d_Parser_isFree_8 : decode c_Parser_isFree 8 = .ok (.sipush 224, 3) := by decide +kernel
theorem d_Parser_isFree_11 : decode c_Parser_isFree 11 = .ok (.if_icmp .lt 14, 3) := by decide +kernel
theorem d_Parser_isFree_14 : decode c_Parser_isFree 14 = .ok (.iload_n 1, 1) := by decide +kernel
theorem d_Parser_isFree_15 : decode c_Parser_isFree 15 = .ok (.sipush 239, 3) := by decide +kernel
theorem d_Parser_isFree_18 : decode c_Parser_isFree 18 = .ok (.if_icmp .gt 7, 3) := by decide +kernel
theorem d_Parser_isFree_21 : decode c_Parser_isFree 21 = .ok (.iconst 1, 1) := by decide +kernel
theorem d_Parser_isFree_22 : decode c_Parser_isFree 22 = .ok (.goto 4, 3) := by decide +kernel
theorem d_Parser_isFree_25 : decode c_Parser_isFree 25 = .ok (.iconst 0, 1) := by decide +kernel
theorem d_Parser_isFree_26 : decode c_Parser_isFree 26 = .ok (.ireturn, 1) := by decide +kernel
theorem d_Parser_takeLength_0 : decode c_Parser_takeLength 0 = .ok (.aload_n 0, 1) := by decide +kernel
theorem d_Parser_takeLength_1 : decode c_Parser_takeLength 1 = .ok (.aload_n 0, 1) := by decide +kernel
theorem d_Parser_takeLength_2 : decode c_Parser_takeLength 2 = .ok (.getfield 26, 3) := by decide +kernel
theorem d_Parser_takeLength_5 : decode c_Parser_takeLength 5 = .ok (.putfield 30, 3) := by decide +kernel
theorem d_Parser_takeLength_8 : decode c_Parser_takeLength 8 = .ok (.aload_n 0, 1) := by decide +kernel
theorem d_Parser_takeLength_9 : decode c_Parser_takeLength 9 = .ok (.aload_n 0, 1) := by decide +kernel
theorem d_Parser_takeLength_10 : decode c_Parser_takeLength 10 = .ok (.getfield 26, 3) := by decide +kernel
theorem d_Parser_takeLength_13 : decode c_Parser_takeLength 13 = .ok (.iconst 2, 1) := by decide +kernel
theorem d_Parser_takeLength_14 : decode c_Parser_takeLength 14 = .ok (.iadd, 1) := by decide +kernel
theorem d_Parser_takeLength_15 : decode c_Parser_takeLength 15 = .ok (.putfield 33, 3) := by decide +kernel
theorem d_Parser_takeLength_18 : decode c_Parser_takeLength 18 = .ok (.aload_n 0, 1) := by decide +kernel
theorem d_Parser_takeLength_19 : decode c_Parser_takeLength 19 = .ok (.iconst 0, 1) := by decide +kernel
theorem d_Parser_takeLength_20 : decode c_Parser_takeLength 20 = .ok (.ldc 122, 2) := by decide +kernel
theorem d_Parser_takeLength_22 : decode c_Parser_takeLength 22 = .ok (.invokevirtual 123, 3) := by decide +kernel
theorem d_Parser_takeLength_25 : decode c_Parser_takeLength 25 = .ok (.istore_n 1, 1) := by decide +kernel
theorem d_Parser_takeLength_26 : decode c_Parser_takeLength 26 = .ok (.iload_n 1, 1) := by decide +kernel
theorem d_Parser_takeLength_27 : decode c_Parser_takeLength 27 = .ok (.iconst 2, 1) := by decide +kernel
theorem d_Parser_takeLength_28 : decode c_Parser_takeLength 28 = .ok (.if_icmp .ge 13, 3) := by decide +kernel
theorem d_Parser_takeLength_31 : decode c_Parser_takeLength 31 = .ok (.aload_n 0, 1) := by decide +kernel
theorem d_Parser_takeLength_32 : decode c_Parser_takeLength 32 = .ok (.iconst 5, 1) := by decide +kernel
theorem d_Parser_takeLength_33 : decode c_Parser_takeLength 33 = .ok (.aload_n 0, 1) := by decide +kernel
theorem d_Parser_takeLength_34 : decode c_Parser_takeLength 34 = .ok (.getfield 30, 3) := by decide +kernel
theorem d_Parser_takeLength_37 : decode c_Parser_takeLength 37 = .ok (.invokevirtual 77, 3) := by decide +kernel
theorem d_Parser_takeLength_40 : decode c_Parser_takeLength 40 = .ok (.pop, 1) := by decide +kernel
theorem d_Parser_takeLength_41 : decode c_Parser_takeLength 41 = .ok (.aload_n 0, 1) := by decide +kernel
theorem d_Parser_takeLength_42 : decode c_Parser_takeLength 42 = .ok (.aload_n 0, 1) := by decide +kernel
theorem d_Parser_takeLength_43 : decode c_Parser_takeLength 43 = .ok (.getfield 30, 3) := by decide +kernel
theorem d_Parser_takeLength_46 : decode c_Parser_takeLength 46 = .ok (.iload_n 1, 1) := by decide +kernel
theorem d_Parser_takeLength_47 : decode c_Parser_takeLength 47 = .ok (.iadd, 1) := by decide +kernel
theorem d_Parser_takeLength_48 : decode c_Parser_takeLength 48 = .ok (.putfield 33, 3) := by decide +kernel
theorem d_Parser_takeLength_51 : decode c_Parser_takeLength 51 = .ok (.return_, 1) := by decide +kernel
theorem d_Parser_takePair_0 : decode c_Parser_takePair 0 = .ok (.aload_n 0, 1) := by decide +kernel
theorem d_Parser_takePair_1 : decode c_Parser_takePair 1 = .ok (.iconst 0, 1) := by decide +kernel
theorem d_Parser_takePair_2 : decode c_Parser_takePair 2 = .ok (.sipush 255, 3) := by decide +kernel
theorem d_Parser_takePair_5 : decode c_Parser_takePair 5 = .ok (.invokevirtual 147, 3) := by decide +kernel
theorem d_Parser_takePair_8 : decode c_Parser_takePair 8 = .ok (.istore_n 3, 1) := by decide +kernel
theorem d_Parser_takePair_9 : decode c_Parser_takePair 9 = .ok (.aload_n 0, 1) := by decide +kernel
theorem d_Parser_takePair_10 : decode c_Parser_takePair 10 = .ok (.iconst 0, 1) := by decide +kernel
theorem d_Parser_takePair_11 : decode c_Parser_takePair 11 = .ok (.sipush 255, 3) := by decide +kernel
theorem d_Parser_takePair_14 : decode c_Parser_takePair 14 = .ok (.invokevirtual 147, 3) := by decide +kernel
theorem d_Parser_takePair_17 : decode c_Parser_takePair 17 = .ok (.istore 4, 2) := by decide +kernel
theorem d_Parser_takePair_19 : decode c_Parser_takePair 19 = .ok (.sipush 256, 3) := by decide +kernel
theorem d_Parser_takePair_22 : decode c_Parser_takePair 22 = .ok (.iload_n 3, 1) := by decide +kernel
theorem d_Parser_takePair_23 : decode c_Parser_takePair 23 = .ok (.imul, 1) := by decide +kernel
theorem d_Parser_takePair_24 : decode c_Parser_takePair 24 = .ok (.iload 4, 2) := by decide +kernel
theorem d_Parser_takePair_26 : decode c_Parser_takePair 26 = .ok (.iadd, 1) := by decide +kernel
theorem d_Parser_takePair_27 : decode c_Parser_takePair 27 = .ok (.istore 5, 2) := by decide +kernel
theorem d_Parser_takePair_29 : decode c_Parser_takePair 29 = .ok (.iload 5, 2) := by decide +kernel
theorem d_Parser_takePair_31 : decode c_Parser_takePair 31 = .ok (.iload_n 1, 1) := by decide +kernel
theorem d_Parser_takePair_32 : decode c_Parser_takePair 32 = .ok (.if_icmp .lt 9, 3) := by decide +kernel
theorem d_Parser_takePair_35 : decode c_Parser_takePair 35 = .ok (.iload 5, 2) := by decide +kernel
theorem d_Parser_takePair_37 : decode c_Parser_takePair 37 = .ok (.iload_n 2, 1) := by decide +kernel
theorem d_Parser_takePair_38 : decode c_Parser_takePair 38 = .ok (.if_icmp .le 7, 3) := by decide +kernel
theorem d_Parser_takePair_41 : decode c_Parser_takePair 41 = .ok (.aload_n 0, 1) := by decide +kernel
theorem d_Parser_takePair_42 : decode c_Parser_takePair 42 = .ok (.invokevirtual 150, 3) := by decide +kernel
theorem d_Parser_takePair_45 : decode c_Parser_takePair 45 = .ok (.aload_n 0, 1) := by decide +kernel
theorem d_Parser_takePair_46 : decode c_Parser_takePair 46 = .ok (.getfield 40, 3) := by decide +kernel
theorem d_Parser_takePair_49 : decode c_Parser_takePair 49 = .ok (.ifCond .ne 8, 3) := by decide +kernel
theorem d_Parser_takePair_52 : decode c_Parser_takePair 52 = .ok (.iload 5, 2) := by decide +kernel
theorem d_Parser_takePair_54 : decode c_Parser_takePair 54 = .ok (.goto 4, 3) := by decide +kernel
theorem d_Parser_takePair_57 : decode c_Parser_takePair 57 = .ok (.iconst (-1), 1) := by decide +kernel
theorem d_Parser_takePair_58 : decode c_Parser_takePair 58 = .ok (.ireturn, 1) := by decide +kernel
theorem d_Parser_take_0 : decode c_Parser_take 0 = .ok (.aload_n 0, 1) := by decide +kernel
theorem d_Parser_take_1 : decode c_Parser_take 1 = .ok (.getfield 40, 3) := by decide +kernel
theorem d_Parser_take_4 : decode c_Parser_take 4 = .ok (.ifCond .eq 5, 3) := by decide +kernel
theorem d_Parser_take_7 : decode c_Parser_take 7 = .ok (.iconst (-1), 1) := by decide +kernel
theorem d_Parser_take_8 : decode c_Parser_take 8 = .ok (.ireturn, 1) := by decide +kernel
theorem d_Parser_take_9 : decode c_Parser_take 9 = .ok (.aload_n 0, 1) := by decide +kernel
theorem d_Parser_take_10 : decode c_Parser_take 10 = .ok (.getfield 26, 3) := by decide +kernel
theorem d_Parser_take_13 : decode c_Parser_take 13 = .ok (.aload_n 0, 1) := by decide +kernel
theorem d_Parser_take_14 : decode c_Parser_take 14 = .ok (.getfield 33, 3) := by decide +kernel
theorem d_Parser_take_17 : decode c_Parser_take 17 = .ok (.if_icmp .lt 13, 3) := by decide +kernel
theorem d_Parser_take_20 : decode c_Parser_take 20 = .ok (.aload_n 0, 1) := by decide +kernel
theorem d_Parser_take_21 : decode c_Parser_take 21 = .ok (.iconst 5, 1) := by decide +kernel
theorem d_Parser_take_22 : decode c_Parser_take 22 = .ok (.aload_n 0, 1) := by decide +kernel
theorem d_Parser_take_23 : decode c_Parser_take 23 = .ok (.getfield 30, 3) := by decide +kernel
theorem d_Parser_take_26 : decode c_Parser_take 26 = .ok (.invokevirtual 77, 3) := by decide +kernel
theorem d_Parser_take_29 : decode c_Parser_take 29 = .ok (.ireturn, 1) := by decide +kernel
theorem d_Parser_take_30 : decode c_Parser_take 30 = .ok (.aload_n 0, 1) := by decide +kernel
theorem d_Parser_take_31 : decode c_Parser_take 31 = .ok (.getfield 46, 3) := by decide +kernel
theorem d_Parser_take_34 : decode c_Parser_take 34 = .ok (.aload_n 0, 1) := by decide +kernel
theorem d_Parser_take_35 : decode c_Parser_take 35 = .ok (.getfield 26, 3) := by decide +kernel
theorem d_Parser_take_38 : decode c_Parser_take 38 = .ok (.invokevirtual 73, 3) := by decide +kernel
theorem d_Parser_take_41 : decode c_Parser_take 41 = .ok (.istore_n 3, 1) := by decide +kernel
theorem d_Parser_take_42 : decode c_Parser_take 42 = .ok (.iload_n 3, 1) := by decide +kernel
theorem d_Parser_take_43 : decode c_Parser_take 43 = .ok (.iconst (-1), 1) := by decide +kernel
theorem d_Parser_take_44 : decode c_Parser_take 44 = .ok (.if_icmp .ne 16, 3) := by decide +kernel
theorem d_Parser_take_47 : decode c_Parser_take 47 = .ok (.aload_n 0, 1) := by decide +kernel
theorem d_Parser_take_48 : decode c_Parser_take 48 = .ok (.iconst 1, 1) := by decide +kernel
theorem d_Parser_take_49 : decode c_Parser_take 49 = .ok (.aload_n 0, 1) := by decide +kernel
theorem d_Parser_take_50 : decode c_Parser_take 50 = .ok (.getfield 46, 3) := by decide +kernel
theorem d_Parser_take_53 : decode c_Parser_take 53 = .ok (.getfield 68, 3) := by decide +kernel
