theorem dX3_thrown_0 : decode cX3_thrown 0 = .ok (.aload_n 0, 1) := by decide +kernel
theorem dX3_thrown_1 : decode cX3_thrown 1 = .ok (.getfield 1, 3) := by decide +kernel
theorem dX3_thrown_4 : decode cX3_thrown 4 = .ok (.ireturn, 1) := by decide +kernel
theorem dX3_throwing_0 : decode cX3_throwing 0 = .ok (.aload_n 0, 1) := by decide +kernel
theorem dX3_throwing_1 : decode cX3_throwing 1 = .ok (.iload_n 1, 1) := by decide +kernel
theorem dX3_throwing_2 : decode cX3_throwing 2 = .ok (.putfield 1, 3) := by decide +kernel
theorem dX3_throwing_5 : decode cX3_throwing 5 = .ok (.iconst 0, 1) := by decide +kernel
theorem dX3_throwing_6 : decode cX3_throwing 6 = .ok (.ireturn, 1) := by decide +kernel
theorem dX3_init_0 : decode cX3_init 0 = .ok (.aload_n 0, 1) := by decide +kernel
theorem dX3_init_1 : decode cX3_init 1 = .ok (.invokespecial 7, 3) := by decide +kernel
theorem dX3_init_4 : decode cX3_init 4 = .ok (.aload_n 0, 1) := by decide +kernel
theorem dX3_init_5 : decode cX3_init 5 = .ok (.bipush 64, 2) := by decide +kernel
theorem dX3_init_7 : decode cX3_init 7 = .ok (.newarray .int, 2) := by decide +kernel
theorem dX3_init_9 : decode cX3_init 9 = .ok (.putfield 13, 3) := by decide +kernel
theorem dX3_init_12 : decode cX3_init 12 = .ok (.aload_n 0, 1) := by decide +kernel
theorem dX3_init_13 : decode cX3_init 13 = .ok (.bipush 64, 2) := by decide +kernel
theorem dX3_init_15 : decode cX3_init 15 = .ok (.newarray .int, 2) := by decide +kernel
theorem dX3_init_17 : decode cX3_init 17 = .ok (.putfield 17, 3) := by decide +kernel
theorem dX3_init_20 : decode cX3_init 20 = .ok (.aload_n 0, 1) := by decide +kernel
theorem dX3_init_21 : decode cX3_init 21 = .ok (.bipush 64, 2) := by decide +kernel
theorem dX3_init_23 : decode cX3_init 23 = .ok (.newarray .boolean, 2) := by decide +kernel
theorem dX3_init_25 : decode cX3_init 25 = .ok (.putfield 20, 3) := by decide +kernel
theorem dX3_init_28 : decode cX3_init 28 = .ok (.aload_n 0, 1) := by decide +kernel
theorem dX3_init_29 : decode cX3_init 29 = .ok (.sipush 4200, 3) := by decide +kernel
theorem dX3_init_32 : decode cX3_init 32 = .ok (.newarray .int, 2) := by decide +kernel
theorem dX3_init_34 : decode cX3_init 34 = .ok (.putfield 24, 3) := by decide +kernel
theorem dX3_init_37 : decode cX3_init 37 = .ok (.aload_n 0, 1) := by decide +kernel
theorem dX3_init_38 : decode cX3_init 38 = .ok (.sipush 4200, 3) := by decide +kernel
theorem dX3_init_41 : decode cX3_init 41 = .ok (.newarray .int, 2) := by decide +kernel
theorem dX3_init_43 : decode cX3_init 43 = .ok (.putfield 27, 3) := by decide +kernel
theorem dX3_init_46 : decode cX3_init 46 = .ok (.aload_n 0, 1) := by decide +kernel
theorem dX3_init_47 : decode cX3_init 47 = .ok (.sipush 4200, 3) := by decide +kernel
theorem dX3_init_50 : decode cX3_init 50 = .ok (.newarray .int, 2) := by decide +kernel
theorem dX3_init_52 : decode cX3_init 52 = .ok (.putfield 30, 3) := by decide +kernel
theorem dX3_init_55 : decode cX3_init 55 = .ok (.aload_n 0, 1) := by decide +kernel
theorem dX3_init_56 : decode cX3_init 56 = .ok (.sipush 4200, 3) := by decide +kernel
theorem dX3_init_59 : decode cX3_init 59 = .ok (.newarray .int, 2) := by decide +kernel
theorem dX3_init_61 : decode cX3_init 61 = .ok (.putfield 33, 3) := by decide +kernel
theorem dX3_init_64 : decode cX3_init 64 = .ok (.aload_n 0, 1) := by decide +kernel
theorem dX3_init_65 : decode cX3_init 65 = .ok (.sipush 9000, 3) := by decide +kernel
theorem dX3_init_68 : decode cX3_init 68 = .ok (.newarray .int, 2) := by decide +kernel
theorem dX3_init_70 : decode cX3_init 70 = .ok (.putfield 36, 3) := by decide +kernel
theorem dX3_init_73 : decode cX3_init 73 = .ok (.aload_n 0, 1) := by decide +kernel
theorem dX3_init_74 : decode cX3_init 74 = .ok (.bipush 32, 2) := by decide +kernel
theorem dX3_init_76 : decode cX3_init 76 = .ok (.newarray .int, 2) := by decide +kernel
theorem dX3_init_78 : decode cX3_init 78 = .ok (.putfield 39, 3) := by decide +kernel
theorem dX3_init_81 : decode cX3_init 81 = .ok (.aload_n 0, 1) := by decide +kernel
theorem dX3_init_82 : decode cX3_init 82 = .ok (.bipush 32, 2) := by decide +kernel
theorem dX3_init_84 : decode cX3_init 84 = .ok (.newarray .int, 2) := by decide +kernel
theorem dX3_init_86 : decode cX3_init 86 = .ok (.putfield 42, 3) := by decide +kernel
theorem dX3_init_89 : decode cX3_init 89 = .ok (.aload_n 0, 1) := by decide +kernel
theorem dX3_init_90 : decode cX3_init 90 = .ok (.bipush 13, 2) := by decide +kernel
theorem dX3_init_92 : decode cX3_init 92 = .ok (.newarray .int, 2) := by decide +kernel
theorem dX3_init_94 : decode cX3_init 94 = .ok (.putfield 45, 3) := by decide +kernel
theorem dX3_init_97 : decode cX3_init 97 = .ok (.aload_n 0, 1) := by decide +kernel
theorem dX3_init_98 : decode cX3_init 98 = .ok (.sipush 4200, 3) := by decide +kernel
theorem dX3_init_101 : decode cX3_init 101 = .ok (.newarray .int, 2) := by decide +kernel
theorem dX3_init_103 : decode cX3_init 103 = .ok (.putfield 48, 3) := by decide +kernel
theorem dX3_init_106 : decode cX3_init 106 = .ok (.aload_n 0, 1) := by decide +kernel
theorem dX3_init_107 : decode cX3_init 107 = .ok (.sipush 4200, 3) := by decide +kernel
theorem dX3_init_110 : decode cX3_init 110 = .ok (.newarray .int, 2) := by decide +kernel
theorem dX3_init_112 : decode cX3_init 112 = .ok (.putfield 51, 3) := by decide +kernel
theorem dX3_init_115 : decode cX3_init 115 = .ok (.aload_n 0, 1) := by decide +kernel
theorem dX3_init_116 : decode cX3_init 116 = .ok (.bipush 64, 2) := by decide +kernel
theorem dX3_init_118 : decode cX3_init 118 = .ok (.newarray .boolean, 2) := by decide +kernel
theorem dX3_init_120 : decode cX3_init 120 = .ok (.putfield 54, 3) := by decide +kernel
theorem dX3_init_123 : decode cX3_init 123 = .ok (.aload_n 0, 1) := by decide +kernel
theorem dX3_init_124 : decode cX3_init 124 = .ok (.bipush 64, 2) := by decide +kernel
theorem dX3_init_126 : decode cX3_init 126 = .ok (.newarray .int, 2) := by decide +kernel
theorem dX3_init_128 : decode cX3_init 128 = .ok (.putfield 57, 3) := by decide +kernel
theorem dX3_init_131 : decode cX3_init 131 = .ok (.aload_n 0, 1) := by decide +kernel
theorem dX3_init_132 : decode cX3_init 132 = .ok (.sipush 4200, 3) := by decide +kernel
theorem dX3_init_135 : decode cX3_init 135 = .ok (.newarray .int, 2) := by decide +kernel
theorem dX3_init_137 : decode cX3_init 137 = .ok (.putfield 60, 3) := by decide +kernel
theorem dX3_init_140 : decode cX3_init 140 = .ok (.aload_n 0, 1) := by decide +kernel
theorem dX3_init_141 : decode cX3_init 141 = .ok (.bipush 16, 2) := by decide +kernel
theorem dX3_init_143 : decode cX3_init 143 = .ok (.bipush 32, 2) := by decide +kernel
theorem dX3_init_145 : decode cX3_init 145 = .ok (.invokevirtual 63, 3) := by decide +kernel
theorem dX3_init_148 : decode cX3_init 148 = .ok (.return_, 1) := by decide +kernel
theorem dX3_anew_0 : decode cX3_anew 0 = .ok (.aload_n 0, 1) := by decide +kernel
theorem dX3_anew_1 : decode cX3_anew 1 = .ok (.iload_n 1, 1) := by decide +kernel
theorem dX3_anew_2 : decode cX3_anew 2 = .ok (.putfield 67, 3) := by decide +kernel
theorem dX3_anew_5 : decode cX3_anew 5 = .ok (.aload_n 0, 1) := by decide +kernel
theorem dX3_anew_6 : decode cX3_anew 6 = .ok (.iload_n 2, 1) := by decide +kernel
theorem dX3_anew_7 : decode cX3_anew 7 = .ok (.putfield 70, 3) := by decide +kernel
theorem dX3_anew_10 : decode cX3_anew 10 = .ok (.aload_n 0, 1) := by decide +kernel
theorem dX3_anew_11 : decode cX3_anew 11 = .ok (.iconst (-1), 1) := by decide +kernel
theorem dX3_anew_12 : decode cX3_anew 12 = .ok (.putfield 73, 3) := by decide +kernel
theorem dX3_anew_15 : decode cX3_anew 15 = .ok (.aload_n 0, 1) := by decide +kernel
theorem dX3_anew_16 : decode cX3_anew 16 = .ok (.iconst 0, 1) := by decide +kernel
theorem dX3_anew_17 : decode cX3_anew 17 = .ok (.putfield 76, 3) := by decide +kernel
theorem dX3_anew_20 : decode cX3_anew 20 = .ok (.aload_n 0, 1) := by decide +kernel
theorem dX3_anew_21 : decode cX3_anew 21 = .ok (.iconst 0, 1) := by decide +kernel
theorem dX3_anew_22 : decode cX3_anew 22 = .ok (.putfield 79, 3) := by decide +kernel
theorem dX3_anew_25 : decode cX3_anew 25 = .ok (.iconst 0, 1) := by decide +kernel
theorem dX3_anew_26 : decode cX3_anew 26 = .ok (.istore_n 3, 1) := by decide +kernel
theorem dX3_anew_27 : decode cX3_anew 27 = .ok (.iload_n 3, 1) := by decide +kernel
theorem dX3_anew_28 : decode cX3_anew 28 = .ok (.bipush 64, 2) := by decide +kernel
theorem dX3_anew_30 : decode cX3_anew 30 = .ok (.if_icmp .ge 30, 3) := by decide +kernel
theorem dX3_anew_33 : decode cX3_anew 33 = .ok (.aload_n 0, 1) := by decide +kernel
theorem dX3_anew_34 : decode cX3_anew 34 = .ok (.getfield 13, 3) := by decide +kernel
theorem dX3_anew_37 : decode cX3_anew 37 = .ok (.iload_n 3, 1) := by decide +kernel
theorem dX3_anew_38 : decode cX3_anew 38 = .ok (.iconst 0, 1) := by decide +kernel
theorem dX3_anew_39 : decode cX3_anew 39 = .ok (.iastore, 1) := by decide +kernel
theorem dX3_anew_40 : decode cX3_anew 40 = .ok (.aload_n 0, 1) := by decide +kernel
theorem dX3_anew_41 : decode cX3_anew 41 = .ok (.getfield 17, 3) := by decide +kernel
theorem dX3_anew_44 : decode cX3_anew 44 = .ok (.iload_n 3, 1) := by decide +kernel
theorem dX3_anew_45 : decode cX3_anew 45 = .ok (.iconst 0, 1) := by decide +kernel
theorem dX3_anew_46 : decode cX3_anew 46 = .ok (.iastore, 1) := by decide +kernel
theorem dX3_anew_47 : decode cX3_anew 47 = .ok (.aload_n 0, 1) := by decide +kernel
theorem dX3_anew_48 : decode cX3_anew 48 = .ok (.getfield 20, 3) := by decide +kernel
theorem dX3_anew_51 : decode cX3_anew 51 = .ok (.iload_n 3, 1) := by decide +kernel
theorem dX3_anew_52 : decode cX3_anew 52 = .ok (.iconst 0, 1) := by decide +kernel
theorem dX3_anew_53 : decode cX3_anew 53 = .ok (.bastore, 1) := by decide +kernel
theorem dX3_anew_54 : decode cX3_anew 54 = .ok (.iinc 3 1, 3) := by decide +kernel
theorem dX3_anew_57 : decode cX3_anew 57 = .ok (.goto (-30), 3) := by decide +kernel
theorem dX3_anew_60 : decode cX3_anew 60 = .ok (.iconst 0, 1) := by decide +kernel
theorem dX3_anew_61 : decode cX3_anew 61 = .ok (.istore_n 3, 1) := by decide +kernel
theorem dX3_anew_62 : decode cX3_anew 62 = .ok (.iload_n 3, 1) := by decide +kernel
theorem dX3_anew_63 : decode cX3_anew 63 = .ok (.bipush 32, 2) := by decide +kernel
theorem dX3_anew_65 : decode cX3_anew 65 = .ok (.if_icmp .ge 23, 3) := by decide +kernel
theorem dX3_anew_68 : decode cX3_anew 68 = .ok (.aload_n 0, 1) := by decide +kernel
theorem dX3_anew_69 : decode cX3_anew 69 = .ok (.getfield 39, 3) := by decide +kernel
theorem dX3_anew_72 : decode cX3_anew 72 = .ok (.iload_n 3, 1) := by decide +kernel
theorem dX3_anew_73 : decode cX3_anew 73 = .ok (.iconst (-1), 1) := by decide +kernel
theorem dX3_anew_74 : decode cX3_anew 74 = .ok (.iastore, 1) := by decide +kernel
theorem dX3_anew_75 : decode cX3_anew 75 = .ok (.aload_n 0, 1) := by decide +kernel
theorem dX3_anew_76 : decode cX3_anew 76 = .ok (.getfield 42, 3) := by decide +kernel
theorem dX3_anew_79 : decode cX3_anew 79 = .ok (.iload_n 3, 1) := by decide +kernel
theorem dX3_anew_80 : decode cX3_anew 80 = .ok (.iconst (-1), 1) := by decide +kernel
theorem dX3_anew_81 : decode cX3_anew 81 = .ok (.iastore, 1) := by decide +kernel
theorem dX3_anew_82 : decode cX3_anew 82 = .ok (.iinc 3 1, 3) := by decide +kernel
theorem dX3_anew_85 : decode cX3_anew 85 = .ok (.goto (-23), 3) := by decide +kernel
theorem dX3_anew_88 : decode cX3_anew 88 = .ok (.iconst 0, 1) := by decide +kernel
theorem dX3_anew_89 : decode cX3_anew 89 = .ok (.istore_n 3, 1) := by decide +kernel
theorem dX3_anew_90 : decode cX3_anew 90 = .ok (.iload_n 3, 1) := by decide +kernel
theorem dX3_anew_91 : decode cX3_anew 91 = .ok (.bipush 13, 2) := by decide +kernel
theorem dX3_anew_93 : decode cX3_anew 93 = .ok (.if_icmp .ge 16, 3) := by decide +kernel
theorem dX3_anew_96 : decode cX3_anew 96 = .ok (.aload_n 0, 1) := by decide +kernel
theorem dX3_anew_97 : decode cX3_anew 97 = .ok (.getfield 45, 3) := by decide +kernel
theorem dX3_anew_100 : decode cX3_anew 100 = .ok (.iload_n 3, 1) := by decide +kernel
theorem dX3_anew_101 : decode cX3_anew 101 = .ok (.iconst 0, 1) := by decide +kernel
theorem dX3_anew_102 : decode cX3_anew 102 = .ok (.iastore, 1) := by decide +kernel
theorem dX3_anew_103 : decode cX3_anew 103 = .ok (.iinc 3 1, 3) := by decide +kernel
theorem dX3_anew_106 : decode cX3_anew 106 = .ok (.goto (-16), 3) := by decide +kernel
theorem dX3_anew_109 : decode cX3_anew 109 = .ok (.return_, 1) := by decide +kernel
theorem dX3_format_0 : decode cX3_format 0 = .ok (.aload_n 0, 1) := by decide +kernel
theorem dX3_format_1 : decode cX3_format 1 = .ok (.iconst 0, 1) := by decide +kernel
theorem dX3_format_2 : decode cX3_format 2 = .ok (.putfield 1, 3) := by decide +kernel
theorem dX3_format_5 : decode cX3_format 5 = .ok (.iload_n 1, 1) := by decide +kernel
theorem dX3_format_6 : decode cX3_format 6 = .ok (.iconst 4, 1) := by decide +kernel
theorem dX3_format_7 : decode cX3_format 7 = .ok (.if_icmp .lt 21, 3) := by decide +kernel
theorem dX3_format_10 : decode cX3_format 10 = .ok (.iload_n 1, 1) := by decide +kernel
theorem dX3_format_11 : decode cX3_format 11 = .ok (.bipush 64, 2) := by decide +kernel
theorem dX3_format_13 : decode cX3_format 13 = .ok (.if_icmp .gt 15, 3) := by decide +kernel
theorem dX3_format_16 : decode cX3_format 16 = .ok (.iload_n 2, 1) := by decide +kernel
theorem dX3_format_17 : decode cX3_format 17 = .ok (.bipush 8, 2) := by decide +kernel
theorem dX3_format_19 : decode cX3_format 19 = .ok (.if_icmp .lt 9, 3) := by decide +kernel
theorem dX3_format_22 : decode cX3_format 22 = .ok (.iload_n 2, 1) := by decide +kernel
theorem dX3_format_23 : decode cX3_format 23 = .ok (.bipush 64, 2) := by decide +kernel
theorem dX3_format_25 : decode cX3_format 25 = .ok (.if_icmp .le 9, 3) := by decide +kernel
theorem dX3_format_28 : decode cX3_format 28 = .ok (.aload_n 0, 1) := by decide +kernel
theorem dX3_format_29 : decode cX3_format 29 = .ok (.iconst 1, 1) := by decide +kernel
theorem dX3_format_30 : decode cX3_format 30 = .ok (.putfield 1, 3) := by decide +kernel
theorem dX3_format_33 : decode cX3_format 33 = .ok (.return_, 1) := by decide +kernel
theorem dX3_format_34 : decode cX3_format 34 = .ok (.aload_n 0, 1) := by decide +kernel
theorem dX3_format_35 : decode cX3_format 35 = .ok (.iload_n 1, 1) := by decide +kernel
theorem dX3_format_36 : decode cX3_format 36 = .ok (.iload_n 2, 1) := by decide +kernel
theorem dX3_format_37 : decode cX3_format 37 = .ok (.invokevirtual 63, 3) := by decide +kernel
theorem dX3_format_40 : decode cX3_format 40 = .ok (.return_, 1) := by decide +kernel
theorem dX3_sizeOf_0 : decode cX3_sizeOf 0 = .ok (.iconst 1, 1) := by decide +kernel
theorem dX3_sizeOf_1 : decode cX3_sizeOf 1 = .ok (.aload_n 0, 1) := by decide +kernel
theorem dX3_sizeOf_2 : decode cX3_sizeOf 2 = .ok (.getfield 27, 3) := by decide +kernel
theorem dX3_sizeOf_5 : decode cX3_sizeOf 5 = .ok (.iload_n 1, 1) := by decide +kernel
theorem dX3_sizeOf_6 : decode cX3_sizeOf 6 = .ok (.iaload, 1) := by decide +kernel
theorem dX3_sizeOf_7 : decode cX3_sizeOf 7 = .ok (.iadd, 1) := by decide +kernel
theorem dX3_sizeOf_8 : decode cX3_sizeOf 8 = .ok (.aload_n 0, 1) := by decide +kernel
theorem dX3_sizeOf_9 : decode cX3_sizeOf 9 = .ok (.getfield 30, 3) := by decide +kernel
theorem dX3_sizeOf_12 : decode cX3_sizeOf 12 = .ok (.iload_n 1, 1) := by decide +kernel
theorem dX3_sizeOf_13 : decode cX3_sizeOf 13 = .ok (.iaload, 1) := by decide +kernel
theorem dX3_sizeOf_14 : decode cX3_sizeOf 14 = .ok (.iadd, 1) := by decide +kernel
theorem dX3_sizeOf_15 : decode cX3_sizeOf 15 = .ok (.ireturn, 1) := by decide +kernel
theorem dX3_isLong_0 : decode cX3_isLong 0 = .ok (.aload_n 0, 1) := by decide +kernel
theorem dX3_isLong_1 : decode cX3_isLong 1 = .ok (.iload_n 1, 1) := by decide +kernel
theorem dX3_isLong_2 : decode cX3_isLong 2 = .ok (.invokevirtual 82, 3) := by decide +kernel
theorem dX3_isLong_5 : decode cX3_isLong 5 = .ok (.aload_n 0, 1) := by decide +kernel
theorem dX3_isLong_6 : decode cX3_isLong 6 = .ok (.getfield 70, 3) := by decide +kernel
theorem dX3_isLong_9 : decode cX3_isLong 9 = .ok (.if_icmp .le 7, 3) := by decide +kernel
theorem dX3_isLong_12 : decode cX3_isLong 12 = .ok (.iconst 1, 1) := by decide +kernel
theorem dX3_isLong_13 : decode cX3_isLong 13 = .ok (.goto 4, 3) := by decide +kernel
theorem dX3_isLong_16 : decode cX3_isLong 16 = .ok (.iconst 0, 1) := by decide +kernel
theorem dX3_isLong_17 : decode cX3_isLong 17 = .ok (.ireturn, 1) := by decide +kernel
theorem dX3_used_0 : decode cX3_used 0 = .ok (.iconst 0, 1) := by decide +kernel
theorem dX3_used_1 : decode cX3_used 1 = .ok (.istore_n 1, 1) := by decide +kernel
theorem dX3_used_2 : decode cX3_used 2 = .ok (.iconst 0, 1) := by decide +kernel
theorem dX3_used_3 : decode cX3_used 3 = .ok (.istore_n 2, 1) := by decide +kernel
theorem dX3_used_4 : decode cX3_used 4 = .ok (.iload_n 2, 1) := by decide +kernel
theorem dX3_used_5 : decode cX3_used 5 = .ok (.aload_n 0, 1) := by decide +kernel
theorem dX3_used_6 : decode cX3_used 6 = .ok (.getfield 67, 3) := by decide +kernel
theorem dX3_used_9 : decode cX3_used 9 = .ok (.if_icmp .ge 26, 3) := by decide +kernel
theorem dX3_used_12 : decode cX3_used 12 = .ok (.iload_n 1, 1) := by decide +kernel
theorem dX3_used_13 : decode cX3_used 13 = .ok (.aload_n 0, 1) := by decide +kernel
theorem dX3_used_14 : decode cX3_used 14 = .ok (.getfield 13, 3) := by decide +kernel
theorem dX3_used_17 : decode cX3_used 17 = .ok (.iload_n 2, 1) := by decide +kernel
theorem dX3_used_18 : decode cX3_used 18 = .ok (.iaload, 1) := by decide +kernel
theorem dX3_used_19 : decode cX3_used 19 = .ok (.ifCond .ne 7, 3) := by decide +kernel
theorem dX3_used_22 : decode cX3_used 22 = .ok (.iconst 0, 1) := by decide +kernel
theorem dX3_used_23 : decode cX3_used 23 = .ok (.goto 4, 3) := by decide +kernel
theorem dX3_used_26 : decode cX3_used 26 = .ok (.iconst 1, 1) := by decide +kernel
theorem dX3_used_27 : decode cX3_used 27 = .ok (.iadd, 1) := by decide +kernel
theorem dX3_used_28 : decode cX3_used 28 = .ok (.istore_n 1, 1) := by decide +kernel
theorem dX3_used_29 : decode cX3_used 29 = .ok (.iinc 2 1, 3) := by decide +kernel
theorem dX3_used_32 : decode cX3_used 32 = .ok (.goto (-28), 3) := by decide +kernel
theorem dX3_used_35 : decode cX3_used 35 = .ok (.iload_n 1, 1) := by decide +kernel
theorem dX3_used_36 : decode cX3_used 36 = .ok (.ireturn, 1) := by decide +kernel
theorem dX3_laid_0 : decode cX3_laid 0 = .ok (.aload_n 0, 1) := by decide +kernel
theorem dX3_laid_1 : decode cX3_laid 1 = .ok (.getfield 67, 3) := by decide +kernel
theorem dX3_laid_4 : decode cX3_laid 4 = .ok (.iconst 2, 1) := by decide +kernel
theorem dX3_laid_5 : decode cX3_laid 5 = .ok (.idiv, 1) := by decide +kernel
theorem dX3_laid_6 : decode cX3_laid 6 = .ok (.aload_n 0, 1) := by decide +kernel
theorem dX3_laid_7 : decode cX3_laid 7 = .ok (.invokevirtual 86, 3) := by decide +kernel
theorem dX3_laid_10 : decode cX3_laid 10 = .ok (.isub, 1) := by decide +kernel
theorem dX3_laid_11 : decode cX3_laid 11 = .ok (.istore_n 2, 1) := by decide +kernel
theorem dX3_laid_12 : decode cX3_laid 12 = .ok (.iload_n 1, 1) := by decide +kernel
theorem dX3_laid_13 : decode cX3_laid 13 = .ok (.aload_n 0, 1) := by decide +kernel
theorem dX3_laid_14 : decode cX3_laid 14 = .ok (.getfield 70, 3) := by decide +kernel
theorem dX3_laid_17 : decode cX3_laid 17 = .ok (.if_icmp .le 148, 3) := by decide +kernel
theorem dX3_laid_20 : decode cX3_laid 20 = .ok (.iload_n 1, 1) := by decide +kernel
theorem dX3_laid_21 : decode cX3_laid 21 = .ok (.aload_n 0, 1) := by decide +kernel
theorem dX3_laid_22 : decode cX3_laid 22 = .ok (.getfield 70, 3) := by decide +kernel
theorem dX3_laid_25 : decode cX3_laid 25 = .ok (.iadd, 1) := by decide +kernel
theorem dX3_laid_26 : decode cX3_laid 26 = .ok (.iconst 1, 1) := by decide +kernel
theorem dX3_laid_27 : decode cX3_laid 27 = .ok (.isub, 1) := by decide +kernel
theorem dX3_laid_28 : decode cX3_laid 28 = .ok (.aload_n 0, 1) := by decide +kernel
theorem dX3_laid_29 : decode cX3_laid 29 = .ok (.getfield 70, 3) := by decide +kernel
theorem dX3_laid_32 : decode cX3_laid 32 = .ok (.idiv, 1) := by decide +kernel
theorem dX3_laid_33 : decode cX3_laid 33 = .ok (.istore_n 3, 1) := by decide +kernel
theorem dX3_laid_34 : decode cX3_laid 34 = .ok (.iconst 0, 1) := by decide +kernel
theorem dX3_laid_35 : decode cX3_laid 35 = .ok (.istore 4, 2) := by decide +kernel
theorem dX3_laid_37 : decode cX3_laid 37 = .ok (.iconst 0, 1) := by decide +kernel
theorem dX3_laid_38 : decode cX3_laid 38 = .ok (.istore 5, 2) := by decide +kernel
theorem dX3_laid_40 : decode cX3_laid 40 = .ok (.iload 5, 2) := by decide +kernel
theorem dX3_laid_42 : decode cX3_laid 42 = .ok (.aload_n 0, 1) := by decide +kernel
theorem dX3_laid_43 : decode cX3_laid 43 = .ok (.getfield 67, 3) := by decide +kernel
theorem dX3_laid_46 : decode cX3_laid 46 = .ok (.if_icmp .ge 117, 3) := by decide +kernel
theorem dX3_laid_49 : decode cX3_laid 49 = .ok (.iload_n 3, 1) := by decide +kernel
theorem dX3_laid_50 : decode cX3_laid 50 = .ok (.iload_n 2, 1) := by decide +kernel
theorem dX3_laid_51 : decode cX3_laid 51 = .ok (.if_icmp .gt 112, 3) := by decide +kernel
theorem dX3_laid_54 : decode cX3_laid 54 = .ok (.aload_n 0, 1) := by decide +kernel
theorem dX3_laid_55 : decode cX3_laid 55 = .ok (.getfield 13, 3) := by decide +kernel
theorem dX3_laid_58 : decode cX3_laid 58 = .ok (.iload 5, 2) := by decide +kernel
theorem dX3_laid_60 : decode cX3_laid 60 = .ok (.iaload, 1) := by decide +kernel
theorem dX3_laid_61 : decode cX3_laid 61 = .ok (.ifCond .ne 10, 3) := by decide +kernel
theorem dX3_laid_64 : decode cX3_laid 64 = .ok (.iload 4, 2) := by decide +kernel
theorem dX3_laid_66 : decode cX3_laid 66 = .ok (.iconst 1, 1) := by decide +kernel
theorem dX3_laid_67 : decode cX3_laid 67 = .ok (.iadd, 1) := by decide +kernel
theorem dX3_laid_68 : decode cX3_laid 68 = .ok (.goto 4, 3) := by decide +kernel
theorem dX3_laid_71 : decode cX3_laid 71 = .ok (.iconst 0, 1) := by decide +kernel
theorem dX3_laid_72 : decode cX3_laid 72 = .ok (.istore 4, 2) := by decide +kernel
theorem dX3_laid_74 : decode cX3_laid 74 = .ok (.iload 4, 2) := by decide +kernel
theorem dX3_laid_76 : decode cX3_laid 76 = .ok (.iload_n 3, 1) := by decide +kernel
theorem dX3_laid_77 : decode cX3_laid 77 = .ok (.if_icmp .ne 80, 3) := by decide +kernel
theorem dX3_laid_80 : decode cX3_laid 80 = .ok (.iload 5, 2) := by decide +kernel
theorem dX3_laid_82 : decode cX3_laid 82 = .ok (.iload_n 3, 1) := by decide +kernel
theorem dX3_laid_83 : decode cX3_laid 83 = .ok (.isub, 1) := by decide +kernel
theorem dX3_laid_84 : decode cX3_laid 84 = .ok (.iconst 1, 1) := by decide +kernel
theorem dX3_laid_85 : decode cX3_laid 85 = .ok (.iadd, 1) := by decide +kernel
theorem dX3_laid_86 : decode cX3_laid 86 = .ok (.istore 6, 2) := by decide +kernel
theorem dX3_laid_88 : decode cX3_laid 88 = .ok (.iconst 0, 1) := by decide +kernel
theorem dX3_laid_89 : decode cX3_laid 89 = .ok (.istore 7, 2) := by decide +kernel
theorem dX3_laid_91 : decode cX3_laid 91 = .ok (.iload 7, 2) := by decide +kernel
theorem dX3_laid_93 : decode cX3_laid 93 = .ok (.iload_n 3, 1) := by decide +kernel
theorem dX3_laid_94 : decode cX3_laid 94 = .ok (.if_icmp .ge 55, 3) := by decide +kernel
theorem dX3_laid_97 : decode cX3_laid 97 = .ok (.aload_n 0, 1) := by decide +kernel
theorem dX3_laid_98 : decode cX3_laid 98 = .ok (.getfield 13, 3) := by decide +kernel
theorem dX3_laid_101 : decode cX3_laid 101 = .ok (.iload 6, 2) := by decide +kernel
theorem dX3_laid_103 : decode cX3_laid 103 = .ok (.iload 7, 2) := by decide +kernel
theorem dX3_laid_105 : decode cX3_laid 105 = .ok (.iadd, 1) := by decide +kernel
theorem dX3_laid_106 : decode cX3_laid 106 = .ok (.iload 7, 2) := by decide +kernel
theorem dX3_laid_108 : decode cX3_laid 108 = .ok (.ifCond .ne 7, 3) := by decide +kernel
theorem dX3_laid_111 : decode cX3_laid 111 = .ok (.iconst 2, 1) := by decide +kernel
theorem dX3_laid_112 : decode cX3_laid 112 = .ok (.goto 4, 3) := by decide +kernel
theorem dX3_laid_115 : decode cX3_laid 115 = .ok (.iconst 3, 1) := by decide +kernel
theorem dX3_laid_116 : decode cX3_laid 116 = .ok (.iastore, 1) := by decide +kernel
theorem dX3_laid_117 : decode cX3_laid 117 = .ok (.aload_n 0, 1) := by decide +kernel
theorem dX3_laid_118 : decode cX3_laid 118 = .ok (.getfield 17, 3) := by decide +kernel
theorem dX3_laid_121 : decode cX3_laid 121 = .ok (.iload 6, 2) := by decide +kernel
theorem dX3_laid_123 : decode cX3_laid 123 = .ok (.iload 7, 2) := by decide +kernel
theorem dX3_laid_125 : decode cX3_laid 125 = .ok (.iadd, 1) := by decide +kernel
theorem dX3_laid_126 : decode cX3_laid 126 = .ok (.aload_n 0, 1) := by decide +kernel
theorem dX3_laid_127 : decode cX3_laid 127 = .ok (.getfield 70, 3) := by decide +kernel
theorem dX3_laid_130 : decode cX3_laid 130 = .ok (.iload_n 1, 1) := by decide +kernel
theorem dX3_laid_131 : decode cX3_laid 131 = .ok (.aload_n 0, 1) := by decide +kernel
theorem dX3_laid_132 : decode cX3_laid 132 = .ok (.getfield 70, 3) := by decide +kernel
theorem dX3_laid_135 : decode cX3_laid 135 = .ok (.iload 7, 2) := by decide +kernel
theorem dX3_laid_137 : decode cX3_laid 137 = .ok (.imul, 1) := by decide +kernel
theorem dX3_laid_138 : decode cX3_laid 138 = .ok (.isub, 1) := by decide +kernel
theorem dX3_laid_139 : decode cX3_laid 139 = .ok (.invokestatic 90, 3) := by decide +kernel
theorem dX3_laid_142 : decode cX3_laid 142 = .ok (.iastore, 1) := by decide +kernel
theorem dX3_laid_143 : decode cX3_laid 143 = .ok (.iinc 7 1, 3) := by decide +kernel
theorem dX3_laid_146 : decode cX3_laid 146 = .ok (.goto (-55), 3) := by decide +kernel
theorem dX3_laid_149 : decode cX3_laid 149 = .ok (.aload_n 0, 1) := by decide +kernel
theorem dX3_laid_150 : decode cX3_laid 150 = .ok (.getfield 70, 3) := by decide +kernel
theorem dX3_laid_153 : decode cX3_laid 153 = .ok (.iload 6, 2) := by decide +kernel
theorem dX3_laid_155 : decode cX3_laid 155 = .ok (.imul, 1) := by decide +kernel
theorem dX3_laid_156 : decode cX3_laid 156 = .ok (.ireturn, 1) := by decide +kernel
theorem dX3_laid_157 : decode cX3_laid 157 = .ok (.iinc 5 1, 3) := by decide +kernel
theorem dX3_laid_160 : decode cX3_laid 160 = .ok (.goto (-120), 3) := by decide +kernel
theorem dX3_laid_163 : decode cX3_laid 163 = .ok (.iconst (-1), 1) := by decide +kernel
theorem dX3_laid_164 : decode cX3_laid 164 = .ok (.ireturn, 1) := by decide +kernel
theorem dX3_laid_165 : decode cX3_laid 165 = .ok (.aload_n 0, 1) := by decide +kernel
theorem dX3_laid_166 : decode cX3_laid 166 = .ok (.getfield 73, 3) := by decide +kernel
theorem dX3_laid_169 : decode cX3_laid 169 = .ok (.iconst (-1), 1) := by decide +kernel
theorem dX3_laid_170 : decode cX3_laid 170 = .ok (.if_icmp .eq 21, 3) := by decide +kernel
theorem dX3_laid_173 : decode cX3_laid 173 = .ok (.aload_n 0, 1) := by decide +kernel
theorem dX3_laid_174 : decode cX3_laid 174 = .ok (.getfield 70, 3) := by decide +kernel
theorem dX3_laid_177 : decode cX3_laid 177 = .ok (.aload_n 0, 1) := by decide +kernel
theorem dX3_laid_178 : decode cX3_laid 178 = .ok (.getfield 17, 3) := by decide +kernel
theorem dX3_laid_181 : decode cX3_laid 181 = .ok (.aload_n 0, 1) := by decide +kernel
theorem dX3_laid_182 : decode cX3_laid 182 = .ok (.getfield 73, 3) := by decide +kernel
theorem dX3_laid_185 : decode cX3_laid 185 = .ok (.iaload, 1) := by decide +kernel
theorem dX3_laid_186 : decode cX3_laid 186 = .ok (.isub, 1) := by decide +kernel
theorem dX3_laid_187 : decode cX3_laid 187 = .ok (.iload_n 1, 1) := by decide +kernel
theorem dX3_laid_188 : decode cX3_laid 188 = .ok (.if_icmp .ge 62, 3) := by decide +kernel
theorem dX3_laid_191 : decode cX3_laid 191 = .ok (.iconst 0, 1) := by decide +kernel
theorem dX3_laid_192 : decode cX3_laid 192 = .ok (.istore_n 3, 1) := by decide +kernel
theorem dX3_laid_193 : decode cX3_laid 193 = .ok (.iload_n 3, 1) := by decide +kernel
theorem dX3_laid_194 : decode cX3_laid 194 = .ok (.aload_n 0, 1) := by decide +kernel
theorem dX3_laid_195 : decode cX3_laid 195 = .ok (.getfield 67, 3) := by decide +kernel
theorem dX3_laid_198 : decode cX3_laid 198 = .ok (.if_icmp .ge 18, 3) := by decide +kernel
theorem dX3_laid_201 : decode cX3_laid 201 = .ok (.aload_n 0, 1) := by decide +kernel
theorem dX3_laid_202 : decode cX3_laid 202 = .ok (.getfield 13, 3) := by decide +kernel
theorem dX3_laid_205 : decode cX3_laid 205 = .ok (.iload_n 3, 1) := by decide +kernel
theorem dX3_laid_206 : decode cX3_laid 206 = .ok (.iaload, 1) := by decide +kernel
theorem dX3_laid_207 : decode cX3_laid 207 = .ok (.ifCond .eq 9, 3) := by decide +kernel
theorem dX3_laid_210 : decode cX3_laid 210 = .ok (.iinc 3 1, 3) := by decide +kernel
theorem dX3_laid_213 : decode cX3_laid 213 = .ok (.goto (-20), 3) := by decide +kernel
theorem dX3_laid_216 : decode cX3_laid 216 = .ok (.iload_n 3, 1) := by decide +kernel
theorem dX3_laid_217 : decode cX3_laid 217 = .ok (.aload_n 0, 1) := by decide +kernel
theorem dX3_laid_218 : decode cX3_laid 218 = .ok (.getfield 67, 3) := by decide +kernel
theorem dX3_laid_221 : decode cX3_laid 221 = .ok (.if_icmp .eq 8, 3) := by decide +kernel
theorem dX3_laid_224 : decode cX3_laid 224 = .ok (.iload_n 2, 1) := by decide +kernel
theorem dX3_laid_225 : decode cX3_laid 225 = .ok (.iconst 1, 1) := by decide +kernel
theorem dX3_laid_226 : decode cX3_laid 226 = .ok (.if_icmp .ge 5, 3) := by decide +kernel
theorem dX3_laid_229 : decode cX3_laid 229 = .ok (.iconst (-1), 1) := by decide +kernel
theorem dX3_laid_230 : decode cX3_laid 230 = .ok (.ireturn, 1) := by decide +kernel
theorem dX3_laid_231 : decode cX3_laid 231 = .ok (.aload_n 0, 1) := by decide +kernel
theorem dX3_laid_232 : decode cX3_laid 232 = .ok (.getfield 13, 3) := by decide +kernel
theorem dX3_laid_235 : decode cX3_laid 235 = .ok (.iload_n 3, 1) := by decide +kernel
theorem dX3_laid_236 : decode cX3_laid 236 = .ok (.iconst 1, 1) := by decide +kernel
theorem dX3_laid_237 : decode cX3_laid 237 = .ok (.iastore, 1) := by decide +kernel
theorem dX3_laid_238 : decode cX3_laid 238 = .ok (.aload_n 0, 1) := by decide +kernel
theorem dX3_laid_239 : decode cX3_laid 239 = .ok (.getfield 17, 3) := by decide +kernel
theorem dX3_laid_242 : decode cX3_laid 242 = .ok (.iload_n 3, 1) := by decide +kernel
theorem dX3_laid_243 : decode cX3_laid 243 = .ok (.iconst 0, 1) := by decide +kernel
theorem dX3_laid_244 : decode cX3_laid 244 = .ok (.iastore, 1) := by decide +kernel
theorem dX3_laid_245 : decode cX3_laid 245 = .ok (.aload_n 0, 1) := by decide +kernel
theorem dX3_laid_246 : decode cX3_laid 246 = .ok (.iload_n 3, 1) := by decide +kernel
theorem dX3_laid_247 : decode cX3_laid 247 = .ok (.putfield 73, 3) := by decide +kernel
theorem dX3_laid_250 : decode cX3_laid 250 = .ok (.aload_n 0, 1) := by decide +kernel
theorem dX3_laid_251 : decode cX3_laid 251 = .ok (.getfield 70, 3) := by decide +kernel
theorem dX3_laid_254 : decode cX3_laid 254 = .ok (.aload_n 0, 1) := by decide +kernel
theorem dX3_laid_255 : decode cX3_laid 255 = .ok (.getfield 73, 3) := by decide +kernel
theorem dX3_laid_258 : decode cX3_laid 258 = .ok (.imul, 1) := by decide +kernel
theorem dX3_laid_259 : decode cX3_laid 259 = .ok (.aload_n 0, 1) := by decide +kernel
theorem dX3_laid_260 : decode cX3_laid 260 = .ok (.getfield 17, 3) := by decide +kernel
theorem dX3_laid_263 : decode cX3_laid 263 = .ok (.aload_n 0, 1) := by decide +kernel
theorem dX3_laid_264 : decode cX3_laid 264 = .ok (.getfield 73, 3) := by decide +kernel
theorem dX3_laid_267 : decode cX3_laid 267 = .ok (.iaload, 1) := by decide +kernel
theorem dX3_laid_268 : decode cX3_laid 268 = .ok (.iadd, 1) := by decide +kernel
theorem dX3_laid_269 : decode cX3_laid 269 = .ok (.istore_n 3, 1) := by decide +kernel
theorem dX3_laid_270 : decode cX3_laid 270 = .ok (.aload_n 0, 1) := by decide +kernel
theorem dX3_laid_271 : decode cX3_laid 271 = .ok (.getfield 17, 3) := by decide +kernel
theorem dX3_laid_274 : decode cX3_laid 274 = .ok (.aload_n 0, 1) := by decide +kernel
theorem dX3_laid_275 : decode cX3_laid 275 = .ok (.getfield 73, 3) := by decide +kernel
theorem dX3_laid_278 : decode cX3_laid 278 = .ok (.dup2, 1) := by decide +kernel
theorem dX3_laid_279 : decode cX3_laid 279 = .ok (.iaload, 1) := by decide +kernel
theorem dX3_laid_280 : decode cX3_laid 280 = .ok (.iload_n 1, 1) := by decide +kernel
theorem dX3_laid_281 : decode cX3_laid 281 = .ok (.iadd, 1) := by decide +kernel
theorem dX3_laid_282 : decode cX3_laid 282 = .ok (.iastore, 1) := by decide +kernel
theorem dX3_laid_283 : decode cX3_laid 283 = .ok (.iload_n 3, 1) := by decide +kernel
theorem dX3_laid_284 : decode cX3_laid 284 = .ok (.ireturn, 1) := by decide +kernel
theorem dX3_isRoot_0 : decode cX3_isRoot 0 = .ok (.iload_n 0, 1) := by decide +kernel
theorem dX3_isRoot_1 : decode cX3_isRoot 1 = .ok (.ifCond .lt 13, 3) := by decide +kernel
theorem dX3_isRoot_4 : decode cX3_isRoot 4 = .ok (.iload_n 0, 1) := by decide +kernel
theorem dX3_isRoot_5 : decode cX3_isRoot 5 = .ok (.bipush 32, 2) := by decide +kernel
theorem dX3_isRoot_7 : decode cX3_isRoot 7 = .ok (.if_icmp .ge 7, 3) := by decide +kernel
theorem dX3_isRoot_10 : decode cX3_isRoot 10 = .ok (.iconst 1, 1) := by decide +kernel
theorem dX3_isRoot_11 : decode cX3_isRoot 11 = .ok (.goto 4, 3) := by decide +kernel
theorem dX3_isRoot_14 : decode cX3_isRoot 14 = .ok (.iconst 0, 1) := by decide +kernel
theorem dX3_isRoot_15 : decode cX3_isRoot 15 = .ok (.ireturn, 1) := by decide +kernel
theorem dX3_make_0 : decode cX3_make 0 = .ok (.aload_n 0, 1) := by decide +kernel
theorem dX3_make_1 : decode cX3_make 1 = .ok (.iconst 0, 1) := by decide +kernel
theorem dX3_make_2 : decode cX3_make 2 = .ok (.putfield 1, 3) := by decide +kernel
theorem dX3_make_5 : decode cX3_make 5 = .ok (.iload_n 1, 1) := by decide +kernel
theorem dX3_make_6 : decode cX3_make 6 = .ok (.invokestatic 96, 3) := by decide +kernel
theorem dX3_make_9 : decode cX3_make 9 = .ok (.ifCond .eq 24, 3) := by decide +kernel
theorem dX3_make_12 : decode cX3_make 12 = .ok (.iload_n 2, 1) := by decide +kernel
theorem dX3_make_13 : decode cX3_make 13 = .ok (.ifCond .lt 20, 3) := by decide +kernel
theorem dX3_make_16 : decode cX3_make 16 = .ok (.iload_n 2, 1) := by decide +kernel
theorem dX3_make_17 : decode cX3_make 17 = .ok (.bipush 31, 2) := by decide +kernel
theorem dX3_make_19 : decode cX3_make 19 = .ok (.if_icmp .gt 14, 3) := by decide +kernel
theorem dX3_make_22 : decode cX3_make 22 = .ok (.iload_n 3, 1) := by decide +kernel
theorem dX3_make_23 : decode cX3_make 23 = .ok (.ifCond .lt 10, 3) := by decide +kernel
theorem dX3_make_26 : decode cX3_make 26 = .ok (.iload_n 3, 1) := by decide +kernel
theorem dX3_make_27 : decode cX3_make 27 = .ok (.sipush 200, 3) := by decide +kernel
theorem dX3_make_30 : decode cX3_make 30 = .ok (.if_icmp .le 10, 3) := by decide +kernel
theorem dX3_make_33 : decode cX3_make 33 = .ok (.aload_n 0, 1) := by decide +kernel
theorem dX3_make_34 : decode cX3_make 34 = .ok (.iconst 1, 1) := by decide +kernel
theorem dX3_make_35 : decode cX3_make 35 = .ok (.putfield 1, 3) := by decide +kernel
theorem dX3_make_38 : decode cX3_make 38 = .ok (.iconst 0, 1) := by decide +kernel
theorem dX3_make_39 : decode cX3_make 39 = .ok (.ireturn, 1) := by decide +kernel
theorem dX3_make_40 : decode cX3_make 40 = .ok (.aload_n 0, 1) := by decide +kernel
theorem dX3_make_41 : decode cX3_make 41 = .ok (.iconst 1, 1) := by decide +kernel
theorem dX3_make_42 : decode cX3_make 42 = .ok (.iload_n 2, 1) := by decide +kernel
theorem dX3_make_43 : decode cX3_make 43 = .ok (.iadd, 1) := by decide +kernel
theorem dX3_make_44 : decode cX3_make 44 = .ok (.iload_n 3, 1) := by decide +kernel
theorem dX3_make_45 : decode cX3_make 45 = .ok (.iadd, 1) := by decide +kernel
theorem dX3_make_46 : decode cX3_make 46 = .ok (.invokevirtual 100, 3) := by decide +kernel
theorem dX3_make_49 : decode cX3_make 49 = .ok (.istore 4, 2) := by decide +kernel
theorem dX3_make_51 : decode cX3_make 51 = .ok (.iload 4, 2) := by decide +kernel
theorem dX3_make_53 : decode cX3_make 53 = .ok (.iconst (-1), 1) := by decide +kernel
theorem dX3_make_54 : decode cX3_make 54 = .ok (.if_icmp .ne 23, 3) := by decide +kernel
theorem dX3_make_57 : decode cX3_make 57 = .ok (.aload_n 0, 1) := by decide +kernel
theorem dX3_make_58 : decode cX3_make 58 = .ok (.invokevirtual 103, 3) := by decide +kernel
theorem dX3_make_61 : decode cX3_make 61 = .ok (.ifCond .ne 5, 3) := by decide +kernel
theorem dX3_make_64 : decode cX3_make 64 = .ok (.iconst 0, 1) := by decide +kernel
theorem dX3_make_65 : decode cX3_make 65 = .ok (.ireturn, 1) := by decide +kernel
theorem dX3_make_66 : decode cX3_make 66 = .ok (.aload_n 0, 1) := by decide +kernel
theorem dX3_make_67 : decode cX3_make 67 = .ok (.iconst 1, 1) := by decide +kernel
theorem dX3_make_68 : decode cX3_make 68 = .ok (.iload_n 2, 1) := by decide +kernel
theorem dX3_make_69 : decode cX3_make 69 = .ok (.iadd, 1) := by decide +kernel
theorem dX3_make_70 : decode cX3_make 70 = .ok (.iload_n 3, 1) := by decide +kernel
theorem dX3_make_71 : decode cX3_make 71 = .ok (.iadd, 1) := by decide +kernel
theorem dX3_make_72 : decode cX3_make 72 = .ok (.invokevirtual 100, 3) := by decide +kernel
theorem dX3_make_75 : decode cX3_make 75 = .ok (.istore 4, 2) := by decide +kernel
theorem dX3_make_77 : decode cX3_make 77 = .ok (.iload 4, 2) := by decide +kernel
theorem dX3_make_79 : decode cX3_make 79 = .ok (.iconst (-1), 1) := by decide +kernel
theorem dX3_make_80 : decode cX3_make 80 = .ok (.if_icmp .ne 5, 3) := by decide +kernel
theorem dX3_make_83 : decode cX3_make 83 = .ok (.iconst 0, 1) := by decide +kernel
theorem dX3_make_84 : decode cX3_make 84 = .ok (.ireturn, 1) := by decide +kernel
theorem dX3_make_85 : decode cX3_make 85 = .ok (.aload_n 0, 1) := by decide +kernel
theorem dX3_make_86 : decode cX3_make 86 = .ok (.getfield 76, 3) := by decide +kernel
theorem dX3_make_89 : decode cX3_make 89 = .ok (.istore 5, 2) := by decide +kernel
theorem dX3_make_91 : decode cX3_make 91 = .ok (.aload_n 0, 1) := by decide +kernel
theorem dX3_make_92 : decode cX3_make 92 = .ok (.dup, 1) := by decide +kernel
theorem dX3_make_93 : decode cX3_make 93 = .ok (.getfield 76, 3) := by decide +kernel
theorem dX3_make_96 : decode cX3_make 96 = .ok (.iconst 1, 1) := by decide +kernel
theorem dX3_make_97 : decode cX3_make 97 = .ok (.iadd, 1) := by decide +kernel
theorem dX3_make_98 : decode cX3_make 98 = .ok (.putfield 76, 3) := by decide +kernel
theorem dX3_make_101 : decode cX3_make 101 = .ok (.aload_n 0, 1) := by decide +kernel
theorem dX3_make_102 : decode cX3_make 102 = .ok (.getfield 24, 3) := by decide +kernel
theorem dX3_make_105 : decode cX3_make 105 = .ok (.iload 5, 2) := by decide +kernel
theorem dX3_make_107 : decode cX3_make 107 = .ok (.iload 4, 2) := by decide +kernel
theorem dX3_make_109 : decode cX3_make 109 = .ok (.iastore, 1) := by decide +kernel
theorem dX3_make_110 : decode cX3_make 110 = .ok (.aload_n 0, 1) := by decide +kernel
theorem dX3_make_111 : decode cX3_make 111 = .ok (.getfield 27, 3) := by decide +kernel
theorem dX3_make_114 : decode cX3_make 114 = .ok (.iload 5, 2) := by decide +kernel
theorem dX3_make_116 : decode cX3_make 116 = .ok (.iload_n 2, 1) := by decide +kernel
theorem dX3_make_117 : decode cX3_make 117 = .ok (.iastore, 1) := by decide +kernel
theorem dX3_make_118 : decode cX3_make 118 = .ok (.aload_n 0, 1) := by decide +kernel
theorem dX3_make_119 : decode cX3_make 119 = .ok (.getfield 30, 3) := by decide +kernel
theorem dX3_make_122 : decode cX3_make 122 = .ok (.iload 5, 2) := by decide +kernel
theorem dX3_make_124 : decode cX3_make 124 = .ok (.iload_n 3, 1) := by decide +kernel
theorem dX3_make_125 : decode cX3_make 125 = .ok (.iastore, 1) := by decide +kernel
theorem dX3_make_126 : decode cX3_make 126 = .ok (.aload_n 0, 1) := by decide +kernel
theorem dX3_make_127 : decode cX3_make 127 = .ok (.getfield 33, 3) := by decide +kernel
theorem dX3_make_130 : decode cX3_make 130 = .ok (.iload 5, 2) := by decide +kernel
theorem dX3_make_132 : decode cX3_make 132 = .ok (.aload_n 0, 1) := by decide +kernel
theorem dX3_make_133 : decode cX3_make 133 = .ok (.getfield 79, 3) := by decide +kernel
theorem dX3_make_136 : decode cX3_make 136 = .ok (.iastore, 1) := by decide +kernel
theorem dX3_make_137 : decode cX3_make 137 = .ok (.iconst 0, 1) := by decide +kernel
theorem dX3_make_138 : decode cX3_make 138 = .ok (.istore 6, 2) := by decide +kernel
theorem dX3_make_140 : decode cX3_make 140 = .ok (.iload 6, 2) := by decide +kernel
theorem dX3_make_142 : decode cX3_make 142 = .ok (.iload_n 2, 1) := by decide +kernel
theorem dX3_make_143 : decode cX3_make 143 = .ok (.iload_n 3, 1) := by decide +kernel
theorem dX3_make_144 : decode cX3_make 144 = .ok (.iadd, 1) := by decide +kernel
theorem dX3_make_145 : decode cX3_make 145 = .ok (.if_icmp .ge 39, 3) := by decide +kernel
theorem dX3_make_148 : decode cX3_make 148 = .ok (.aload_n 0, 1) := by decide +kernel
theorem dX3_make_149 : decode cX3_make 149 = .ok (.getfield 36, 3) := by decide +kernel
theorem dX3_make_152 : decode cX3_make 152 = .ok (.aload_n 0, 1) := by decide +kernel
theorem dX3_make_153 : decode cX3_make 153 = .ok (.getfield 79, 3) := by decide +kernel
theorem dX3_make_156 : decode cX3_make 156 = .ok (.iload 6, 2) := by decide +kernel
theorem dX3_make_158 : decode cX3_make 158 = .ok (.iload_n 2, 1) := by decide +kernel
theorem dX3_make_159 : decode cX3_make 159 = .ok (.if_icmp .ge 7, 3) := by decide +kernel
theorem dX3_make_162 : decode cX3_make 162 = .ok (.iconst (-1), 1) := by decide +kernel
theorem dX3_make_163 : decode cX3_make 163 = .ok (.goto 4, 3) := by decide +kernel
theorem dX3_make_166 : decode cX3_make 166 = .ok (.iconst 0, 1) := by decide +kernel
theorem dX3_make_167 : decode cX3_make 167 = .ok (.iastore, 1) := by decide +kernel
theorem dX3_make_168 : decode cX3_make 168 = .ok (.aload_n 0, 1) := by decide +kernel
theorem dX3_make_169 : decode cX3_make 169 = .ok (.dup, 1) := by decide +kernel
theorem dX3_make_170 : decode cX3_make 170 = .ok (.getfield 79, 3) := by decide +kernel
theorem dX3_make_173 : decode cX3_make 173 = .ok (.iconst 1, 1) := by decide +kernel
theorem dX3_make_174 : decode cX3_make 174 = .ok (.iadd, 1) := by decide +kernel
theorem dX3_make_175 : decode cX3_make 175 = .ok (.putfield 79, 3) := by decide +kernel
theorem dX3_make_178 : decode cX3_make 178 = .ok (.iinc 6 1, 3) := by decide +kernel
theorem dX3_make_181 : decode cX3_make 181 = .ok (.goto (-41), 3) := by decide +kernel
theorem dX3_make_184 : decode cX3_make 184 = .ok (.aload_n 0, 1) := by decide +kernel
theorem dX3_make_185 : decode cX3_make 185 = .ok (.getfield 39, 3) := by decide +kernel
theorem dX3_make_188 : decode cX3_make 188 = .ok (.iload_n 1, 1) := by decide +kernel
theorem dX3_make_189 : decode cX3_make 189 = .ok (.iload 5, 2) := by decide +kernel
theorem dX3_make_191 : decode cX3_make 191 = .ok (.iastore, 1) := by decide +kernel
theorem dX3_make_192 : decode cX3_make 192 = .ok (.iconst 1, 1) := by decide +kernel
theorem dX3_make_193 : decode cX3_make 193 = .ok (.ireturn, 1) := by decide +kernel
theorem dX3_firstOf_0 : decode cX3_firstOf 0 = .ok (.iload_n 1, 1) := by decide +kernel
theorem dX3_firstOf_1 : decode cX3_firstOf 1 = .ok (.istore_n 2, 1) := by decide +kernel
theorem dX3_firstOf_2 : decode cX3_firstOf 2 = .ok (.aload_n 0, 1) := by decide +kernel
theorem dX3_firstOf_3 : decode cX3_firstOf 3 = .ok (.getfield 13, 3) := by decide +kernel
theorem dX3_firstOf_6 : decode cX3_firstOf 6 = .ok (.iload_n 2, 1) := by decide +kernel
theorem dX3_firstOf_7 : decode cX3_firstOf 7 = .ok (.iaload, 1) := by decide +kernel
theorem dX3_firstOf_8 : decode cX3_firstOf 8 = .ok (.iconst 3, 1) := by decide +kernel
theorem dX3_firstOf_9 : decode cX3_firstOf 9 = .ok (.if_icmp .ne 9, 3) := by decide +kernel
theorem dX3_firstOf_12 : decode cX3_firstOf 12 = .ok (.iinc 2 (-1), 3) := by decide +kernel
theorem dX3_firstOf_15 : decode cX3_firstOf 15 = .ok (.goto (-13), 3) := by decide +kernel
theorem dX3_firstOf_18 : decode cX3_firstOf 18 = .ok (.iload_n 2, 1) := by decide +kernel
theorem dX3_firstOf_19 : decode cX3_firstOf 19 = .ok (.ireturn, 1) := by decide +kernel
theorem dX3_hits_0 : decode cX3_hits 0 = .ok (.iconst 0, 1) := by decide +kernel
theorem dX3_hits_1 : decode cX3_hits 1 = .ok (.istore_n 1, 1) := by decide +kernel
theorem dX3_hits_2 : decode cX3_hits 2 = .ok (.iload_n 1, 1) := by decide +kernel
theorem dX3_hits_3 : decode cX3_hits 3 = .ok (.bipush 64, 2) := by decide +kernel
theorem dX3_hits_5 : decode cX3_hits 5 = .ok (.if_icmp .ge 16, 3) := by decide +kernel
theorem dX3_hits_8 : decode cX3_hits 8 = .ok (.aload_n 0, 1) := by decide +kernel
theorem dX3_hits_9 : decode cX3_hits 9 = .ok (.getfield 54, 3) := by decide +kernel
theorem dX3_hits_12 : decode cX3_hits 12 = .ok (.iload_n 1, 1) := by decide +kernel
theorem dX3_hits_13 : decode cX3_hits 13 = .ok (.iconst 0, 1) := by decide +kernel
theorem dX3_hits_14 : decode cX3_hits 14 = .ok (.bastore, 1) := by decide +kernel
theorem dX3_hits_15 : decode cX3_hits 15 = .ok (.iinc 1 1, 3) := by decide +kernel
theorem dX3_hits_18 : decode cX3_hits 18 = .ok (.goto (-16), 3) := by decide +kernel
theorem dX3_hits_21 : decode cX3_hits 21 = .ok (.iconst 0, 1) := by decide +kernel
theorem dX3_hits_22 : decode cX3_hits 22 = .ok (.istore_n 1, 1) := by decide +kernel
theorem dX3_hits_23 : decode cX3_hits 23 = .ok (.iload_n 1, 1) := by decide +kernel
theorem dX3_hits_24 : decode cX3_hits 24 = .ok (.bipush 32, 2) := by decide +kernel
theorem dX3_hits_26 : decode cX3_hits 26 = .ok (.if_icmp .ge 126, 3) := by decide +kernel
theorem dX3_hits_29 : decode cX3_hits 29 = .ok (.aload_n 0, 1) := by decide +kernel
theorem dX3_hits_30 : decode cX3_hits 30 = .ok (.getfield 42, 3) := by decide +kernel
theorem dX3_hits_33 : decode cX3_hits 33 = .ok (.iload_n 1, 1) := by decide +kernel
theorem dX3_hits_34 : decode cX3_hits 34 = .ok (.iaload, 1) := by decide +kernel
theorem dX3_hits_35 : decode cX3_hits 35 = .ok (.ifCond .lt 111, 3) := by decide +kernel
theorem dX3_hits_38 : decode cX3_hits 38 = .ok (.aload_n 0, 1) := by decide +kernel
theorem dX3_hits_39 : decode cX3_hits 39 = .ok (.getfield 42, 3) := by decide +kernel
theorem dX3_hits_42 : decode cX3_hits 42 = .ok (.iload_n 1, 1) := by decide +kernel
theorem dX3_hits_43 : decode cX3_hits 43 = .ok (.iaload, 1) := by decide +kernel
theorem dX3_hits_44 : decode cX3_hits 44 = .ok (.aload_n 0, 1) := by decide +kernel
theorem dX3_hits_45 : decode cX3_hits 45 = .ok (.getfield 67, 3) := by decide +kernel
theorem dX3_hits_48 : decode cX3_hits 48 = .ok (.aload_n 0, 1) := by decide +kernel
theorem dX3_hits_49 : decode cX3_hits 49 = .ok (.getfield 70, 3) := by decide +kernel
theorem dX3_hits_52 : decode cX3_hits 52 = .ok (.imul, 1) := by decide +kernel
theorem dX3_hits_53 : decode cX3_hits 53 = .ok (.if_icmp .ge 93, 3) := by decide +kernel
theorem dX3_hits_56 : decode cX3_hits 56 = .ok (.aload_n 0, 1) := by decide +kernel
theorem dX3_hits_57 : decode cX3_hits 57 = .ok (.getfield 13, 3) := by decide +kernel
theorem dX3_hits_60 : decode cX3_hits 60 = .ok (.aload_n 0, 1) := by decide +kernel
theorem dX3_hits_61 : decode cX3_hits 61 = .ok (.getfield 42, 3) := by decide +kernel
theorem dX3_hits_64 : decode cX3_hits 64 = .ok (.iload_n 1, 1) := by decide +kernel
theorem dX3_hits_65 : decode cX3_hits 65 = .ok (.iaload, 1) := by decide +kernel
theorem dX3_hits_66 : decode cX3_hits 66 = .ok (.aload_n 0, 1) := by decide +kernel
theorem dX3_hits_67 : decode cX3_hits 67 = .ok (.getfield 70, 3) := by decide +kernel
theorem dX3_hits_70 : decode cX3_hits 70 = .ok (.idiv, 1) := by decide +kernel
theorem dX3_hits_71 : decode cX3_hits 71 = .ok (.iaload, 1) := by decide +kernel
theorem dX3_hits_72 : decode cX3_hits 72 = .ok (.ifCond .ne 6, 3) := by decide +kernel
theorem dX3_hits_75 : decode cX3_hits 75 = .ok (.goto 71, 3) := by decide +kernel
theorem dX3_hits_78 : decode cX3_hits 78 = .ok (.aload_n 0, 1) := by decide +kernel
theorem dX3_hits_79 : decode cX3_hits 79 = .ok (.aload_n 0, 1) := by decide +kernel
theorem dX3_hits_80 : decode cX3_hits 80 = .ok (.getfield 42, 3) := by decide +kernel
theorem dX3_hits_83 : decode cX3_hits 83 = .ok (.iload_n 1, 1) := by decide +kernel
theorem dX3_hits_84 : decode cX3_hits 84 = .ok (.iaload, 1) := by decide +kernel
theorem dX3_hits_85 : decode cX3_hits 85 = .ok (.aload_n 0, 1) := by decide +kernel
theorem dX3_hits_86 : decode cX3_hits 86 = .ok (.getfield 70, 3) := by decide +kernel
theorem dX3_hits_89 : decode cX3_hits 89 = .ok (.idiv, 1) := by decide +kernel
theorem dX3_hits_90 : decode cX3_hits 90 = .ok (.invokevirtual 107, 3) := by decide +kernel
theorem dX3_hits_93 : decode cX3_hits 93 = .ok (.istore_n 2, 1) := by decide +kernel
theorem dX3_hits_94 : decode cX3_hits 94 = .ok (.aload_n 0, 1) := by decide +kernel
theorem dX3_hits_95 : decode cX3_hits 95 = .ok (.getfield 54, 3) := by decide +kernel
theorem dX3_hits_98 : decode cX3_hits 98 = .ok (.iload_n 2, 1) := by decide +kernel
theorem dX3_hits_99 : decode cX3_hits 99 = .ok (.iconst 1, 1) := by decide +kernel
theorem dX3_hits_100 : decode cX3_hits 100 = .ok (.bastore, 1) := by decide +kernel
theorem dX3_hits_101 : decode cX3_hits 101 = .ok (.iload_n 2, 1) := by decide +kernel
theorem dX3_hits_102 : decode cX3_hits 102 = .ok (.iconst 1, 1) := by decide +kernel
theorem dX3_hits_103 : decode cX3_hits 103 = .ok (.iadd, 1) := by decide +kernel
theorem dX3_hits_104 : decode cX3_hits 104 = .ok (.istore_n 3, 1) := by decide +kernel
theorem dX3_hits_105 : decode cX3_hits 105 = .ok (.iload_n 3, 1) := by decide +kernel
theorem dX3_hits_106 : decode cX3_hits 106 = .ok (.aload_n 0, 1) := by decide +kernel
theorem dX3_hits_107 : decode cX3_hits 107 = .ok (.getfield 67, 3) := by decide +kernel
theorem dX3_hits_110 : decode cX3_hits 110 = .ok (.if_icmp .ge 36, 3) := by decide +kernel
theorem dX3_hits_113 : decode cX3_hits 113 = .ok (.aload_n 0, 1) := by decide +kernel
theorem dX3_hits_114 : decode cX3_hits 114 = .ok (.getfield 13, 3) := by decide +kernel
theorem dX3_hits_117 : decode cX3_hits 117 = .ok (.iload_n 2, 1) := by decide +kernel
theorem dX3_hits_118 : decode cX3_hits 118 = .ok (.iaload, 1) := by decide +kernel
theorem dX3_hits_119 : decode cX3_hits 119 = .ok (.iconst 2, 1) := by decide +kernel
theorem dX3_hits_120 : decode cX3_hits 120 = .ok (.if_icmp .ne 26, 3) := by decide +kernel
theorem dX3_hits_123 : decode cX3_hits 123 = .ok (.aload_n 0, 1) := by decide +kernel
theorem dX3_hits_124 : decode cX3_hits 124 = .ok (.getfield 13, 3) := by decide +kernel
theorem dX3_hits_127 : decode cX3_hits 127 = .ok (.iload_n 3, 1) := by decide +kernel
theorem dX3_hits_128 : decode cX3_hits 128 = .ok (.iaload, 1) := by decide +kernel
theorem dX3_hits_129 : decode cX3_hits 129 = .ok (.iconst 3, 1) := by decide +kernel
theorem dX3_hits_130 : decode cX3_hits 130 = .ok (.if_icmp .ne 16, 3) := by decide +kernel
theorem dX3_hits_133 : decode cX3_hits 133 = .ok (.aload_n 0, 1) := by decide +kernel
theorem dX3_hits_134 : decode cX3_hits 134 = .ok (.getfield 54, 3) := by decide +kernel
theorem dX3_hits_137 : decode cX3_hits 137 = .ok (.iload_n 3, 1) := by decide +kernel
theorem dX3_hits_138 : decode cX3_hits 138 = .ok (.iconst 1, 1) := by decide +kernel
theorem dX3_hits_139 : decode cX3_hits 139 = .ok (.bastore, 1) := by decide +kernel
theorem dX3_hits_140 : decode cX3_hits 140 = .ok (.iinc 3 1, 3) := by decide +kernel
theorem dX3_hits_143 : decode cX3_hits 143 = .ok (.goto (-38), 3) := by decide +kernel
theorem dX3_hits_146 : decode cX3_hits 146 = .ok (.iinc 1 1, 3) := by decide +kernel
theorem dX3_hits_149 : decode cX3_hits 149 = .ok (.goto (-126), 3) := by decide +kernel
theorem dX3_hits_152 : decode cX3_hits 152 = .ok (.return_, 1) := by decide +kernel
theorem dX3_stays_0 : decode cX3_stays 0 = .ok (.aload_n 0, 1) := by decide +kernel
theorem dX3_stays_1 : decode cX3_stays 1 = .ok (.getfield 51, 3) := by decide +kernel
theorem dX3_stays_4 : decode cX3_stays 4 = .ok (.iload_n 1, 1) := by decide +kernel
theorem dX3_stays_5 : decode cX3_stays 5 = .ok (.aload_n 0, 1) := by decide +kernel
theorem dX3_stays_6 : decode cX3_stays 6 = .ok (.getfield 24, 3) := by decide +kernel
theorem dX3_stays_9 : decode cX3_stays 9 = .ok (.iload_n 1, 1) := by decide +kernel
theorem dX3_stays_10 : decode cX3_stays 10 = .ok (.iaload, 1) := by decide +kernel
theorem dX3_stays_11 : decode cX3_stays 11 = .ok (.iastore, 1) := by decide +kernel
theorem dX3_stays_12 : decode cX3_stays 12 = .ok (.aload_n 0, 1) := by decide +kernel
theorem dX3_stays_13 : decode cX3_stays 13 = .ok (.getfield 48, 3) := by decide +kernel
theorem dX3_stays_16 : decode cX3_stays 16 = .ok (.aload_n 0, 1) := by decide +kernel
theorem dX3_stays_17 : decode cX3_stays 17 = .ok (.getfield 110, 3) := by decide +kernel
theorem dX3_stays_20 : decode cX3_stays 20 = .ok (.iload_n 1, 1) := by decide +kernel
theorem dX3_stays_21 : decode cX3_stays 21 = .ok (.iastore, 1) := by decide +kernel
theorem dX3_stays_22 : decode cX3_stays 22 = .ok (.aload_n 0, 1) := by decide +kernel
theorem dX3_stays_23 : decode cX3_stays 23 = .ok (.dup, 1) := by decide +kernel
theorem dX3_stays_24 : decode cX3_stays 24 = .ok (.getfield 110, 3) := by decide +kernel
theorem dX3_stays_27 : decode cX3_stays 27 = .ok (.iconst 1, 1) := by decide +kernel
theorem dX3_stays_28 : decode cX3_stays 28 = .ok (.iadd, 1) := by decide +kernel
theorem dX3_stays_29 : decode cX3_stays 29 = .ok (.putfield 110, 3) := by decide +kernel
theorem dX3_stays_32 : decode cX3_stays 32 = .ok (.return_, 1) := by decide +kernel
theorem dX3_comes_0 : decode cX3_comes 0 = .ok (.iload_n 1, 1) := by decide +kernel
theorem dX3_comes_1 : decode cX3_comes 1 = .ok (.iconst (-1), 1) := by decide +kernel
theorem dX3_comes_2 : decode cX3_comes 2 = .ok (.if_icmp .eq 13, 3) := by decide +kernel
theorem dX3_comes_5 : decode cX3_comes 5 = .ok (.aload_n 0, 1) := by decide +kernel
theorem dX3_comes_6 : decode cX3_comes 6 = .ok (.getfield 51, 3) := by decide +kernel
theorem dX3_comes_9 : decode cX3_comes 9 = .ok (.iload_n 1, 1) := by decide +kernel
theorem dX3_comes_10 : decode cX3_comes 10 = .ok (.iaload, 1) := by decide +kernel
theorem dX3_comes_11 : decode cX3_comes 11 = .ok (.iconst (-1), 1) := by decide +kernel
theorem dX3_comes_12 : decode cX3_comes 12 = .ok (.if_icmp .eq 5, 3) := by decide +kernel
theorem dX3_comes_15 : decode cX3_comes 15 = .ok (.iconst 1, 1) := by decide +kernel
theorem dX3_comes_16 : decode cX3_comes 16 = .ok (.ireturn, 1) := by decide +kernel
theorem dX3_comes_17 : decode cX3_comes 17 = .ok (.aload_n 0, 1) := by decide +kernel
theorem dX3_comes_18 : decode cX3_comes 18 = .ok (.iload_n 1, 1) := by decide +kernel
theorem dX3_comes_19 : decode cX3_comes 19 = .ok (.invokevirtual 113, 3) := by decide +kernel
theorem dX3_comes_22 : decode cX3_comes 22 = .ok (.ifCond .eq 10, 3) := by decide +kernel
theorem dX3_comes_25 : decode cX3_comes 25 = .ok (.aload_n 0, 1) := by decide +kernel
theorem dX3_comes_26 : decode cX3_comes 26 = .ok (.iload_n 1, 1) := by decide +kernel
theorem dX3_comes_27 : decode cX3_comes 27 = .ok (.invokevirtual 116, 3) := by decide +kernel
theorem dX3_comes_30 : decode cX3_comes 30 = .ok (.iconst 1, 1) := by decide +kernel
theorem dX3_comes_31 : decode cX3_comes 31 = .ok (.ireturn, 1) := by decide +kernel
theorem dX3_comes_32 : decode cX3_comes 32 = .ok (.aload_n 0, 1) := by decide +kernel
theorem dX3_comes_33 : decode cX3_comes 33 = .ok (.getfield 120, 3) := by decide +kernel
theorem dX3_comes_36 : decode cX3_comes 36 = .ok (.iconst (-1), 1) := by decide +kernel
theorem dX3_comes_37 : decode cX3_comes 37 = .ok (.if_icmp .eq 20, 3) := by decide +kernel
theorem dX3_comes_40 : decode cX3_comes 40 = .ok (.aload_n 0, 1) := by decide +kernel
theorem dX3_comes_41 : decode cX3_comes 41 = .ok (.getfield 70, 3) := by decide +kernel
theorem dX3_comes_44 : decode cX3_comes 44 = .ok (.aload_n 0, 1) := by decide +kernel
theorem dX3_comes_45 : decode cX3_comes 45 = .ok (.getfield 123, 3) := by decide +kernel
theorem dX3_comes_48 : decode cX3_comes 48 = .ok (.isub, 1) := by decide +kernel
theorem dX3_comes_49 : decode cX3_comes 49 = .ok (.aload_n 0, 1) := by decide +kernel
theorem dX3_comes_50 : decode cX3_comes 50 = .ok (.iload_n 1, 1) := by decide +kernel
theorem dX3_comes_51 : decode cX3_comes 51 = .ok (.invokevirtual 82, 3) := by decide +kernel
theorem dX3_comes_54 : decode cX3_comes 54 = .ok (.if_icmp .ge 74, 3) := by decide +kernel
theorem dX3_comes_57 : decode cX3_comes 57 = .ok (.iconst 0, 1) := by decide +kernel
theorem dX3_comes_58 : decode cX3_comes 58 = .ok (.istore_n 2, 1) := by decide +kernel
theorem dX3_comes_59 : decode cX3_comes 59 = .ok (.iload_n 2, 1) := by decide +kernel
theorem dX3_comes_60 : decode cX3_comes 60 = .ok (.aload_n 0, 1) := by decide +kernel
theorem dX3_comes_61 : decode cX3_comes 61 = .ok (.getfield 67, 3) := by decide +kernel
theorem dX3_comes_64 : decode cX3_comes 64 = .ok (.if_icmp .ge 27, 3) := by decide +kernel
theorem dX3_comes_67 : decode cX3_comes 67 = .ok (.aload_n 0, 1) := by decide +kernel
theorem dX3_comes_68 : decode cX3_comes 68 = .ok (.getfield 13, 3) := by decide +kernel
theorem dX3_comes_71 : decode cX3_comes 71 = .ok (.iload_n 2, 1) := by decide +kernel
theorem dX3_comes_72 : decode cX3_comes 72 = .ok (.iaload, 1) := by decide +kernel
theorem dX3_comes_73 : decode cX3_comes 73 = .ok (.ifCond .ne 12, 3) := by decide +kernel
theorem dX3_comes_76 : decode cX3_comes 76 = .ok (.aload_n 0, 1) := by decide +kernel
theorem dX3_comes_77 : decode cX3_comes 77 = .ok (.getfield 57, 3) := by decide +kernel
theorem dX3_comes_80 : decode cX3_comes 80 = .ok (.iload_n 2, 1) := by decide +kernel
theorem dX3_comes_81 : decode cX3_comes 81 = .ok (.iaload, 1) := by decide +kernel
theorem dX3_comes_82 : decode cX3_comes 82 = .ok (.ifCond .eq 9, 3) := by decide +kernel
theorem dX3_comes_85 : decode cX3_comes 85 = .ok (.iinc 2 1, 3) := by decide +kernel
theorem dX3_comes_88 : decode cX3_comes 88 = .ok (.goto (-29), 3) := by decide +kernel
theorem dX3_comes_91 : decode cX3_comes 91 = .ok (.iload_n 2, 1) := by decide +kernel
theorem dX3_comes_92 : decode cX3_comes 92 = .ok (.aload_n 0, 1) := by decide +kernel
theorem dX3_comes_93 : decode cX3_comes 93 = .ok (.getfield 67, 3) := by decide +kernel
theorem dX3_comes_96 : decode cX3_comes 96 = .ok (.if_icmp .ne 5, 3) := by decide +kernel
theorem dX3_comes_99 : decode cX3_comes 99 = .ok (.iconst 0, 1) := by decide +kernel
theorem dX3_comes_100 : decode cX3_comes 100 = .ok (.ireturn, 1) := by decide +kernel
theorem dX3_comes_101 : decode cX3_comes 101 = .ok (.aload_n 0, 1) := by decide +kernel
theorem dX3_comes_102 : decode cX3_comes 102 = .ok (.iload_n 2, 1) := by decide +kernel
theorem dX3_comes_103 : decode cX3_comes 103 = .ok (.putfield 120, 3) := by decide +kernel
theorem dX3_comes_106 : decode cX3_comes 106 = .ok (.aload_n 0, 1) := by decide +kernel
theorem dX3_comes_107 : decode cX3_comes 107 = .ok (.iconst 0, 1) := by decide +kernel
theorem dX3_comes_108 : decode cX3_comes 108 = .ok (.putfield 123, 3) := by decide +kernel
theorem dX3_comes_111 : decode cX3_comes 111 = .ok (.aload_n 0, 1) := by decide +kernel
theorem dX3_comes_112 : decode cX3_comes 112 = .ok (.getfield 57, 3) := by decide +kernel
theorem dX3_comes_115 : decode cX3_comes 115 = .ok (.iload_n 2, 1) := by decide +kernel
theorem dX3_comes_116 : decode cX3_comes 116 = .ok (.iconst 1, 1) := by decide +kernel
theorem dX3_comes_117 : decode cX3_comes 117 = .ok (.iastore, 1) := by decide +kernel
theorem dX3_comes_118 : decode cX3_comes 118 = .ok (.aload_n 0, 1) := by decide +kernel
theorem dX3_comes_119 : decode cX3_comes 119 = .ok (.dup, 1) := by decide +kernel
theorem dX3_comes_120 : decode cX3_comes 120 = .ok (.getfield 126, 3) := by decide +kernel
theorem dX3_comes_123 : decode cX3_comes 123 = .ok (.iconst 1, 1) := by decide +kernel
theorem dX3_comes_124 : decode cX3_comes 124 = .ok (.iadd, 1) := by decide +kernel
theorem dX3_comes_125 : decode cX3_comes 125 = .ok (.putfield 126, 3) := by decide +kernel
theorem dX3_comes_128 : decode cX3_comes 128 = .ok (.aload_n 0, 1) := by decide +kernel
theorem dX3_comes_129 : decode cX3_comes 129 = .ok (.getfield 51, 3) := by decide +kernel
theorem dX3_comes_132 : decode cX3_comes 132 = .ok (.iload_n 1, 1) := by decide +kernel
theorem dX3_comes_133 : decode cX3_comes 133 = .ok (.aload_n 0, 1) := by decide +kernel
theorem dX3_comes_134 : decode cX3_comes 134 = .ok (.getfield 70, 3) := by decide +kernel
theorem dX3_comes_137 : decode cX3_comes 137 = .ok (.aload_n 0, 1) := by decide +kernel
theorem dX3_comes_138 : decode cX3_comes 138 = .ok (.getfield 120, 3) := by decide +kernel
theorem dX3_comes_141 : decode cX3_comes 141 = .ok (.imul, 1) := by decide +kernel
theorem dX3_comes_142 : decode cX3_comes 142 = .ok (.aload_n 0, 1) := by decide +kernel
theorem dX3_comes_143 : decode cX3_comes 143 = .ok (.getfield 123, 3) := by decide +kernel
theorem dX3_comes_146 : decode cX3_comes 146 = .ok (.iadd, 1) := by decide +kernel
theorem dX3_comes_147 : decode cX3_comes 147 = .ok (.iastore, 1) := by decide +kernel
theorem dX3_comes_148 : decode cX3_comes 148 = .ok (.aload_n 0, 1) := by decide +kernel
theorem dX3_comes_149 : decode cX3_comes 149 = .ok (.dup, 1) := by decide +kernel
theorem dX3_comes_150 : decode cX3_comes 150 = .ok (.getfield 123, 3) := by decide +kernel
theorem dX3_comes_153 : decode cX3_comes 153 = .ok (.aload_n 0, 1) := by decide +kernel
theorem dX3_comes_154 : decode cX3_comes 154 = .ok (.iload_n 1, 1) := by decide +kernel
theorem dX3_comes_155 : decode cX3_comes 155 = .ok (.invokevirtual 82, 3) := by decide +kernel
theorem dX3_comes_158 : decode cX3_comes 158 = .ok (.iadd, 1) := by decide +kernel
theorem dX3_comes_159 : decode cX3_comes 159 = .ok (.putfield 123, 3) := by decide +kernel
theorem dX3_comes_162 : decode cX3_comes 162 = .ok (.aload_n 0, 1) := by decide +kernel
theorem dX3_comes_163 : decode cX3_comes 163 = .ok (.getfield 57, 3) := by decide +kernel
theorem dX3_comes_166 : decode cX3_comes 166 = .ok (.aload_n 0, 1) := by decide +kernel
theorem dX3_comes_167 : decode cX3_comes 167 = .ok (.getfield 120, 3) := by decide +kernel
theorem dX3_comes_170 : decode cX3_comes 170 = .ok (.iconst 1, 1) := by decide +kernel
theorem dX3_comes_171 : decode cX3_comes 171 = .ok (.aload_n 0, 1) := by decide +kernel
theorem dX3_comes_172 : decode cX3_comes 172 = .ok (.getfield 123, 3) := by decide +kernel
theorem dX3_comes_175 : decode cX3_comes 175 = .ok (.iadd, 1) := by decide +kernel
theorem dX3_comes_176 : decode cX3_comes 176 = .ok (.iastore, 1) := by decide +kernel
theorem dX3_comes_177 : decode cX3_comes 177 = .ok (.aload_n 0, 1) := by decide +kernel
theorem dX3_comes_178 : decode cX3_comes 178 = .ok (.getfield 48, 3) := by decide +kernel
theorem dX3_comes_181 : decode cX3_comes 181 = .ok (.aload_n 0, 1) := by decide +kernel
theorem dX3_comes_182 : decode cX3_comes 182 = .ok (.getfield 110, 3) := by decide +kernel
theorem dX3_comes_185 : decode cX3_comes 185 = .ok (.iload_n 1, 1) := by decide +kernel
theorem dX3_comes_186 : decode cX3_comes 186 = .ok (.iastore, 1) := by decide +kernel
theorem dX3_comes_187 : decode cX3_comes 187 = .ok (.aload_n 0, 1) := by decide +kernel
theorem dX3_comes_188 : decode cX3_comes 188 = .ok (.dup, 1) := by decide +kernel
theorem dX3_comes_189 : decode cX3_comes 189 = .ok (.getfield 110, 3) := by decide +kernel
theorem dX3_comes_192 : decode cX3_comes 192 = .ok (.iconst 1, 1) := by decide +kernel
theorem dX3_comes_193 : decode cX3_comes 193 = .ok (.iadd, 1) := by decide +kernel
theorem dX3_comes_194 : decode cX3_comes 194 = .ok (.putfield 110, 3) := by decide +kernel
theorem dX3_comes_197 : decode cX3_comes 197 = .ok (.aload_n 0, 1) := by decide +kernel
theorem dX3_comes_198 : decode cX3_comes 198 = .ok (.dup, 1) := by decide +kernel
theorem dX3_comes_199 : decode cX3_comes 199 = .ok (.getfield 129, 3) := by decide +kernel
theorem dX3_comes_202 : decode cX3_comes 202 = .ok (.iconst 1, 1) := by decide +kernel
theorem dX3_comes_203 : decode cX3_comes 203 = .ok (.iadd, 1) := by decide +kernel
theorem dX3_comes_204 : decode cX3_comes 204 = .ok (.putfield 129, 3) := by decide +kernel
theorem dX3_comes_207 : decode cX3_comes 207 = .ok (.iconst 1, 1) := by decide +kernel
theorem dX3_comes_208 : decode cX3_comes 208 = .ok (.ireturn, 1) := by decide +kernel
theorem dX3_rows_0 : decode cX3_rows 0 = .ok (.aload_n 0, 1) := by decide +kernel
theorem dX3_rows_1 : decode cX3_rows 1 = .ok (.iconst 0, 1) := by decide +kernel
theorem dX3_rows_2 : decode cX3_rows 2 = .ok (.putfield 110, 3) := by decide +kernel
theorem dX3_rows_5 : decode cX3_rows 5 = .ok (.aload_n 0, 1) := by decide +kernel
theorem dX3_rows_6 : decode cX3_rows 6 = .ok (.iconst 0, 1) := by decide +kernel
theorem dX3_rows_7 : decode cX3_rows 7 = .ok (.putfield 126, 3) := by decide +kernel
theorem dX3_rows_10 : decode cX3_rows 10 = .ok (.aload_n 0, 1) := by decide +kernel
theorem dX3_rows_11 : decode cX3_rows 11 = .ok (.iconst 0, 1) := by decide +kernel
theorem dX3_rows_12 : decode cX3_rows 12 = .ok (.putfield 129, 3) := by decide +kernel
theorem dX3_rows_15 : decode cX3_rows 15 = .ok (.aload_n 0, 1) := by decide +kernel
theorem dX3_rows_16 : decode cX3_rows 16 = .ok (.iconst (-1), 1) := by decide +kernel
theorem dX3_rows_17 : decode cX3_rows 17 = .ok (.putfield 120, 3) := by decide +kernel
theorem dX3_rows_20 : decode cX3_rows 20 = .ok (.aload_n 0, 1) := by decide +kernel
theorem dX3_rows_21 : decode cX3_rows 21 = .ok (.iconst 0, 1) := by decide +kernel
theorem dX3_rows_22 : decode cX3_rows 22 = .ok (.putfield 123, 3) := by decide +kernel
theorem dX3_rows_25 : decode cX3_rows 25 = .ok (.iconst 0, 1) := by decide +kernel
theorem dX3_rows_26 : decode cX3_rows 26 = .ok (.istore_n 1, 1) := by decide +kernel
theorem dX3_rows_27 : decode cX3_rows 27 = .ok (.iload_n 1, 1) := by decide +kernel
theorem dX3_rows_28 : decode cX3_rows 28 = .ok (.bipush 64, 2) := by decide +kernel
theorem dX3_rows_30 : decode cX3_rows 30 = .ok (.if_icmp .ge 16, 3) := by decide +kernel
theorem dX3_rows_33 : decode cX3_rows 33 = .ok (.aload_n 0, 1) := by decide +kernel
theorem dX3_rows_34 : decode cX3_rows 34 = .ok (.getfield 57, 3) := by decide +kernel
theorem dX3_rows_37 : decode cX3_rows 37 = .ok (.iload_n 1, 1) := by decide +kernel
theorem dX3_rows_38 : decode cX3_rows 38 = .ok (.iconst 0, 1) := by decide +kernel
theorem dX3_rows_39 : decode cX3_rows 39 = .ok (.iastore, 1) := by decide +kernel
theorem dX3_rows_40 : decode cX3_rows 40 = .ok (.iinc 1 1, 3) := by decide +kernel
theorem dX3_rows_43 : decode cX3_rows 43 = .ok (.goto (-16), 3) := by decide +kernel
theorem dX3_rows_46 : decode cX3_rows 46 = .ok (.iconst 0, 1) := by decide +kernel
theorem dX3_rows_47 : decode cX3_rows 47 = .ok (.istore_n 1, 1) := by decide +kernel
theorem dX3_rows_48 : decode cX3_rows 48 = .ok (.iload_n 1, 1) := by decide +kernel
theorem dX3_rows_49 : decode cX3_rows 49 = .ok (.aload_n 0, 1) := by decide +kernel
theorem dX3_rows_50 : decode cX3_rows 50 = .ok (.getfield 76, 3) := by decide +kernel
theorem dX3_rows_53 : decode cX3_rows 53 = .ok (.if_icmp .ge 16, 3) := by decide +kernel
theorem dX3_rows_56 : decode cX3_rows 56 = .ok (.aload_n 0, 1) := by decide +kernel
theorem dX3_rows_57 : decode cX3_rows 57 = .ok (.getfield 51, 3) := by decide +kernel
theorem dX3_rows_60 : decode cX3_rows 60 = .ok (.iload_n 1, 1) := by decide +kernel
theorem dX3_rows_61 : decode cX3_rows 61 = .ok (.iconst (-1), 1) := by decide +kernel
theorem dX3_rows_62 : decode cX3_rows 62 = .ok (.iastore, 1) := by decide +kernel
theorem dX3_rows_63 : decode cX3_rows 63 = .ok (.iinc 1 1, 3) := by decide +kernel
theorem dX3_rows_66 : decode cX3_rows 66 = .ok (.goto (-18), 3) := by decide +kernel
theorem dX3_rows_69 : decode cX3_rows 69 = .ok (.aload_n 0, 1) := by decide +kernel
theorem dX3_rows_70 : decode cX3_rows 70 = .ok (.invokevirtual 132, 3) := by decide +kernel
theorem dX3_rows_73 : decode cX3_rows 73 = .ok (.iconst 0, 1) := by decide +kernel
theorem dX3_rows_74 : decode cX3_rows 74 = .ok (.istore_n 1, 1) := by decide +kernel
theorem dX3_rows_75 : decode cX3_rows 75 = .ok (.iload_n 1, 1) := by decide +kernel
theorem dX3_rows_76 : decode cX3_rows 76 = .ok (.aload_n 0, 1) := by decide +kernel
theorem dX3_rows_77 : decode cX3_rows 77 = .ok (.getfield 67, 3) := by decide +kernel
theorem dX3_rows_80 : decode cX3_rows 80 = .ok (.aload_n 0, 1) := by decide +kernel
theorem dX3_rows_81 : decode cX3_rows 81 = .ok (.getfield 70, 3) := by decide +kernel
theorem dX3_rows_84 : decode cX3_rows 84 = .ok (.imul, 1) := by decide +kernel
theorem dX3_rows_85 : decode cX3_rows 85 = .ok (.if_icmp .ge 39, 3) := by decide +kernel
theorem dX3_rows_88 : decode cX3_rows 88 = .ok (.aload_n 0, 1) := by decide +kernel
theorem dX3_rows_89 : decode cX3_rows 89 = .ok (.getfield 54, 3) := by decide +kernel
theorem dX3_rows_92 : decode cX3_rows 92 = .ok (.iload_n 1, 1) := by decide +kernel
theorem dX3_rows_93 : decode cX3_rows 93 = .ok (.aload_n 0, 1) := by decide +kernel
theorem dX3_rows_94 : decode cX3_rows 94 = .ok (.getfield 70, 3) := by decide +kernel
theorem dX3_rows_97 : decode cX3_rows 97 = .ok (.idiv, 1) := by decide +kernel
theorem dX3_rows_98 : decode cX3_rows 98 = .ok (.baload, 1) := by decide +kernel
theorem dX3_rows_99 : decode cX3_rows 99 = .ok (.ifCond .eq 19, 3) := by decide +kernel
theorem dX3_rows_102 : decode cX3_rows 102 = .ok (.aload_n 0, 1) := by decide +kernel
theorem dX3_rows_103 : decode cX3_rows 103 = .ok (.iload_n 1, 1) := by decide +kernel
theorem dX3_rows_104 : decode cX3_rows 104 = .ok (.invokevirtual 135, 3) := by decide +kernel
theorem dX3_rows_107 : decode cX3_rows 107 = .ok (.istore_n 2, 1) := by decide +kernel
theorem dX3_rows_108 : decode cX3_rows 108 = .ok (.iload_n 2, 1) := by decide +kernel
theorem dX3_rows_109 : decode cX3_rows 109 = .ok (.iconst (-1), 1) := by decide +kernel
theorem dX3_rows_110 : decode cX3_rows 110 = .ok (.if_icmp .eq 8, 3) := by decide +kernel
theorem dX3_rows_113 : decode cX3_rows 113 = .ok (.aload_n 0, 1) := by decide +kernel
theorem dX3_rows_114 : decode cX3_rows 114 = .ok (.iload_n 2, 1) := by decide +kernel
theorem dX3_rows_115 : decode cX3_rows 115 = .ok (.invokevirtual 116, 3) := by decide +kernel
theorem dX3_rows_118 : decode cX3_rows 118 = .ok (.iinc 1 1, 3) := by decide +kernel
theorem dX3_rows_121 : decode cX3_rows 121 = .ok (.goto (-46), 3) := by decide +kernel
theorem dX3_rows_124 : decode cX3_rows 124 = .ok (.iconst 0, 1) := by decide +kernel
theorem dX3_rows_125 : decode cX3_rows 125 = .ok (.istore_n 1, 1) := by decide +kernel
theorem dX3_rows_126 : decode cX3_rows 126 = .ok (.iload_n 1, 1) := by decide +kernel
theorem dX3_rows_127 : decode cX3_rows 127 = .ok (.bipush 32, 2) := by decide +kernel
theorem dX3_rows_129 : decode cX3_rows 129 = .ok (.if_icmp .ge 24, 3) := by decide +kernel
theorem dX3_rows_132 : decode cX3_rows 132 = .ok (.aload_n 0, 1) := by decide +kernel
theorem dX3_rows_133 : decode cX3_rows 133 = .ok (.aload_n 0, 1) := by decide +kernel
theorem dX3_rows_134 : decode cX3_rows 134 = .ok (.getfield 39, 3) := by decide +kernel
theorem dX3_rows_137 : decode cX3_rows 137 = .ok (.iload_n 1, 1) := by decide +kernel
theorem dX3_rows_138 : decode cX3_rows 138 = .ok (.iaload, 1) := by decide +kernel
theorem dX3_rows_139 : decode cX3_rows 139 = .ok (.invokevirtual 138, 3) := by decide +kernel
theorem dX3_rows_142 : decode cX3_rows 142 = .ok (.ifCond .ne 5, 3) := by decide +kernel
theorem dX3_rows_145 : decode cX3_rows 145 = .ok (.iconst 0, 1) := by decide +kernel
theorem dX3_rows_146 : decode cX3_rows 146 = .ok (.ireturn, 1) := by decide +kernel
theorem dX3_rows_147 : decode cX3_rows 147 = .ok (.iinc 1 1, 3) := by decide +kernel
theorem dX3_rows_150 : decode cX3_rows 150 = .ok (.goto (-24), 3) := by decide +kernel
theorem dX3_rows_153 : decode cX3_rows 153 = .ok (.iconst 0, 1) := by decide +kernel
theorem dX3_rows_154 : decode cX3_rows 154 = .ok (.istore_n 1, 1) := by decide +kernel
theorem dX3_rows_155 : decode cX3_rows 155 = .ok (.iload_n 1, 1) := by decide +kernel
theorem dX3_rows_156 : decode cX3_rows 156 = .ok (.aload_n 0, 1) := by decide +kernel
theorem dX3_rows_157 : decode cX3_rows 157 = .ok (.getfield 110, 3) := by decide +kernel
theorem dX3_rows_160 : decode cX3_rows 160 = .ok (.if_icmp .ge 59, 3) := by decide +kernel
theorem dX3_rows_163 : decode cX3_rows 163 = .ok (.iconst 0, 1) := by decide +kernel
theorem dX3_rows_164 : decode cX3_rows 164 = .ok (.istore_n 2, 1) := by decide +kernel
theorem dX3_rows_165 : decode cX3_rows 165 = .ok (.iload_n 2, 1) := by decide +kernel
theorem dX3_rows_166 : decode cX3_rows 166 = .ok (.aload_n 0, 1) := by decide +kernel
theorem dX3_rows_167 : decode cX3_rows 167 = .ok (.getfield 27, 3) := by decide +kernel
theorem dX3_rows_170 : decode cX3_rows 170 = .ok (.aload_n 0, 1) := by decide +kernel
theorem dX3_rows_171 : decode cX3_rows 171 = .ok (.getfield 48, 3) := by decide +kernel
theorem dX3_rows_174 : decode cX3_rows 174 = .ok (.iload_n 1, 1) := by decide +kernel
theorem dX3_rows_175 : decode cX3_rows 175 = .ok (.iaload, 1) := by decide +kernel
theorem dX3_rows_176 : decode cX3_rows 176 = .ok (.iaload, 1) := by decide +kernel
theorem dX3_rows_177 : decode cX3_rows 177 = .ok (.if_icmp .ge 36, 3) := by decide +kernel
theorem dX3_rows_180 : decode cX3_rows 180 = .ok (.aload_n 0, 1) := by decide +kernel
theorem dX3_rows_181 : decode cX3_rows 181 = .ok (.aload_n 0, 1) := by decide +kernel
theorem dX3_rows_182 : decode cX3_rows 182 = .ok (.getfield 36, 3) := by decide +kernel
theorem dX3_rows_185 : decode cX3_rows 185 = .ok (.aload_n 0, 1) := by decide +kernel
theorem dX3_rows_186 : decode cX3_rows 186 = .ok (.getfield 33, 3) := by decide +kernel
theorem dX3_rows_189 : decode cX3_rows 189 = .ok (.aload_n 0, 1) := by decide +kernel
theorem dX3_rows_190 : decode cX3_rows 190 = .ok (.getfield 48, 3) := by decide +kernel
theorem dX3_rows_193 : decode cX3_rows 193 = .ok (.iload_n 1, 1) := by decide +kernel
theorem dX3_rows_194 : decode cX3_rows 194 = .ok (.iaload, 1) := by decide +kernel
theorem dX3_rows_195 : decode cX3_rows 195 = .ok (.iaload, 1) := by decide +kernel
theorem dX3_rows_196 : decode cX3_rows 196 = .ok (.iload_n 2, 1) := by decide +kernel
theorem dX3_rows_197 : decode cX3_rows 197 = .ok (.iadd, 1) := by decide +kernel
theorem dX3_rows_198 : decode cX3_rows 198 = .ok (.iaload, 1) := by decide +kernel
theorem dX3_rows_199 : decode cX3_rows 199 = .ok (.invokevirtual 138, 3) := by decide +kernel
theorem dX3_rows_202 : decode cX3_rows 202 = .ok (.ifCond .ne 5, 3) := by decide +kernel
theorem dX3_rows_205 : decode cX3_rows 205 = .ok (.iconst 0, 1) := by decide +kernel
theorem dX3_rows_206 : decode cX3_rows 206 = .ok (.ireturn, 1) := by decide +kernel
theorem dX3_rows_207 : decode cX3_rows 207 = .ok (.iinc 2 1, 3) := by decide +kernel
theorem dX3_rows_210 : decode cX3_rows 210 = .ok (.goto (-45), 3) := by decide +kernel
theorem dX3_rows_213 : decode cX3_rows 213 = .ok (.iinc 1 1, 3) := by decide +kernel
theorem dX3_rows_216 : decode cX3_rows 216 = .ok (.goto (-61), 3) := by decide +kernel
theorem dX3_rows_219 : decode cX3_rows 219 = .ok (.iconst 1, 1) := by decide +kernel
theorem dX3_rows_220 : decode cX3_rows 220 = .ok (.ireturn, 1) := by decide +kernel
theorem dX3_collected_0 : decode cX3_collected 0 = .ok (.aload_n 0, 1) := by decide +kernel
theorem dX3_collected_1 : decode cX3_collected 1 = .ok (.invokevirtual 141, 3) := by decide +kernel
theorem dX3_collected_4 : decode cX3_collected 4 = .ok (.ifCond .ne 16, 3) := by decide +kernel
theorem dX3_collected_7 : decode cX3_collected 7 = .ok (.aload_n 0, 1) := by decide +kernel
theorem dX3_collected_8 : decode cX3_collected 8 = .ok (.getfield 45, 3) := by decide +kernel
theorem dX3_collected_11 : decode cX3_collected 11 = .ok (.bipush 7, 2) := by decide +kernel
theorem dX3_collected_13 : decode cX3_collected 13 = .ok (.dup2, 1) := by decide +kernel
theorem dX3_collected_14 : decode cX3_collected 14 = .ok (.iaload, 1) := by decide +kernel
theorem dX3_collected_15 : decode cX3_collected 15 = .ok (.iconst 1, 1) := by decide +kernel
theorem dX3_collected_16 : decode cX3_collected 16 = .ok (.iadd, 1) := by decide +kernel
theorem dX3_collected_17 : decode cX3_collected 17 = .ok (.iastore, 1) := by decide +kernel
theorem dX3_collected_18 : decode cX3_collected 18 = .ok (.iconst 0, 1) := by decide +kernel
theorem dX3_collected_19 : decode cX3_collected 19 = .ok (.ireturn, 1) := by decide +kernel
theorem dX3_collected_20 : decode cX3_collected 20 = .ok (.aload_n 0, 1) := by decide +kernel
theorem dX3_collected_21 : decode cX3_collected 21 = .ok (.getfield 45, 3) := by decide +kernel
theorem dX3_collected_24 : decode cX3_collected 24 = .ok (.bipush 6, 2) := by decide +kernel
theorem dX3_collected_26 : decode cX3_collected 26 = .ok (.dup2, 1) := by decide +kernel
theorem dX3_collected_27 : decode cX3_collected 27 = .ok (.iaload, 1) := by decide +kernel
theorem dX3_collected_28 : decode cX3_collected 28 = .ok (.iconst 1, 1) := by decide +kernel
theorem dX3_collected_29 : decode cX3_collected 29 = .ok (.iadd, 1) := by decide +kernel
theorem dX3_collected_30 : decode cX3_collected 30 = .ok (.iastore, 1) := by decide +kernel
theorem dX3_collected_31 : decode cX3_collected 31 = .ok (.aload_n 0, 1) := by decide +kernel
theorem dX3_collected_32 : decode cX3_collected 32 = .ok (.getfield 45, 3) := by decide +kernel
theorem dX3_collected_35 : decode cX3_collected 35 = .ok (.bipush 9, 2) := by decide +kernel
theorem dX3_collected_37 : decode cX3_collected 37 = .ok (.aload_n 0, 1) := by decide +kernel
theorem dX3_collected_38 : decode cX3_collected 38 = .ok (.getfield 110, 3) := by decide +kernel
theorem dX3_collected_41 : decode cX3_collected 41 = .ok (.iastore, 1) := by decide +kernel
theorem dX3_collected_42 : decode cX3_collected 42 = .ok (.aload_n 0, 1) := by decide +kernel
theorem dX3_collected_43 : decode cX3_collected 43 = .ok (.getfield 45, 3) := by decide +kernel
theorem dX3_collected_46 : decode cX3_collected 46 = .ok (.bipush 10, 2) := by decide +kernel
theorem dX3_collected_48 : decode cX3_collected 48 = .ok (.aload_n 0, 1) := by decide +kernel
theorem dX3_collected_49 : decode cX3_collected 49 = .ok (.getfield 129, 3) := by decide +kernel
theorem dX3_collected_52 : decode cX3_collected 52 = .ok (.iastore, 1) := by decide +kernel
theorem dX3_collected_53 : decode cX3_collected 53 = .ok (.aload_n 0, 1) := by decide +kernel
theorem dX3_collected_54 : decode cX3_collected 54 = .ok (.getfield 45, 3) := by decide +kernel
theorem dX3_collected_57 : decode cX3_collected 57 = .ok (.bipush 11, 2) := by decide +kernel
theorem dX3_collected_59 : decode cX3_collected 59 = .ok (.aload_n 0, 1) := by decide +kernel
theorem dX3_collected_60 : decode cX3_collected 60 = .ok (.getfield 126, 3) := by decide +kernel
theorem dX3_collected_63 : decode cX3_collected 63 = .ok (.iastore, 1) := by decide +kernel
theorem dX3_collected_64 : decode cX3_collected 64 = .ok (.aload_n 0, 1) := by decide +kernel
theorem dX3_collected_65 : decode cX3_collected 65 = .ok (.getfield 45, 3) := by decide +kernel
theorem dX3_collected_68 : decode cX3_collected 68 = .ok (.bipush 8, 2) := by decide +kernel
theorem dX3_collected_70 : decode cX3_collected 70 = .ok (.iconst 0, 1) := by decide +kernel
theorem dX3_collected_71 : decode cX3_collected 71 = .ok (.iastore, 1) := by decide +kernel
theorem dX3_collected_72 : decode cX3_collected 72 = .ok (.iconst 0, 1) := by decide +kernel
theorem dX3_collected_73 : decode cX3_collected 73 = .ok (.istore_n 1, 1) := by decide +kernel
theorem dX3_collected_74 : decode cX3_collected 74 = .ok (.iload_n 1, 1) := by decide +kernel
theorem dX3_collected_75 : decode cX3_collected 75 = .ok (.aload_n 0, 1) := by decide +kernel
theorem dX3_collected_76 : decode cX3_collected 76 = .ok (.getfield 67, 3) := by decide +kernel
theorem dX3_collected_79 : decode cX3_collected 79 = .ok (.if_icmp .ge 45, 3) := by decide +kernel
theorem dX3_collected_82 : decode cX3_collected 82 = .ok (.aload_n 0, 1) := by decide +kernel
theorem dX3_collected_83 : decode cX3_collected 83 = .ok (.getfield 20, 3) := by decide +kernel
theorem dX3_collected_86 : decode cX3_collected 86 = .ok (.iload_n 1, 1) := by decide +kernel
theorem dX3_collected_87 : decode cX3_collected 87 = .ok (.aload_n 0, 1) := by decide +kernel
theorem dX3_collected_88 : decode cX3_collected 88 = .ok (.getfield 54, 3) := by decide +kernel
theorem dX3_collected_91 : decode cX3_collected 91 = .ok (.iload_n 1, 1) := by decide +kernel
theorem dX3_collected_92 : decode cX3_collected 92 = .ok (.baload, 1) := by decide +kernel
theorem dX3_collected_93 : decode cX3_collected 93 = .ok (.bastore, 1) := by decide +kernel
theorem dX3_collected_94 : decode cX3_collected 94 = .ok (.aload_n 0, 1) := by decide +kernel
theorem dX3_collected_95 : decode cX3_collected 95 = .ok (.getfield 45, 3) := by decide +kernel
theorem dX3_collected_98 : decode cX3_collected 98 = .ok (.bipush 8, 2) := by decide +kernel
theorem dX3_collected_100 : decode cX3_collected 100 = .ok (.dup2, 1) := by decide +kernel
theorem dX3_collected_101 : decode cX3_collected 101 = .ok (.iaload, 1) := by decide +kernel
theorem dX3_collected_102 : decode cX3_collected 102 = .ok (.aload_n 0, 1) := by decide +kernel
theorem dX3_collected_103 : decode cX3_collected 103 = .ok (.getfield 54, 3) := by decide +kernel
theorem dX3_collected_106 : decode cX3_collected 106 = .ok (.iload_n 1, 1) := by decide +kernel
theorem dX3_collected_107 : decode cX3_collected 107 = .ok (.baload, 1) := by decide +kernel
theorem dX3_collected_108 : decode cX3_collected 108 = .ok (.ifCond .eq 7, 3) := by decide +kernel
theorem dX3_collected_111 : decode cX3_collected 111 = .ok (.iconst 1, 1) := by decide +kernel
theorem dX3_collected_112 : decode cX3_collected 112 = .ok (.goto 4, 3) := by decide +kernel
theorem dX3_collected_115 : decode cX3_collected 115 = .ok (.iconst 0, 1) := by decide +kernel
theorem dX3_collected_116 : decode cX3_collected 116 = .ok (.iadd, 1) := by decide +kernel
theorem dX3_collected_117 : decode cX3_collected 117 = .ok (.iastore, 1) := by decide +kernel
theorem dX3_collected_118 : decode cX3_collected 118 = .ok (.iinc 1 1, 3) := by decide +kernel
theorem dX3_collected_121 : decode cX3_collected 121 = .ok (.goto (-47), 3) := by decide +kernel
theorem dX3_collected_124 : decode cX3_collected 124 = .ok (.iconst 0, 1) := by decide +kernel
theorem dX3_collected_125 : decode cX3_collected 125 = .ok (.istore_n 1, 1) := by decide +kernel
theorem dX3_collected_126 : decode cX3_collected 126 = .ok (.iload_n 1, 1) := by decide +kernel
theorem dX3_collected_127 : decode cX3_collected 127 = .ok (.aload_n 0, 1) := by decide +kernel
theorem dX3_collected_128 : decode cX3_collected 128 = .ok (.getfield 110, 3) := by decide +kernel
theorem dX3_collected_131 : decode cX3_collected 131 = .ok (.if_icmp .ge 77, 3) := by decide +kernel
theorem dX3_collected_134 : decode cX3_collected 134 = .ok (.aload_n 0, 1) := by decide +kernel
theorem dX3_collected_135 : decode cX3_collected 135 = .ok (.getfield 24, 3) := by decide +kernel
theorem dX3_collected_138 : decode cX3_collected 138 = .ok (.aload_n 0, 1) := by decide +kernel
theorem dX3_collected_139 : decode cX3_collected 139 = .ok (.getfield 48, 3) := by decide +kernel
theorem dX3_collected_142 : decode cX3_collected 142 = .ok (.iload_n 1, 1) := by decide +kernel
theorem dX3_collected_143 : decode cX3_collected 143 = .ok (.iaload, 1) := by decide +kernel
theorem dX3_collected_144 : decode cX3_collected 144 = .ok (.iaload, 1) := by decide +kernel
theorem dX3_collected_145 : decode cX3_collected 145 = .ok (.aload_n 0, 1) := by decide +kernel
theorem dX3_collected_146 : decode cX3_collected 146 = .ok (.getfield 70, 3) := by decide +kernel
theorem dX3_collected_149 : decode cX3_collected 149 = .ok (.idiv, 1) := by decide +kernel
theorem dX3_collected_150 : decode cX3_collected 150 = .ok (.istore_n 2, 1) := by decide +kernel
theorem dX3_collected_151 : decode cX3_collected 151 = .ok (.iload_n 2, 1) := by decide +kernel
theorem dX3_collected_152 : decode cX3_collected 152 = .ok (.istore_n 3, 1) := by decide +kernel
theorem dX3_collected_153 : decode cX3_collected 153 = .ok (.iload_n 3, 1) := by decide +kernel
theorem dX3_collected_154 : decode cX3_collected 154 = .ok (.aload_n 0, 1) := by decide +kernel
theorem dX3_collected_155 : decode cX3_collected 155 = .ok (.getfield 67, 3) := by decide +kernel
theorem dX3_collected_158 : decode cX3_collected 158 = .ok (.if_icmp .ge 44, 3) := by decide +kernel
theorem dX3_collected_161 : decode cX3_collected 161 = .ok (.aload_n 0, 1) := by decide +kernel
theorem dX3_collected_162 : decode cX3_collected 162 = .ok (.aload_n 0, 1) := by decide +kernel
theorem dX3_collected_163 : decode cX3_collected 163 = .ok (.getfield 48, 3) := by decide +kernel
theorem dX3_collected_166 : decode cX3_collected 166 = .ok (.iload_n 1, 1) := by decide +kernel
theorem dX3_collected_167 : decode cX3_collected 167 = .ok (.iaload, 1) := by decide +kernel
theorem dX3_collected_168 : decode cX3_collected 168 = .ok (.invokevirtual 113, 3) := by decide +kernel
theorem dX3_collected_171 : decode cX3_collected 171 = .ok (.ifCond .eq 31, 3) := by decide +kernel
theorem dX3_collected_174 : decode cX3_collected 174 = .ok (.iload_n 3, 1) := by decide +kernel
theorem dX3_collected_175 : decode cX3_collected 175 = .ok (.iload_n 2, 1) := by decide +kernel
theorem dX3_collected_176 : decode cX3_collected 176 = .ok (.if_icmp .eq 13, 3) := by decide +kernel
theorem dX3_collected_179 : decode cX3_collected 179 = .ok (.aload_n 0, 1) := by decide +kernel
theorem dX3_collected_180 : decode cX3_collected 180 = .ok (.getfield 13, 3) := by decide +kernel
theorem dX3_collected_183 : decode cX3_collected 183 = .ok (.iload_n 3, 1) := by decide +kernel
theorem dX3_collected_184 : decode cX3_collected 184 = .ok (.iaload, 1) := by decide +kernel
theorem dX3_collected_185 : decode cX3_collected 185 = .ok (.iconst 3, 1) := by decide +kernel
theorem dX3_collected_186 : decode cX3_collected 186 = .ok (.if_icmp .ne 16, 3) := by decide +kernel
theorem dX3_collected_189 : decode cX3_collected 189 = .ok (.aload_n 0, 1) := by decide +kernel
theorem dX3_collected_190 : decode cX3_collected 190 = .ok (.getfield 54, 3) := by decide +kernel
theorem dX3_collected_193 : decode cX3_collected 193 = .ok (.iload_n 3, 1) := by decide +kernel
theorem dX3_collected_194 : decode cX3_collected 194 = .ok (.iconst 1, 1) := by decide +kernel
theorem dX3_collected_195 : decode cX3_collected 195 = .ok (.bastore, 1) := by decide +kernel
theorem dX3_collected_196 : decode cX3_collected 196 = .ok (.iinc 3 1, 3) := by decide +kernel
theorem dX3_collected_199 : decode cX3_collected 199 = .ok (.goto (-46), 3) := by decide +kernel
theorem dX3_collected_202 : decode cX3_collected 202 = .ok (.iinc 1 1, 3) := by decide +kernel
theorem dX3_collected_205 : decode cX3_collected 205 = .ok (.goto (-79), 3) := by decide +kernel
theorem dX3_collected_208 : decode cX3_collected 208 = .ok (.aload_n 0, 1) := by decide +kernel
theorem dX3_collected_209 : decode cX3_collected 209 = .ok (.getfield 45, 3) := by decide +kernel
theorem dX3_collected_212 : decode cX3_collected 212 = .ok (.bipush 12, 2) := by decide +kernel
theorem dX3_collected_214 : decode cX3_collected 214 = .ok (.iconst 0, 1) := by decide +kernel
theorem dX3_collected_215 : decode cX3_collected 215 = .ok (.iastore, 1) := by decide +kernel
theorem dX3_collected_216 : decode cX3_collected 216 = .ok (.iconst 0, 1) := by decide +kernel
theorem dX3_collected_217 : decode cX3_collected 217 = .ok (.istore_n 1, 1) := by decide +kernel
theorem dX3_collected_218 : decode cX3_collected 218 = .ok (.iload_n 1, 1) := by decide +kernel
theorem dX3_collected_219 : decode cX3_collected 219 = .ok (.aload_n 0, 1) := by decide +kernel
theorem dX3_collected_220 : decode cX3_collected 220 = .ok (.getfield 67, 3) := by decide +kernel
theorem dX3_collected_223 : decode cX3_collected 223 = .ok (.if_icmp .ge 85, 3) := by decide +kernel
theorem dX3_collected_226 : decode cX3_collected 226 = .ok (.aload_n 0, 1) := by decide +kernel
theorem dX3_collected_227 : decode cX3_collected 227 = .ok (.getfield 57, 3) := by decide +kernel
theorem dX3_collected_230 : decode cX3_collected 230 = .ok (.iload_n 1, 1) := by decide +kernel
theorem dX3_collected_231 : decode cX3_collected 231 = .ok (.iaload, 1) := by decide +kernel
theorem dX3_collected_232 : decode cX3_collected 232 = .ok (.ifCond .le 27, 3) := by decide +kernel
theorem dX3_collected_235 : decode cX3_collected 235 = .ok (.aload_n 0, 1) := by decide +kernel
theorem dX3_collected_236 : decode cX3_collected 236 = .ok (.getfield 13, 3) := by decide +kernel
theorem dX3_collected_239 : decode cX3_collected 239 = .ok (.iload_n 1, 1) := by decide +kernel
theorem dX3_collected_240 : decode cX3_collected 240 = .ok (.iconst 1, 1) := by decide +kernel
theorem dX3_collected_241 : decode cX3_collected 241 = .ok (.iastore, 1) := by decide +kernel
theorem dX3_collected_242 : decode cX3_collected 242 = .ok (.aload_n 0, 1) := by decide +kernel
theorem dX3_collected_243 : decode cX3_collected 243 = .ok (.getfield 17, 3) := by decide +kernel
theorem dX3_collected_246 : decode cX3_collected 246 = .ok (.iload_n 1, 1) := by decide +kernel
theorem dX3_collected_247 : decode cX3_collected 247 = .ok (.aload_n 0, 1) := by decide +kernel
theorem dX3_collected_248 : decode cX3_collected 248 = .ok (.getfield 57, 3) := by decide +kernel
theorem dX3_collected_251 : decode cX3_collected 251 = .ok (.iload_n 1, 1) := by decide +kernel
theorem dX3_collected_252 : decode cX3_collected 252 = .ok (.iaload, 1) := by decide +kernel
theorem dX3_collected_253 : decode cX3_collected 253 = .ok (.iconst 1, 1) := by decide +kernel
theorem dX3_collected_254 : decode cX3_collected 254 = .ok (.isub, 1) := by decide +kernel
theorem dX3_collected_255 : decode cX3_collected 255 = .ok (.iastore, 1) := by decide +kernel
theorem dX3_collected_256 : decode cX3_collected 256 = .ok (.goto 46, 3) := by decide +kernel
theorem dX3_collected_259 : decode cX3_collected 259 = .ok (.aload_n 0, 1) := by decide +kernel
theorem dX3_collected_260 : decode cX3_collected 260 = .ok (.getfield 13, 3) := by decide +kernel
theorem dX3_collected_263 : decode cX3_collected 263 = .ok (.iload_n 1, 1) := by decide +kernel
theorem dX3_collected_264 : decode cX3_collected 264 = .ok (.iaload, 1) := by decide +kernel
theorem dX3_collected_265 : decode cX3_collected 265 = .ok (.ifCond .eq 37, 3) := by decide +kernel
theorem dX3_collected_268 : decode cX3_collected 268 = .ok (.aload_n 0, 1) := by decide +kernel
theorem dX3_collected_269 : decode cX3_collected 269 = .ok (.getfield 54, 3) := by decide +kernel
theorem dX3_collected_272 : decode cX3_collected 272 = .ok (.iload_n 1, 1) := by decide +kernel
theorem dX3_collected_273 : decode cX3_collected 273 = .ok (.baload, 1) := by decide +kernel
theorem dX3_collected_274 : decode cX3_collected 274 = .ok (.ifCond .ne 28, 3) := by decide +kernel
theorem dX3_collected_277 : decode cX3_collected 277 = .ok (.aload_n 0, 1) := by decide +kernel
theorem dX3_collected_278 : decode cX3_collected 278 = .ok (.getfield 13, 3) := by decide +kernel
theorem dX3_collected_281 : decode cX3_collected 281 = .ok (.iload_n 1, 1) := by decide +kernel
theorem dX3_collected_282 : decode cX3_collected 282 = .ok (.iconst 0, 1) := by decide +kernel
theorem dX3_collected_283 : decode cX3_collected 283 = .ok (.iastore, 1) := by decide +kernel
theorem dX3_collected_284 : decode cX3_collected 284 = .ok (.aload_n 0, 1) := by decide +kernel
theorem dX3_collected_285 : decode cX3_collected 285 = .ok (.getfield 17, 3) := by decide +kernel
theorem dX3_collected_288 : decode cX3_collected 288 = .ok (.iload_n 1, 1) := by decide +kernel
theorem dX3_collected_289 : decode cX3_collected 289 = .ok (.iconst 0, 1) := by decide +kernel
theorem dX3_collected_290 : decode cX3_collected 290 = .ok (.iastore, 1) := by decide +kernel
theorem dX3_collected_291 : decode cX3_collected 291 = .ok (.aload_n 0, 1) := by decide +kernel
theorem dX3_collected_292 : decode cX3_collected 292 = .ok (.getfield 45, 3) := by decide +kernel
theorem dX3_collected_295 : decode cX3_collected 295 = .ok (.bipush 12, 2) := by decide +kernel
theorem dX3_collected_297 : decode cX3_collected 297 = .ok (.dup2, 1) := by decide +kernel
theorem dX3_collected_298 : decode cX3_collected 298 = .ok (.iaload, 1) := by decide +kernel
theorem dX3_collected_299 : decode cX3_collected 299 = .ok (.iconst 1, 1) := by decide +kernel
theorem dX3_collected_300 : decode cX3_collected 300 = .ok (.iadd, 1) := by decide +kernel
theorem dX3_collected_301 : decode cX3_collected 301 = .ok (.iastore, 1) := by decide +kernel
theorem dX3_collected_302 : decode cX3_collected 302 = .ok (.iinc 1 1, 3) := by decide +kernel
theorem dX3_collected_305 : decode cX3_collected 305 = .ok (.goto (-87), 3) := by decide +kernel
theorem dX3_collected_308 : decode cX3_collected 308 = .ok (.aload_n 0, 1) := by decide +kernel
theorem dX3_collected_309 : decode cX3_collected 309 = .ok (.aload_n 0, 1) := by decide +kernel
theorem dX3_collected_310 : decode cX3_collected 310 = .ok (.getfield 120, 3) := by decide +kernel
theorem dX3_collected_313 : decode cX3_collected 313 = .ok (.putfield 73, 3) := by decide +kernel
theorem dX3_collected_316 : decode cX3_collected 316 = .ok (.aload_n 0, 1) := by decide +kernel
theorem dX3_collected_317 : decode cX3_collected 317 = .ok (.invokevirtual 144, 3) := by decide +kernel
theorem dX3_collected_320 : decode cX3_collected 320 = .ok (.iconst 1, 1) := by decide +kernel
theorem dX3_collected_321 : decode cX3_collected 321 = .ok (.ireturn, 1) := by decide +kernel
theorem dX3_goes_0 : decode cX3_goes 0 = .ok (.iconst 0, 1) := by decide +kernel
theorem dX3_goes_1 : decode cX3_goes 1 = .ok (.istore_n 1, 1) := by decide +kernel
theorem dX3_goes_2 : decode cX3_goes 2 = .ok (.iconst 0, 1) := by decide +kernel
theorem dX3_goes_3 : decode cX3_goes 3 = .ok (.istore_n 2, 1) := by decide +kernel
theorem dX3_goes_4 : decode cX3_goes 4 = .ok (.iload_n 2, 1) := by decide +kernel
theorem dX3_goes_5 : decode cX3_goes 5 = .ok (.aload_n 0, 1) := by decide +kernel
theorem dX3_goes_6 : decode cX3_goes 6 = .ok (.getfield 76, 3) := by decide +kernel
theorem dX3_goes_9 : decode cX3_goes 9 = .ok (.if_icmp .ge 48, 3) := by decide +kernel
theorem dX3_goes_12 : decode cX3_goes 12 = .ok (.aload_n 0, 1) := by decide +kernel
theorem dX3_goes_13 : decode cX3_goes 13 = .ok (.getfield 60, 3) := by decide +kernel
theorem dX3_goes_16 : decode cX3_goes 16 = .ok (.iload_n 2, 1) := by decide +kernel
theorem dX3_goes_17 : decode cX3_goes 17 = .ok (.aload_n 0, 1) := by decide +kernel
theorem dX3_goes_18 : decode cX3_goes 18 = .ok (.getfield 51, 3) := by decide +kernel
theorem dX3_goes_21 : decode cX3_goes 21 = .ok (.iload_n 2, 1) := by decide +kernel
theorem dX3_goes_22 : decode cX3_goes 22 = .ok (.iaload, 1) := by decide +kernel
theorem dX3_goes_23 : decode cX3_goes 23 = .ok (.iconst (-1), 1) := by decide +kernel
theorem dX3_goes_24 : decode cX3_goes 24 = .ok (.if_icmp .ne 7, 3) := by decide +kernel
theorem dX3_goes_27 : decode cX3_goes 27 = .ok (.iconst (-1), 1) := by decide +kernel
theorem dX3_goes_28 : decode cX3_goes 28 = .ok (.goto 4, 3) := by decide +kernel
theorem dX3_goes_31 : decode cX3_goes 31 = .ok (.iload_n 1, 1) := by decide +kernel
theorem dX3_goes_32 : decode cX3_goes 32 = .ok (.iastore, 1) := by decide +kernel
theorem dX3_goes_33 : decode cX3_goes 33 = .ok (.iload_n 1, 1) := by decide +kernel
theorem dX3_goes_34 : decode cX3_goes 34 = .ok (.aload_n 0, 1) := by decide +kernel
theorem dX3_goes_35 : decode cX3_goes 35 = .ok (.getfield 51, 3) := by decide +kernel
theorem dX3_goes_38 : decode cX3_goes 38 = .ok (.iload_n 2, 1) := by decide +kernel
theorem dX3_goes_39 : decode cX3_goes 39 = .ok (.iaload, 1) := by decide +kernel
theorem dX3_goes_40 : decode cX3_goes 40 = .ok (.iconst (-1), 1) := by decide +kernel
theorem dX3_goes_41 : decode cX3_goes 41 = .ok (.if_icmp .ne 7, 3) := by decide +kernel
theorem dX3_goes_44 : decode cX3_goes 44 = .ok (.iconst 0, 1) := by decide +kernel
theorem dX3_goes_45 : decode cX3_goes 45 = .ok (.goto 4, 3) := by decide +kernel
theorem dX3_goes_48 : decode cX3_goes 48 = .ok (.iconst 1, 1) := by decide +kernel
theorem dX3_goes_49 : decode cX3_goes 49 = .ok (.iadd, 1) := by decide +kernel
theorem dX3_goes_50 : decode cX3_goes 50 = .ok (.istore_n 1, 1) := by decide +kernel
theorem dX3_goes_51 : decode cX3_goes 51 = .ok (.iinc 2 1, 3) := by decide +kernel
theorem dX3_goes_54 : decode cX3_goes 54 = .ok (.goto (-50), 3) := by decide +kernel
theorem dX3_goes_57 : decode cX3_goes 57 = .ok (.iconst 0, 1) := by decide +kernel
theorem dX3_goes_58 : decode cX3_goes 58 = .ok (.istore_n 2, 1) := by decide +kernel
theorem dX3_goes_59 : decode cX3_goes 59 = .ok (.iload_n 2, 1) := by decide +kernel
theorem dX3_goes_60 : decode cX3_goes 60 = .ok (.bipush 32, 2) := by decide +kernel
theorem dX3_goes_62 : decode cX3_goes 62 = .ok (.if_icmp .ge 40, 3) := by decide +kernel
theorem dX3_goes_65 : decode cX3_goes 65 = .ok (.aload_n 0, 1) := by decide +kernel
theorem dX3_goes_66 : decode cX3_goes 66 = .ok (.getfield 39, 3) := by decide +kernel
theorem dX3_goes_69 : decode cX3_goes 69 = .ok (.iload_n 2, 1) := by decide +kernel
theorem dX3_goes_70 : decode cX3_goes 70 = .ok (.aload_n 0, 1) := by decide +kernel
theorem dX3_goes_71 : decode cX3_goes 71 = .ok (.getfield 39, 3) := by decide +kernel
theorem dX3_goes_74 : decode cX3_goes 74 = .ok (.iload_n 2, 1) := by decide +kernel
theorem dX3_goes_75 : decode cX3_goes 75 = .ok (.iaload, 1) := by decide +kernel
theorem dX3_goes_76 : decode cX3_goes 76 = .ok (.iconst (-1), 1) := by decide +kernel
theorem dX3_goes_77 : decode cX3_goes 77 = .ok (.if_icmp .ne 7, 3) := by decide +kernel
theorem dX3_goes_80 : decode cX3_goes 80 = .ok (.iconst (-1), 1) := by decide +kernel
theorem dX3_goes_81 : decode cX3_goes 81 = .ok (.goto 14, 3) := by decide +kernel
theorem dX3_goes_84 : decode cX3_goes 84 = .ok (.aload_n 0, 1) := by decide +kernel
theorem dX3_goes_85 : decode cX3_goes 85 = .ok (.getfield 60, 3) := by decide +kernel
theorem dX3_goes_88 : decode cX3_goes 88 = .ok (.aload_n 0, 1) := by decide +kernel
theorem dX3_goes_89 : decode cX3_goes 89 = .ok (.getfield 39, 3) := by decide +kernel
theorem dX3_goes_92 : decode cX3_goes 92 = .ok (.iload_n 2, 1) := by decide +kernel
theorem dX3_goes_93 : decode cX3_goes 93 = .ok (.iaload, 1) := by decide +kernel
theorem dX3_goes_94 : decode cX3_goes 94 = .ok (.iaload, 1) := by decide +kernel
theorem dX3_goes_95 : decode cX3_goes 95 = .ok (.iastore, 1) := by decide +kernel
theorem dX3_goes_96 : decode cX3_goes 96 = .ok (.iinc 2 1, 3) := by decide +kernel
theorem dX3_goes_99 : decode cX3_goes 99 = .ok (.goto (-40), 3) := by decide +kernel
theorem dX3_goes_102 : decode cX3_goes 102 = .ok (.iconst 0, 1) := by decide +kernel
theorem dX3_goes_103 : decode cX3_goes 103 = .ok (.istore_n 2, 1) := by decide +kernel
theorem dX3_goes_104 : decode cX3_goes 104 = .ok (.iconst 0, 1) := by decide +kernel
theorem dX3_goes_105 : decode cX3_goes 105 = .ok (.istore_n 3, 1) := by decide +kernel
theorem dX3_goes_106 : decode cX3_goes 106 = .ok (.iload_n 3, 1) := by decide +kernel
theorem dX3_goes_107 : decode cX3_goes 107 = .ok (.aload_n 0, 1) := by decide +kernel
theorem dX3_goes_108 : decode cX3_goes 108 = .ok (.getfield 76, 3) := by decide +kernel
theorem dX3_goes_111 : decode cX3_goes 111 = .ok (.if_icmp .ge 161, 3) := by decide +kernel
theorem dX3_goes_114 : decode cX3_goes 114 = .ok (.aload_n 0, 1) := by decide +kernel
theorem dX3_goes_115 : decode cX3_goes 115 = .ok (.getfield 60, 3) := by decide +kernel
theorem dX3_goes_118 : decode cX3_goes 118 = .ok (.iload_n 3, 1) := by decide +kernel
theorem dX3_goes_119 : decode cX3_goes 119 = .ok (.iaload, 1) := by decide +kernel
theorem dX3_goes_120 : decode cX3_goes 120 = .ok (.istore 4, 2) := by decide +kernel
theorem dX3_goes_122 : decode cX3_goes 122 = .ok (.iload 4, 2) := by decide +kernel
theorem dX3_goes_124 : decode cX3_goes 124 = .ok (.iconst (-1), 1) := by decide +kernel
theorem dX3_goes_125 : decode cX3_goes 125 = .ok (.if_icmp .ne 6, 3) := by decide +kernel
theorem dX3_goes_128 : decode cX3_goes 128 = .ok (.goto 138, 3) := by decide +kernel
theorem dX3_goes_131 : decode cX3_goes 131 = .ok (.aload_n 0, 1) := by decide +kernel
theorem dX3_goes_132 : decode cX3_goes 132 = .ok (.getfield 33, 3) := by decide +kernel
theorem dX3_goes_135 : decode cX3_goes 135 = .ok (.iload_n 3, 1) := by decide +kernel
theorem dX3_goes_136 : decode cX3_goes 136 = .ok (.iaload, 1) := by decide +kernel
theorem dX3_goes_137 : decode cX3_goes 137 = .ok (.istore 5, 2) := by decide +kernel
theorem dX3_goes_139 : decode cX3_goes 139 = .ok (.aload_n 0, 1) := by decide +kernel
theorem dX3_goes_140 : decode cX3_goes 140 = .ok (.getfield 27, 3) := by decide +kernel
theorem dX3_goes_143 : decode cX3_goes 143 = .ok (.iload_n 3, 1) := by decide +kernel
theorem dX3_goes_144 : decode cX3_goes 144 = .ok (.iaload, 1) := by decide +kernel
theorem dX3_goes_145 : decode cX3_goes 145 = .ok (.aload_n 0, 1) := by decide +kernel
theorem dX3_goes_146 : decode cX3_goes 146 = .ok (.getfield 30, 3) := by decide +kernel
theorem dX3_goes_149 : decode cX3_goes 149 = .ok (.iload_n 3, 1) := by decide +kernel
theorem dX3_goes_150 : decode cX3_goes 150 = .ok (.iaload, 1) := by decide +kernel
theorem dX3_goes_151 : decode cX3_goes 151 = .ok (.iadd, 1) := by decide +kernel
theorem dX3_goes_152 : decode cX3_goes 152 = .ok (.istore 6, 2) := by decide +kernel
theorem dX3_goes_154 : decode cX3_goes 154 = .ok (.aload_n 0, 1) := by decide +kernel
theorem dX3_goes_155 : decode cX3_goes 155 = .ok (.getfield 27, 3) := by decide +kernel
theorem dX3_goes_158 : decode cX3_goes 158 = .ok (.iload_n 3, 1) := by decide +kernel
theorem dX3_goes_159 : decode cX3_goes 159 = .ok (.iaload, 1) := by decide +kernel
theorem dX3_goes_160 : decode cX3_goes 160 = .ok (.istore 7, 2) := by decide +kernel
theorem dX3_goes_162 : decode cX3_goes 162 = .ok (.aload_n 0, 1) := by decide +kernel
theorem dX3_goes_163 : decode cX3_goes 163 = .ok (.getfield 24, 3) := by decide +kernel
theorem dX3_goes_166 : decode cX3_goes 166 = .ok (.iload 4, 2) := by decide +kernel
theorem dX3_goes_168 : decode cX3_goes 168 = .ok (.aload_n 0, 1) := by decide +kernel
theorem dX3_goes_169 : decode cX3_goes 169 = .ok (.getfield 51, 3) := by decide +kernel
theorem dX3_goes_172 : decode cX3_goes 172 = .ok (.iload_n 3, 1) := by decide +kernel
theorem dX3_goes_173 : decode cX3_goes 173 = .ok (.iaload, 1) := by decide +kernel
theorem dX3_goes_174 : decode cX3_goes 174 = .ok (.iastore, 1) := by decide +kernel
theorem dX3_goes_175 : decode cX3_goes 175 = .ok (.aload_n 0, 1) := by decide +kernel
theorem dX3_goes_176 : decode cX3_goes 176 = .ok (.getfield 27, 3) := by decide +kernel
theorem dX3_goes_179 : decode cX3_goes 179 = .ok (.iload 4, 2) := by decide +kernel
theorem dX3_goes_181 : decode cX3_goes 181 = .ok (.iload 7, 2) := by decide +kernel
theorem dX3_goes_183 : decode cX3_goes 183 = .ok (.iastore, 1) := by decide +kernel
theorem dX3_goes_184 : decode cX3_goes 184 = .ok (.aload_n 0, 1) := by decide +kernel
theorem dX3_goes_185 : decode cX3_goes 185 = .ok (.getfield 30, 3) := by decide +kernel
theorem dX3_goes_188 : decode cX3_goes 188 = .ok (.iload 4, 2) := by decide +kernel
theorem dX3_goes_190 : decode cX3_goes 190 = .ok (.iload 6, 2) := by decide +kernel
theorem dX3_goes_192 : decode cX3_goes 192 = .ok (.iload 7, 2) := by decide +kernel
theorem dX3_goes_194 : decode cX3_goes 194 = .ok (.isub, 1) := by decide +kernel
theorem dX3_goes_195 : decode cX3_goes 195 = .ok (.iastore, 1) := by decide +kernel
theorem dX3_goes_196 : decode cX3_goes 196 = .ok (.aload_n 0, 1) := by decide +kernel
theorem dX3_goes_197 : decode cX3_goes 197 = .ok (.getfield 33, 3) := by decide +kernel
theorem dX3_goes_200 : decode cX3_goes 200 = .ok (.iload 4, 2) := by decide +kernel
theorem dX3_goes_202 : decode cX3_goes 202 = .ok (.iload_n 2, 1) := by decide +kernel
theorem dX3_goes_203 : decode cX3_goes 203 = .ok (.iastore, 1) := by decide +kernel
theorem dX3_goes_204 : decode cX3_goes 204 = .ok (.iconst 0, 1) := by decide +kernel
theorem dX3_goes_205 : decode cX3_goes 205 = .ok (.istore 8, 2) := by decide +kernel
theorem dX3_goes_207 : decode cX3_goes 207 = .ok (.iload 8, 2) := by decide +kernel
theorem dX3_goes_209 : decode cX3_goes 209 = .ok (.iload 6, 2) := by decide +kernel
theorem dX3_goes_211 : decode cX3_goes 211 = .ok (.if_icmp .ge 55, 3) := by decide +kernel
theorem dX3_goes_214 : decode cX3_goes 214 = .ok (.aload_n 0, 1) := by decide +kernel
theorem dX3_goes_215 : decode cX3_goes 215 = .ok (.getfield 36, 3) := by decide +kernel
theorem dX3_goes_218 : decode cX3_goes 218 = .ok (.iload 5, 2) := by decide +kernel
theorem dX3_goes_220 : decode cX3_goes 220 = .ok (.iload 8, 2) := by decide +kernel
theorem dX3_goes_222 : decode cX3_goes 222 = .ok (.iadd, 1) := by decide +kernel
theorem dX3_goes_223 : decode cX3_goes 223 = .ok (.iaload, 1) := by decide +kernel
theorem dX3_goes_224 : decode cX3_goes 224 = .ok (.istore 9, 2) := by decide +kernel
theorem dX3_goes_226 : decode cX3_goes 226 = .ok (.aload_n 0, 1) := by decide +kernel
theorem dX3_goes_227 : decode cX3_goes 227 = .ok (.getfield 36, 3) := by decide +kernel
theorem dX3_goes_230 : decode cX3_goes 230 = .ok (.iload_n 2, 1) := by decide +kernel
theorem dX3_goes_231 : decode cX3_goes 231 = .ok (.iload 8, 2) := by decide +kernel
theorem dX3_goes_233 : decode cX3_goes 233 = .ok (.iload 7, 2) := by decide +kernel
theorem dX3_goes_235 : decode cX3_goes 235 = .ok (.if_icmp .ge 19, 3) := by decide +kernel
theorem dX3_goes_238 : decode cX3_goes 238 = .ok (.iload 9, 2) := by decide +kernel
theorem dX3_goes_240 : decode cX3_goes 240 = .ok (.iconst (-1), 1) := by decide +kernel
theorem dX3_goes_241 : decode cX3_goes 241 = .ok (.if_icmp .eq 13, 3) := by decide +kernel
theorem dX3_goes_244 : decode cX3_goes 244 = .ok (.aload_n 0, 1) := by decide +kernel
theorem dX3_goes_245 : decode cX3_goes 245 = .ok (.getfield 60, 3) := by decide +kernel
theorem dX3_goes_248 : decode cX3_goes 248 = .ok (.iload 9, 2) := by decide +kernel
theorem dX3_goes_250 : decode cX3_goes 250 = .ok (.iaload, 1) := by decide +kernel
theorem dX3_goes_251 : decode cX3_goes 251 = .ok (.goto 5, 3) := by decide +kernel
theorem dX3_goes_254 : decode cX3_goes 254 = .ok (.iload 9, 2) := by decide +kernel
theorem dX3_goes_256 : decode cX3_goes 256 = .ok (.iastore, 1) := by decide +kernel
theorem dX3_goes_257 : decode cX3_goes 257 = .ok (.iinc 2 1, 3) := by decide +kernel
theorem dX3_goes_260 : decode cX3_goes 260 = .ok (.iinc 8 1, 3) := by decide +kernel
theorem dX3_goes_263 : decode cX3_goes 263 = .ok (.goto (-56), 3) := by decide +kernel
theorem dX3_goes_266 : decode cX3_goes 266 = .ok (.iinc 3 1, 3) := by decide +kernel
theorem dX3_goes_269 : decode cX3_goes 269 = .ok (.goto (-163), 3) := by decide +kernel
theorem dX3_goes_272 : decode cX3_goes 272 = .ok (.aload_n 0, 1) := by decide +kernel
theorem dX3_goes_273 : decode cX3_goes 273 = .ok (.iload_n 1, 1) := by decide +kernel
theorem dX3_goes_274 : decode cX3_goes 274 = .ok (.putfield 76, 3) := by decide +kernel
theorem dX3_goes_277 : decode cX3_goes 277 = .ok (.aload_n 0, 1) := by decide +kernel
theorem dX3_goes_278 : decode cX3_goes 278 = .ok (.iload_n 2, 1) := by decide +kernel
theorem dX3_goes_279 : decode cX3_goes 279 = .ok (.putfield 79, 3) := by decide +kernel
theorem dX3_goes_282 : decode cX3_goes 282 = .ok (.return_, 1) := by decide +kernel
theorem dX3_collect_0 : decode cX3_collect 0 = .ok (.aload_n 0, 1) := by decide +kernel
theorem dX3_collect_1 : decode cX3_collect 1 = .ok (.iconst 0, 1) := by decide +kernel
theorem dX3_collect_2 : decode cX3_collect 2 = .ok (.putfield 1, 3) := by decide +kernel
theorem dX3_collect_5 : decode cX3_collect 5 = .ok (.aload_n 0, 1) := by decide +kernel
theorem dX3_collect_6 : decode cX3_collect 6 = .ok (.invokevirtual 103, 3) := by decide +kernel
theorem dX3_collect_9 : decode cX3_collect 9 = .ok (.ifCond .eq 10, 3) := by decide +kernel
theorem dX3_collect_12 : decode cX3_collect 12 = .ok (.aload_n 0, 1) := by decide +kernel
theorem dX3_collect_13 : decode cX3_collect 13 = .ok (.invokevirtual 86, 3) := by decide +kernel
theorem dX3_collect_16 : decode cX3_collect 16 = .ok (.goto 4, 3) := by decide +kernel
theorem dX3_collect_19 : decode cX3_collect 19 = .ok (.iconst (-1), 1) := by decide +kernel
theorem dX3_collect_20 : decode cX3_collect 20 = .ok (.ireturn, 1) := by decide +kernel
theorem dX3_at_0 : decode cX3_at 0 = .ok (.iconst 0, 1) := by decide +kernel
theorem dX3_at_1 : decode cX3_at 1 = .ok (.istore_n 2, 1) := by decide +kernel
theorem dX3_at_2 : decode cX3_at 2 = .ok (.iload_n 2, 1) := by decide +kernel
theorem dX3_at_3 : decode cX3_at 3 = .ok (.aload_n 0, 1) := by decide +kernel
theorem dX3_at_4 : decode cX3_at 4 = .ok (.getfield 76, 3) := by decide +kernel
theorem dX3_at_7 : decode cX3_at 7 = .ok (.if_icmp .ge 21, 3) := by decide +kernel
theorem dX3_at_10 : decode cX3_at 10 = .ok (.aload_n 0, 1) := by decide +kernel
theorem dX3_at_11 : decode cX3_at 11 = .ok (.getfield 24, 3) := by decide +kernel
theorem dX3_at_14 : decode cX3_at 14 = .ok (.iload_n 2, 1) := by decide +kernel
theorem dX3_at_15 : decode cX3_at 15 = .ok (.iaload, 1) := by decide +kernel
theorem dX3_at_16 : decode cX3_at 16 = .ok (.iload_n 1, 1) := by decide +kernel
theorem dX3_at_17 : decode cX3_at 17 = .ok (.if_icmp .ne 5, 3) := by decide +kernel
theorem dX3_at_20 : decode cX3_at 20 = .ok (.iload_n 2, 1) := by decide +kernel
theorem dX3_at_21 : decode cX3_at 21 = .ok (.ireturn, 1) := by decide +kernel
theorem dX3_at_22 : decode cX3_at 22 = .ok (.iinc 2 1, 3) := by decide +kernel
theorem dX3_at_25 : decode cX3_at 25 = .ok (.goto (-23), 3) := by decide +kernel
theorem dX3_at_28 : decode cX3_at 28 = .ok (.iconst (-1), 1) := by decide +kernel
theorem dX3_at_29 : decode cX3_at 29 = .ok (.ireturn, 1) := by decide +kernel
theorem dX3_addressOf_0 : decode cX3_addressOf 0 = .ok (.iload_n 1, 1) := by decide +kernel
theorem dX3_addressOf_1 : decode cX3_addressOf 1 = .ok (.iconst (-1), 1) := by decide +kernel
theorem dX3_addressOf_2 : decode cX3_addressOf 2 = .ok (.if_icmp .ne 7, 3) := by decide +kernel
theorem dX3_addressOf_5 : decode cX3_addressOf 5 = .ok (.iconst (-1), 1) := by decide +kernel
theorem dX3_addressOf_6 : decode cX3_addressOf 6 = .ok (.goto 9, 3) := by decide +kernel
theorem dX3_addressOf_9 : decode cX3_addressOf 9 = .ok (.aload_n 0, 1) := by decide +kernel
theorem dX3_addressOf_10 : decode cX3_addressOf 10 = .ok (.getfield 24, 3) := by decide +kernel
theorem dX3_addressOf_13 : decode cX3_addressOf 13 = .ok (.iload_n 1, 1) := by decide +kernel
theorem dX3_addressOf_14 : decode cX3_addressOf 14 = .ok (.iaload, 1) := by decide +kernel
theorem dX3_addressOf_15 : decode cX3_addressOf 15 = .ok (.ireturn, 1) := by decide +kernel
theorem dX3_copy_0 : decode cX3_copy 0 = .ok (.aload_n 0, 1) := by decide +kernel
theorem dX3_copy_1 : decode cX3_copy 1 = .ok (.iconst 0, 1) := by decide +kernel
theorem dX3_copy_2 : decode cX3_copy 2 = .ok (.putfield 1, 3) := by decide +kernel
theorem dX3_copy_5 : decode cX3_copy 5 = .ok (.iload_n 1, 1) := by decide +kernel
theorem dX3_copy_6 : decode cX3_copy 6 = .ok (.invokestatic 96, 3) := by decide +kernel
theorem dX3_copy_9 : decode cX3_copy 9 = .ok (.ifCond .eq 10, 3) := by decide +kernel
theorem dX3_copy_12 : decode cX3_copy 12 = .ok (.iload_n 2, 1) := by decide +kernel
theorem dX3_copy_13 : decode cX3_copy 13 = .ok (.invokestatic 96, 3) := by decide +kernel
theorem dX3_copy_16 : decode cX3_copy 16 = .ok (.ifCond .ne 9, 3) := by decide +kernel
theorem dX3_copy_19 : decode cX3_copy 19 = .ok (.aload_n 0, 1) := by decide +kernel
theorem dX3_copy_20 : decode cX3_copy 20 = .ok (.iconst 1, 1) := by decide +kernel
theorem dX3_copy_21 : decode cX3_copy 21 = .ok (.putfield 1, 3) := by decide +kernel
theorem dX3_copy_24 : decode cX3_copy 24 = .ok (.return_, 1) := by decide +kernel
theorem dX3_copy_25 : decode cX3_copy 25 = .ok (.aload_n 0, 1) := by decide +kernel
theorem dX3_copy_26 : decode cX3_copy 26 = .ok (.getfield 39, 3) := by decide +kernel
theorem dX3_copy_29 : decode cX3_copy 29 = .ok (.iload_n 2, 1) := by decide +kernel
theorem dX3_copy_30 : decode cX3_copy 30 = .ok (.aload_n 0, 1) := by decide +kernel
theorem dX3_copy_31 : decode cX3_copy 31 = .ok (.getfield 39, 3) := by decide +kernel
theorem dX3_copy_34 : decode cX3_copy 34 = .ok (.iload_n 1, 1) := by decide +kernel
theorem dX3_copy_35 : decode cX3_copy 35 = .ok (.iaload, 1) := by decide +kernel
theorem dX3_copy_36 : decode cX3_copy 36 = .ok (.iastore, 1) := by decide +kernel
theorem dX3_copy_37 : decode cX3_copy 37 = .ok (.return_, 1) := by decide +kernel
theorem dX3_drop_0 : decode cX3_drop 0 = .ok (.aload_n 0, 1) := by decide +kernel
theorem dX3_drop_1 : decode cX3_drop 1 = .ok (.iconst 0, 1) := by decide +kernel
theorem dX3_drop_2 : decode cX3_drop 2 = .ok (.putfield 1, 3) := by decide +kernel
theorem dX3_drop_5 : decode cX3_drop 5 = .ok (.iload_n 1, 1) := by decide +kernel
theorem dX3_drop_6 : decode cX3_drop 6 = .ok (.invokestatic 96, 3) := by decide +kernel
theorem dX3_drop_9 : decode cX3_drop 9 = .ok (.ifCond .ne 9, 3) := by decide +kernel
theorem dX3_drop_12 : decode cX3_drop 12 = .ok (.aload_n 0, 1) := by decide +kernel
theorem dX3_drop_13 : decode cX3_drop 13 = .ok (.iconst 1, 1) := by decide +kernel
theorem dX3_drop_14 : decode cX3_drop 14 = .ok (.putfield 1, 3) := by decide +kernel
theorem dX3_drop_17 : decode cX3_drop 17 = .ok (.return_, 1) := by decide +kernel
theorem dX3_drop_18 : decode cX3_drop 18 = .ok (.aload_n 0, 1) := by decide +kernel
theorem dX3_drop_19 : decode cX3_drop 19 = .ok (.getfield 39, 3) := by decide +kernel
theorem dX3_drop_22 : decode cX3_drop 22 = .ok (.iload_n 1, 1) := by decide +kernel
theorem dX3_drop_23 : decode cX3_drop 23 = .ok (.iconst (-1), 1) := by decide +kernel
theorem dX3_drop_24 : decode cX3_drop 24 = .ok (.iastore, 1) := by decide +kernel
theorem dX3_drop_25 : decode cX3_drop 25 = .ok (.return_, 1) := by decide +kernel
theorem dX3_wrong_0 : decode cX3_wrong 0 = .ok (.iload_n 1, 1) := by decide +kernel
theorem dX3_wrong_1 : decode cX3_wrong 1 = .ok (.invokestatic 96, 3) := by decide +kernel
theorem dX3_wrong_4 : decode cX3_wrong 4 = .ok (.ifCond .eq 10, 3) := by decide +kernel
theorem dX3_wrong_7 : decode cX3_wrong 7 = .ok (.iload_n 3, 1) := by decide +kernel
theorem dX3_wrong_8 : decode cX3_wrong 8 = .ok (.invokestatic 96, 3) := by decide +kernel
theorem dX3_wrong_11 : decode cX3_wrong 11 = .ok (.ifCond .ne 5, 3) := by decide +kernel
theorem dX3_wrong_14 : decode cX3_wrong 14 = .ok (.iconst 1, 1) := by decide +kernel
theorem dX3_wrong_15 : decode cX3_wrong 15 = .ok (.ireturn, 1) := by decide +kernel
theorem dX3_wrong_16 : decode cX3_wrong 16 = .ok (.aload_n 0, 1) := by decide +kernel
theorem dX3_wrong_17 : decode cX3_wrong 17 = .ok (.getfield 39, 3) := by decide +kernel
theorem dX3_wrong_20 : decode cX3_wrong 20 = .ok (.iload_n 1, 1) := by decide +kernel
theorem dX3_wrong_21 : decode cX3_wrong 21 = .ok (.iaload, 1) := by decide +kernel
theorem dX3_wrong_22 : decode cX3_wrong 22 = .ok (.iconst (-1), 1) := by decide +kernel
theorem dX3_wrong_23 : decode cX3_wrong 23 = .ok (.if_icmp .ne 5, 3) := by decide +kernel
theorem dX3_wrong_26 : decode cX3_wrong 26 = .ok (.iconst 2, 1) := by decide +kernel
theorem dX3_wrong_27 : decode cX3_wrong 27 = .ok (.ireturn, 1) := by decide +kernel
theorem dX3_wrong_28 : decode cX3_wrong 28 = .ok (.iload_n 2, 1) := by decide +kernel
theorem dX3_wrong_29 : decode cX3_wrong 29 = .ok (.ifCond .lt 18, 3) := by decide +kernel
theorem dX3_wrong_32 : decode cX3_wrong 32 = .ok (.iload_n 2, 1) := by decide +kernel
theorem dX3_wrong_33 : decode cX3_wrong 33 = .ok (.aload_n 0, 1) := by decide +kernel
theorem dX3_wrong_34 : decode cX3_wrong 34 = .ok (.getfield 27, 3) := by decide +kernel
theorem dX3_wrong_37 : decode cX3_wrong 37 = .ok (.aload_n 0, 1) := by decide +kernel
theorem dX3_wrong_38 : decode cX3_wrong 38 = .ok (.getfield 39, 3) := by decide +kernel
theorem dX3_wrong_41 : decode cX3_wrong 41 = .ok (.iload_n 1, 1) := by decide +kernel
theorem dX3_wrong_42 : decode cX3_wrong 42 = .ok (.iaload, 1) := by decide +kernel
theorem dX3_wrong_43 : decode cX3_wrong 43 = .ok (.iaload, 1) := by decide +kernel
theorem dX3_wrong_44 : decode cX3_wrong 44 = .ok (.if_icmp .lt 7, 3) := by decide +kernel
theorem dX3_wrong_47 : decode cX3_wrong 47 = .ok (.iconst 3, 1) := by decide +kernel
theorem dX3_wrong_48 : decode cX3_wrong 48 = .ok (.goto 4, 3) := by decide +kernel
theorem dX3_wrong_51 : decode cX3_wrong 51 = .ok (.iconst 0, 1) := by decide +kernel
theorem dX3_wrong_52 : decode cX3_wrong 52 = .ok (.ireturn, 1) := by decide +kernel
theorem dX3_link_0 : decode cX3_link 0 = .ok (.aload_n 0, 1) := by decide +kernel
theorem dX3_link_1 : decode cX3_link 1 = .ok (.aload_n 0, 1) := by decide +kernel
theorem dX3_link_2 : decode cX3_link 2 = .ok (.iload_n 1, 1) := by decide +kernel
theorem dX3_link_3 : decode cX3_link 3 = .ok (.iload_n 2, 1) := by decide +kernel
theorem dX3_link_4 : decode cX3_link 4 = .ok (.iload_n 3, 1) := by decide +kernel
theorem dX3_link_5 : decode cX3_link 5 = .ok (.invokevirtual 147, 3) := by decide +kernel
theorem dX3_link_8 : decode cX3_link 8 = .ok (.putfield 1, 3) := by decide +kernel
theorem dX3_link_11 : decode cX3_link 11 = .ok (.aload_n 0, 1) := by decide +kernel
theorem dX3_link_12 : decode cX3_link 12 = .ok (.getfield 1, 3) := by decide +kernel
theorem dX3_link_15 : decode cX3_link 15 = .ok (.ifCond .ne 27, 3) := by decide +kernel
theorem dX3_link_18 : decode cX3_link 18 = .ok (.aload_n 0, 1) := by decide +kernel
theorem dX3_link_19 : decode cX3_link 19 = .ok (.getfield 36, 3) := by decide +kernel
theorem dX3_link_22 : decode cX3_link 22 = .ok (.aload_n 0, 1) := by decide +kernel
theorem dX3_link_23 : decode cX3_link 23 = .ok (.getfield 33, 3) := by decide +kernel
theorem dX3_link_26 : decode cX3_link 26 = .ok (.aload_n 0, 1) := by decide +kernel
theorem dX3_link_27 : decode cX3_link 27 = .ok (.getfield 39, 3) := by decide +kernel
theorem dX3_link_30 : decode cX3_link 30 = .ok (.iload_n 1, 1) := by decide +kernel
theorem dX3_link_31 : decode cX3_link 31 = .ok (.iaload, 1) := by decide +kernel
theorem dX3_link_32 : decode cX3_link 32 = .ok (.iaload, 1) := by decide +kernel
theorem dX3_link_33 : decode cX3_link 33 = .ok (.iload_n 2, 1) := by decide +kernel
theorem dX3_link_34 : decode cX3_link 34 = .ok (.iadd, 1) := by decide +kernel
theorem dX3_link_35 : decode cX3_link 35 = .ok (.aload_n 0, 1) := by decide +kernel
theorem dX3_link_36 : decode cX3_link 36 = .ok (.getfield 39, 3) := by decide +kernel
theorem dX3_link_39 : decode cX3_link 39 = .ok (.iload_n 3, 1) := by decide +kernel
theorem dX3_link_40 : decode cX3_link 40 = .ok (.iaload, 1) := by decide +kernel
theorem dX3_link_41 : decode cX3_link 41 = .ok (.iastore, 1) := by decide +kernel
theorem dX3_link_42 : decode cX3_link 42 = .ok (.return_, 1) := by decide +kernel
theorem dX3_follow_0 : decode cX3_follow 0 = .ok (.aload_n 0, 1) := by decide +kernel
theorem dX3_follow_1 : decode cX3_follow 1 = .ok (.aload_n 0, 1) := by decide +kernel
theorem dX3_follow_2 : decode cX3_follow 2 = .ok (.iload_n 1, 1) := by decide +kernel
theorem dX3_follow_3 : decode cX3_follow 3 = .ok (.iload_n 2, 1) := by decide +kernel
theorem dX3_follow_4 : decode cX3_follow 4 = .ok (.iload_n 3, 1) := by decide +kernel
theorem dX3_follow_5 : decode cX3_follow 5 = .ok (.invokevirtual 147, 3) := by decide +kernel
theorem dX3_follow_8 : decode cX3_follow 8 = .ok (.putfield 1, 3) := by decide +kernel
theorem dX3_follow_11 : decode cX3_follow 11 = .ok (.aload_n 0, 1) := by decide +kernel
theorem dX3_follow_12 : decode cX3_follow 12 = .ok (.getfield 1, 3) := by decide +kernel
theorem dX3_follow_15 : decode cX3_follow 15 = .ok (.ifCond .le 5, 3) := by decide +kernel
theorem dX3_follow_18 : decode cX3_follow 18 = .ok (.iconst 0, 1) := by decide +kernel
theorem dX3_follow_19 : decode cX3_follow 19 = .ok (.ireturn, 1) := by decide +kernel
theorem dX3_follow_20 : decode cX3_follow 20 = .ok (.aload_n 0, 1) := by decide +kernel
theorem dX3_follow_21 : decode cX3_follow 21 = .ok (.getfield 39, 3) := by decide +kernel
theorem dX3_follow_24 : decode cX3_follow 24 = .ok (.iload_n 3, 1) := by decide +kernel
theorem dX3_follow_25 : decode cX3_follow 25 = .ok (.aload_n 0, 1) := by decide +kernel
theorem dX3_follow_26 : decode cX3_follow 26 = .ok (.getfield 36, 3) := by decide +kernel
theorem dX3_follow_29 : decode cX3_follow 29 = .ok (.aload_n 0, 1) := by decide +kernel
theorem dX3_follow_30 : decode cX3_follow 30 = .ok (.getfield 33, 3) := by decide +kernel
theorem dX3_follow_33 : decode cX3_follow 33 = .ok (.aload_n 0, 1) := by decide +kernel
theorem dX3_follow_34 : decode cX3_follow 34 = .ok (.getfield 39, 3) := by decide +kernel
theorem dX3_follow_37 : decode cX3_follow 37 = .ok (.iload_n 1, 1) := by decide +kernel
theorem dX3_follow_38 : decode cX3_follow 38 = .ok (.iaload, 1) := by decide +kernel
theorem dX3_follow_39 : decode cX3_follow 39 = .ok (.iaload, 1) := by decide +kernel
theorem dX3_follow_40 : decode cX3_follow 40 = .ok (.iload_n 2, 1) := by decide +kernel
theorem dX3_follow_41 : decode cX3_follow 41 = .ok (.iadd, 1) := by decide +kernel
theorem dX3_follow_42 : decode cX3_follow 42 = .ok (.iaload, 1) := by decide +kernel
theorem dX3_follow_43 : decode cX3_follow 43 = .ok (.iastore, 1) := by decide +kernel
theorem dX3_follow_44 : decode cX3_follow 44 = .ok (.aload_n 0, 1) := by decide +kernel
theorem dX3_follow_45 : decode cX3_follow 45 = .ok (.aload_n 0, 1) := by decide +kernel
theorem dX3_follow_46 : decode cX3_follow 46 = .ok (.getfield 39, 3) := by decide +kernel
theorem dX3_follow_49 : decode cX3_follow 49 = .ok (.iload_n 3, 1) := by decide +kernel
theorem dX3_follow_50 : decode cX3_follow 50 = .ok (.iaload, 1) := by decide +kernel
theorem dX3_follow_51 : decode cX3_follow 51 = .ok (.invokevirtual 151, 3) := by decide +kernel
theorem dX3_follow_54 : decode cX3_follow 54 = .ok (.ireturn, 1) := by decide +kernel
theorem dX3_set_0 : decode cX3_set 0 = .ok (.aload_n 0, 1) := by decide +kernel
theorem dX3_set_1 : decode cX3_set 1 = .ok (.iconst 0, 1) := by decide +kernel
theorem dX3_set_2 : decode cX3_set 2 = .ok (.putfield 1, 3) := by decide +kernel
theorem dX3_set_5 : decode cX3_set 5 = .ok (.iload_n 1, 1) := by decide +kernel
theorem dX3_set_6 : decode cX3_set 6 = .ok (.invokestatic 96, 3) := by decide +kernel
theorem dX3_set_9 : decode cX3_set 9 = .ok (.ifCond .ne 9, 3) := by decide +kernel
theorem dX3_set_12 : decode cX3_set 12 = .ok (.aload_n 0, 1) := by decide +kernel
theorem dX3_set_13 : decode cX3_set 13 = .ok (.iconst 1, 1) := by decide +kernel
theorem dX3_set_14 : decode cX3_set 14 = .ok (.invokevirtual 154, 3) := by decide +kernel
theorem dX3_set_17 : decode cX3_set 17 = .ok (.ireturn, 1) := by decide +kernel
theorem dX3_set_18 : decode cX3_set 18 = .ok (.aload_n 0, 1) := by decide +kernel
theorem dX3_set_19 : decode cX3_set 19 = .ok (.getfield 39, 3) := by decide +kernel
theorem dX3_set_22 : decode cX3_set 22 = .ok (.iload_n 1, 1) := by decide +kernel
theorem dX3_set_23 : decode cX3_set 23 = .ok (.iaload, 1) := by decide +kernel
theorem dX3_set_24 : decode cX3_set 24 = .ok (.iconst (-1), 1) := by decide +kernel
theorem dX3_set_25 : decode cX3_set 25 = .ok (.if_icmp .ne 9, 3) := by decide +kernel
theorem dX3_set_28 : decode cX3_set 28 = .ok (.aload_n 0, 1) := by decide +kernel
theorem dX3_set_29 : decode cX3_set 29 = .ok (.iconst 2, 1) := by decide +kernel
theorem dX3_set_30 : decode cX3_set 30 = .ok (.invokevirtual 154, 3) := by decide +kernel
theorem dX3_set_33 : decode cX3_set 33 = .ok (.ireturn, 1) := by decide +kernel
theorem dX3_set_34 : decode cX3_set 34 = .ok (.aload_n 0, 1) := by decide +kernel
theorem dX3_set_35 : decode cX3_set 35 = .ok (.getfield 39, 3) := by decide +kernel
theorem dX3_set_38 : decode cX3_set 38 = .ok (.iload_n 1, 1) := by decide +kernel
theorem dX3_set_39 : decode cX3_set 39 = .ok (.iaload, 1) := by decide +kernel
theorem dX3_set_40 : decode cX3_set 40 = .ok (.istore 4, 2) := by decide +kernel
theorem dX3_set_42 : decode cX3_set 42 = .ok (.iload_n 2, 1) := by decide +kernel
theorem dX3_set_43 : decode cX3_set 43 = .ok (.ifCond .lt 14, 3) := by decide +kernel
theorem dX3_set_46 : decode cX3_set 46 = .ok (.iload_n 2, 1) := by decide +kernel
theorem dX3_set_47 : decode cX3_set 47 = .ok (.aload_n 0, 1) := by decide +kernel
theorem dX3_set_48 : decode cX3_set 48 = .ok (.getfield 30, 3) := by decide +kernel
theorem dX3_set_51 : decode cX3_set 51 = .ok (.iload 4, 2) := by decide +kernel
theorem dX3_set_53 : decode cX3_set 53 = .ok (.iaload, 1) := by decide +kernel
theorem dX3_set_54 : decode cX3_set 54 = .ok (.if_icmp .lt 9, 3) := by decide +kernel
theorem dX3_set_57 : decode cX3_set 57 = .ok (.aload_n 0, 1) := by decide +kernel
theorem dX3_set_58 : decode cX3_set 58 = .ok (.iconst 3, 1) := by decide +kernel
theorem dX3_set_59 : decode cX3_set 59 = .ok (.invokevirtual 154, 3) := by decide +kernel
theorem dX3_set_62 : decode cX3_set 62 = .ok (.ireturn, 1) := by decide +kernel
theorem dX3_set_63 : decode cX3_set 63 = .ok (.aload_n 0, 1) := by decide +kernel
theorem dX3_set_64 : decode cX3_set 64 = .ok (.getfield 36, 3) := by decide +kernel
theorem dX3_set_67 : decode cX3_set 67 = .ok (.aload_n 0, 1) := by decide +kernel
theorem dX3_set_68 : decode cX3_set 68 = .ok (.getfield 33, 3) := by decide +kernel
theorem dX3_set_71 : decode cX3_set 71 = .ok (.iload 4, 2) := by decide +kernel
theorem dX3_set_73 : decode cX3_set 73 = .ok (.iaload, 1) := by decide +kernel
theorem dX3_set_74 : decode cX3_set 74 = .ok (.aload_n 0, 1) := by decide +kernel
theorem dX3_set_75 : decode cX3_set 75 = .ok (.getfield 27, 3) := by decide +kernel
theorem dX3_set_78 : decode cX3_set 78 = .ok (.iload 4, 2) := by decide +kernel
theorem dX3_set_80 : decode cX3_set 80 = .ok (.iaload, 1) := by decide +kernel
theorem dX3_set_81 : decode cX3_set 81 = .ok (.iadd, 1) := by decide +kernel
theorem dX3_set_82 : decode cX3_set 82 = .ok (.iload_n 2, 1) := by decide +kernel
theorem dX3_set_83 : decode cX3_set 83 = .ok (.iadd, 1) := by decide +kernel
theorem dX3_set_84 : decode cX3_set 84 = .ok (.iaload, 1) := by decide +kernel
theorem dX3_set_85 : decode cX3_set 85 = .ok (.istore 5, 2) := by decide +kernel
theorem dX3_set_87 : decode cX3_set 87 = .ok (.aload_n 0, 1) := by decide +kernel
theorem dX3_set_88 : decode cX3_set 88 = .ok (.getfield 36, 3) := by decide +kernel
theorem dX3_set_91 : decode cX3_set 91 = .ok (.aload_n 0, 1) := by decide +kernel
theorem dX3_set_92 : decode cX3_set 92 = .ok (.getfield 33, 3) := by decide +kernel
theorem dX3_set_95 : decode cX3_set 95 = .ok (.iload 4, 2) := by decide +kernel
theorem dX3_set_97 : decode cX3_set 97 = .ok (.iaload, 1) := by decide +kernel
theorem dX3_set_98 : decode cX3_set 98 = .ok (.aload_n 0, 1) := by decide +kernel
theorem dX3_set_99 : decode cX3_set 99 = .ok (.getfield 27, 3) := by decide +kernel
theorem dX3_set_102 : decode cX3_set 102 = .ok (.iload 4, 2) := by decide +kernel
theorem dX3_set_104 : decode cX3_set 104 = .ok (.iaload, 1) := by decide +kernel
theorem dX3_set_105 : decode cX3_set 105 = .ok (.iadd, 1) := by decide +kernel
theorem dX3_set_106 : decode cX3_set 106 = .ok (.iload_n 2, 1) := by decide +kernel
theorem dX3_set_107 : decode cX3_set 107 = .ok (.iadd, 1) := by decide +kernel
theorem dX3_set_108 : decode cX3_set 108 = .ok (.iload_n 3, 1) := by decide +kernel
theorem dX3_set_109 : decode cX3_set 109 = .ok (.iastore, 1) := by decide +kernel
theorem dX3_set_110 : decode cX3_set 110 = .ok (.iload 5, 2) := by decide +kernel
theorem dX3_set_112 : decode cX3_set 112 = .ok (.ireturn, 1) := by decide +kernel
theorem dX3_loose_0 : decode cX3_loose 0 = .ok (.aload_n 0, 1) := by decide +kernel
theorem dX3_loose_1 : decode cX3_loose 1 = .ok (.iconst 0, 1) := by decide +kernel
theorem dX3_loose_2 : decode cX3_loose 2 = .ok (.putfield 1, 3) := by decide +kernel
theorem dX3_loose_5 : decode cX3_loose 5 = .ok (.iload_n 1, 1) := by decide +kernel
theorem dX3_loose_6 : decode cX3_loose 6 = .ok (.invokestatic 96, 3) := by decide +kernel
theorem dX3_loose_9 : decode cX3_loose 9 = .ok (.ifCond .ne 9, 3) := by decide +kernel
theorem dX3_loose_12 : decode cX3_loose 12 = .ok (.aload_n 0, 1) := by decide +kernel
theorem dX3_loose_13 : decode cX3_loose 13 = .ok (.iconst 1, 1) := by decide +kernel
theorem dX3_loose_14 : decode cX3_loose 14 = .ok (.invokevirtual 154, 3) := by decide +kernel
theorem dX3_loose_17 : decode cX3_loose 17 = .ok (.ireturn, 1) := by decide +kernel
theorem dX3_loose_18 : decode cX3_loose 18 = .ok (.aload_n 0, 1) := by decide +kernel
theorem dX3_loose_19 : decode cX3_loose 19 = .ok (.getfield 42, 3) := by decide +kernel
theorem dX3_loose_22 : decode cX3_loose 22 = .ok (.iload_n 1, 1) := by decide +kernel
theorem dX3_loose_23 : decode cX3_loose 23 = .ok (.iaload, 1) := by decide +kernel
theorem dX3_loose_24 : decode cX3_loose 24 = .ok (.istore_n 3, 1) := by decide +kernel
theorem dX3_loose_25 : decode cX3_loose 25 = .ok (.aload_n 0, 1) := by decide +kernel
theorem dX3_loose_26 : decode cX3_loose 26 = .ok (.getfield 42, 3) := by decide +kernel
theorem dX3_loose_29 : decode cX3_loose 29 = .ok (.iload_n 1, 1) := by decide +kernel
theorem dX3_loose_30 : decode cX3_loose 30 = .ok (.iload_n 2, 1) := by decide +kernel
theorem dX3_loose_31 : decode cX3_loose 31 = .ok (.iastore, 1) := by decide +kernel
theorem dX3_loose_32 : decode cX3_loose 32 = .ok (.iload_n 3, 1) := by decide +kernel
theorem dX3_loose_33 : decode cX3_loose 33 = .ok (.ireturn, 1) := by decide +kernel
theorem dX3_take_0 : decode cX3_take 0 = .ok (.aload_n 0, 1) := by decide +kernel
theorem dX3_take_1 : decode cX3_take 1 = .ok (.iconst 0, 1) := by decide +kernel
theorem dX3_take_2 : decode cX3_take 2 = .ok (.putfield 1, 3) := by decide +kernel
theorem dX3_take_5 : decode cX3_take 5 = .ok (.iload_n 2, 1) := by decide +kernel
theorem dX3_take_6 : decode cX3_take 6 = .ok (.invokestatic 96, 3) := by decide +kernel
theorem dX3_take_9 : decode cX3_take 9 = .ok (.ifCond .ne 10, 3) := by decide +kernel
theorem dX3_take_12 : decode cX3_take 12 = .ok (.aload_n 0, 1) := by decide +kernel
theorem dX3_take_13 : decode cX3_take 13 = .ok (.iconst 1, 1) := by decide +kernel
theorem dX3_take_14 : decode cX3_take 14 = .ok (.putfield 1, 3) := by decide +kernel
theorem dX3_take_17 : decode cX3_take 17 = .ok (.iconst 0, 1) := by decide +kernel
theorem dX3_take_18 : decode cX3_take 18 = .ok (.ireturn, 1) := by decide +kernel
theorem dX3_take_19 : decode cX3_take 19 = .ok (.iload_n 1, 1) := by decide +kernel
theorem dX3_take_20 : decode cX3_take 20 = .ok (.ifCond .ge 7, 3) := by decide +kernel
theorem dX3_take_23 : decode cX3_take 23 = .ok (.iconst (-1), 1) := by decide +kernel
theorem dX3_take_24 : decode cX3_take 24 = .ok (.goto 8, 3) := by decide +kernel
theorem dX3_take_27 : decode cX3_take 27 = .ok (.aload_n 0, 1) := by decide +kernel
theorem dX3_take_28 : decode cX3_take 28 = .ok (.iload_n 1, 1) := by decide +kernel
theorem dX3_take_29 : decode cX3_take 29 = .ok (.invokevirtual 135, 3) := by decide +kernel
theorem dX3_take_32 : decode cX3_take 32 = .ok (.istore_n 3, 1) := by decide +kernel
theorem dX3_take_33 : decode cX3_take 33 = .ok (.iload_n 3, 1) := by decide +kernel
theorem dX3_take_34 : decode cX3_take 34 = .ok (.iconst (-1), 1) := by decide +kernel
theorem dX3_take_35 : decode cX3_take 35 = .ok (.if_icmp .eq 10, 3) := by decide +kernel
theorem dX3_take_38 : decode cX3_take 38 = .ok (.aload_n 0, 1) := by decide +kernel
theorem dX3_take_39 : decode cX3_take 39 = .ok (.getfield 39, 3) := by decide +kernel
theorem dX3_take_42 : decode cX3_take 42 = .ok (.iload_n 2, 1) := by decide +kernel
theorem dX3_take_43 : decode cX3_take 43 = .ok (.iload_n 3, 1) := by decide +kernel
theorem dX3_take_44 : decode cX3_take 44 = .ok (.iastore, 1) := by decide +kernel
theorem dX3_take_45 : decode cX3_take 45 = .ok (.iload_n 3, 1) := by decide +kernel
theorem dX3_take_46 : decode cX3_take 46 = .ok (.iconst (-1), 1) := by decide +kernel
theorem dX3_take_47 : decode cX3_take 47 = .ok (.if_icmp .eq 7, 3) := by decide +kernel
theorem dX3_take_50 : decode cX3_take 50 = .ok (.iconst 1, 1) := by decide +kernel
theorem dX3_take_51 : decode cX3_take 51 = .ok (.goto 4, 3) := by decide +kernel
theorem dX3_take_54 : decode cX3_take 54 = .ok (.iconst 0, 1) := by decide +kernel
theorem dX3_take_55 : decode cX3_take 55 = .ok (.ireturn, 1) := by decide +kernel
theorem dX3_root_0 : decode cX3_root 0 = .ok (.aload_n 0, 1) := by decide +kernel
theorem dX3_root_1 : decode cX3_root 1 = .ok (.iconst 0, 1) := by decide +kernel
theorem dX3_root_2 : decode cX3_root 2 = .ok (.putfield 1, 3) := by decide +kernel
theorem dX3_root_5 : decode cX3_root 5 = .ok (.iload_n 1, 1) := by decide +kernel
theorem dX3_root_6 : decode cX3_root 6 = .ok (.invokestatic 96, 3) := by decide +kernel
theorem dX3_root_9 : decode cX3_root 9 = .ok (.ifCond .eq 16, 3) := by decide +kernel
theorem dX3_root_12 : decode cX3_root 12 = .ok (.aload_n 0, 1) := by decide +kernel
theorem dX3_root_13 : decode cX3_root 13 = .ok (.aload_n 0, 1) := by decide +kernel
theorem dX3_root_14 : decode cX3_root 14 = .ok (.getfield 39, 3) := by decide +kernel
theorem dX3_root_17 : decode cX3_root 17 = .ok (.iload_n 1, 1) := by decide +kernel
theorem dX3_root_18 : decode cX3_root 18 = .ok (.iaload, 1) := by decide +kernel
theorem dX3_root_19 : decode cX3_root 19 = .ok (.invokevirtual 151, 3) := by decide +kernel
theorem dX3_root_22 : decode cX3_root 22 = .ok (.goto 4, 3) := by decide +kernel
theorem dX3_root_25 : decode cX3_root 25 = .ok (.iconst (-1), 1) := by decide +kernel
theorem dX3_root_26 : decode cX3_root 26 = .ok (.ireturn, 1) := by decide +kernel
theorem dX3_word_0 : decode cX3_word 0 = .ok (.aload_n 0, 1) := by decide +kernel
theorem dX3_word_1 : decode cX3_word 1 = .ok (.iconst 0, 1) := by decide +kernel
theorem dX3_word_2 : decode cX3_word 2 = .ok (.putfield 1, 3) := by decide +kernel
theorem dX3_word_5 : decode cX3_word 5 = .ok (.iconst 0, 1) := by decide +kernel
theorem dX3_word_6 : decode cX3_word 6 = .ok (.istore_n 2, 1) := by decide +kernel
theorem dX3_word_7 : decode cX3_word 7 = .ok (.iload_n 2, 1) := by decide +kernel
theorem dX3_word_8 : decode cX3_word 8 = .ok (.aload_n 0, 1) := by decide +kernel
theorem dX3_word_9 : decode cX3_word 9 = .ok (.getfield 76, 3) := by decide +kernel
theorem dX3_word_12 : decode cX3_word 12 = .ok (.if_icmp .ge 99, 3) := by decide +kernel
theorem dX3_word_15 : decode cX3_word 15 = .ok (.iload_n 1, 1) := by decide +kernel
theorem dX3_word_16 : decode cX3_word 16 = .ok (.aload_n 0, 1) := by decide +kernel
theorem dX3_word_17 : decode cX3_word 17 = .ok (.getfield 24, 3) := by decide +kernel
theorem dX3_word_20 : decode cX3_word 20 = .ok (.iload_n 2, 1) := by decide +kernel
theorem dX3_word_21 : decode cX3_word 21 = .ok (.iaload, 1) := by decide +kernel
theorem dX3_word_22 : decode cX3_word 22 = .ok (.isub, 1) := by decide +kernel
theorem dX3_word_23 : decode cX3_word 23 = .ok (.istore_n 3, 1) := by decide +kernel
theorem dX3_word_24 : decode cX3_word 24 = .ok (.iload_n 1, 1) := by decide +kernel
theorem dX3_word_25 : decode cX3_word 25 = .ok (.ifCond .lt 80, 3) := by decide +kernel
theorem dX3_word_28 : decode cX3_word 28 = .ok (.iload_n 3, 1) := by decide +kernel
theorem dX3_word_29 : decode cX3_word 29 = .ok (.ifCond .lt 76, 3) := by decide +kernel
theorem dX3_word_32 : decode cX3_word 32 = .ok (.iload_n 3, 1) := by decide +kernel
theorem dX3_word_33 : decode cX3_word 33 = .ok (.aload_n 0, 1) := by decide +kernel
theorem dX3_word_34 : decode cX3_word 34 = .ok (.iload_n 2, 1) := by decide +kernel
theorem dX3_word_35 : decode cX3_word 35 = .ok (.invokevirtual 82, 3) := by decide +kernel
theorem dX3_word_38 : decode cX3_word 38 = .ok (.if_icmp .lt 6, 3) := by decide +kernel
theorem dX3_word_41 : decode cX3_word 41 = .ok (.goto 64, 3) := by decide +kernel
theorem dX3_word_44 : decode cX3_word 44 = .ok (.iload_n 3, 1) := by decide +kernel
theorem dX3_word_45 : decode cX3_word 45 = .ok (.ifCond .ne 21, 3) := by decide +kernel
theorem dX3_word_48 : decode cX3_word 48 = .ok (.sipush 256, 3) := by decide +kernel
theorem dX3_word_51 : decode cX3_word 51 = .ok (.aload_n 0, 1) := by decide +kernel
theorem dX3_word_52 : decode cX3_word 52 = .ok (.getfield 27, 3) := by decide +kernel
theorem dX3_word_55 : decode cX3_word 55 = .ok (.iload_n 2, 1) := by decide +kernel
theorem dX3_word_56 : decode cX3_word 56 = .ok (.iaload, 1) := by decide +kernel
theorem dX3_word_57 : decode cX3_word 57 = .ok (.imul, 1) := by decide +kernel
theorem dX3_word_58 : decode cX3_word 58 = .ok (.aload_n 0, 1) := by decide +kernel
theorem dX3_word_59 : decode cX3_word 59 = .ok (.getfield 30, 3) := by decide +kernel
theorem dX3_word_62 : decode cX3_word 62 = .ok (.iload_n 2, 1) := by decide +kernel
theorem dX3_word_63 : decode cX3_word 63 = .ok (.iaload, 1) := by decide +kernel
theorem dX3_word_64 : decode cX3_word 64 = .ok (.iadd, 1) := by decide +kernel
theorem dX3_word_65 : decode cX3_word 65 = .ok (.ireturn, 1) := by decide +kernel
theorem dX3_word_66 : decode cX3_word 66 = .ok (.aload_n 0, 1) := by decide +kernel
theorem dX3_word_67 : decode cX3_word 67 = .ok (.getfield 36, 3) := by decide +kernel
theorem dX3_word_70 : decode cX3_word 70 = .ok (.aload_n 0, 1) := by decide +kernel
theorem dX3_word_71 : decode cX3_word 71 = .ok (.getfield 33, 3) := by decide +kernel
theorem dX3_word_74 : decode cX3_word 74 = .ok (.iload_n 2, 1) := by decide +kernel
theorem dX3_word_75 : decode cX3_word 75 = .ok (.iaload, 1) := by decide +kernel
theorem dX3_word_76 : decode cX3_word 76 = .ok (.iload_n 3, 1) := by decide +kernel
theorem dX3_word_77 : decode cX3_word 77 = .ok (.iadd, 1) := by decide +kernel
theorem dX3_word_78 : decode cX3_word 78 = .ok (.iconst 1, 1) := by decide +kernel
theorem dX3_word_79 : decode cX3_word 79 = .ok (.isub, 1) := by decide +kernel
theorem dX3_word_80 : decode cX3_word 80 = .ok (.iaload, 1) := by decide +kernel
theorem dX3_word_81 : decode cX3_word 81 = .ok (.istore 4, 2) := by decide +kernel
theorem dX3_word_83 : decode cX3_word 83 = .ok (.iload_n 3, 1) := by decide +kernel
theorem dX3_word_84 : decode cX3_word 84 = .ok (.aload_n 0, 1) := by decide +kernel
theorem dX3_word_85 : decode cX3_word 85 = .ok (.getfield 27, 3) := by decide +kernel
theorem dX3_word_88 : decode cX3_word 88 = .ok (.iload_n 2, 1) := by decide +kernel
theorem dX3_word_89 : decode cX3_word 89 = .ok (.iaload, 1) := by decide +kernel
theorem dX3_word_90 : decode cX3_word 90 = .ok (.if_icmp .gt 12, 3) := by decide +kernel
theorem dX3_word_93 : decode cX3_word 93 = .ok (.aload_n 0, 1) := by decide +kernel
theorem dX3_word_94 : decode cX3_word 94 = .ok (.iload 4, 2) := by decide +kernel
theorem dX3_word_96 : decode cX3_word 96 = .ok (.invokevirtual 151, 3) := by decide +kernel
theorem dX3_word_99 : decode cX3_word 99 = .ok (.goto 5, 3) := by decide +kernel
theorem dX3_word_102 : decode cX3_word 102 = .ok (.iload 4, 2) := by decide +kernel
theorem dX3_word_104 : decode cX3_word 104 = .ok (.ireturn, 1) := by decide +kernel
theorem dX3_word_105 : decode cX3_word 105 = .ok (.iinc 2 1, 3) := by decide +kernel
theorem dX3_word_108 : decode cX3_word 108 = .ok (.goto (-101), 3) := by decide +kernel
theorem dX3_word_111 : decode cX3_word 111 = .ok (.iconst 0, 1) := by decide +kernel
theorem dX3_word_112 : decode cX3_word 112 = .ok (.ireturn, 1) := by decide +kernel
theorem dX3_object_0 : decode cX3_object 0 = .ok (.aload_n 0, 1) := by decide +kernel
theorem dX3_object_1 : decode cX3_object 1 = .ok (.iconst 0, 1) := by decide +kernel
theorem dX3_object_2 : decode cX3_object 2 = .ok (.putfield 1, 3) := by decide +kernel
theorem dX3_object_5 : decode cX3_object 5 = .ok (.iload_n 1, 1) := by decide +kernel
theorem dX3_object_6 : decode cX3_object 6 = .ok (.ifCond .ge 7, 3) := by decide +kernel
theorem dX3_object_9 : decode cX3_object 9 = .ok (.iconst (-1), 1) := by decide +kernel
theorem dX3_object_10 : decode cX3_object 10 = .ok (.goto 8, 3) := by decide +kernel
theorem dX3_object_13 : decode cX3_object 13 = .ok (.aload_n 0, 1) := by decide +kernel
theorem dX3_object_14 : decode cX3_object 14 = .ok (.iload_n 1, 1) := by decide +kernel
theorem dX3_object_15 : decode cX3_object 15 = .ok (.invokevirtual 135, 3) := by decide +kernel
theorem dX3_object_18 : decode cX3_object 18 = .ok (.istore_n 3, 1) := by decide +kernel
theorem dX3_object_19 : decode cX3_object 19 = .ok (.iload_n 3, 1) := by decide +kernel
theorem dX3_object_20 : decode cX3_object 20 = .ok (.iconst (-1), 1) := by decide +kernel
theorem dX3_object_21 : decode cX3_object 21 = .ok (.if_icmp .ne 5, 3) := by decide +kernel
theorem dX3_object_24 : decode cX3_object 24 = .ok (.iconst (-1), 1) := by decide +kernel
theorem dX3_object_25 : decode cX3_object 25 = .ok (.ireturn, 1) := by decide +kernel
theorem dX3_object_26 : decode cX3_object 26 = .ok (.iload_n 2, 1) := by decide +kernel
theorem dX3_object_27 : decode cX3_object 27 = .ok (.ifCond .ne 12, 3) := by decide +kernel
theorem dX3_object_30 : decode cX3_object 30 = .ok (.aload_n 0, 1) := by decide +kernel
theorem dX3_object_31 : decode cX3_object 31 = .ok (.getfield 27, 3) := by decide +kernel
theorem dX3_object_34 : decode cX3_object 34 = .ok (.iload_n 3, 1) := by decide +kernel
theorem dX3_object_35 : decode cX3_object 35 = .ok (.iaload, 1) := by decide +kernel
theorem dX3_object_36 : decode cX3_object 36 = .ok (.goto 31, 3) := by decide +kernel
theorem dX3_object_39 : decode cX3_object 39 = .ok (.iload_n 2, 1) := by decide +kernel
theorem dX3_object_40 : decode cX3_object 40 = .ok (.iconst 1, 1) := by decide +kernel
theorem dX3_object_41 : decode cX3_object 41 = .ok (.if_icmp .ne 12, 3) := by decide +kernel
theorem dX3_object_44 : decode cX3_object 44 = .ok (.aload_n 0, 1) := by decide +kernel
theorem dX3_object_45 : decode cX3_object 45 = .ok (.getfield 30, 3) := by decide +kernel
theorem dX3_object_48 : decode cX3_object 48 = .ok (.iload_n 3, 1) := by decide +kernel
theorem dX3_object_49 : decode cX3_object 49 = .ok (.iaload, 1) := by decide +kernel
theorem dX3_object_50 : decode cX3_object 50 = .ok (.goto 17, 3) := by decide +kernel
theorem dX3_object_53 : decode cX3_object 53 = .ok (.iload_n 2, 1) := by decide +kernel
theorem dX3_object_54 : decode cX3_object 54 = .ok (.iconst 2, 1) := by decide +kernel
theorem dX3_object_55 : decode cX3_object 55 = .ok (.if_icmp .ne 11, 3) := by decide +kernel
theorem dX3_object_58 : decode cX3_object 58 = .ok (.aload_n 0, 1) := by decide +kernel
theorem dX3_object_59 : decode cX3_object 59 = .ok (.iload_n 3, 1) := by decide +kernel
theorem dX3_object_60 : decode cX3_object 60 = .ok (.invokevirtual 82, 3) := by decide +kernel
theorem dX3_object_63 : decode cX3_object 63 = .ok (.goto 4, 3) := by decide +kernel
theorem dX3_object_66 : decode cX3_object 66 = .ok (.iconst (-1), 1) := by decide +kernel
theorem dX3_object_67 : decode cX3_object 67 = .ok (.ireturn, 1) := by decide +kernel
theorem dX3_beginningIn_0 : decode cX3_beginningIn 0 = .ok (.iconst 0, 1) := by decide +kernel
theorem dX3_beginningIn_1 : decode cX3_beginningIn 1 = .ok (.istore_n 2, 1) := by decide +kernel
theorem dX3_beginningIn_2 : decode cX3_beginningIn 2 = .ok (.iconst 0, 1) := by decide +kernel
theorem dX3_beginningIn_3 : decode cX3_beginningIn 3 = .ok (.istore_n 3, 1) := by decide +kernel
theorem dX3_beginningIn_4 : decode cX3_beginningIn 4 = .ok (.iload_n 3, 1) := by decide +kernel
theorem dX3_beginningIn_5 : decode cX3_beginningIn 5 = .ok (.aload_n 0, 1) := by decide +kernel
theorem dX3_beginningIn_6 : decode cX3_beginningIn 6 = .ok (.getfield 76, 3) := by decide +kernel
theorem dX3_beginningIn_9 : decode cX3_beginningIn 9 = .ok (.if_icmp .ge 32, 3) := by decide +kernel
theorem dX3_beginningIn_12 : decode cX3_beginningIn 12 = .ok (.iload_n 2, 1) := by decide +kernel
theorem dX3_beginningIn_13 : decode cX3_beginningIn 13 = .ok (.aload_n 0, 1) := by decide +kernel
theorem dX3_beginningIn_14 : decode cX3_beginningIn 14 = .ok (.getfield 24, 3) := by decide +kernel
theorem dX3_beginningIn_17 : decode cX3_beginningIn 17 = .ok (.iload_n 3, 1) := by decide +kernel
theorem dX3_beginningIn_18 : decode cX3_beginningIn 18 = .ok (.iaload, 1) := by decide +kernel
theorem dX3_beginningIn_19 : decode cX3_beginningIn 19 = .ok (.aload_n 0, 1) := by decide +kernel
theorem dX3_beginningIn_20 : decode cX3_beginningIn 20 = .ok (.getfield 70, 3) := by decide +kernel
theorem dX3_beginningIn_23 : decode cX3_beginningIn 23 = .ok (.idiv, 1) := by decide +kernel
theorem dX3_beginningIn_24 : decode cX3_beginningIn 24 = .ok (.iload_n 1, 1) := by decide +kernel
theorem dX3_beginningIn_25 : decode cX3_beginningIn 25 = .ok (.if_icmp .ne 7, 3) := by decide +kernel
theorem dX3_beginningIn_28 : decode cX3_beginningIn 28 = .ok (.iconst 1, 1) := by decide +kernel
theorem dX3_beginningIn_29 : decode cX3_beginningIn 29 = .ok (.goto 4, 3) := by decide +kernel
theorem dX3_beginningIn_32 : decode cX3_beginningIn 32 = .ok (.iconst 0, 1) := by decide +kernel
theorem dX3_beginningIn_33 : decode cX3_beginningIn 33 = .ok (.iadd, 1) := by decide +kernel
theorem dX3_beginningIn_34 : decode cX3_beginningIn 34 = .ok (.istore_n 2, 1) := by decide +kernel
theorem dX3_beginningIn_35 : decode cX3_beginningIn 35 = .ok (.iinc 3 1, 3) := by decide +kernel
theorem dX3_beginningIn_38 : decode cX3_beginningIn 38 = .ok (.goto (-34), 3) := by decide +kernel
theorem dX3_beginningIn_41 : decode cX3_beginningIn 41 = .ok (.iload_n 2, 1) := by decide +kernel
theorem dX3_beginningIn_42 : decode cX3_beginningIn 42 = .ok (.ireturn, 1) := by decide +kernel
theorem dX3_page_0 : decode cX3_page 0 = .ok (.aload_n 0, 1) := by decide +kernel
theorem dX3_page_1 : decode cX3_page 1 = .ok (.iconst 0, 1) := by decide +kernel
theorem dX3_page_2 : decode cX3_page 2 = .ok (.putfield 1, 3) := by decide +kernel
theorem dX3_page_5 : decode cX3_page 5 = .ok (.iload_n 1, 1) := by decide +kernel
theorem dX3_page_6 : decode cX3_page 6 = .ok (.ifCond .lt 11, 3) := by decide +kernel
theorem dX3_page_9 : decode cX3_page 9 = .ok (.iload_n 1, 1) := by decide +kernel
theorem dX3_page_10 : decode cX3_page 10 = .ok (.aload_n 0, 1) := by decide +kernel
theorem dX3_page_11 : decode cX3_page 11 = .ok (.getfield 67, 3) := by decide +kernel
theorem dX3_page_14 : decode cX3_page 14 = .ok (.if_icmp .lt 5, 3) := by decide +kernel
theorem dX3_page_17 : decode cX3_page 17 = .ok (.iconst (-1), 1) := by decide +kernel
theorem dX3_page_18 : decode cX3_page 18 = .ok (.ireturn, 1) := by decide +kernel
theorem dX3_page_19 : decode cX3_page 19 = .ok (.iload_n 2, 1) := by decide +kernel
theorem dX3_page_20 : decode cX3_page 20 = .ok (.tableswitch 67 0 3 #[32, 39, 46, 52], 32) := by decide +kernel
theorem dX3_page_52 : decode cX3_page 52 = .ok (.aload_n 0, 1) := by decide +kernel
theorem dX3_page_53 : decode cX3_page 53 = .ok (.getfield 13, 3) := by decide +kernel
theorem dX3_page_56 : decode cX3_page 56 = .ok (.iload_n 1, 1) := by decide +kernel
theorem dX3_page_57 : decode cX3_page 57 = .ok (.iaload, 1) := by decide +kernel
theorem dX3_page_58 : decode cX3_page 58 = .ok (.ireturn, 1) := by decide +kernel
theorem dX3_page_59 : decode cX3_page 59 = .ok (.aload_n 0, 1) := by decide +kernel
theorem dX3_page_60 : decode cX3_page 60 = .ok (.getfield 17, 3) := by decide +kernel
theorem dX3_page_63 : decode cX3_page 63 = .ok (.iload_n 1, 1) := by decide +kernel
theorem dX3_page_64 : decode cX3_page 64 = .ok (.iaload, 1) := by decide +kernel
theorem dX3_page_65 : decode cX3_page 65 = .ok (.ireturn, 1) := by decide +kernel
theorem dX3_page_66 : decode cX3_page 66 = .ok (.aload_n 0, 1) := by decide +kernel
theorem dX3_page_67 : decode cX3_page 67 = .ok (.iload_n 1, 1) := by decide +kernel
theorem dX3_page_68 : decode cX3_page 68 = .ok (.invokevirtual 157, 3) := by decide +kernel
theorem dX3_page_71 : decode cX3_page 71 = .ok (.ireturn, 1) := by decide +kernel
theorem dX3_page_72 : decode cX3_page 72 = .ok (.aload_n 0, 1) := by decide +kernel
theorem dX3_page_73 : decode cX3_page 73 = .ok (.getfield 20, 3) := by decide +kernel
theorem dX3_page_76 : decode cX3_page 76 = .ok (.iload_n 1, 1) := by decide +kernel
theorem dX3_page_77 : decode cX3_page 77 = .ok (.baload, 1) := by decide +kernel
theorem dX3_page_78 : decode cX3_page 78 = .ok (.ifCond .eq 7, 3) := by decide +kernel
theorem dX3_page_81 : decode cX3_page 81 = .ok (.iconst 1, 1) := by decide +kernel
theorem dX3_page_82 : decode cX3_page 82 = .ok (.goto 4, 3) := by decide +kernel
theorem dX3_page_85 : decode cX3_page 85 = .ok (.iconst 0, 1) := by decide +kernel
theorem dX3_page_86 : decode cX3_page 86 = .ok (.ireturn, 1) := by decide +kernel
theorem dX3_page_87 : decode cX3_page 87 = .ok (.iconst (-1), 1) := by decide +kernel
theorem dX3_page_88 : decode cX3_page 88 = .ok (.ireturn, 1) := by decide +kernel
theorem dX3_allWords_0 : decode cX3_allWords 0 = .ok (.iconst 0, 1) := by decide +kernel
theorem dX3_allWords_1 : decode cX3_allWords 1 = .ok (.istore_n 1, 1) := by decide +kernel
theorem dX3_allWords_2 : decode cX3_allWords 2 = .ok (.iconst 0, 1) := by decide +kernel
theorem dX3_allWords_3 : decode cX3_allWords 3 = .ok (.istore_n 2, 1) := by decide +kernel
theorem dX3_allWords_4 : decode cX3_allWords 4 = .ok (.iload_n 2, 1) := by decide +kernel
theorem dX3_allWords_5 : decode cX3_allWords 5 = .ok (.aload_n 0, 1) := by decide +kernel
theorem dX3_allWords_6 : decode cX3_allWords 6 = .ok (.getfield 76, 3) := by decide +kernel
theorem dX3_allWords_9 : decode cX3_allWords 9 = .ok (.if_icmp .ge 17, 3) := by decide +kernel
theorem dX3_allWords_12 : decode cX3_allWords 12 = .ok (.iload_n 1, 1) := by decide +kernel
theorem dX3_allWords_13 : decode cX3_allWords 13 = .ok (.aload_n 0, 1) := by decide +kernel
theorem dX3_allWords_14 : decode cX3_allWords 14 = .ok (.iload_n 2, 1) := by decide +kernel
theorem dX3_allWords_15 : decode cX3_allWords 15 = .ok (.invokevirtual 82, 3) := by decide +kernel
theorem dX3_allWords_18 : decode cX3_allWords 18 = .ok (.iadd, 1) := by decide +kernel
theorem dX3_allWords_19 : decode cX3_allWords 19 = .ok (.istore_n 1, 1) := by decide +kernel
theorem dX3_allWords_20 : decode cX3_allWords 20 = .ok (.iinc 2 1, 3) := by decide +kernel
theorem dX3_allWords_23 : decode cX3_allWords 23 = .ok (.goto (-19), 3) := by decide +kernel
theorem dX3_allWords_26 : decode cX3_allWords 26 = .ok (.iload_n 1, 1) := by decide +kernel
theorem dX3_allWords_27 : decode cX3_allWords 27 = .ok (.ireturn, 1) := by decide +kernel
theorem dX3_look_0 : decode cX3_look 0 = .ok (.aload_n 0, 1) := by decide +kernel
theorem dX3_look_1 : decode cX3_look 1 = .ok (.iconst 0, 1) := by decide +kernel
theorem dX3_look_2 : decode cX3_look 2 = .ok (.putfield 1, 3) := by decide +kernel
theorem dX3_look_5 : decode cX3_look 5 = .ok (.iload_n 1, 1) := by decide +kernel
theorem dX3_look_6 : decode cX3_look 6 = .ok (.tableswitch 68 0 5 #[38, 43, 48, 53, 58, 63], 38) := by decide +kernel
theorem dX3_look_44 : decode cX3_look 44 = .ok (.aload_n 0, 1) := by decide +kernel
theorem dX3_look_45 : decode cX3_look 45 = .ok (.getfield 67, 3) := by decide +kernel
theorem dX3_look_48 : decode cX3_look 48 = .ok (.ireturn, 1) := by decide +kernel
theorem dX3_look_49 : decode cX3_look 49 = .ok (.aload_n 0, 1) := by decide +kernel
theorem dX3_look_50 : decode cX3_look 50 = .ok (.getfield 70, 3) := by decide +kernel
theorem dX3_look_53 : decode cX3_look 53 = .ok (.ireturn, 1) := by decide +kernel
theorem dX3_look_54 : decode cX3_look 54 = .ok (.aload_n 0, 1) := by decide +kernel
theorem dX3_look_55 : decode cX3_look 55 = .ok (.invokevirtual 86, 3) := by decide +kernel
theorem dX3_look_58 : decode cX3_look 58 = .ok (.ireturn, 1) := by decide +kernel
theorem dX3_look_59 : decode cX3_look 59 = .ok (.aload_n 0, 1) := by decide +kernel
theorem dX3_look_60 : decode cX3_look 60 = .ok (.getfield 73, 3) := by decide +kernel
theorem dX3_look_63 : decode cX3_look 63 = .ok (.ireturn, 1) := by decide +kernel
theorem dX3_look_64 : decode cX3_look 64 = .ok (.aload_n 0, 1) := by decide +kernel
theorem dX3_look_65 : decode cX3_look 65 = .ok (.getfield 76, 3) := by decide +kernel
theorem dX3_look_68 : decode cX3_look 68 = .ok (.ireturn, 1) := by decide +kernel
theorem dX3_look_69 : decode cX3_look 69 = .ok (.aload_n 0, 1) := by decide +kernel
theorem dX3_look_70 : decode cX3_look 70 = .ok (.invokevirtual 160, 3) := by decide +kernel
theorem dX3_look_73 : decode cX3_look 73 = .ok (.ireturn, 1) := by decide +kernel
theorem dX3_look_74 : decode cX3_look 74 = .ok (.iload_n 1, 1) := by decide +kernel
theorem dX3_look_75 : decode cX3_look 75 = .ok (.bipush 6, 2) := by decide +kernel
theorem dX3_look_77 : decode cX3_look 77 = .ok (.if_icmp .lt 18, 3) := by decide +kernel
theorem dX3_look_80 : decode cX3_look 80 = .ok (.iload_n 1, 1) := by decide +kernel
theorem dX3_look_81 : decode cX3_look 81 = .ok (.bipush 12, 2) := by decide +kernel
theorem dX3_look_83 : decode cX3_look 83 = .ok (.if_icmp .gt 12, 3) := by decide +kernel
theorem dX3_look_86 : decode cX3_look 86 = .ok (.aload_n 0, 1) := by decide +kernel
theorem dX3_look_87 : decode cX3_look 87 = .ok (.getfield 45, 3) := by decide +kernel
theorem dX3_look_90 : decode cX3_look 90 = .ok (.iload_n 1, 1) := by decide +kernel
theorem dX3_look_91 : decode cX3_look 91 = .ok (.iaload, 1) := by decide +kernel
theorem dX3_look_92 : decode cX3_look 92 = .ok (.goto 4, 3) := by decide +kernel
theorem dX3_look_95 : decode cX3_look 95 = .ok (.iconst (-1), 1) := by decide +kernel
theorem dX3_look_96 : decode cX3_look 96 = .ok (.ireturn, 1) := by decide +kernel
