theorem dX5_init_0 : decode cX5_init 0 = .ok (.aload_n 0, 1) := by decide +kernel
theorem dX5_init_1 : decode cX5_init 1 = .ok (.invokespecial 1, 3) := by decide +kernel
theorem dX5_init_4 : decode cX5_init 4 = .ok (.aload_n 0, 1) := by decide +kernel
theorem dX5_init_5 : decode cX5_init 5 = .ok (.sipush 676, 3) := by decide +kernel
theorem dX5_init_8 : decode cX5_init 8 = .ok (.newarray .boolean, 2) := by decide +kernel
theorem dX5_init_10 : decode cX5_init 10 = .ok (.putfield 7, 3) := by decide +kernel
theorem dX5_init_13 : decode cX5_init 13 = .ok (.aload_n 0, 1) := by decide +kernel
theorem dX5_init_14 : decode cX5_init 14 = .ok (.sipush 676, 3) := by decide +kernel
theorem dX5_init_17 : decode cX5_init 17 = .ok (.newarray .boolean, 2) := by decide +kernel
theorem dX5_init_19 : decode cX5_init 19 = .ok (.putfield 13, 3) := by decide +kernel
theorem dX5_init_22 : decode cX5_init 22 = .ok (.aload_n 0, 1) := by decide +kernel
theorem dX5_init_23 : decode cX5_init 23 = .ok (.sipush 676, 3) := by decide +kernel
theorem dX5_init_26 : decode cX5_init 26 = .ok (.newarray .boolean, 2) := by decide +kernel
theorem dX5_init_28 : decode cX5_init 28 = .ok (.putfield 16, 3) := by decide +kernel
theorem dX5_init_31 : decode cX5_init 31 = .ok (.aload_n 0, 1) := by decide +kernel
theorem dX5_init_32 : decode cX5_init 32 = .ok (.sipush 676, 3) := by decide +kernel
theorem dX5_init_35 : decode cX5_init 35 = .ok (.newarray .int, 2) := by decide +kernel
theorem dX5_init_37 : decode cX5_init 37 = .ok (.putfield 19, 3) := by decide +kernel
theorem dX5_init_40 : decode cX5_init 40 = .ok (.aload_n 0, 1) := by decide +kernel
theorem dX5_init_41 : decode cX5_init 41 = .ok (.sipush 3000, 3) := by decide +kernel
theorem dX5_init_44 : decode cX5_init 44 = .ok (.newarray .int, 2) := by decide +kernel
theorem dX5_init_46 : decode cX5_init 46 = .ok (.putfield 23, 3) := by decide +kernel
theorem dX5_init_49 : decode cX5_init 49 = .ok (.aload_n 0, 1) := by decide +kernel
theorem dX5_init_50 : decode cX5_init 50 = .ok (.sipush 9000, 3) := by decide +kernel
theorem dX5_init_53 : decode cX5_init 53 = .ok (.newarray .int, 2) := by decide +kernel
theorem dX5_init_55 : decode cX5_init 55 = .ok (.putfield 26, 3) := by decide +kernel
theorem dX5_init_58 : decode cX5_init 58 = .ok (.aload_n 0, 1) := by decide +kernel
theorem dX5_init_59 : decode cX5_init 59 = .ok (.sipush 5408, 3) := by decide +kernel
theorem dX5_init_62 : decode cX5_init 62 = .ok (.newarray .boolean, 2) := by decide +kernel
theorem dX5_init_64 : decode cX5_init 64 = .ok (.putfield 29, 3) := by decide +kernel
theorem dX5_init_67 : decode cX5_init 67 = .ok (.aload_n 0, 1) := by decide +kernel
theorem dX5_init_68 : decode cX5_init 68 = .ok (.sipush 676, 3) := by decide +kernel
theorem dX5_init_71 : decode cX5_init 71 = .ok (.newarray .boolean, 2) := by decide +kernel
theorem dX5_init_73 : decode cX5_init 73 = .ok (.putfield 32, 3) := by decide +kernel
theorem dX5_init_76 : decode cX5_init 76 = .ok (.aload_n 0, 1) := by decide +kernel
theorem dX5_init_77 : decode cX5_init 77 = .ok (.sipush 3000, 3) := by decide +kernel
theorem dX5_init_80 : decode cX5_init 80 = .ok (.newarray .int, 2) := by decide +kernel
theorem dX5_init_82 : decode cX5_init 82 = .ok (.putfield 35, 3) := by decide +kernel
theorem dX5_init_85 : decode cX5_init 85 = .ok (.aload_n 0, 1) := by decide +kernel
theorem dX5_init_86 : decode cX5_init 86 = .ok (.sipush 3000, 3) := by decide +kernel
theorem dX5_init_89 : decode cX5_init 89 = .ok (.newarray .int, 2) := by decide +kernel
theorem dX5_init_91 : decode cX5_init 91 = .ok (.putfield 38, 3) := by decide +kernel
theorem dX5_init_94 : decode cX5_init 94 = .ok (.aload_n 0, 1) := by decide +kernel
theorem dX5_init_95 : decode cX5_init 95 = .ok (.iload_n 1, 1) := by decide +kernel
theorem dX5_init_96 : decode cX5_init 96 = .ok (.iconst 1, 1) := by decide +kernel
theorem dX5_init_97 : decode cX5_init 97 = .ok (.if_icmp .ge 7, 3) := by decide +kernel
theorem dX5_init_100 : decode cX5_init 100 = .ok (.iconst 1, 1) := by decide +kernel
theorem dX5_init_101 : decode cX5_init 101 = .ok (.goto 15, 3) := by decide +kernel
theorem dX5_init_104 : decode cX5_init 104 = .ok (.iload_n 1, 1) := by decide +kernel
theorem dX5_init_105 : decode cX5_init 105 = .ok (.bipush 24, 2) := by decide +kernel
theorem dX5_init_107 : decode cX5_init 107 = .ok (.if_icmp .le 8, 3) := by decide +kernel
theorem dX5_init_110 : decode cX5_init 110 = .ok (.bipush 24, 2) := by decide +kernel
theorem dX5_init_112 : decode cX5_init 112 = .ok (.goto 4, 3) := by decide +kernel
theorem dX5_init_115 : decode cX5_init 115 = .ok (.iload_n 1, 1) := by decide +kernel
theorem dX5_init_116 : decode cX5_init 116 = .ok (.putfield 41, 3) := by decide +kernel
theorem dX5_init_119 : decode cX5_init 119 = .ok (.aload_n 0, 1) := by decide +kernel
theorem dX5_init_120 : decode cX5_init 120 = .ok (.iload_n 2, 1) := by decide +kernel
theorem dX5_init_121 : decode cX5_init 121 = .ok (.iconst 1, 1) := by decide +kernel
theorem dX5_init_122 : decode cX5_init 122 = .ok (.if_icmp .ge 7, 3) := by decide +kernel
theorem dX5_init_125 : decode cX5_init 125 = .ok (.iconst 1, 1) := by decide +kernel
theorem dX5_init_126 : decode cX5_init 126 = .ok (.goto 15, 3) := by decide +kernel
theorem dX5_init_129 : decode cX5_init 129 = .ok (.iload_n 2, 1) := by decide +kernel
theorem dX5_init_130 : decode cX5_init 130 = .ok (.bipush 24, 2) := by decide +kernel
theorem dX5_init_132 : decode cX5_init 132 = .ok (.if_icmp .le 8, 3) := by decide +kernel
theorem dX5_init_135 : decode cX5_init 135 = .ok (.bipush 24, 2) := by decide +kernel
theorem dX5_init_137 : decode cX5_init 137 = .ok (.goto 4, 3) := by decide +kernel
theorem dX5_init_140 : decode cX5_init 140 = .ok (.iload_n 2, 1) := by decide +kernel
theorem dX5_init_141 : decode cX5_init 141 = .ok (.putfield 45, 3) := by decide +kernel
theorem dX5_init_144 : decode cX5_init 144 = .ok (.aload_n 0, 1) := by decide +kernel
theorem dX5_init_145 : decode cX5_init 145 = .ok (.aload_n 0, 1) := by decide +kernel
theorem dX5_init_146 : decode cX5_init 146 = .ok (.getfield 41, 3) := by decide +kernel
theorem dX5_init_149 : decode cX5_init 149 = .ok (.iconst 2, 1) := by decide +kernel
theorem dX5_init_150 : decode cX5_init 150 = .ok (.iadd, 1) := by decide +kernel
theorem dX5_init_151 : decode cX5_init 151 = .ok (.putfield 48, 3) := by decide +kernel
theorem dX5_init_154 : decode cX5_init 154 = .ok (.return_, 1) := by decide +kernel
theorem dX5_thrown_0 : decode cX5_thrown 0 = .ok (.aload_n 0, 1) := by decide +kernel
theorem dX5_thrown_1 : decode cX5_thrown 1 = .ok (.getfield 51, 3) := by decide +kernel
theorem dX5_thrown_4 : decode cX5_thrown 4 = .ok (.ireturn, 1) := by decide +kernel
theorem dX5_in_0 : decode cX5_in 0 = .ok (.iload_n 0, 1) := by decide +kernel
theorem dX5_in_1 : decode cX5_in 1 = .ok (.iload_n 1, 1) := by decide +kernel
theorem dX5_in_2 : decode cX5_in 2 = .ok (.if_icmp .lt 12, 3) := by decide +kernel
theorem dX5_in_5 : decode cX5_in 5 = .ok (.iload_n 0, 1) := by decide +kernel
theorem dX5_in_6 : decode cX5_in 6 = .ok (.iload_n 2, 1) := by decide +kernel
theorem dX5_in_7 : decode cX5_in 7 = .ok (.if_icmp .gt 7, 3) := by decide +kernel
theorem dX5_in_10 : decode cX5_in 10 = .ok (.iconst 1, 1) := by decide +kernel
theorem dX5_in_11 : decode cX5_in 11 = .ok (.goto 4, 3) := by decide +kernel
theorem dX5_in_14 : decode cX5_in 14 = .ok (.iconst 0, 1) := by decide +kernel
theorem dX5_in_15 : decode cX5_in 15 = .ok (.ireturn, 1) := by decide +kernel
theorem dX5_area_0 : decode cX5_area 0 = .ok (.aload_n 0, 1) := by decide +kernel
theorem dX5_area_1 : decode cX5_area 1 = .ok (.getfield 48, 3) := by decide +kernel
theorem dX5_area_4 : decode cX5_area 4 = .ok (.aload_n 0, 1) := by decide +kernel
theorem dX5_area_5 : decode cX5_area 5 = .ok (.getfield 45, 3) := by decide +kernel
theorem dX5_area_8 : decode cX5_area 8 = .ok (.iconst 2, 1) := by decide +kernel
theorem dX5_area_9 : decode cX5_area 9 = .ok (.iadd, 1) := by decide +kernel
theorem dX5_area_10 : decode cX5_area 10 = .ok (.imul, 1) := by decide +kernel
theorem dX5_area_11 : decode cX5_area 11 = .ok (.ireturn, 1) := by decide +kernel
theorem dX5_placeOf_0 : decode cX5_placeOf 0 = .ok (.iload_n 2, 1) := by decide +kernel
theorem dX5_placeOf_1 : decode cX5_placeOf 1 = .ok (.iconst 1, 1) := by decide +kernel
theorem dX5_placeOf_2 : decode cX5_placeOf 2 = .ok (.iadd, 1) := by decide +kernel
theorem dX5_placeOf_3 : decode cX5_placeOf 3 = .ok (.aload_n 0, 1) := by decide +kernel
theorem dX5_placeOf_4 : decode cX5_placeOf 4 = .ok (.getfield 48, 3) := by decide +kernel
theorem dX5_placeOf_7 : decode cX5_placeOf 7 = .ok (.imul, 1) := by decide +kernel
theorem dX5_placeOf_8 : decode cX5_placeOf 8 = .ok (.iload_n 1, 1) := by decide +kernel
theorem dX5_placeOf_9 : decode cX5_placeOf 9 = .ok (.iadd, 1) := by decide +kernel
theorem dX5_placeOf_10 : decode cX5_placeOf 10 = .ok (.iconst 1, 1) := by decide +kernel
theorem dX5_placeOf_11 : decode cX5_placeOf 11 = .ok (.iadd, 1) := by decide +kernel
theorem dX5_placeOf_12 : decode cX5_placeOf 12 = .ok (.ireturn, 1) := by decide +kernel
theorem dX5_isPlace_0 : decode cX5_isPlace 0 = .ok (.iload_n 1, 1) := by decide +kernel
theorem dX5_isPlace_1 : decode cX5_isPlace 1 = .ok (.iconst 0, 1) := by decide +kernel
theorem dX5_isPlace_2 : decode cX5_isPlace 2 = .ok (.aload_n 0, 1) := by decide +kernel
theorem dX5_isPlace_3 : decode cX5_isPlace 3 = .ok (.getfield 41, 3) := by decide +kernel
theorem dX5_isPlace_6 : decode cX5_isPlace 6 = .ok (.iconst 1, 1) := by decide +kernel
theorem dX5_isPlace_7 : decode cX5_isPlace 7 = .ok (.isub, 1) := by decide +kernel
theorem dX5_isPlace_8 : decode cX5_isPlace 8 = .ok (.invokestatic 54, 3) := by decide +kernel
theorem dX5_isPlace_11 : decode cX5_isPlace 11 = .ok (.ifCond .eq 21, 3) := by decide +kernel
theorem dX5_isPlace_14 : decode cX5_isPlace 14 = .ok (.iload_n 2, 1) := by decide +kernel
theorem dX5_isPlace_15 : decode cX5_isPlace 15 = .ok (.iconst 0, 1) := by decide +kernel
theorem dX5_isPlace_16 : decode cX5_isPlace 16 = .ok (.aload_n 0, 1) := by decide +kernel
theorem dX5_isPlace_17 : decode cX5_isPlace 17 = .ok (.getfield 45, 3) := by decide +kernel
theorem dX5_isPlace_20 : decode cX5_isPlace 20 = .ok (.iconst 1, 1) := by decide +kernel
theorem dX5_isPlace_21 : decode cX5_isPlace 21 = .ok (.isub, 1) := by decide +kernel
theorem dX5_isPlace_22 : decode cX5_isPlace 22 = .ok (.invokestatic 54, 3) := by decide +kernel
theorem dX5_isPlace_25 : decode cX5_isPlace 25 = .ok (.ifCond .eq 7, 3) := by decide +kernel
theorem dX5_isPlace_28 : decode cX5_isPlace 28 = .ok (.iconst 1, 1) := by decide +kernel
theorem dX5_isPlace_29 : decode cX5_isPlace 29 = .ok (.goto 4, 3) := by decide +kernel
theorem dX5_isPlace_32 : decode cX5_isPlace 32 = .ok (.iconst 0, 1) := by decide +kernel
theorem dX5_isPlace_33 : decode cX5_isPlace 33 = .ok (.ireturn, 1) := by decide +kernel
theorem dX5_near_0 : decode cX5_near 0 = .ok (.iload_n 2, 1) := by decide +kernel
theorem dX5_near_1 : decode cX5_near 1 = .ok (.iconst 4, 1) := by decide +kernel
theorem dX5_near_2 : decode cX5_near 2 = .ok (.irem, 1) := by decide +kernel
theorem dX5_near_3 : decode cX5_near 3 = .ok (.ifCond .ne 7, 3) := by decide +kernel
theorem dX5_near_6 : decode cX5_near 6 = .ok (.iconst 0, 1) := by decide +kernel
theorem dX5_near_7 : decode cX5_near 7 = .ok (.goto 13, 3) := by decide +kernel
theorem dX5_near_10 : decode cX5_near 10 = .ok (.iload_n 2, 1) := by decide +kernel
theorem dX5_near_11 : decode cX5_near 11 = .ok (.iconst 4, 1) := by decide +kernel
theorem dX5_near_12 : decode cX5_near 12 = .ok (.if_icmp .ge 7, 3) := by decide +kernel
theorem dX5_near_15 : decode cX5_near 15 = .ok (.iconst 1, 1) := by decide +kernel
theorem dX5_near_16 : decode cX5_near 16 = .ok (.goto 4, 3) := by decide +kernel
theorem dX5_near_19 : decode cX5_near 19 = .ok (.iconst (-1), 1) := by decide +kernel
theorem dX5_near_20 : decode cX5_near 20 = .ok (.istore_n 3, 1) := by decide +kernel
theorem dX5_near_21 : decode cX5_near 21 = .ok (.iload_n 2, 1) := by decide +kernel
theorem dX5_near_22 : decode cX5_near 22 = .ok (.iconst 2, 1) := by decide +kernel
theorem dX5_near_23 : decode cX5_near 23 = .ok (.if_icmp .eq 9, 3) := by decide +kernel
theorem dX5_near_26 : decode cX5_near 26 = .ok (.iload_n 2, 1) := by decide +kernel
theorem dX5_near_27 : decode cX5_near 27 = .ok (.bipush 6, 2) := by decide +kernel
theorem dX5_near_29 : decode cX5_near 29 = .ok (.if_icmp .ne 7, 3) := by decide +kernel
theorem dX5_near_32 : decode cX5_near 32 = .ok (.iconst 0, 1) := by decide +kernel
theorem dX5_near_33 : decode cX5_near 33 = .ok (.goto 19, 3) := by decide +kernel
theorem dX5_near_36 : decode cX5_near 36 = .ok (.iload_n 2, 1) := by decide +kernel
theorem dX5_near_37 : decode cX5_near 37 = .ok (.bipush 7, 2) := by decide +kernel
theorem dX5_near_39 : decode cX5_near 39 = .ok (.if_icmp .eq 8, 3) := by decide +kernel
theorem dX5_near_42 : decode cX5_near 42 = .ok (.iload_n 2, 1) := by decide +kernel
theorem dX5_near_43 : decode cX5_near 43 = .ok (.iconst 2, 1) := by decide +kernel
theorem dX5_near_44 : decode cX5_near 44 = .ok (.if_icmp .ge 7, 3) := by decide +kernel
theorem dX5_near_47 : decode cX5_near 47 = .ok (.iconst (-1), 1) := by decide +kernel
theorem dX5_near_48 : decode cX5_near 48 = .ok (.goto 4, 3) := by decide +kernel
theorem dX5_near_51 : decode cX5_near 51 = .ok (.iconst 1, 1) := by decide +kernel
theorem dX5_near_52 : decode cX5_near 52 = .ok (.istore 4, 2) := by decide +kernel
theorem dX5_near_54 : decode cX5_near 54 = .ok (.iload_n 1, 1) := by decide +kernel
theorem dX5_near_55 : decode cX5_near 55 = .ok (.iload 4, 2) := by decide +kernel
theorem dX5_near_57 : decode cX5_near 57 = .ok (.aload_n 0, 1) := by decide +kernel
theorem dX5_near_58 : decode cX5_near 58 = .ok (.getfield 48, 3) := by decide +kernel
theorem dX5_near_61 : decode cX5_near 61 = .ok (.imul, 1) := by decide +kernel
theorem dX5_near_62 : decode cX5_near 62 = .ok (.iadd, 1) := by decide +kernel
theorem dX5_near_63 : decode cX5_near 63 = .ok (.iload_n 3, 1) := by decide +kernel
theorem dX5_near_64 : decode cX5_near 64 = .ok (.iadd, 1) := by decide +kernel
theorem dX5_near_65 : decode cX5_near 65 = .ok (.ireturn, 1) := by decide +kernel
theorem dX5_black_0 : decode cX5_black 0 = .ok (.aload_n 0, 1) := by decide +kernel
theorem dX5_black_1 : decode cX5_black 1 = .ok (.getfield 13, 3) := by decide +kernel
theorem dX5_black_4 : decode cX5_black 4 = .ok (.aload_n 0, 1) := by decide +kernel
theorem dX5_black_5 : decode cX5_black 5 = .ok (.iload_n 1, 1) := by decide +kernel
theorem dX5_black_6 : decode cX5_black 6 = .ok (.iload_n 2, 1) := by decide +kernel
theorem dX5_black_7 : decode cX5_black 7 = .ok (.bipush 8, 2) := by decide +kernel
theorem dX5_black_9 : decode cX5_black 9 = .ok (.irem, 1) := by decide +kernel
theorem dX5_black_10 : decode cX5_black 10 = .ok (.invokevirtual 58, 3) := by decide +kernel
theorem dX5_black_13 : decode cX5_black 13 = .ok (.baload, 1) := by decide +kernel
theorem dX5_black_14 : decode cX5_black 14 = .ok (.ireturn, 1) := by decide +kernel
theorem dX5_blackRound_0 : decode cX5_blackRound 0 = .ok (.iconst 0, 1) := by decide +kernel
theorem dX5_blackRound_1 : decode cX5_blackRound 1 = .ok (.istore_n 2, 1) := by decide +kernel
theorem dX5_blackRound_2 : decode cX5_blackRound 2 = .ok (.iconst 0, 1) := by decide +kernel
theorem dX5_blackRound_3 : decode cX5_blackRound 3 = .ok (.istore_n 3, 1) := by decide +kernel
theorem dX5_blackRound_4 : decode cX5_blackRound 4 = .ok (.iload_n 3, 1) := by decide +kernel
theorem dX5_blackRound_5 : decode cX5_blackRound 5 = .ok (.bipush 8, 2) := by decide +kernel
theorem dX5_blackRound_7 : decode cX5_blackRound 7 = .ok (.if_icmp .ge 26, 3) := by decide +kernel
theorem dX5_blackRound_10 : decode cX5_blackRound 10 = .ok (.iload_n 2, 1) := by decide +kernel
theorem dX5_blackRound_11 : decode cX5_blackRound 11 = .ok (.aload_n 0, 1) := by decide +kernel
theorem dX5_blackRound_12 : decode cX5_blackRound 12 = .ok (.iload_n 1, 1) := by decide +kernel
theorem dX5_blackRound_13 : decode cX5_blackRound 13 = .ok (.iload_n 3, 1) := by decide +kernel
theorem dX5_blackRound_14 : decode cX5_blackRound 14 = .ok (.invokevirtual 62, 3) := by decide +kernel
theorem dX5_blackRound_17 : decode cX5_blackRound 17 = .ok (.ifCond .eq 7, 3) := by decide +kernel
theorem dX5_blackRound_20 : decode cX5_blackRound 20 = .ok (.iconst 1, 1) := by decide +kernel
theorem dX5_blackRound_21 : decode cX5_blackRound 21 = .ok (.goto 4, 3) := by decide +kernel
theorem dX5_blackRound_24 : decode cX5_blackRound 24 = .ok (.iconst 0, 1) := by decide +kernel
theorem dX5_blackRound_25 : decode cX5_blackRound 25 = .ok (.iadd, 1) := by decide +kernel
theorem dX5_blackRound_26 : decode cX5_blackRound 26 = .ok (.istore_n 2, 1) := by decide +kernel
theorem dX5_blackRound_27 : decode cX5_blackRound 27 = .ok (.iinc 3 1, 3) := by decide +kernel
theorem dX5_blackRound_30 : decode cX5_blackRound 30 = .ok (.goto (-26), 3) := by decide +kernel
theorem dX5_blackRound_33 : decode cX5_blackRound 33 = .ok (.iload_n 2, 1) := by decide +kernel
theorem dX5_blackRound_34 : decode cX5_blackRound 34 = .ok (.ireturn, 1) := by decide +kernel
theorem dX5_isSimple_0 : decode cX5_isSimple 0 = .ok (.iconst 0, 1) := by decide +kernel
theorem dX5_isSimple_1 : decode cX5_isSimple 1 = .ok (.istore_n 2, 1) := by decide +kernel
theorem dX5_isSimple_2 : decode cX5_isSimple 2 = .ok (.iconst 0, 1) := by decide +kernel
theorem dX5_isSimple_3 : decode cX5_isSimple 3 = .ok (.istore_n 3, 1) := by decide +kernel
theorem dX5_isSimple_4 : decode cX5_isSimple 4 = .ok (.iload_n 3, 1) := by decide +kernel
theorem dX5_isSimple_5 : decode cX5_isSimple 5 = .ok (.bipush 8, 2) := by decide +kernel
theorem dX5_isSimple_7 : decode cX5_isSimple 7 = .ok (.if_icmp .ge 48, 3) := by decide +kernel
theorem dX5_isSimple_10 : decode cX5_isSimple 10 = .ok (.iload_n 2, 1) := by decide +kernel
theorem dX5_isSimple_11 : decode cX5_isSimple 11 = .ok (.aload_n 0, 1) := by decide +kernel
theorem dX5_isSimple_12 : decode cX5_isSimple 12 = .ok (.iload_n 1, 1) := by decide +kernel
theorem dX5_isSimple_13 : decode cX5_isSimple 13 = .ok (.iload_n 3, 1) := by decide +kernel
theorem dX5_isSimple_14 : decode cX5_isSimple 14 = .ok (.invokevirtual 62, 3) := by decide +kernel
theorem dX5_isSimple_17 : decode cX5_isSimple 17 = .ok (.ifCond .ne 29, 3) := by decide +kernel
theorem dX5_isSimple_20 : decode cX5_isSimple 20 = .ok (.aload_n 0, 1) := by decide +kernel
theorem dX5_isSimple_21 : decode cX5_isSimple 21 = .ok (.iload_n 1, 1) := by decide +kernel
theorem dX5_isSimple_22 : decode cX5_isSimple 22 = .ok (.iload_n 3, 1) := by decide +kernel
theorem dX5_isSimple_23 : decode cX5_isSimple 23 = .ok (.iconst 1, 1) := by decide +kernel
theorem dX5_isSimple_24 : decode cX5_isSimple 24 = .ok (.iadd, 1) := by decide +kernel
theorem dX5_isSimple_25 : decode cX5_isSimple 25 = .ok (.invokevirtual 62, 3) := by decide +kernel
theorem dX5_isSimple_28 : decode cX5_isSimple 28 = .ok (.ifCond .ne 14, 3) := by decide +kernel
theorem dX5_isSimple_31 : decode cX5_isSimple 31 = .ok (.aload_n 0, 1) := by decide +kernel
theorem dX5_isSimple_32 : decode cX5_isSimple 32 = .ok (.iload_n 1, 1) := by decide +kernel
theorem dX5_isSimple_33 : decode cX5_isSimple 33 = .ok (.iload_n 3, 1) := by decide +kernel
theorem dX5_isSimple_34 : decode cX5_isSimple 34 = .ok (.iconst 2, 1) := by decide +kernel
theorem dX5_isSimple_35 : decode cX5_isSimple 35 = .ok (.iadd, 1) := by decide +kernel
theorem dX5_isSimple_36 : decode cX5_isSimple 36 = .ok (.invokevirtual 62, 3) := by decide +kernel
theorem dX5_isSimple_39 : decode cX5_isSimple 39 = .ok (.ifCond .eq 7, 3) := by decide +kernel
theorem dX5_isSimple_42 : decode cX5_isSimple 42 = .ok (.iconst 1, 1) := by decide +kernel
theorem dX5_isSimple_43 : decode cX5_isSimple 43 = .ok (.goto 4, 3) := by decide +kernel
theorem dX5_isSimple_46 : decode cX5_isSimple 46 = .ok (.iconst 0, 1) := by decide +kernel
theorem dX5_isSimple_47 : decode cX5_isSimple 47 = .ok (.iadd, 1) := by decide +kernel
theorem dX5_isSimple_48 : decode cX5_isSimple 48 = .ok (.istore_n 2, 1) := by decide +kernel
theorem dX5_isSimple_49 : decode cX5_isSimple 49 = .ok (.iinc 3 2, 3) := by decide +kernel
theorem dX5_isSimple_52 : decode cX5_isSimple 52 = .ok (.goto (-48), 3) := by decide +kernel
theorem dX5_isSimple_55 : decode cX5_isSimple 55 = .ok (.iload_n 2, 1) := by decide +kernel
theorem dX5_isSimple_56 : decode cX5_isSimple 56 = .ok (.iconst 1, 1) := by decide +kernel
theorem dX5_isSimple_57 : decode cX5_isSimple 57 = .ok (.if_icmp .ne 7, 3) := by decide +kernel
theorem dX5_isSimple_60 : decode cX5_isSimple 60 = .ok (.iconst 1, 1) := by decide +kernel
theorem dX5_isSimple_61 : decode cX5_isSimple 61 = .ok (.goto 4, 3) := by decide +kernel
theorem dX5_isSimple_64 : decode cX5_isSimple 64 = .ok (.iconst 0, 1) := by decide +kernel
theorem dX5_isSimple_65 : decode cX5_isSimple 65 = .ok (.ireturn, 1) := by decide +kernel
theorem dX5_mayGo_0 : decode cX5_mayGo 0 = .ok (.aload_n 0, 1) := by decide +kernel
theorem dX5_mayGo_1 : decode cX5_mayGo 1 = .ok (.getfield 13, 3) := by decide +kernel
theorem dX5_mayGo_4 : decode cX5_mayGo 4 = .ok (.iload_n 1, 1) := by decide +kernel
theorem dX5_mayGo_5 : decode cX5_mayGo 5 = .ok (.baload, 1) := by decide +kernel
theorem dX5_mayGo_6 : decode cX5_mayGo 6 = .ok (.ifCond .eq 24, 3) := by decide +kernel
theorem dX5_mayGo_9 : decode cX5_mayGo 9 = .ok (.aload_n 0, 1) := by decide +kernel
theorem dX5_mayGo_10 : decode cX5_mayGo 10 = .ok (.iload_n 1, 1) := by decide +kernel
theorem dX5_mayGo_11 : decode cX5_mayGo 11 = .ok (.invokevirtual 66, 3) := by decide +kernel
theorem dX5_mayGo_14 : decode cX5_mayGo 14 = .ok (.iconst 1, 1) := by decide +kernel
theorem dX5_mayGo_15 : decode cX5_mayGo 15 = .ok (.if_icmp .eq 15, 3) := by decide +kernel
theorem dX5_mayGo_18 : decode cX5_mayGo 18 = .ok (.aload_n 0, 1) := by decide +kernel
theorem dX5_mayGo_19 : decode cX5_mayGo 19 = .ok (.iload_n 1, 1) := by decide +kernel
theorem dX5_mayGo_20 : decode cX5_mayGo 20 = .ok (.invokevirtual 70, 3) := by decide +kernel
theorem dX5_mayGo_23 : decode cX5_mayGo 23 = .ok (.ifCond .eq 7, 3) := by decide +kernel
theorem dX5_mayGo_26 : decode cX5_mayGo 26 = .ok (.iconst 1, 1) := by decide +kernel
theorem dX5_mayGo_27 : decode cX5_mayGo 27 = .ok (.goto 4, 3) := by decide +kernel
theorem dX5_mayGo_30 : decode cX5_mayGo 30 = .ok (.iconst 0, 1) := by decide +kernel
theorem dX5_mayGo_31 : decode cX5_mayGo 31 = .ok (.ireturn, 1) := by decide +kernel
theorem dX5_half_0 : decode cX5_half 0 = .ok (.iconst 0, 1) := by decide +kernel
theorem dX5_half_1 : decode cX5_half 1 = .ok (.istore_n 3, 1) := by decide +kernel
theorem dX5_half_2 : decode cX5_half 2 = .ok (.iload_n 3, 1) := by decide +kernel
theorem dX5_half_3 : decode cX5_half 3 = .ok (.aload_n 0, 1) := by decide +kernel
theorem dX5_half_4 : decode cX5_half 4 = .ok (.invokevirtual 74, 3) := by decide +kernel
theorem dX5_half_7 : decode cX5_half 7 = .ok (.if_icmp .ge 55, 3) := by decide +kernel
theorem dX5_half_10 : decode cX5_half 10 = .ok (.aload_n 0, 1) := by decide +kernel
theorem dX5_half_11 : decode cX5_half 11 = .ok (.getfield 16, 3) := by decide +kernel
theorem dX5_half_14 : decode cX5_half 14 = .ok (.iload_n 3, 1) := by decide +kernel
theorem dX5_half_15 : decode cX5_half 15 = .ok (.aload_n 0, 1) := by decide +kernel
theorem dX5_half_16 : decode cX5_half 16 = .ok (.getfield 13, 3) := by decide +kernel
theorem dX5_half_19 : decode cX5_half 19 = .ok (.iload_n 3, 1) := by decide +kernel
theorem dX5_half_20 : decode cX5_half 20 = .ok (.baload, 1) := by decide +kernel
theorem dX5_half_21 : decode cX5_half 21 = .ok (.ifCond .eq 33, 3) := by decide +kernel
theorem dX5_half_24 : decode cX5_half 24 = .ok (.aload_n 0, 1) := by decide +kernel
theorem dX5_half_25 : decode cX5_half 25 = .ok (.iload_n 3, 1) := by decide +kernel
theorem dX5_half_26 : decode cX5_half 26 = .ok (.iload_n 1, 1) := by decide +kernel
theorem dX5_half_27 : decode cX5_half 27 = .ok (.invokevirtual 62, 3) := by decide +kernel
theorem dX5_half_30 : decode cX5_half 30 = .ok (.ifCond .eq 12, 3) := by decide +kernel
theorem dX5_half_33 : decode cX5_half 33 = .ok (.aload_n 0, 1) := by decide +kernel
theorem dX5_half_34 : decode cX5_half 34 = .ok (.iload_n 3, 1) := by decide +kernel
theorem dX5_half_35 : decode cX5_half 35 = .ok (.iload_n 2, 1) := by decide +kernel
theorem dX5_half_36 : decode cX5_half 36 = .ok (.invokevirtual 62, 3) := by decide +kernel
theorem dX5_half_39 : decode cX5_half 39 = .ok (.ifCond .ne 15, 3) := by decide +kernel
theorem dX5_half_42 : decode cX5_half 42 = .ok (.aload_n 0, 1) := by decide +kernel
theorem dX5_half_43 : decode cX5_half 43 = .ok (.iload_n 3, 1) := by decide +kernel
theorem dX5_half_44 : decode cX5_half 44 = .ok (.invokevirtual 78, 3) := by decide +kernel
theorem dX5_half_47 : decode cX5_half 47 = .ok (.ifCond .eq 7, 3) := by decide +kernel
theorem dX5_half_50 : decode cX5_half 50 = .ok (.iconst 1, 1) := by decide +kernel
theorem dX5_half_51 : decode cX5_half 51 = .ok (.goto 4, 3) := by decide +kernel
theorem dX5_half_54 : decode cX5_half 54 = .ok (.iconst 0, 1) := by decide +kernel
theorem dX5_half_55 : decode cX5_half 55 = .ok (.bastore, 1) := by decide +kernel
theorem dX5_half_56 : decode cX5_half 56 = .ok (.iinc 3 1, 3) := by decide +kernel
theorem dX5_half_59 : decode cX5_half 59 = .ok (.goto (-57), 3) := by decide +kernel
theorem dX5_half_62 : decode cX5_half 62 = .ok (.iconst 0, 1) := by decide +kernel
theorem dX5_half_63 : decode cX5_half 63 = .ok (.istore_n 3, 1) := by decide +kernel
theorem dX5_half_64 : decode cX5_half 64 = .ok (.iconst 0, 1) := by decide +kernel
theorem dX5_half_65 : decode cX5_half 65 = .ok (.istore 4, 2) := by decide +kernel
theorem dX5_half_67 : decode cX5_half 67 = .ok (.iload 4, 2) := by decide +kernel
theorem dX5_half_69 : decode cX5_half 69 = .ok (.aload_n 0, 1) := by decide +kernel
theorem dX5_half_70 : decode cX5_half 70 = .ok (.invokevirtual 74, 3) := by decide +kernel
theorem dX5_half_73 : decode cX5_half 73 = .ok (.if_icmp .ge 39, 3) := by decide +kernel
theorem dX5_half_76 : decode cX5_half 76 = .ok (.aload_n 0, 1) := by decide +kernel
theorem dX5_half_77 : decode cX5_half 77 = .ok (.getfield 16, 3) := by decide +kernel
theorem dX5_half_80 : decode cX5_half 80 = .ok (.iload 4, 2) := by decide +kernel
theorem dX5_half_82 : decode cX5_half 82 = .ok (.baload, 1) := by decide +kernel
theorem dX5_half_83 : decode cX5_half 83 = .ok (.ifCond .eq 23, 3) := by decide +kernel
theorem dX5_half_86 : decode cX5_half 86 = .ok (.aload_n 0, 1) := by decide +kernel
theorem dX5_half_87 : decode cX5_half 87 = .ok (.iload 4, 2) := by decide +kernel
theorem dX5_half_89 : decode cX5_half 89 = .ok (.invokevirtual 78, 3) := by decide +kernel
theorem dX5_half_92 : decode cX5_half 92 = .ok (.ifCond .eq 14, 3) := by decide +kernel
theorem dX5_half_95 : decode cX5_half 95 = .ok (.aload_n 0, 1) := by decide +kernel
theorem dX5_half_96 : decode cX5_half 96 = .ok (.getfield 13, 3) := by decide +kernel
theorem dX5_half_99 : decode cX5_half 99 = .ok (.iload 4, 2) := by decide +kernel
theorem dX5_half_101 : decode cX5_half 101 = .ok (.iconst 0, 1) := by decide +kernel
theorem dX5_half_102 : decode cX5_half 102 = .ok (.bastore, 1) := by decide +kernel
theorem dX5_half_103 : decode cX5_half 103 = .ok (.iinc 3 1, 3) := by decide +kernel
theorem dX5_half_106 : decode cX5_half 106 = .ok (.iinc 4 1, 3) := by decide +kernel
theorem dX5_half_109 : decode cX5_half 109 = .ok (.goto (-42), 3) := by decide +kernel
theorem dX5_half_112 : decode cX5_half 112 = .ok (.iload_n 3, 1) := by decide +kernel
theorem dX5_half_113 : decode cX5_half 113 = .ok (.ireturn, 1) := by decide +kernel
theorem dX5_thin_0 : decode cX5_thin 0 = .ok (.aload_n 0, 1) := by decide +kernel
theorem dX5_thin_1 : decode cX5_thin 1 = .ok (.iconst 0, 1) := by decide +kernel
theorem dX5_thin_2 : decode cX5_thin 2 = .ok (.putfield 51, 3) := by decide +kernel
theorem dX5_thin_5 : decode cX5_thin 5 = .ok (.iconst 0, 1) := by decide +kernel
theorem dX5_thin_6 : decode cX5_thin 6 = .ok (.istore_n 1, 1) := by decide +kernel
theorem dX5_thin_7 : decode cX5_thin 7 = .ok (.iconst 1, 1) := by decide +kernel
theorem dX5_thin_8 : decode cX5_thin 8 = .ok (.istore_n 2, 1) := by decide +kernel
theorem dX5_thin_9 : decode cX5_thin 9 = .ok (.iload_n 2, 1) := by decide +kernel
theorem dX5_thin_10 : decode cX5_thin 10 = .ok (.ifCond .le 35, 3) := by decide +kernel
theorem dX5_thin_13 : decode cX5_thin 13 = .ok (.aload_n 0, 1) := by decide +kernel
theorem dX5_thin_14 : decode cX5_thin 14 = .ok (.iconst 0, 1) := by decide +kernel
theorem dX5_thin_15 : decode cX5_thin 15 = .ok (.bipush 6, 2) := by decide +kernel
theorem dX5_thin_17 : decode cX5_thin 17 = .ok (.invokevirtual 81, 3) := by decide +kernel
theorem dX5_thin_20 : decode cX5_thin 20 = .ok (.istore_n 2, 1) := by decide +kernel
theorem dX5_thin_21 : decode cX5_thin 21 = .ok (.iload_n 2, 1) := by decide +kernel
theorem dX5_thin_22 : decode cX5_thin 22 = .ok (.aload_n 0, 1) := by decide +kernel
theorem dX5_thin_23 : decode cX5_thin 23 = .ok (.iconst 4, 1) := by decide +kernel
theorem dX5_thin_24 : decode cX5_thin 24 = .ok (.iconst 2, 1) := by decide +kernel
theorem dX5_thin_25 : decode cX5_thin 25 = .ok (.invokevirtual 81, 3) := by decide +kernel
theorem dX5_thin_28 : decode cX5_thin 28 = .ok (.iadd, 1) := by decide +kernel
theorem dX5_thin_29 : decode cX5_thin 29 = .ok (.istore_n 2, 1) := by decide +kernel
theorem dX5_thin_30 : decode cX5_thin 30 = .ok (.iload_n 1, 1) := by decide +kernel
theorem dX5_thin_31 : decode cX5_thin 31 = .ok (.iload_n 2, 1) := by decide +kernel
theorem dX5_thin_32 : decode cX5_thin 32 = .ok (.ifCond .le 7, 3) := by decide +kernel
theorem dX5_thin_35 : decode cX5_thin 35 = .ok (.iconst 1, 1) := by decide +kernel
theorem dX5_thin_36 : decode cX5_thin 36 = .ok (.goto 4, 3) := by decide +kernel
theorem dX5_thin_39 : decode cX5_thin 39 = .ok (.iconst 0, 1) := by decide +kernel
theorem dX5_thin_40 : decode cX5_thin 40 = .ok (.iadd, 1) := by decide +kernel
theorem dX5_thin_41 : decode cX5_thin 41 = .ok (.istore_n 1, 1) := by decide +kernel
theorem dX5_thin_42 : decode cX5_thin 42 = .ok (.goto (-33), 3) := by decide +kernel
theorem dX5_thin_45 : decode cX5_thin 45 = .ok (.aload_n 0, 1) := by decide +kernel
theorem dX5_thin_46 : decode cX5_thin 46 = .ok (.iconst 1, 1) := by decide +kernel
theorem dX5_thin_47 : decode cX5_thin 47 = .ok (.putfield 84, 3) := by decide +kernel
theorem dX5_thin_50 : decode cX5_thin 50 = .ok (.aload_n 0, 1) := by decide +kernel
theorem dX5_thin_51 : decode cX5_thin 51 = .ok (.iconst 0, 1) := by decide +kernel
theorem dX5_thin_52 : decode cX5_thin 52 = .ok (.putfield 88, 3) := by decide +kernel
theorem dX5_thin_55 : decode cX5_thin 55 = .ok (.iload_n 1, 1) := by decide +kernel
theorem dX5_thin_56 : decode cX5_thin 56 = .ok (.ireturn, 1) := by decide +kernel
theorem dX5_isLinked_0 : decode cX5_isLinked 0 = .ok (.iload_n 2, 1) := by decide +kernel
theorem dX5_isLinked_1 : decode cX5_isLinked 1 = .ok (.iconst 2, 1) := by decide +kernel
theorem dX5_isLinked_2 : decode cX5_isLinked 2 = .ok (.irem, 1) := by decide +kernel
theorem dX5_isLinked_3 : decode cX5_isLinked 3 = .ok (.iconst 1, 1) := by decide +kernel
theorem dX5_isLinked_4 : decode cX5_isLinked 4 = .ok (.if_icmp .ne 7, 3) := by decide +kernel
theorem dX5_isLinked_7 : decode cX5_isLinked 7 = .ok (.iconst 1, 1) := by decide +kernel
theorem dX5_isLinked_8 : decode cX5_isLinked 8 = .ok (.goto 4, 3) := by decide +kernel
theorem dX5_isLinked_11 : decode cX5_isLinked 11 = .ok (.iconst 0, 1) := by decide +kernel
theorem dX5_isLinked_12 : decode cX5_isLinked 12 = .ok (.istore_n 3, 1) := by decide +kernel
theorem dX5_isLinked_13 : decode cX5_isLinked 13 = .ok (.aload_n 0, 1) := by decide +kernel
theorem dX5_isLinked_14 : decode cX5_isLinked 14 = .ok (.getfield 13, 3) := by decide +kernel
theorem dX5_isLinked_17 : decode cX5_isLinked 17 = .ok (.iload_n 1, 1) := by decide +kernel
theorem dX5_isLinked_18 : decode cX5_isLinked 18 = .ok (.baload, 1) := by decide +kernel
theorem dX5_isLinked_19 : decode cX5_isLinked 19 = .ok (.ifCond .eq 43, 3) := by decide +kernel
theorem dX5_isLinked_22 : decode cX5_isLinked 22 = .ok (.aload_n 0, 1) := by decide +kernel
theorem dX5_isLinked_23 : decode cX5_isLinked 23 = .ok (.iload_n 1, 1) := by decide +kernel
theorem dX5_isLinked_24 : decode cX5_isLinked 24 = .ok (.iload_n 2, 1) := by decide +kernel
theorem dX5_isLinked_25 : decode cX5_isLinked 25 = .ok (.invokevirtual 62, 3) := by decide +kernel
theorem dX5_isLinked_28 : decode cX5_isLinked 28 = .ok (.ifCond .eq 34, 3) := by decide +kernel
theorem dX5_isLinked_31 : decode cX5_isLinked 31 = .ok (.iload_n 3, 1) := by decide +kernel
theorem dX5_isLinked_32 : decode cX5_isLinked 32 = .ok (.ifCond .eq 26, 3) := by decide +kernel
theorem dX5_isLinked_35 : decode cX5_isLinked 35 = .ok (.aload_n 0, 1) := by decide +kernel
theorem dX5_isLinked_36 : decode cX5_isLinked 36 = .ok (.iload_n 1, 1) := by decide +kernel
theorem dX5_isLinked_37 : decode cX5_isLinked 37 = .ok (.iload_n 2, 1) := by decide +kernel
theorem dX5_isLinked_38 : decode cX5_isLinked 38 = .ok (.bipush 7, 2) := by decide +kernel
theorem dX5_isLinked_40 : decode cX5_isLinked 40 = .ok (.iadd, 1) := by decide +kernel
theorem dX5_isLinked_41 : decode cX5_isLinked 41 = .ok (.invokevirtual 62, 3) := by decide +kernel
theorem dX5_isLinked_44 : decode cX5_isLinked 44 = .ok (.ifCond .ne 18, 3) := by decide +kernel
theorem dX5_isLinked_47 : decode cX5_isLinked 47 = .ok (.aload_n 0, 1) := by decide +kernel
theorem dX5_isLinked_48 : decode cX5_isLinked 48 = .ok (.iload_n 1, 1) := by decide +kernel
theorem dX5_isLinked_49 : decode cX5_isLinked 49 = .ok (.iload_n 2, 1) := by decide +kernel
theorem dX5_isLinked_50 : decode cX5_isLinked 50 = .ok (.iconst 1, 1) := by decide +kernel
theorem dX5_isLinked_51 : decode cX5_isLinked 51 = .ok (.iadd, 1) := by decide +kernel
theorem dX5_isLinked_52 : decode cX5_isLinked 52 = .ok (.invokevirtual 62, 3) := by decide +kernel
theorem dX5_isLinked_55 : decode cX5_isLinked 55 = .ok (.ifCond .ne 7, 3) := by decide +kernel
theorem dX5_isLinked_58 : decode cX5_isLinked 58 = .ok (.iconst 1, 1) := by decide +kernel
theorem dX5_isLinked_59 : decode cX5_isLinked 59 = .ok (.goto 4, 3) := by decide +kernel
theorem dX5_isLinked_62 : decode cX5_isLinked 62 = .ok (.iconst 0, 1) := by decide +kernel
theorem dX5_isLinked_63 : decode cX5_isLinked 63 = .ok (.ireturn, 1) := by decide +kernel
theorem dX5_degree_0 : decode cX5_degree 0 = .ok (.iconst 0, 1) := by decide +kernel
theorem dX5_degree_1 : decode cX5_degree 1 = .ok (.istore_n 2, 1) := by decide +kernel
theorem dX5_degree_2 : decode cX5_degree 2 = .ok (.iconst 0, 1) := by decide +kernel
theorem dX5_degree_3 : decode cX5_degree 3 = .ok (.istore_n 3, 1) := by decide +kernel
theorem dX5_degree_4 : decode cX5_degree 4 = .ok (.iload_n 3, 1) := by decide +kernel
theorem dX5_degree_5 : decode cX5_degree 5 = .ok (.bipush 8, 2) := by decide +kernel
theorem dX5_degree_7 : decode cX5_degree 7 = .ok (.if_icmp .ge 26, 3) := by decide +kernel
theorem dX5_degree_10 : decode cX5_degree 10 = .ok (.iload_n 2, 1) := by decide +kernel
theorem dX5_degree_11 : decode cX5_degree 11 = .ok (.aload_n 0, 1) := by decide +kernel
theorem dX5_degree_12 : decode cX5_degree 12 = .ok (.iload_n 1, 1) := by decide +kernel
theorem dX5_degree_13 : decode cX5_degree 13 = .ok (.iload_n 3, 1) := by decide +kernel
theorem dX5_degree_14 : decode cX5_degree 14 = .ok (.invokevirtual 91, 3) := by decide +kernel
theorem dX5_degree_17 : decode cX5_degree 17 = .ok (.ifCond .eq 7, 3) := by decide +kernel
theorem dX5_degree_20 : decode cX5_degree 20 = .ok (.iconst 1, 1) := by decide +kernel
theorem dX5_degree_21 : decode cX5_degree 21 = .ok (.goto 4, 3) := by decide +kernel
theorem dX5_degree_24 : decode cX5_degree 24 = .ok (.iconst 0, 1) := by decide +kernel
theorem dX5_degree_25 : decode cX5_degree 25 = .ok (.iadd, 1) := by decide +kernel
theorem dX5_degree_26 : decode cX5_degree 26 = .ok (.istore_n 2, 1) := by decide +kernel
theorem dX5_degree_27 : decode cX5_degree 27 = .ok (.iinc 3 1, 3) := by decide +kernel
theorem dX5_degree_30 : decode cX5_degree 30 = .ok (.goto (-26), 3) := by decide +kernel
theorem dX5_degree_33 : decode cX5_degree 33 = .ok (.iload_n 2, 1) := by decide +kernel
theorem dX5_degree_34 : decode cX5_degree 34 = .ok (.ireturn, 1) := by decide +kernel
theorem dX5_add_0 : decode cX5_add 0 = .ok (.aload_n 0, 1) := by decide +kernel
theorem dX5_add_1 : decode cX5_add 1 = .ok (.getfield 26, 3) := by decide +kernel
theorem dX5_add_4 : decode cX5_add 4 = .ok (.aload_n 0, 1) := by decide +kernel
theorem dX5_add_5 : decode cX5_add 5 = .ok (.getfield 94, 3) := by decide +kernel
theorem dX5_add_8 : decode cX5_add 8 = .ok (.iload_n 1, 1) := by decide +kernel
theorem dX5_add_9 : decode cX5_add 9 = .ok (.iastore, 1) := by decide +kernel
theorem dX5_add_10 : decode cX5_add 10 = .ok (.aload_n 0, 1) := by decide +kernel
theorem dX5_add_11 : decode cX5_add 11 = .ok (.getfield 32, 3) := by decide +kernel
theorem dX5_add_14 : decode cX5_add 14 = .ok (.iload_n 1, 1) := by decide +kernel
theorem dX5_add_15 : decode cX5_add 15 = .ok (.iconst 1, 1) := by decide +kernel
theorem dX5_add_16 : decode cX5_add 16 = .ok (.bastore, 1) := by decide +kernel
theorem dX5_add_17 : decode cX5_add 17 = .ok (.aload_n 0, 1) := by decide +kernel
theorem dX5_add_18 : decode cX5_add 18 = .ok (.dup, 1) := by decide +kernel
theorem dX5_add_19 : decode cX5_add 19 = .ok (.getfield 94, 3) := by decide +kernel
theorem dX5_add_22 : decode cX5_add 22 = .ok (.iconst 1, 1) := by decide +kernel
theorem dX5_add_23 : decode cX5_add 23 = .ok (.iadd, 1) := by decide +kernel
theorem dX5_add_24 : decode cX5_add 24 = .ok (.putfield 94, 3) := by decide +kernel
theorem dX5_add_27 : decode cX5_add 27 = .ok (.return_, 1) := by decide +kernel
theorem dX5_begin_0 : decode cX5_begin 0 = .ok (.aload_n 0, 1) := by decide +kernel
theorem dX5_begin_1 : decode cX5_begin 1 = .ok (.getfield 23, 3) := by decide +kernel
theorem dX5_begin_4 : decode cX5_begin 4 = .ok (.aload_n 0, 1) := by decide +kernel
theorem dX5_begin_5 : decode cX5_begin 5 = .ok (.getfield 97, 3) := by decide +kernel
theorem dX5_begin_8 : decode cX5_begin 8 = .ok (.aload_n 0, 1) := by decide +kernel
theorem dX5_begin_9 : decode cX5_begin 9 = .ok (.getfield 94, 3) := by decide +kernel
theorem dX5_begin_12 : decode cX5_begin 12 = .ok (.iastore, 1) := by decide +kernel
theorem dX5_begin_13 : decode cX5_begin 13 = .ok (.aload_n 0, 1) := by decide +kernel
theorem dX5_begin_14 : decode cX5_begin 14 = .ok (.dup, 1) := by decide +kernel
theorem dX5_begin_15 : decode cX5_begin 15 = .ok (.getfield 97, 3) := by decide +kernel
theorem dX5_begin_18 : decode cX5_begin 18 = .ok (.iconst 1, 1) := by decide +kernel
theorem dX5_begin_19 : decode cX5_begin 19 = .ok (.iadd, 1) := by decide +kernel
theorem dX5_begin_20 : decode cX5_begin 20 = .ok (.putfield 97, 3) := by decide +kernel
theorem dX5_begin_23 : decode cX5_begin 23 = .ok (.aload_n 0, 1) := by decide +kernel
theorem dX5_begin_24 : decode cX5_begin 24 = .ok (.iload_n 1, 1) := by decide +kernel
theorem dX5_begin_25 : decode cX5_begin 25 = .ok (.invokevirtual 100, 3) := by decide +kernel
theorem dX5_begin_28 : decode cX5_begin 28 = .ok (.return_, 1) := by decide +kernel
theorem dX5_wayOn_0 : decode cX5_wayOn 0 = .ok (.iconst 0, 1) := by decide +kernel
theorem dX5_wayOn_1 : decode cX5_wayOn 1 = .ok (.istore_n 2, 1) := by decide +kernel
theorem dX5_wayOn_2 : decode cX5_wayOn 2 = .ok (.iload_n 2, 1) := by decide +kernel
theorem dX5_wayOn_3 : decode cX5_wayOn 3 = .ok (.bipush 8, 2) := by decide +kernel
theorem dX5_wayOn_5 : decode cX5_wayOn 5 = .ok (.if_icmp .ge 32, 3) := by decide +kernel
theorem dX5_wayOn_8 : decode cX5_wayOn 8 = .ok (.aload_n 0, 1) := by decide +kernel
theorem dX5_wayOn_9 : decode cX5_wayOn 9 = .ok (.iload_n 1, 1) := by decide +kernel
theorem dX5_wayOn_10 : decode cX5_wayOn 10 = .ok (.iload_n 2, 1) := by decide +kernel
theorem dX5_wayOn_11 : decode cX5_wayOn 11 = .ok (.invokevirtual 91, 3) := by decide +kernel
theorem dX5_wayOn_14 : decode cX5_wayOn 14 = .ok (.ifCond .eq 17, 3) := by decide +kernel
theorem dX5_wayOn_17 : decode cX5_wayOn 17 = .ok (.aload_n 0, 1) := by decide +kernel
theorem dX5_wayOn_18 : decode cX5_wayOn 18 = .ok (.getfield 29, 3) := by decide +kernel
theorem dX5_wayOn_21 : decode cX5_wayOn 21 = .ok (.bipush 8, 2) := by decide +kernel
theorem dX5_wayOn_23 : decode cX5_wayOn 23 = .ok (.iload_n 1, 1) := by decide +kernel
theorem dX5_wayOn_24 : decode cX5_wayOn 24 = .ok (.imul, 1) := by decide +kernel
theorem dX5_wayOn_25 : decode cX5_wayOn 25 = .ok (.iload_n 2, 1) := by decide +kernel
theorem dX5_wayOn_26 : decode cX5_wayOn 26 = .ok (.iadd, 1) := by decide +kernel
theorem dX5_wayOn_27 : decode cX5_wayOn 27 = .ok (.baload, 1) := by decide +kernel
theorem dX5_wayOn_28 : decode cX5_wayOn 28 = .ok (.ifCond .eq 9, 3) := by decide +kernel
theorem dX5_wayOn_31 : decode cX5_wayOn 31 = .ok (.iinc 2 1, 3) := by decide +kernel
theorem dX5_wayOn_34 : decode cX5_wayOn 34 = .ok (.goto (-32), 3) := by decide +kernel
theorem dX5_wayOn_37 : decode cX5_wayOn 37 = .ok (.iload_n 2, 1) := by decide +kernel
theorem dX5_wayOn_38 : decode cX5_wayOn 38 = .ok (.ireturn, 1) := by decide +kernel
theorem dX5_walk_0 : decode cX5_walk 0 = .ok (.aload_n 0, 1) := by decide +kernel
theorem dX5_walk_1 : decode cX5_walk 1 = .ok (.iload_n 1, 1) := by decide +kernel
theorem dX5_walk_2 : decode cX5_walk 2 = .ok (.invokevirtual 104, 3) := by decide +kernel
theorem dX5_walk_5 : decode cX5_walk 5 = .ok (.aload_n 0, 1) := by decide +kernel
theorem dX5_walk_6 : decode cX5_walk 6 = .ok (.iload_n 1, 1) := by decide +kernel
theorem dX5_walk_7 : decode cX5_walk 7 = .ok (.invokevirtual 107, 3) := by decide +kernel
theorem dX5_walk_10 : decode cX5_walk 10 = .ok (.iconst 2, 1) := by decide +kernel
theorem dX5_walk_11 : decode cX5_walk 11 = .ok (.if_icmp .ne 7, 3) := by decide +kernel
theorem dX5_walk_14 : decode cX5_walk 14 = .ok (.iconst 1, 1) := by decide +kernel
theorem dX5_walk_15 : decode cX5_walk 15 = .ok (.goto 4, 3) := by decide +kernel
theorem dX5_walk_18 : decode cX5_walk 18 = .ok (.iconst 0, 1) := by decide +kernel
theorem dX5_walk_19 : decode cX5_walk 19 = .ok (.istore_n 2, 1) := by decide +kernel
theorem dX5_walk_20 : decode cX5_walk 20 = .ok (.iload_n 1, 1) := by decide +kernel
theorem dX5_walk_21 : decode cX5_walk 21 = .ok (.istore_n 3, 1) := by decide +kernel
theorem dX5_walk_22 : decode cX5_walk 22 = .ok (.aload_n 0, 1) := by decide +kernel
theorem dX5_walk_23 : decode cX5_walk 23 = .ok (.iload_n 3, 1) := by decide +kernel
theorem dX5_walk_24 : decode cX5_walk 24 = .ok (.invokevirtual 110, 3) := by decide +kernel
theorem dX5_walk_27 : decode cX5_walk 27 = .ok (.istore 4, 2) := by decide +kernel
theorem dX5_walk_29 : decode cX5_walk 29 = .ok (.iload 4, 2) := by decide +kernel
theorem dX5_walk_31 : decode cX5_walk 31 = .ok (.bipush 8, 2) := by decide +kernel
theorem dX5_walk_33 : decode cX5_walk 33 = .ok (.if_icmp .ge 102, 3) := by decide +kernel
theorem dX5_walk_36 : decode cX5_walk 36 = .ok (.aload_n 0, 1) := by decide +kernel
theorem dX5_walk_37 : decode cX5_walk 37 = .ok (.iload_n 3, 1) := by decide +kernel
theorem dX5_walk_38 : decode cX5_walk 38 = .ok (.iload 4, 2) := by decide +kernel
theorem dX5_walk_40 : decode cX5_walk 40 = .ok (.invokevirtual 58, 3) := by decide +kernel
theorem dX5_walk_43 : decode cX5_walk 43 = .ok (.istore 5, 2) := by decide +kernel
theorem dX5_walk_45 : decode cX5_walk 45 = .ok (.aload_n 0, 1) := by decide +kernel
theorem dX5_walk_46 : decode cX5_walk 46 = .ok (.getfield 29, 3) := by decide +kernel
theorem dX5_walk_49 : decode cX5_walk 49 = .ok (.bipush 8, 2) := by decide +kernel
theorem dX5_walk_51 : decode cX5_walk 51 = .ok (.iload_n 3, 1) := by decide +kernel
theorem dX5_walk_52 : decode cX5_walk 52 = .ok (.imul, 1) := by decide +kernel
theorem dX5_walk_53 : decode cX5_walk 53 = .ok (.iload 4, 2) := by decide +kernel
theorem dX5_walk_55 : decode cX5_walk 55 = .ok (.iadd, 1) := by decide +kernel
theorem dX5_walk_56 : decode cX5_walk 56 = .ok (.iconst 1, 1) := by decide +kernel
theorem dX5_walk_57 : decode cX5_walk 57 = .ok (.bastore, 1) := by decide +kernel
theorem dX5_walk_58 : decode cX5_walk 58 = .ok (.aload_n 0, 1) := by decide +kernel
theorem dX5_walk_59 : decode cX5_walk 59 = .ok (.getfield 29, 3) := by decide +kernel
theorem dX5_walk_62 : decode cX5_walk 62 = .ok (.bipush 8, 2) := by decide +kernel
theorem dX5_walk_64 : decode cX5_walk 64 = .ok (.iload 5, 2) := by decide +kernel
theorem dX5_walk_66 : decode cX5_walk 66 = .ok (.imul, 1) := by decide +kernel
theorem dX5_walk_67 : decode cX5_walk 67 = .ok (.iload 4, 2) := by decide +kernel
theorem dX5_walk_69 : decode cX5_walk 69 = .ok (.iconst 4, 1) := by decide +kernel
theorem dX5_walk_70 : decode cX5_walk 70 = .ok (.iadd, 1) := by decide +kernel
theorem dX5_walk_71 : decode cX5_walk 71 = .ok (.bipush 8, 2) := by decide +kernel
theorem dX5_walk_73 : decode cX5_walk 73 = .ok (.irem, 1) := by decide +kernel
theorem dX5_walk_74 : decode cX5_walk 74 = .ok (.iadd, 1) := by decide +kernel
theorem dX5_walk_75 : decode cX5_walk 75 = .ok (.iconst 1, 1) := by decide +kernel
theorem dX5_walk_76 : decode cX5_walk 76 = .ok (.bastore, 1) := by decide +kernel
theorem dX5_walk_77 : decode cX5_walk 77 = .ok (.iload 5, 2) := by decide +kernel
theorem dX5_walk_79 : decode cX5_walk 79 = .ok (.istore_n 3, 1) := by decide +kernel
theorem dX5_walk_80 : decode cX5_walk 80 = .ok (.iload_n 3, 1) := by decide +kernel
theorem dX5_walk_81 : decode cX5_walk 81 = .ok (.iload_n 1, 1) := by decide +kernel
theorem dX5_walk_82 : decode cX5_walk 82 = .ok (.if_icmp .ne 11, 3) := by decide +kernel
theorem dX5_walk_85 : decode cX5_walk 85 = .ok (.iload_n 2, 1) := by decide +kernel
theorem dX5_walk_86 : decode cX5_walk 86 = .ok (.ifCond .eq 7, 3) := by decide +kernel
theorem dX5_walk_89 : decode cX5_walk 89 = .ok (.iconst 1, 1) := by decide +kernel
theorem dX5_walk_90 : decode cX5_walk 90 = .ok (.goto 4, 3) := by decide +kernel
theorem dX5_walk_93 : decode cX5_walk 93 = .ok (.iconst 0, 1) := by decide +kernel
theorem dX5_walk_94 : decode cX5_walk 94 = .ok (.istore 6, 2) := by decide +kernel
theorem dX5_walk_96 : decode cX5_walk 96 = .ok (.iload 6, 2) := by decide +kernel
theorem dX5_walk_98 : decode cX5_walk 98 = .ok (.ifCond .ne 8, 3) := by decide +kernel
theorem dX5_walk_101 : decode cX5_walk 101 = .ok (.aload_n 0, 1) := by decide +kernel
theorem dX5_walk_102 : decode cX5_walk 102 = .ok (.iload_n 3, 1) := by decide +kernel
theorem dX5_walk_103 : decode cX5_walk 103 = .ok (.invokevirtual 100, 3) := by decide +kernel
theorem dX5_walk_106 : decode cX5_walk 106 = .ok (.iload 6, 2) := by decide +kernel
theorem dX5_walk_108 : decode cX5_walk 108 = .ok (.ifCond .ne 12, 3) := by decide +kernel
theorem dX5_walk_111 : decode cX5_walk 111 = .ok (.aload_n 0, 1) := by decide +kernel
theorem dX5_walk_112 : decode cX5_walk 112 = .ok (.iload_n 3, 1) := by decide +kernel
theorem dX5_walk_113 : decode cX5_walk 113 = .ok (.invokevirtual 107, 3) := by decide +kernel
theorem dX5_walk_116 : decode cX5_walk 116 = .ok (.iconst 2, 1) := by decide +kernel
theorem dX5_walk_117 : decode cX5_walk 117 = .ok (.if_icmp .eq 8, 3) := by decide +kernel
theorem dX5_walk_120 : decode cX5_walk 120 = .ok (.bipush 8, 2) := by decide +kernel
theorem dX5_walk_122 : decode cX5_walk 122 = .ok (.goto 8, 3) := by decide +kernel
theorem dX5_walk_125 : decode cX5_walk 125 = .ok (.aload_n 0, 1) := by decide +kernel
theorem dX5_walk_126 : decode cX5_walk 126 = .ok (.iload_n 3, 1) := by decide +kernel
theorem dX5_walk_127 : decode cX5_walk 127 = .ok (.invokevirtual 110, 3) := by decide +kernel
theorem dX5_walk_130 : decode cX5_walk 130 = .ok (.istore 4, 2) := by decide +kernel
theorem dX5_walk_132 : decode cX5_walk 132 = .ok (.goto (-103), 3) := by decide +kernel
theorem dX5_walk_135 : decode cX5_walk 135 = .ok (.return_, 1) := by decide +kernel
theorem dX5_learn_0 : decode cX5_learn 0 = .ok (.aload_n 0, 1) := by decide +kernel
theorem dX5_learn_1 : decode cX5_learn 1 = .ok (.getfield 88, 3) := by decide +kernel
theorem dX5_learn_4 : decode cX5_learn 4 = .ok (.ifCond .eq 4, 3) := by decide +kernel
theorem dX5_learn_7 : decode cX5_learn 7 = .ok (.return_, 1) := by decide +kernel
theorem dX5_learn_8 : decode cX5_learn 8 = .ok (.aload_n 0, 1) := by decide +kernel
theorem dX5_learn_9 : decode cX5_learn 9 = .ok (.iconst 1, 1) := by decide +kernel
theorem dX5_learn_10 : decode cX5_learn 10 = .ok (.putfield 88, 3) := by decide +kernel
theorem dX5_learn_13 : decode cX5_learn 13 = .ok (.aload_n 0, 1) := by decide +kernel
theorem dX5_learn_14 : decode cX5_learn 14 = .ok (.iconst 0, 1) := by decide +kernel
theorem dX5_learn_15 : decode cX5_learn 15 = .ok (.putfield 97, 3) := by decide +kernel
theorem dX5_learn_18 : decode cX5_learn 18 = .ok (.aload_n 0, 1) := by decide +kernel
theorem dX5_learn_19 : decode cX5_learn 19 = .ok (.iconst 0, 1) := by decide +kernel
theorem dX5_learn_20 : decode cX5_learn 20 = .ok (.putfield 94, 3) := by decide +kernel
theorem dX5_learn_23 : decode cX5_learn 23 = .ok (.iconst 0, 1) := by decide +kernel
theorem dX5_learn_24 : decode cX5_learn 24 = .ok (.istore_n 1, 1) := by decide +kernel
theorem dX5_learn_25 : decode cX5_learn 25 = .ok (.iload_n 1, 1) := by decide +kernel
theorem dX5_learn_26 : decode cX5_learn 26 = .ok (.aload_n 0, 1) := by decide +kernel
theorem dX5_learn_27 : decode cX5_learn 27 = .ok (.invokevirtual 74, 3) := by decide +kernel
theorem dX5_learn_30 : decode cX5_learn 30 = .ok (.if_icmp .ge 42, 3) := by decide +kernel
theorem dX5_learn_33 : decode cX5_learn 33 = .ok (.aload_n 0, 1) := by decide +kernel
theorem dX5_learn_34 : decode cX5_learn 34 = .ok (.getfield 32, 3) := by decide +kernel
theorem dX5_learn_37 : decode cX5_learn 37 = .ok (.iload_n 1, 1) := by decide +kernel
theorem dX5_learn_38 : decode cX5_learn 38 = .ok (.iconst 0, 1) := by decide +kernel
theorem dX5_learn_39 : decode cX5_learn 39 = .ok (.bastore, 1) := by decide +kernel
theorem dX5_learn_40 : decode cX5_learn 40 = .ok (.iconst 0, 1) := by decide +kernel
theorem dX5_learn_41 : decode cX5_learn 41 = .ok (.istore_n 2, 1) := by decide +kernel
theorem dX5_learn_42 : decode cX5_learn 42 = .ok (.iload_n 2, 1) := by decide +kernel
theorem dX5_learn_43 : decode cX5_learn 43 = .ok (.bipush 8, 2) := by decide +kernel
theorem dX5_learn_45 : decode cX5_learn 45 = .ok (.if_icmp .ge 21, 3) := by decide +kernel
theorem dX5_learn_48 : decode cX5_learn 48 = .ok (.aload_n 0, 1) := by decide +kernel
theorem dX5_learn_49 : decode cX5_learn 49 = .ok (.getfield 29, 3) := by decide +kernel
theorem dX5_learn_52 : decode cX5_learn 52 = .ok (.bipush 8, 2) := by decide +kernel
theorem dX5_learn_54 : decode cX5_learn 54 = .ok (.iload_n 1, 1) := by decide +kernel
theorem dX5_learn_55 : decode cX5_learn 55 = .ok (.imul, 1) := by decide +kernel
theorem dX5_learn_56 : decode cX5_learn 56 = .ok (.iload_n 2, 1) := by decide +kernel
theorem dX5_learn_57 : decode cX5_learn 57 = .ok (.iadd, 1) := by decide +kernel
theorem dX5_learn_58 : decode cX5_learn 58 = .ok (.iconst 0, 1) := by decide +kernel
theorem dX5_learn_59 : decode cX5_learn 59 = .ok (.bastore, 1) := by decide +kernel
theorem dX5_learn_60 : decode cX5_learn 60 = .ok (.iinc 2 1, 3) := by decide +kernel
theorem dX5_learn_63 : decode cX5_learn 63 = .ok (.goto (-21), 3) := by decide +kernel
theorem dX5_learn_66 : decode cX5_learn 66 = .ok (.iinc 1 1, 3) := by decide +kernel
theorem dX5_learn_69 : decode cX5_learn 69 = .ok (.goto (-44), 3) := by decide +kernel
theorem dX5_learn_72 : decode cX5_learn 72 = .ok (.iconst 0, 1) := by decide +kernel
theorem dX5_learn_73 : decode cX5_learn 73 = .ok (.istore_n 1, 1) := by decide +kernel
theorem dX5_learn_74 : decode cX5_learn 74 = .ok (.iload_n 1, 1) := by decide +kernel
theorem dX5_learn_75 : decode cX5_learn 75 = .ok (.aload_n 0, 1) := by decide +kernel
theorem dX5_learn_76 : decode cX5_learn 76 = .ok (.invokevirtual 74, 3) := by decide +kernel
theorem dX5_learn_79 : decode cX5_learn 79 = .ok (.if_icmp .ge 65, 3) := by decide +kernel
theorem dX5_learn_82 : decode cX5_learn 82 = .ok (.aload_n 0, 1) := by decide +kernel
theorem dX5_learn_83 : decode cX5_learn 83 = .ok (.iload_n 1, 1) := by decide +kernel
theorem dX5_learn_84 : decode cX5_learn 84 = .ok (.invokevirtual 107, 3) := by decide +kernel
theorem dX5_learn_87 : decode cX5_learn 87 = .ok (.istore_n 2, 1) := by decide +kernel
theorem dX5_learn_88 : decode cX5_learn 88 = .ok (.aload_n 0, 1) := by decide +kernel
theorem dX5_learn_89 : decode cX5_learn 89 = .ok (.getfield 13, 3) := by decide +kernel
theorem dX5_learn_92 : decode cX5_learn 92 = .ok (.iload_n 1, 1) := by decide +kernel
theorem dX5_learn_93 : decode cX5_learn 93 = .ok (.baload, 1) := by decide +kernel
theorem dX5_learn_94 : decode cX5_learn 94 = .ok (.ifCond .eq 12, 3) := by decide +kernel
theorem dX5_learn_97 : decode cX5_learn 97 = .ok (.iload_n 2, 1) := by decide +kernel
theorem dX5_learn_98 : decode cX5_learn 98 = .ok (.ifCond .ne 8, 3) := by decide +kernel
theorem dX5_learn_101 : decode cX5_learn 101 = .ok (.aload_n 0, 1) := by decide +kernel
theorem dX5_learn_102 : decode cX5_learn 102 = .ok (.iload_n 1, 1) := by decide +kernel
theorem dX5_learn_103 : decode cX5_learn 103 = .ok (.invokevirtual 104, 3) := by decide +kernel
theorem dX5_learn_106 : decode cX5_learn 106 = .ok (.aload_n 0, 1) := by decide +kernel
theorem dX5_learn_107 : decode cX5_learn 107 = .ok (.getfield 13, 3) := by decide +kernel
theorem dX5_learn_110 : decode cX5_learn 110 = .ok (.iload_n 1, 1) := by decide +kernel
theorem dX5_learn_111 : decode cX5_learn 111 = .ok (.baload, 1) := by decide +kernel
theorem dX5_learn_112 : decode cX5_learn 112 = .ok (.ifCond .eq 26, 3) := by decide +kernel
theorem dX5_learn_115 : decode cX5_learn 115 = .ok (.iload_n 2, 1) := by decide +kernel
theorem dX5_learn_116 : decode cX5_learn 116 = .ok (.iconst 2, 1) := by decide +kernel
theorem dX5_learn_117 : decode cX5_learn 117 = .ok (.if_icmp .eq 21, 3) := by decide +kernel
theorem dX5_learn_120 : decode cX5_learn 120 = .ok (.aload_n 0, 1) := by decide +kernel
theorem dX5_learn_121 : decode cX5_learn 121 = .ok (.iload_n 1, 1) := by decide +kernel
theorem dX5_learn_122 : decode cX5_learn 122 = .ok (.invokevirtual 110, 3) := by decide +kernel
theorem dX5_learn_125 : decode cX5_learn 125 = .ok (.bipush 8, 2) := by decide +kernel
theorem dX5_learn_127 : decode cX5_learn 127 = .ok (.if_icmp .ge 11, 3) := by decide +kernel
theorem dX5_learn_130 : decode cX5_learn 130 = .ok (.aload_n 0, 1) := by decide +kernel
theorem dX5_learn_131 : decode cX5_learn 131 = .ok (.iload_n 1, 1) := by decide +kernel
theorem dX5_learn_132 : decode cX5_learn 132 = .ok (.invokevirtual 113, 3) := by decide +kernel
theorem dX5_learn_135 : decode cX5_learn 135 = .ok (.goto (-29), 3) := by decide +kernel
theorem dX5_learn_138 : decode cX5_learn 138 = .ok (.iinc 1 1, 3) := by decide +kernel
theorem dX5_learn_141 : decode cX5_learn 141 = .ok (.goto (-67), 3) := by decide +kernel
theorem dX5_learn_144 : decode cX5_learn 144 = .ok (.iconst 0, 1) := by decide +kernel
theorem dX5_learn_145 : decode cX5_learn 145 = .ok (.istore_n 1, 1) := by decide +kernel
theorem dX5_learn_146 : decode cX5_learn 146 = .ok (.iload_n 1, 1) := by decide +kernel
theorem dX5_learn_147 : decode cX5_learn 147 = .ok (.aload_n 0, 1) := by decide +kernel
theorem dX5_learn_148 : decode cX5_learn 148 = .ok (.invokevirtual 74, 3) := by decide +kernel
theorem dX5_learn_151 : decode cX5_learn 151 = .ok (.if_icmp .ge 32, 3) := by decide +kernel
theorem dX5_learn_154 : decode cX5_learn 154 = .ok (.aload_n 0, 1) := by decide +kernel
theorem dX5_learn_155 : decode cX5_learn 155 = .ok (.getfield 13, 3) := by decide +kernel
theorem dX5_learn_158 : decode cX5_learn 158 = .ok (.iload_n 1, 1) := by decide +kernel
theorem dX5_learn_159 : decode cX5_learn 159 = .ok (.baload, 1) := by decide +kernel
theorem dX5_learn_160 : decode cX5_learn 160 = .ok (.ifCond .eq 17, 3) := by decide +kernel
theorem dX5_learn_163 : decode cX5_learn 163 = .ok (.aload_n 0, 1) := by decide +kernel
theorem dX5_learn_164 : decode cX5_learn 164 = .ok (.getfield 32, 3) := by decide +kernel
theorem dX5_learn_167 : decode cX5_learn 167 = .ok (.iload_n 1, 1) := by decide +kernel
theorem dX5_learn_168 : decode cX5_learn 168 = .ok (.baload, 1) := by decide +kernel
theorem dX5_learn_169 : decode cX5_learn 169 = .ok (.ifCond .ne 8, 3) := by decide +kernel
theorem dX5_learn_172 : decode cX5_learn 172 = .ok (.aload_n 0, 1) := by decide +kernel
theorem dX5_learn_173 : decode cX5_learn 173 = .ok (.iload_n 1, 1) := by decide +kernel
theorem dX5_learn_174 : decode cX5_learn 174 = .ok (.invokevirtual 113, 3) := by decide +kernel
theorem dX5_learn_177 : decode cX5_learn 177 = .ok (.iinc 1 1, 3) := by decide +kernel
theorem dX5_learn_180 : decode cX5_learn 180 = .ok (.goto (-34), 3) := by decide +kernel
theorem dX5_learn_183 : decode cX5_learn 183 = .ok (.aload_n 0, 1) := by decide +kernel
theorem dX5_learn_184 : decode cX5_learn 184 = .ok (.getfield 23, 3) := by decide +kernel
theorem dX5_learn_187 : decode cX5_learn 187 = .ok (.aload_n 0, 1) := by decide +kernel
theorem dX5_learn_188 : decode cX5_learn 188 = .ok (.getfield 97, 3) := by decide +kernel
theorem dX5_learn_191 : decode cX5_learn 191 = .ok (.aload_n 0, 1) := by decide +kernel
theorem dX5_learn_192 : decode cX5_learn 192 = .ok (.getfield 94, 3) := by decide +kernel
theorem dX5_learn_195 : decode cX5_learn 195 = .ok (.iastore, 1) := by decide +kernel
theorem dX5_learn_196 : decode cX5_learn 196 = .ok (.return_, 1) := by decide +kernel
theorem dX5_sizeOf_0 : decode cX5_sizeOf 0 = .ok (.aload_n 0, 1) := by decide +kernel
theorem dX5_sizeOf_1 : decode cX5_sizeOf 1 = .ok (.getfield 23, 3) := by decide +kernel
theorem dX5_sizeOf_4 : decode cX5_sizeOf 4 = .ok (.iload_n 1, 1) := by decide +kernel
theorem dX5_sizeOf_5 : decode cX5_sizeOf 5 = .ok (.iconst 1, 1) := by decide +kernel
theorem dX5_sizeOf_6 : decode cX5_sizeOf 6 = .ok (.iadd, 1) := by decide +kernel
theorem dX5_sizeOf_7 : decode cX5_sizeOf 7 = .ok (.iaload, 1) := by decide +kernel
theorem dX5_sizeOf_8 : decode cX5_sizeOf 8 = .ok (.aload_n 0, 1) := by decide +kernel
theorem dX5_sizeOf_9 : decode cX5_sizeOf 9 = .ok (.getfield 23, 3) := by decide +kernel
theorem dX5_sizeOf_12 : decode cX5_sizeOf 12 = .ok (.iload_n 1, 1) := by decide +kernel
theorem dX5_sizeOf_13 : decode cX5_sizeOf 13 = .ok (.iaload, 1) := by decide +kernel
theorem dX5_sizeOf_14 : decode cX5_sizeOf 14 = .ok (.isub, 1) := by decide +kernel
theorem dX5_sizeOf_15 : decode cX5_sizeOf 15 = .ok (.ireturn, 1) := by decide +kernel
theorem dX5_firstOf_0 : decode cX5_firstOf 0 = .ok (.aload_n 0, 1) := by decide +kernel
theorem dX5_firstOf_1 : decode cX5_firstOf 1 = .ok (.getfield 26, 3) := by decide +kernel
theorem dX5_firstOf_4 : decode cX5_firstOf 4 = .ok (.aload_n 0, 1) := by decide +kernel
theorem dX5_firstOf_5 : decode cX5_firstOf 5 = .ok (.getfield 23, 3) := by decide +kernel
theorem dX5_firstOf_8 : decode cX5_firstOf 8 = .ok (.iload_n 1, 1) := by decide +kernel
theorem dX5_firstOf_9 : decode cX5_firstOf 9 = .ok (.iaload, 1) := by decide +kernel
theorem dX5_firstOf_10 : decode cX5_firstOf 10 = .ok (.iaload, 1) := by decide +kernel
theorem dX5_firstOf_11 : decode cX5_firstOf 11 = .ok (.ireturn, 1) := by decide +kernel
theorem dX5_lastOf_0 : decode cX5_lastOf 0 = .ok (.aload_n 0, 1) := by decide +kernel
theorem dX5_lastOf_1 : decode cX5_lastOf 1 = .ok (.getfield 26, 3) := by decide +kernel
theorem dX5_lastOf_4 : decode cX5_lastOf 4 = .ok (.aload_n 0, 1) := by decide +kernel
theorem dX5_lastOf_5 : decode cX5_lastOf 5 = .ok (.getfield 23, 3) := by decide +kernel
theorem dX5_lastOf_8 : decode cX5_lastOf 8 = .ok (.iload_n 1, 1) := by decide +kernel
theorem dX5_lastOf_9 : decode cX5_lastOf 9 = .ok (.iconst 1, 1) := by decide +kernel
theorem dX5_lastOf_10 : decode cX5_lastOf 10 = .ok (.iadd, 1) := by decide +kernel
theorem dX5_lastOf_11 : decode cX5_lastOf 11 = .ok (.iaload, 1) := by decide +kernel
theorem dX5_lastOf_12 : decode cX5_lastOf 12 = .ok (.iconst 1, 1) := by decide +kernel
theorem dX5_lastOf_13 : decode cX5_lastOf 13 = .ok (.isub, 1) := by decide +kernel
theorem dX5_lastOf_14 : decode cX5_lastOf 14 = .ok (.iaload, 1) := by decide +kernel
theorem dX5_lastOf_15 : decode cX5_lastOf 15 = .ok (.ireturn, 1) := by decide +kernel
theorem dX5_clearKnown_0 : decode cX5_clearKnown 0 = .ok (.aload_n 0, 1) := by decide +kernel
theorem dX5_clearKnown_1 : decode cX5_clearKnown 1 = .ok (.iconst 0, 1) := by decide +kernel
theorem dX5_clearKnown_2 : decode cX5_clearKnown 2 = .ok (.putfield 88, 3) := by decide +kernel
theorem dX5_clearKnown_5 : decode cX5_clearKnown 5 = .ok (.return_, 1) := by decide +kernel
theorem dX5_prune_0 : decode cX5_prune 0 = .ok (.aload_n 0, 1) := by decide +kernel
theorem dX5_prune_1 : decode cX5_prune 1 = .ok (.aload_n 0, 1) := by decide +kernel
theorem dX5_prune_2 : decode cX5_prune 2 = .ok (.getfield 84, 3) := by decide +kernel
theorem dX5_prune_5 : decode cX5_prune 5 = .ok (.ifCond .ne 7, 3) := by decide +kernel
theorem dX5_prune_8 : decode cX5_prune 8 = .ok (.iconst 1, 1) := by decide +kernel
theorem dX5_prune_9 : decode cX5_prune 9 = .ok (.goto 19, 3) := by decide +kernel
theorem dX5_prune_12 : decode cX5_prune 12 = .ok (.iload_n 1, 1) := by decide +kernel
theorem dX5_prune_13 : decode cX5_prune 13 = .ok (.iconst 0, 1) := by decide +kernel
theorem dX5_prune_14 : decode cX5_prune 14 = .ok (.sipush 600, 3) := by decide +kernel
theorem dX5_prune_17 : decode cX5_prune 17 = .ok (.invokestatic 54, 3) := by decide +kernel
theorem dX5_prune_20 : decode cX5_prune 20 = .ok (.ifCond .ne 7, 3) := by decide +kernel
theorem dX5_prune_23 : decode cX5_prune 23 = .ok (.iconst 2, 1) := by decide +kernel
theorem dX5_prune_24 : decode cX5_prune 24 = .ok (.goto 4, 3) := by decide +kernel
theorem dX5_prune_27 : decode cX5_prune 27 = .ok (.iconst 0, 1) := by decide +kernel
theorem dX5_prune_28 : decode cX5_prune 28 = .ok (.putfield 51, 3) := by decide +kernel
theorem dX5_prune_31 : decode cX5_prune 31 = .ok (.aload_n 0, 1) := by decide +kernel
theorem dX5_prune_32 : decode cX5_prune 32 = .ok (.getfield 51, 3) := by decide +kernel
theorem dX5_prune_35 : decode cX5_prune 35 = .ok (.ifCond .le 5, 3) := by decide +kernel
theorem dX5_prune_38 : decode cX5_prune 38 = .ok (.iconst 0, 1) := by decide +kernel
theorem dX5_prune_39 : decode cX5_prune 39 = .ok (.ireturn, 1) := by decide +kernel
theorem dX5_prune_40 : decode cX5_prune 40 = .ok (.aload_n 0, 1) := by decide +kernel
theorem dX5_prune_41 : decode cX5_prune 41 = .ok (.invokevirtual 116, 3) := by decide +kernel
theorem dX5_prune_44 : decode cX5_prune 44 = .ok (.aload_n 0, 1) := by decide +kernel
theorem dX5_prune_45 : decode cX5_prune 45 = .ok (.iconst 0, 1) := by decide +kernel
theorem dX5_prune_46 : decode cX5_prune 46 = .ok (.putfield 119, 3) := by decide +kernel
theorem dX5_prune_49 : decode cX5_prune 49 = .ok (.iconst 0, 1) := by decide +kernel
theorem dX5_prune_50 : decode cX5_prune 50 = .ok (.istore_n 2, 1) := by decide +kernel
theorem dX5_prune_51 : decode cX5_prune 51 = .ok (.iload_n 2, 1) := by decide +kernel
theorem dX5_prune_52 : decode cX5_prune 52 = .ok (.aload_n 0, 1) := by decide +kernel
theorem dX5_prune_53 : decode cX5_prune 53 = .ok (.getfield 97, 3) := by decide +kernel
theorem dX5_prune_56 : decode cX5_prune 56 = .ok (.if_icmp .ge 108, 3) := by decide +kernel
theorem dX5_prune_59 : decode cX5_prune 59 = .ok (.aload_n 0, 1) := by decide +kernel
theorem dX5_prune_60 : decode cX5_prune 60 = .ok (.aload_n 0, 1) := by decide +kernel
theorem dX5_prune_61 : decode cX5_prune 61 = .ok (.iload_n 2, 1) := by decide +kernel
theorem dX5_prune_62 : decode cX5_prune 62 = .ok (.invokevirtual 122, 3) := by decide +kernel
theorem dX5_prune_65 : decode cX5_prune 65 = .ok (.invokevirtual 107, 3) := by decide +kernel
theorem dX5_prune_68 : decode cX5_prune 68 = .ok (.istore_n 3, 1) := by decide +kernel
theorem dX5_prune_69 : decode cX5_prune 69 = .ok (.aload_n 0, 1) := by decide +kernel
theorem dX5_prune_70 : decode cX5_prune 70 = .ok (.aload_n 0, 1) := by decide +kernel
theorem dX5_prune_71 : decode cX5_prune 71 = .ok (.iload_n 2, 1) := by decide +kernel
theorem dX5_prune_72 : decode cX5_prune 72 = .ok (.invokevirtual 125, 3) := by decide +kernel
theorem dX5_prune_75 : decode cX5_prune 75 = .ok (.invokevirtual 107, 3) := by decide +kernel
theorem dX5_prune_78 : decode cX5_prune 78 = .ok (.istore 4, 2) := by decide +kernel
theorem dX5_prune_80 : decode cX5_prune 80 = .ok (.aload_n 0, 1) := by decide +kernel
theorem dX5_prune_81 : decode cX5_prune 81 = .ok (.iload_n 2, 1) := by decide +kernel
theorem dX5_prune_82 : decode cX5_prune 82 = .ok (.invokevirtual 128, 3) := by decide +kernel
theorem dX5_prune_85 : decode cX5_prune 85 = .ok (.iload_n 1, 1) := by decide +kernel
theorem dX5_prune_86 : decode cX5_prune 86 = .ok (.if_icmp .gt 72, 3) := by decide +kernel
theorem dX5_prune_89 : decode cX5_prune 89 = .ok (.iload_n 3, 1) := by decide +kernel
theorem dX5_prune_90 : decode cX5_prune 90 = .ok (.iconst 1, 1) := by decide +kernel
theorem dX5_prune_91 : decode cX5_prune 91 = .ok (.if_icmp .ne 9, 3) := by decide +kernel
theorem dX5_prune_94 : decode cX5_prune 94 = .ok (.iload 4, 2) := by decide +kernel
theorem dX5_prune_96 : decode cX5_prune 96 = .ok (.iconst 3, 1) := by decide +kernel
theorem dX5_prune_97 : decode cX5_prune 97 = .ok (.if_icmp .ge 14, 3) := by decide +kernel
theorem dX5_prune_100 : decode cX5_prune 100 = .ok (.iload_n 3, 1) := by decide +kernel
theorem dX5_prune_101 : decode cX5_prune 101 = .ok (.iconst 3, 1) := by decide +kernel
theorem dX5_prune_102 : decode cX5_prune 102 = .ok (.if_icmp .lt 56, 3) := by decide +kernel
theorem dX5_prune_105 : decode cX5_prune 105 = .ok (.iload 4, 2) := by decide +kernel
theorem dX5_prune_107 : decode cX5_prune 107 = .ok (.iconst 1, 1) := by decide +kernel
theorem dX5_prune_108 : decode cX5_prune 108 = .ok (.if_icmp .ne 50, 3) := by decide +kernel
theorem dX5_prune_111 : decode cX5_prune 111 = .ok (.aload_n 0, 1) := by decide +kernel
theorem dX5_prune_112 : decode cX5_prune 112 = .ok (.getfield 35, 3) := by decide +kernel
theorem dX5_prune_115 : decode cX5_prune 115 = .ok (.aload_n 0, 1) := by decide +kernel
theorem dX5_prune_116 : decode cX5_prune 116 = .ok (.getfield 119, 3) := by decide +kernel
theorem dX5_prune_119 : decode cX5_prune 119 = .ok (.iload_n 2, 1) := by decide +kernel
theorem dX5_prune_120 : decode cX5_prune 120 = .ok (.iastore, 1) := by decide +kernel
theorem dX5_prune_121 : decode cX5_prune 121 = .ok (.aload_n 0, 1) := by decide +kernel
theorem dX5_prune_122 : decode cX5_prune 122 = .ok (.getfield 38, 3) := by decide +kernel
theorem dX5_prune_125 : decode cX5_prune 125 = .ok (.aload_n 0, 1) := by decide +kernel
theorem dX5_prune_126 : decode cX5_prune 126 = .ok (.getfield 119, 3) := by decide +kernel
theorem dX5_prune_129 : decode cX5_prune 129 = .ok (.iload_n 3, 1) := by decide +kernel
theorem dX5_prune_130 : decode cX5_prune 130 = .ok (.iconst 3, 1) := by decide +kernel
theorem dX5_prune_131 : decode cX5_prune 131 = .ok (.if_icmp .lt 11, 3) := by decide +kernel
theorem dX5_prune_134 : decode cX5_prune 134 = .ok (.aload_n 0, 1) := by decide +kernel
theorem dX5_prune_135 : decode cX5_prune 135 = .ok (.iload_n 2, 1) := by decide +kernel
theorem dX5_prune_136 : decode cX5_prune 136 = .ok (.invokevirtual 122, 3) := by decide +kernel
theorem dX5_prune_139 : decode cX5_prune 139 = .ok (.goto 8, 3) := by decide +kernel
theorem dX5_prune_142 : decode cX5_prune 142 = .ok (.aload_n 0, 1) := by decide +kernel
theorem dX5_prune_143 : decode cX5_prune 143 = .ok (.iload_n 2, 1) := by decide +kernel
theorem dX5_prune_144 : decode cX5_prune 144 = .ok (.invokevirtual 125, 3) := by decide +kernel
theorem dX5_prune_147 : decode cX5_prune 147 = .ok (.iastore, 1) := by decide +kernel
theorem dX5_prune_148 : decode cX5_prune 148 = .ok (.aload_n 0, 1) := by decide +kernel
theorem dX5_prune_149 : decode cX5_prune 149 = .ok (.dup, 1) := by decide +kernel
theorem dX5_prune_150 : decode cX5_prune 150 = .ok (.getfield 119, 3) := by decide +kernel
theorem dX5_prune_153 : decode cX5_prune 153 = .ok (.iconst 1, 1) := by decide +kernel
theorem dX5_prune_154 : decode cX5_prune 154 = .ok (.iadd, 1) := by decide +kernel
theorem dX5_prune_155 : decode cX5_prune 155 = .ok (.putfield 119, 3) := by decide +kernel
theorem dX5_prune_158 : decode cX5_prune 158 = .ok (.iinc 2 1, 3) := by decide +kernel
theorem dX5_prune_161 : decode cX5_prune 161 = .ok (.goto (-110), 3) := by decide +kernel
theorem dX5_prune_164 : decode cX5_prune 164 = .ok (.iconst 0, 1) := by decide +kernel
theorem dX5_prune_165 : decode cX5_prune 165 = .ok (.istore_n 2, 1) := by decide +kernel
theorem dX5_prune_166 : decode cX5_prune 166 = .ok (.iconst 0, 1) := by decide +kernel
theorem dX5_prune_167 : decode cX5_prune 167 = .ok (.istore_n 3, 1) := by decide +kernel
theorem dX5_prune_168 : decode cX5_prune 168 = .ok (.iload_n 3, 1) := by decide +kernel
theorem dX5_prune_169 : decode cX5_prune 169 = .ok (.aload_n 0, 1) := by decide +kernel
theorem dX5_prune_170 : decode cX5_prune 170 = .ok (.getfield 119, 3) := by decide +kernel
theorem dX5_prune_173 : decode cX5_prune 173 = .ok (.if_icmp .ge 108, 3) := by decide +kernel
theorem dX5_prune_176 : decode cX5_prune 176 = .ok (.aload_n 0, 1) := by decide +kernel
theorem dX5_prune_177 : decode cX5_prune 177 = .ok (.aload_n 0, 1) := by decide +kernel
theorem dX5_prune_178 : decode cX5_prune 178 = .ok (.getfield 38, 3) := by decide +kernel
theorem dX5_prune_181 : decode cX5_prune 181 = .ok (.iload_n 3, 1) := by decide +kernel
theorem dX5_prune_182 : decode cX5_prune 182 = .ok (.iaload, 1) := by decide +kernel
theorem dX5_prune_183 : decode cX5_prune 183 = .ok (.invokevirtual 107, 3) := by decide +kernel
theorem dX5_prune_186 : decode cX5_prune 186 = .ok (.iconst 3, 1) := by decide +kernel
theorem dX5_prune_187 : decode cX5_prune 187 = .ok (.if_icmp .lt 88, 3) := by decide +kernel
theorem dX5_prune_190 : decode cX5_prune 190 = .ok (.aload_n 0, 1) := by decide +kernel
theorem dX5_prune_191 : decode cX5_prune 191 = .ok (.getfield 23, 3) := by decide +kernel
theorem dX5_prune_194 : decode cX5_prune 194 = .ok (.aload_n 0, 1) := by decide +kernel
theorem dX5_prune_195 : decode cX5_prune 195 = .ok (.getfield 35, 3) := by decide +kernel
theorem dX5_prune_198 : decode cX5_prune 198 = .ok (.iload_n 3, 1) := by decide +kernel
theorem dX5_prune_199 : decode cX5_prune 199 = .ok (.iaload, 1) := by decide +kernel
theorem dX5_prune_200 : decode cX5_prune 200 = .ok (.iaload, 1) := by decide +kernel
theorem dX5_prune_201 : decode cX5_prune 201 = .ok (.istore 4, 2) := by decide +kernel
theorem dX5_prune_203 : decode cX5_prune 203 = .ok (.iload 4, 2) := by decide +kernel
theorem dX5_prune_205 : decode cX5_prune 205 = .ok (.aload_n 0, 1) := by decide +kernel
theorem dX5_prune_206 : decode cX5_prune 206 = .ok (.getfield 23, 3) := by decide +kernel
theorem dX5_prune_209 : decode cX5_prune 209 = .ok (.aload_n 0, 1) := by decide +kernel
theorem dX5_prune_210 : decode cX5_prune 210 = .ok (.getfield 35, 3) := by decide +kernel
theorem dX5_prune_213 : decode cX5_prune 213 = .ok (.iload_n 3, 1) := by decide +kernel
theorem dX5_prune_214 : decode cX5_prune 214 = .ok (.iaload, 1) := by decide +kernel
theorem dX5_prune_215 : decode cX5_prune 215 = .ok (.iconst 1, 1) := by decide +kernel
theorem dX5_prune_216 : decode cX5_prune 216 = .ok (.iadd, 1) := by decide +kernel
theorem dX5_prune_217 : decode cX5_prune 217 = .ok (.iaload, 1) := by decide +kernel
theorem dX5_prune_218 : decode cX5_prune 218 = .ok (.if_icmp .ge 42, 3) := by decide +kernel
theorem dX5_prune_221 : decode cX5_prune 221 = .ok (.aload_n 0, 1) := by decide +kernel
theorem dX5_prune_222 : decode cX5_prune 222 = .ok (.getfield 13, 3) := by decide +kernel
theorem dX5_prune_225 : decode cX5_prune 225 = .ok (.aload_n 0, 1) := by decide +kernel
theorem dX5_prune_226 : decode cX5_prune 226 = .ok (.getfield 26, 3) := by decide +kernel
theorem dX5_prune_229 : decode cX5_prune 229 = .ok (.iload 4, 2) := by decide +kernel
theorem dX5_prune_231 : decode cX5_prune 231 = .ok (.iaload, 1) := by decide +kernel
theorem dX5_prune_232 : decode cX5_prune 232 = .ok (.aload_n 0, 1) := by decide +kernel
theorem dX5_prune_233 : decode cX5_prune 233 = .ok (.getfield 26, 3) := by decide +kernel
theorem dX5_prune_236 : decode cX5_prune 236 = .ok (.iload 4, 2) := by decide +kernel
theorem dX5_prune_238 : decode cX5_prune 238 = .ok (.iaload, 1) := by decide +kernel
theorem dX5_prune_239 : decode cX5_prune 239 = .ok (.aload_n 0, 1) := by decide +kernel
theorem dX5_prune_240 : decode cX5_prune 240 = .ok (.getfield 38, 3) := by decide +kernel
theorem dX5_prune_243 : decode cX5_prune 243 = .ok (.iload_n 3, 1) := by decide +kernel
theorem dX5_prune_244 : decode cX5_prune 244 = .ok (.iaload, 1) := by decide +kernel
theorem dX5_prune_245 : decode cX5_prune 245 = .ok (.if_icmp .ne 7, 3) := by decide +kernel
theorem dX5_prune_248 : decode cX5_prune 248 = .ok (.iconst 1, 1) := by decide +kernel
theorem dX5_prune_249 : decode cX5_prune 249 = .ok (.goto 4, 3) := by decide +kernel
theorem dX5_prune_252 : decode cX5_prune 252 = .ok (.iconst 0, 1) := by decide +kernel
theorem dX5_prune_253 : decode cX5_prune 253 = .ok (.bastore, 1) := by decide +kernel
theorem dX5_prune_254 : decode cX5_prune 254 = .ok (.iinc 4 1, 3) := by decide +kernel
theorem dX5_prune_257 : decode cX5_prune 257 = .ok (.goto (-54), 3) := by decide +kernel
theorem dX5_prune_260 : decode cX5_prune 260 = .ok (.iload_n 2, 1) := by decide +kernel
theorem dX5_prune_261 : decode cX5_prune 261 = .ok (.aload_n 0, 1) := by decide +kernel
theorem dX5_prune_262 : decode cX5_prune 262 = .ok (.aload_n 0, 1) := by decide +kernel
theorem dX5_prune_263 : decode cX5_prune 263 = .ok (.getfield 35, 3) := by decide +kernel
theorem dX5_prune_266 : decode cX5_prune 266 = .ok (.iload_n 3, 1) := by decide +kernel
theorem dX5_prune_267 : decode cX5_prune 267 = .ok (.iaload, 1) := by decide +kernel
theorem dX5_prune_268 : decode cX5_prune 268 = .ok (.invokevirtual 128, 3) := by decide +kernel
theorem dX5_prune_271 : decode cX5_prune 271 = .ok (.iconst 1, 1) := by decide +kernel
theorem dX5_prune_272 : decode cX5_prune 272 = .ok (.isub, 1) := by decide +kernel
theorem dX5_prune_273 : decode cX5_prune 273 = .ok (.iadd, 1) := by decide +kernel
theorem dX5_prune_274 : decode cX5_prune 274 = .ok (.istore_n 2, 1) := by decide +kernel
theorem dX5_prune_275 : decode cX5_prune 275 = .ok (.iinc 3 1, 3) := by decide +kernel
theorem dX5_prune_278 : decode cX5_prune 278 = .ok (.goto (-110), 3) := by decide +kernel
theorem dX5_prune_281 : decode cX5_prune 281 = .ok (.aload_n 0, 1) := by decide +kernel
theorem dX5_prune_282 : decode cX5_prune 282 = .ok (.invokevirtual 131, 3) := by decide +kernel
theorem dX5_prune_285 : decode cX5_prune 285 = .ok (.iload_n 2, 1) := by decide +kernel
theorem dX5_prune_286 : decode cX5_prune 286 = .ok (.ireturn, 1) := by decide +kernel
theorem dX5_put_0 : decode cX5_put 0 = .ok (.aload_n 0, 1) := by decide +kernel
theorem dX5_put_1 : decode cX5_put 1 = .ok (.aload_n 0, 1) := by decide +kernel
theorem dX5_put_2 : decode cX5_put 2 = .ok (.iload_n 1, 1) := by decide +kernel
theorem dX5_put_3 : decode cX5_put 3 = .ok (.iload_n 2, 1) := by decide +kernel
theorem dX5_put_4 : decode cX5_put 4 = .ok (.invokevirtual 134, 3) := by decide +kernel
theorem dX5_put_7 : decode cX5_put 7 = .ok (.ifCond .eq 7, 3) := by decide +kernel
theorem dX5_put_10 : decode cX5_put 10 = .ok (.iconst 0, 1) := by decide +kernel
theorem dX5_put_11 : decode cX5_put 11 = .ok (.goto 4, 3) := by decide +kernel
theorem dX5_put_14 : decode cX5_put 14 = .ok (.iconst 1, 1) := by decide +kernel
theorem dX5_put_15 : decode cX5_put 15 = .ok (.putfield 51, 3) := by decide +kernel
theorem dX5_put_18 : decode cX5_put 18 = .ok (.aload_n 0, 1) := by decide +kernel
theorem dX5_put_19 : decode cX5_put 19 = .ok (.getfield 51, 3) := by decide +kernel
theorem dX5_put_22 : decode cX5_put 22 = .ok (.ifCond .le 5, 3) := by decide +kernel
theorem dX5_put_25 : decode cX5_put 25 = .ok (.iconst 0, 1) := by decide +kernel
theorem dX5_put_26 : decode cX5_put 26 = .ok (.ireturn, 1) := by decide +kernel
theorem dX5_put_27 : decode cX5_put 27 = .ok (.aload_n 0, 1) := by decide +kernel
theorem dX5_put_28 : decode cX5_put 28 = .ok (.getfield 7, 3) := by decide +kernel
theorem dX5_put_31 : decode cX5_put 31 = .ok (.aload_n 0, 1) := by decide +kernel
theorem dX5_put_32 : decode cX5_put 32 = .ok (.iload_n 1, 1) := by decide +kernel
theorem dX5_put_33 : decode cX5_put 33 = .ok (.iload_n 2, 1) := by decide +kernel
theorem dX5_put_34 : decode cX5_put 34 = .ok (.invokevirtual 137, 3) := by decide +kernel
theorem dX5_put_37 : decode cX5_put 37 = .ok (.baload, 1) := by decide +kernel
theorem dX5_put_38 : decode cX5_put 38 = .ok (.iload_n 3, 1) := by decide +kernel
theorem dX5_put_39 : decode cX5_put 39 = .ok (.if_icmp .eq 7, 3) := by decide +kernel
theorem dX5_put_42 : decode cX5_put 42 = .ok (.iconst 1, 1) := by decide +kernel
theorem dX5_put_43 : decode cX5_put 43 = .ok (.goto 4, 3) := by decide +kernel
theorem dX5_put_46 : decode cX5_put 46 = .ok (.iconst 0, 1) := by decide +kernel
theorem dX5_put_47 : decode cX5_put 47 = .ok (.istore 4, 2) := by decide +kernel
theorem dX5_put_49 : decode cX5_put 49 = .ok (.aload_n 0, 1) := by decide +kernel
theorem dX5_put_50 : decode cX5_put 50 = .ok (.getfield 7, 3) := by decide +kernel
theorem dX5_put_53 : decode cX5_put 53 = .ok (.aload_n 0, 1) := by decide +kernel
theorem dX5_put_54 : decode cX5_put 54 = .ok (.iload_n 1, 1) := by decide +kernel
theorem dX5_put_55 : decode cX5_put 55 = .ok (.iload_n 2, 1) := by decide +kernel
theorem dX5_put_56 : decode cX5_put 56 = .ok (.invokevirtual 137, 3) := by decide +kernel
theorem dX5_put_59 : decode cX5_put 59 = .ok (.iload_n 3, 1) := by decide +kernel
theorem dX5_put_60 : decode cX5_put 60 = .ok (.bastore, 1) := by decide +kernel
theorem dX5_put_61 : decode cX5_put 61 = .ok (.iconst 0, 1) := by decide +kernel
theorem dX5_put_62 : decode cX5_put 62 = .ok (.istore 5, 2) := by decide +kernel
theorem dX5_put_64 : decode cX5_put 64 = .ok (.iload 5, 2) := by decide +kernel
theorem dX5_put_66 : decode cX5_put 66 = .ok (.aload_n 0, 1) := by decide +kernel
theorem dX5_put_67 : decode cX5_put 67 = .ok (.invokevirtual 74, 3) := by decide +kernel
theorem dX5_put_70 : decode cX5_put 70 = .ok (.if_icmp .ge 23, 3) := by decide +kernel
theorem dX5_put_73 : decode cX5_put 73 = .ok (.aload_n 0, 1) := by decide +kernel
theorem dX5_put_74 : decode cX5_put 74 = .ok (.getfield 13, 3) := by decide +kernel
theorem dX5_put_77 : decode cX5_put 77 = .ok (.iload 5, 2) := by decide +kernel
theorem dX5_put_79 : decode cX5_put 79 = .ok (.aload_n 0, 1) := by decide +kernel
theorem dX5_put_80 : decode cX5_put 80 = .ok (.getfield 7, 3) := by decide +kernel
theorem dX5_put_83 : decode cX5_put 83 = .ok (.iload 5, 2) := by decide +kernel
theorem dX5_put_85 : decode cX5_put 85 = .ok (.baload, 1) := by decide +kernel
theorem dX5_put_86 : decode cX5_put 86 = .ok (.bastore, 1) := by decide +kernel
theorem dX5_put_87 : decode cX5_put 87 = .ok (.iinc 5 1, 3) := by decide +kernel
theorem dX5_put_90 : decode cX5_put 90 = .ok (.goto (-26), 3) := by decide +kernel
theorem dX5_put_93 : decode cX5_put 93 = .ok (.aload_n 0, 1) := by decide +kernel
theorem dX5_put_94 : decode cX5_put 94 = .ok (.iconst 0, 1) := by decide +kernel
theorem dX5_put_95 : decode cX5_put 95 = .ok (.putfield 84, 3) := by decide +kernel
theorem dX5_put_98 : decode cX5_put 98 = .ok (.aload_n 0, 1) := by decide +kernel
theorem dX5_put_99 : decode cX5_put 99 = .ok (.invokevirtual 131, 3) := by decide +kernel
theorem dX5_put_102 : decode cX5_put 102 = .ok (.iload 4, 2) := by decide +kernel
theorem dX5_put_104 : decode cX5_put 104 = .ok (.ireturn, 1) := by decide +kernel
theorem dX5_at_0 : decode cX5_at 0 = .ok (.aload_n 0, 1) := by decide +kernel
theorem dX5_at_1 : decode cX5_at 1 = .ok (.aload_n 0, 1) := by decide +kernel
theorem dX5_at_2 : decode cX5_at 2 = .ok (.iload_n 1, 1) := by decide +kernel
theorem dX5_at_3 : decode cX5_at 3 = .ok (.iload_n 2, 1) := by decide +kernel
theorem dX5_at_4 : decode cX5_at 4 = .ok (.invokevirtual 134, 3) := by decide +kernel
theorem dX5_at_7 : decode cX5_at 7 = .ok (.ifCond .eq 7, 3) := by decide +kernel
theorem dX5_at_10 : decode cX5_at 10 = .ok (.iconst 0, 1) := by decide +kernel
theorem dX5_at_11 : decode cX5_at 11 = .ok (.goto 4, 3) := by decide +kernel
theorem dX5_at_14 : decode cX5_at 14 = .ok (.iconst 1, 1) := by decide +kernel
theorem dX5_at_15 : decode cX5_at 15 = .ok (.putfield 51, 3) := by decide +kernel
theorem dX5_at_18 : decode cX5_at 18 = .ok (.aload_n 0, 1) := by decide +kernel
theorem dX5_at_19 : decode cX5_at 19 = .ok (.getfield 51, 3) := by decide +kernel
theorem dX5_at_22 : decode cX5_at 22 = .ok (.ifCond .ne 21, 3) := by decide +kernel
theorem dX5_at_25 : decode cX5_at 25 = .ok (.aload_n 0, 1) := by decide +kernel
theorem dX5_at_26 : decode cX5_at 26 = .ok (.getfield 13, 3) := by decide +kernel
theorem dX5_at_29 : decode cX5_at 29 = .ok (.aload_n 0, 1) := by decide +kernel
theorem dX5_at_30 : decode cX5_at 30 = .ok (.iload_n 1, 1) := by decide +kernel
theorem dX5_at_31 : decode cX5_at 31 = .ok (.iload_n 2, 1) := by decide +kernel
theorem dX5_at_32 : decode cX5_at 32 = .ok (.invokevirtual 137, 3) := by decide +kernel
theorem dX5_at_35 : decode cX5_at 35 = .ok (.baload, 1) := by decide +kernel
theorem dX5_at_36 : decode cX5_at 36 = .ok (.ifCond .eq 7, 3) := by decide +kernel
theorem dX5_at_39 : decode cX5_at 39 = .ok (.iconst 1, 1) := by decide +kernel
theorem dX5_at_40 : decode cX5_at 40 = .ok (.goto 4, 3) := by decide +kernel
theorem dX5_at_43 : decode cX5_at 43 = .ok (.iconst 0, 1) := by decide +kernel
theorem dX5_at_44 : decode cX5_at 44 = .ok (.ireturn, 1) := by decide +kernel
theorem dX5_strokes_0 : decode cX5_strokes 0 = .ok (.aload_n 0, 1) := by decide +kernel
theorem dX5_strokes_1 : decode cX5_strokes 1 = .ok (.aload_n 0, 1) := by decide +kernel
theorem dX5_strokes_2 : decode cX5_strokes 2 = .ok (.getfield 84, 3) := by decide +kernel
theorem dX5_strokes_5 : decode cX5_strokes 5 = .ok (.ifCond .eq 7, 3) := by decide +kernel
theorem dX5_strokes_8 : decode cX5_strokes 8 = .ok (.iconst 0, 1) := by decide +kernel
theorem dX5_strokes_9 : decode cX5_strokes 9 = .ok (.goto 4, 3) := by decide +kernel
theorem dX5_strokes_12 : decode cX5_strokes 12 = .ok (.iconst 1, 1) := by decide +kernel
theorem dX5_strokes_13 : decode cX5_strokes 13 = .ok (.putfield 51, 3) := by decide +kernel
theorem dX5_strokes_16 : decode cX5_strokes 16 = .ok (.aload_n 0, 1) := by decide +kernel
theorem dX5_strokes_17 : decode cX5_strokes 17 = .ok (.getfield 51, 3) := by decide +kernel
theorem dX5_strokes_20 : decode cX5_strokes 20 = .ok (.ifCond .le 5, 3) := by decide +kernel
theorem dX5_strokes_23 : decode cX5_strokes 23 = .ok (.iconst 0, 1) := by decide +kernel
theorem dX5_strokes_24 : decode cX5_strokes 24 = .ok (.ireturn, 1) := by decide +kernel
theorem dX5_strokes_25 : decode cX5_strokes 25 = .ok (.aload_n 0, 1) := by decide +kernel
theorem dX5_strokes_26 : decode cX5_strokes 26 = .ok (.invokevirtual 116, 3) := by decide +kernel
theorem dX5_strokes_29 : decode cX5_strokes 29 = .ok (.aload_n 0, 1) := by decide +kernel
theorem dX5_strokes_30 : decode cX5_strokes 30 = .ok (.getfield 97, 3) := by decide +kernel
theorem dX5_strokes_33 : decode cX5_strokes 33 = .ok (.ireturn, 1) := by decide +kernel
theorem dX5_isStroke_0 : decode cX5_isStroke 0 = .ok (.aload_n 0, 1) := by decide +kernel
theorem dX5_isStroke_1 : decode cX5_isStroke 1 = .ok (.aload_n 0, 1) := by decide +kernel
theorem dX5_isStroke_2 : decode cX5_isStroke 2 = .ok (.getfield 84, 3) := by decide +kernel
theorem dX5_isStroke_5 : decode cX5_isStroke 5 = .ok (.ifCond .eq 7, 3) := by decide +kernel
theorem dX5_isStroke_8 : decode cX5_isStroke 8 = .ok (.iconst 0, 1) := by decide +kernel
theorem dX5_isStroke_9 : decode cX5_isStroke 9 = .ok (.goto 4, 3) := by decide +kernel
theorem dX5_isStroke_12 : decode cX5_isStroke 12 = .ok (.iconst 1, 1) := by decide +kernel
theorem dX5_isStroke_13 : decode cX5_isStroke 13 = .ok (.putfield 51, 3) := by decide +kernel
theorem dX5_isStroke_16 : decode cX5_isStroke 16 = .ok (.aload_n 0, 1) := by decide +kernel
theorem dX5_isStroke_17 : decode cX5_isStroke 17 = .ok (.getfield 51, 3) := by decide +kernel
theorem dX5_isStroke_20 : decode cX5_isStroke 20 = .ok (.ifCond .le 5, 3) := by decide +kernel
theorem dX5_isStroke_23 : decode cX5_isStroke 23 = .ok (.iconst 0, 1) := by decide +kernel
theorem dX5_isStroke_24 : decode cX5_isStroke 24 = .ok (.ireturn, 1) := by decide +kernel
theorem dX5_isStroke_25 : decode cX5_isStroke 25 = .ok (.aload_n 0, 1) := by decide +kernel
theorem dX5_isStroke_26 : decode cX5_isStroke 26 = .ok (.invokevirtual 116, 3) := by decide +kernel
theorem dX5_isStroke_29 : decode cX5_isStroke 29 = .ok (.aload_n 0, 1) := by decide +kernel
theorem dX5_isStroke_30 : decode cX5_isStroke 30 = .ok (.iload_n 1, 1) := by decide +kernel
theorem dX5_isStroke_31 : decode cX5_isStroke 31 = .ok (.iconst 0, 1) := by decide +kernel
theorem dX5_isStroke_32 : decode cX5_isStroke 32 = .ok (.aload_n 0, 1) := by decide +kernel
theorem dX5_isStroke_33 : decode cX5_isStroke 33 = .ok (.getfield 97, 3) := by decide +kernel
theorem dX5_isStroke_36 : decode cX5_isStroke 36 = .ok (.iconst 1, 1) := by decide +kernel
theorem dX5_isStroke_37 : decode cX5_isStroke 37 = .ok (.isub, 1) := by decide +kernel
theorem dX5_isStroke_38 : decode cX5_isStroke 38 = .ok (.invokestatic 54, 3) := by decide +kernel
theorem dX5_isStroke_41 : decode cX5_isStroke 41 = .ok (.ifCond .eq 7, 3) := by decide +kernel
theorem dX5_isStroke_44 : decode cX5_isStroke 44 = .ok (.iconst 0, 1) := by decide +kernel
theorem dX5_isStroke_45 : decode cX5_isStroke 45 = .ok (.goto 4, 3) := by decide +kernel
theorem dX5_isStroke_48 : decode cX5_isStroke 48 = .ok (.iconst 2, 1) := by decide +kernel
theorem dX5_isStroke_49 : decode cX5_isStroke 49 = .ok (.putfield 51, 3) := by decide +kernel
theorem dX5_isStroke_52 : decode cX5_isStroke 52 = .ok (.aload_n 0, 1) := by decide +kernel
theorem dX5_isStroke_53 : decode cX5_isStroke 53 = .ok (.getfield 51, 3) := by decide +kernel
theorem dX5_isStroke_56 : decode cX5_isStroke 56 = .ok (.ifCond .ne 7, 3) := by decide +kernel
theorem dX5_isStroke_59 : decode cX5_isStroke 59 = .ok (.iconst 1, 1) := by decide +kernel
theorem dX5_isStroke_60 : decode cX5_isStroke 60 = .ok (.goto 4, 3) := by decide +kernel
theorem dX5_isStroke_63 : decode cX5_isStroke 63 = .ok (.iconst 0, 1) := by decide +kernel
theorem dX5_isStroke_64 : decode cX5_isStroke 64 = .ok (.ireturn, 1) := by decide +kernel
theorem dX5_points_0 : decode cX5_points 0 = .ok (.aload_n 0, 1) := by decide +kernel
theorem dX5_points_1 : decode cX5_points 1 = .ok (.iload_n 1, 1) := by decide +kernel
theorem dX5_points_2 : decode cX5_points 2 = .ok (.invokevirtual 140, 3) := by decide +kernel
theorem dX5_points_5 : decode cX5_points 5 = .ok (.ifCond .eq 11, 3) := by decide +kernel
theorem dX5_points_8 : decode cX5_points 8 = .ok (.aload_n 0, 1) := by decide +kernel
theorem dX5_points_9 : decode cX5_points 9 = .ok (.iload_n 1, 1) := by decide +kernel
theorem dX5_points_10 : decode cX5_points 10 = .ok (.invokevirtual 128, 3) := by decide +kernel
theorem dX5_points_13 : decode cX5_points 13 = .ok (.goto 4, 3) := by decide +kernel
theorem dX5_points_16 : decode cX5_points 16 = .ok (.iconst 0, 1) := by decide +kernel
theorem dX5_points_17 : decode cX5_points 17 = .ok (.ireturn, 1) := by decide +kernel
theorem dX5_place_0 : decode cX5_place 0 = .ok (.aload_n 0, 1) := by decide +kernel
theorem dX5_place_1 : decode cX5_place 1 = .ok (.iload_n 1, 1) := by decide +kernel
theorem dX5_place_2 : decode cX5_place 2 = .ok (.invokevirtual 140, 3) := by decide +kernel
theorem dX5_place_5 : decode cX5_place 5 = .ok (.ifCond .ne 5, 3) := by decide +kernel
theorem dX5_place_8 : decode cX5_place 8 = .ok (.iconst 0, 1) := by decide +kernel
theorem dX5_place_9 : decode cX5_place 9 = .ok (.ireturn, 1) := by decide +kernel
theorem dX5_place_10 : decode cX5_place 10 = .ok (.aload_n 0, 1) := by decide +kernel
theorem dX5_place_11 : decode cX5_place 11 = .ok (.iload_n 2, 1) := by decide +kernel
theorem dX5_place_12 : decode cX5_place 12 = .ok (.iconst 0, 1) := by decide +kernel
theorem dX5_place_13 : decode cX5_place 13 = .ok (.aload_n 0, 1) := by decide +kernel
theorem dX5_place_14 : decode cX5_place 14 = .ok (.iload_n 1, 1) := by decide +kernel
theorem dX5_place_15 : decode cX5_place 15 = .ok (.invokevirtual 128, 3) := by decide +kernel
theorem dX5_place_18 : decode cX5_place 18 = .ok (.iconst 1, 1) := by decide +kernel
theorem dX5_place_19 : decode cX5_place 19 = .ok (.isub, 1) := by decide +kernel
theorem dX5_place_20 : decode cX5_place 20 = .ok (.invokestatic 54, 3) := by decide +kernel
theorem dX5_place_23 : decode cX5_place 23 = .ok (.ifCond .eq 16, 3) := by decide +kernel
theorem dX5_place_26 : decode cX5_place 26 = .ok (.iload_n 3, 1) := by decide +kernel
theorem dX5_place_27 : decode cX5_place 27 = .ok (.iconst 0, 1) := by decide +kernel
theorem dX5_place_28 : decode cX5_place 28 = .ok (.iconst 1, 1) := by decide +kernel
theorem dX5_place_29 : decode cX5_place 29 = .ok (.invokestatic 54, 3) := by decide +kernel
theorem dX5_place_32 : decode cX5_place 32 = .ok (.ifCond .eq 7, 3) := by decide +kernel
theorem dX5_place_35 : decode cX5_place 35 = .ok (.iconst 0, 1) := by decide +kernel
theorem dX5_place_36 : decode cX5_place 36 = .ok (.goto 4, 3) := by decide +kernel
theorem dX5_place_39 : decode cX5_place 39 = .ok (.iconst 2, 1) := by decide +kernel
theorem dX5_place_40 : decode cX5_place 40 = .ok (.putfield 51, 3) := by decide +kernel
theorem dX5_place_43 : decode cX5_place 43 = .ok (.aload_n 0, 1) := by decide +kernel
theorem dX5_place_44 : decode cX5_place 44 = .ok (.getfield 51, 3) := by decide +kernel
theorem dX5_place_47 : decode cX5_place 47 = .ok (.ifCond .le 5, 3) := by decide +kernel
theorem dX5_place_50 : decode cX5_place 50 = .ok (.iconst 0, 1) := by decide +kernel
theorem dX5_place_51 : decode cX5_place 51 = .ok (.ireturn, 1) := by decide +kernel
theorem dX5_place_52 : decode cX5_place 52 = .ok (.aload_n 0, 1) := by decide +kernel
theorem dX5_place_53 : decode cX5_place 53 = .ok (.getfield 26, 3) := by decide +kernel
theorem dX5_place_56 : decode cX5_place 56 = .ok (.aload_n 0, 1) := by decide +kernel
theorem dX5_place_57 : decode cX5_place 57 = .ok (.getfield 23, 3) := by decide +kernel
theorem dX5_place_60 : decode cX5_place 60 = .ok (.iload_n 1, 1) := by decide +kernel
theorem dX5_place_61 : decode cX5_place 61 = .ok (.iaload, 1) := by decide +kernel
theorem dX5_place_62 : decode cX5_place 62 = .ok (.iload_n 2, 1) := by decide +kernel
theorem dX5_place_63 : decode cX5_place 63 = .ok (.iadd, 1) := by decide +kernel
theorem dX5_place_64 : decode cX5_place 64 = .ok (.iaload, 1) := by decide +kernel
theorem dX5_place_65 : decode cX5_place 65 = .ok (.istore 4, 2) := by decide +kernel
theorem dX5_place_67 : decode cX5_place 67 = .ok (.iload_n 3, 1) := by decide +kernel
theorem dX5_place_68 : decode cX5_place 68 = .ok (.ifCond .ne 12, 3) := by decide +kernel
theorem dX5_place_71 : decode cX5_place 71 = .ok (.aload_n 0, 1) := by decide +kernel
theorem dX5_place_72 : decode cX5_place 72 = .ok (.iload 4, 2) := by decide +kernel
theorem dX5_place_74 : decode cX5_place 74 = .ok (.invokevirtual 143, 3) := by decide +kernel
theorem dX5_place_77 : decode cX5_place 77 = .ok (.goto 9, 3) := by decide +kernel
theorem dX5_place_80 : decode cX5_place 80 = .ok (.aload_n 0, 1) := by decide +kernel
theorem dX5_place_81 : decode cX5_place 81 = .ok (.iload 4, 2) := by decide +kernel
theorem dX5_place_83 : decode cX5_place 83 = .ok (.invokevirtual 146, 3) := by decide +kernel
theorem dX5_place_86 : decode cX5_place 86 = .ok (.ireturn, 1) := by decide +kernel
theorem dX5_columnOf_0 : decode cX5_columnOf 0 = .ok (.iload_n 1, 1) := by decide +kernel
theorem dX5_columnOf_1 : decode cX5_columnOf 1 = .ok (.aload_n 0, 1) := by decide +kernel
theorem dX5_columnOf_2 : decode cX5_columnOf 2 = .ok (.getfield 48, 3) := by decide +kernel
theorem dX5_columnOf_5 : decode cX5_columnOf 5 = .ok (.irem, 1) := by decide +kernel
theorem dX5_columnOf_6 : decode cX5_columnOf 6 = .ok (.iconst 1, 1) := by decide +kernel
theorem dX5_columnOf_7 : decode cX5_columnOf 7 = .ok (.isub, 1) := by decide +kernel
theorem dX5_columnOf_8 : decode cX5_columnOf 8 = .ok (.ireturn, 1) := by decide +kernel
theorem dX5_rowOf_0 : decode cX5_rowOf 0 = .ok (.iload_n 1, 1) := by decide +kernel
theorem dX5_rowOf_1 : decode cX5_rowOf 1 = .ok (.aload_n 0, 1) := by decide +kernel
theorem dX5_rowOf_2 : decode cX5_rowOf 2 = .ok (.getfield 48, 3) := by decide +kernel
theorem dX5_rowOf_5 : decode cX5_rowOf 5 = .ok (.idiv, 1) := by decide +kernel
theorem dX5_rowOf_6 : decode cX5_rowOf 6 = .ok (.iconst 1, 1) := by decide +kernel
theorem dX5_rowOf_7 : decode cX5_rowOf 7 = .ok (.isub, 1) := by decide +kernel
theorem dX5_rowOf_8 : decode cX5_rowOf 8 = .ok (.ireturn, 1) := by decide +kernel
theorem dX5_crossing_0 : decode cX5_crossing 0 = .ok (.aload_n 0, 1) := by decide +kernel
theorem dX5_crossing_1 : decode cX5_crossing 1 = .ok (.aload_n 0, 1) := by decide +kernel
theorem dX5_crossing_2 : decode cX5_crossing 2 = .ok (.getfield 84, 3) := by decide +kernel
theorem dX5_crossing_5 : decode cX5_crossing 5 = .ok (.ifCond .eq 7, 3) := by decide +kernel
theorem dX5_crossing_8 : decode cX5_crossing 8 = .ok (.iconst 0, 1) := by decide +kernel
theorem dX5_crossing_9 : decode cX5_crossing 9 = .ok (.goto 4, 3) := by decide +kernel
theorem dX5_crossing_12 : decode cX5_crossing 12 = .ok (.iconst 1, 1) := by decide +kernel
theorem dX5_crossing_13 : decode cX5_crossing 13 = .ok (.putfield 51, 3) := by decide +kernel
theorem dX5_crossing_16 : decode cX5_crossing 16 = .ok (.aload_n 0, 1) := by decide +kernel
theorem dX5_crossing_17 : decode cX5_crossing 17 = .ok (.getfield 51, 3) := by decide +kernel
theorem dX5_crossing_20 : decode cX5_crossing 20 = .ok (.ifCond .le 5, 3) := by decide +kernel
theorem dX5_crossing_23 : decode cX5_crossing 23 = .ok (.iconst 0, 1) := by decide +kernel
theorem dX5_crossing_24 : decode cX5_crossing 24 = .ok (.ireturn, 1) := by decide +kernel
theorem dX5_crossing_25 : decode cX5_crossing 25 = .ok (.iconst 0, 1) := by decide +kernel
theorem dX5_crossing_26 : decode cX5_crossing 26 = .ok (.istore_n 3, 1) := by decide +kernel
theorem dX5_crossing_27 : decode cX5_crossing 27 = .ok (.iconst (-1), 1) := by decide +kernel
theorem dX5_crossing_28 : decode cX5_crossing 28 = .ok (.istore 4, 2) := by decide +kernel
theorem dX5_crossing_30 : decode cX5_crossing 30 = .ok (.iconst 0, 1) := by decide +kernel
theorem dX5_crossing_31 : decode cX5_crossing 31 = .ok (.istore 5, 2) := by decide +kernel
theorem dX5_crossing_33 : decode cX5_crossing 33 = .ok (.iload 5, 2) := by decide +kernel
theorem dX5_crossing_35 : decode cX5_crossing 35 = .ok (.aload_n 0, 1) := by decide +kernel
theorem dX5_crossing_36 : decode cX5_crossing 36 = .ok (.invokevirtual 74, 3) := by decide +kernel
theorem dX5_crossing_39 : decode cX5_crossing 39 = .ok (.if_icmp .ge 68, 3) := by decide +kernel
theorem dX5_crossing_42 : decode cX5_crossing 42 = .ok (.aload_n 0, 1) := by decide +kernel
theorem dX5_crossing_43 : decode cX5_crossing 43 = .ok (.getfield 13, 3) := by decide +kernel
theorem dX5_crossing_46 : decode cX5_crossing 46 = .ok (.iload 5, 2) := by decide +kernel
theorem dX5_crossing_48 : decode cX5_crossing 48 = .ok (.baload, 1) := by decide +kernel
theorem dX5_crossing_49 : decode cX5_crossing 49 = .ok (.ifCond .eq 17, 3) := by decide +kernel
theorem dX5_crossing_52 : decode cX5_crossing 52 = .ok (.aload_n 0, 1) := by decide +kernel
theorem dX5_crossing_53 : decode cX5_crossing 53 = .ok (.iload 5, 2) := by decide +kernel
theorem dX5_crossing_55 : decode cX5_crossing 55 = .ok (.invokevirtual 107, 3) := by decide +kernel
theorem dX5_crossing_58 : decode cX5_crossing 58 = .ok (.iconst 3, 1) := by decide +kernel
theorem dX5_crossing_59 : decode cX5_crossing 59 = .ok (.if_icmp .lt 7, 3) := by decide +kernel
theorem dX5_crossing_62 : decode cX5_crossing 62 = .ok (.iconst 1, 1) := by decide +kernel
theorem dX5_crossing_63 : decode cX5_crossing 63 = .ok (.goto 4, 3) := by decide +kernel
theorem dX5_crossing_66 : decode cX5_crossing 66 = .ok (.iconst 0, 1) := by decide +kernel
theorem dX5_crossing_67 : decode cX5_crossing 67 = .ok (.istore 6, 2) := by decide +kernel
theorem dX5_crossing_69 : decode cX5_crossing 69 = .ok (.iload 6, 2) := by decide +kernel
theorem dX5_crossing_71 : decode cX5_crossing 71 = .ok (.ifCond .eq 13, 3) := by decide +kernel
theorem dX5_crossing_74 : decode cX5_crossing 74 = .ok (.iload_n 3, 1) := by decide +kernel
theorem dX5_crossing_75 : decode cX5_crossing 75 = .ok (.iload_n 1, 1) := by decide +kernel
theorem dX5_crossing_76 : decode cX5_crossing 76 = .ok (.if_icmp .ne 8, 3) := by decide +kernel
theorem dX5_crossing_79 : decode cX5_crossing 79 = .ok (.iload 5, 2) := by decide +kernel
theorem dX5_crossing_81 : decode cX5_crossing 81 = .ok (.goto 5, 3) := by decide +kernel
theorem dX5_crossing_84 : decode cX5_crossing 84 = .ok (.iload 4, 2) := by decide +kernel
theorem dX5_crossing_86 : decode cX5_crossing 86 = .ok (.istore 4, 2) := by decide +kernel
theorem dX5_crossing_88 : decode cX5_crossing 88 = .ok (.iload_n 3, 1) := by decide +kernel
theorem dX5_crossing_89 : decode cX5_crossing 89 = .ok (.iload 6, 2) := by decide +kernel
theorem dX5_crossing_91 : decode cX5_crossing 91 = .ok (.ifCond .eq 7, 3) := by decide +kernel
theorem dX5_crossing_94 : decode cX5_crossing 94 = .ok (.iconst 1, 1) := by decide +kernel
theorem dX5_crossing_95 : decode cX5_crossing 95 = .ok (.goto 4, 3) := by decide +kernel
theorem dX5_crossing_98 : decode cX5_crossing 98 = .ok (.iconst 0, 1) := by decide +kernel
theorem dX5_crossing_99 : decode cX5_crossing 99 = .ok (.iadd, 1) := by decide +kernel
theorem dX5_crossing_100 : decode cX5_crossing 100 = .ok (.istore_n 3, 1) := by decide +kernel
theorem dX5_crossing_101 : decode cX5_crossing 101 = .ok (.iinc 5 1, 3) := by decide +kernel
theorem dX5_crossing_104 : decode cX5_crossing 104 = .ok (.goto (-71), 3) := by decide +kernel
theorem dX5_crossing_107 : decode cX5_crossing 107 = .ok (.aload_n 0, 1) := by decide +kernel
theorem dX5_crossing_108 : decode cX5_crossing 108 = .ok (.iload 4, 2) := by decide +kernel
theorem dX5_crossing_110 : decode cX5_crossing 110 = .ok (.ifCond .ge 7, 3) := by decide +kernel
theorem dX5_crossing_113 : decode cX5_crossing 113 = .ok (.iconst 2, 1) := by decide +kernel
theorem dX5_crossing_114 : decode cX5_crossing 114 = .ok (.goto 17, 3) := by decide +kernel
theorem dX5_crossing_117 : decode cX5_crossing 117 = .ok (.iload_n 2, 1) := by decide +kernel
theorem dX5_crossing_118 : decode cX5_crossing 118 = .ok (.iconst 0, 1) := by decide +kernel
theorem dX5_crossing_119 : decode cX5_crossing 119 = .ok (.iconst 2, 1) := by decide +kernel
theorem dX5_crossing_120 : decode cX5_crossing 120 = .ok (.invokestatic 54, 3) := by decide +kernel
theorem dX5_crossing_123 : decode cX5_crossing 123 = .ok (.ifCond .ne 7, 3) := by decide +kernel
theorem dX5_crossing_126 : decode cX5_crossing 126 = .ok (.iconst 3, 1) := by decide +kernel
theorem dX5_crossing_127 : decode cX5_crossing 127 = .ok (.goto 4, 3) := by decide +kernel
theorem dX5_crossing_130 : decode cX5_crossing 130 = .ok (.iconst 0, 1) := by decide +kernel
theorem dX5_crossing_131 : decode cX5_crossing 131 = .ok (.putfield 51, 3) := by decide +kernel
theorem dX5_crossing_134 : decode cX5_crossing 134 = .ok (.aload_n 0, 1) := by decide +kernel
theorem dX5_crossing_135 : decode cX5_crossing 135 = .ok (.getfield 51, 3) := by decide +kernel
theorem dX5_crossing_138 : decode cX5_crossing 138 = .ok (.ifCond .le 5, 3) := by decide +kernel
theorem dX5_crossing_141 : decode cX5_crossing 141 = .ok (.iconst 0, 1) := by decide +kernel
theorem dX5_crossing_142 : decode cX5_crossing 142 = .ok (.ireturn, 1) := by decide +kernel
theorem dX5_crossing_143 : decode cX5_crossing 143 = .ok (.iload_n 2, 1) := by decide +kernel
theorem dX5_crossing_144 : decode cX5_crossing 144 = .ok (.ifCond .ne 12, 3) := by decide +kernel
theorem dX5_crossing_147 : decode cX5_crossing 147 = .ok (.aload_n 0, 1) := by decide +kernel
theorem dX5_crossing_148 : decode cX5_crossing 148 = .ok (.iload 4, 2) := by decide +kernel
theorem dX5_crossing_150 : decode cX5_crossing 150 = .ok (.invokevirtual 143, 3) := by decide +kernel
theorem dX5_crossing_153 : decode cX5_crossing 153 = .ok (.goto 23, 3) := by decide +kernel
theorem dX5_crossing_156 : decode cX5_crossing 156 = .ok (.iload_n 2, 1) := by decide +kernel
theorem dX5_crossing_157 : decode cX5_crossing 157 = .ok (.iconst 1, 1) := by decide +kernel
theorem dX5_crossing_158 : decode cX5_crossing 158 = .ok (.if_icmp .ne 12, 3) := by decide +kernel
theorem dX5_crossing_161 : decode cX5_crossing 161 = .ok (.aload_n 0, 1) := by decide +kernel
theorem dX5_crossing_162 : decode cX5_crossing 162 = .ok (.iload 4, 2) := by decide +kernel
theorem dX5_crossing_164 : decode cX5_crossing 164 = .ok (.invokevirtual 146, 3) := by decide +kernel
theorem dX5_crossing_167 : decode cX5_crossing 167 = .ok (.goto 9, 3) := by decide +kernel
theorem dX5_crossing_170 : decode cX5_crossing 170 = .ok (.aload_n 0, 1) := by decide +kernel
theorem dX5_crossing_171 : decode cX5_crossing 171 = .ok (.iload 4, 2) := by decide +kernel
theorem dX5_crossing_173 : decode cX5_crossing 173 = .ok (.invokevirtual 107, 3) := by decide +kernel
theorem dX5_crossing_176 : decode cX5_crossing 176 = .ok (.ireturn, 1) := by decide +kernel
theorem dX5_aheadOf_0 : decode cX5_aheadOf 0 = .ok (.aload_n 0, 1) := by decide +kernel
theorem dX5_aheadOf_1 : decode cX5_aheadOf 1 = .ok (.iload_n 1, 1) := by decide +kernel
theorem dX5_aheadOf_2 : decode cX5_aheadOf 2 = .ok (.invokevirtual 128, 3) := by decide +kernel
theorem dX5_aheadOf_5 : decode cX5_aheadOf 5 = .ok (.iconst 1, 1) := by decide +kernel
theorem dX5_aheadOf_6 : decode cX5_aheadOf 6 = .ok (.isub, 1) := by decide +kernel
theorem dX5_aheadOf_7 : decode cX5_aheadOf 7 = .ok (.iconst 3, 1) := by decide +kernel
theorem dX5_aheadOf_8 : decode cX5_aheadOf 8 = .ok (.if_icmp .ge 13, 3) := by decide +kernel
theorem dX5_aheadOf_11 : decode cX5_aheadOf 11 = .ok (.aload_n 0, 1) := by decide +kernel
theorem dX5_aheadOf_12 : decode cX5_aheadOf 12 = .ok (.iload_n 1, 1) := by decide +kernel
theorem dX5_aheadOf_13 : decode cX5_aheadOf 13 = .ok (.invokevirtual 128, 3) := by decide +kernel
theorem dX5_aheadOf_16 : decode cX5_aheadOf 16 = .ok (.iconst 1, 1) := by decide +kernel
theorem dX5_aheadOf_17 : decode cX5_aheadOf 17 = .ok (.isub, 1) := by decide +kernel
theorem dX5_aheadOf_18 : decode cX5_aheadOf 18 = .ok (.goto 4, 3) := by decide +kernel
theorem dX5_aheadOf_21 : decode cX5_aheadOf 21 = .ok (.iconst 3, 1) := by decide +kernel
theorem dX5_aheadOf_22 : decode cX5_aheadOf 22 = .ok (.istore_n 3, 1) := by decide +kernel
theorem dX5_aheadOf_23 : decode cX5_aheadOf 23 = .ok (.aload_n 0, 1) := by decide +kernel
theorem dX5_aheadOf_24 : decode cX5_aheadOf 24 = .ok (.iload_n 1, 1) := by decide +kernel
theorem dX5_aheadOf_25 : decode cX5_aheadOf 25 = .ok (.invokevirtual 122, 3) := by decide +kernel
theorem dX5_aheadOf_28 : decode cX5_aheadOf 28 = .ok (.iload_n 2, 1) := by decide +kernel
theorem dX5_aheadOf_29 : decode cX5_aheadOf 29 = .ok (.if_icmp .ne 19, 3) := by decide +kernel
theorem dX5_aheadOf_32 : decode cX5_aheadOf 32 = .ok (.aload_n 0, 1) := by decide +kernel
theorem dX5_aheadOf_33 : decode cX5_aheadOf 33 = .ok (.getfield 26, 3) := by decide +kernel
theorem dX5_aheadOf_36 : decode cX5_aheadOf 36 = .ok (.aload_n 0, 1) := by decide +kernel
theorem dX5_aheadOf_37 : decode cX5_aheadOf 37 = .ok (.getfield 23, 3) := by decide +kernel
theorem dX5_aheadOf_40 : decode cX5_aheadOf 40 = .ok (.iload_n 1, 1) := by decide +kernel
theorem dX5_aheadOf_41 : decode cX5_aheadOf 41 = .ok (.iaload, 1) := by decide +kernel
theorem dX5_aheadOf_42 : decode cX5_aheadOf 42 = .ok (.iload_n 3, 1) := by decide +kernel
theorem dX5_aheadOf_43 : decode cX5_aheadOf 43 = .ok (.iadd, 1) := by decide +kernel
theorem dX5_aheadOf_44 : decode cX5_aheadOf 44 = .ok (.iaload, 1) := by decide +kernel
theorem dX5_aheadOf_45 : decode cX5_aheadOf 45 = .ok (.goto 20, 3) := by decide +kernel
theorem dX5_aheadOf_48 : decode cX5_aheadOf 48 = .ok (.aload_n 0, 1) := by decide +kernel
theorem dX5_aheadOf_49 : decode cX5_aheadOf 49 = .ok (.getfield 26, 3) := by decide +kernel
theorem dX5_aheadOf_52 : decode cX5_aheadOf 52 = .ok (.aload_n 0, 1) := by decide +kernel
theorem dX5_aheadOf_53 : decode cX5_aheadOf 53 = .ok (.getfield 23, 3) := by decide +kernel
theorem dX5_aheadOf_56 : decode cX5_aheadOf 56 = .ok (.iload_n 1, 1) := by decide +kernel
theorem dX5_aheadOf_57 : decode cX5_aheadOf 57 = .ok (.iconst 1, 1) := by decide +kernel
theorem dX5_aheadOf_58 : decode cX5_aheadOf 58 = .ok (.iadd, 1) := by decide +kernel
theorem dX5_aheadOf_59 : decode cX5_aheadOf 59 = .ok (.iaload, 1) := by decide +kernel
theorem dX5_aheadOf_60 : decode cX5_aheadOf 60 = .ok (.iconst 1, 1) := by decide +kernel
theorem dX5_aheadOf_61 : decode cX5_aheadOf 61 = .ok (.isub, 1) := by decide +kernel
theorem dX5_aheadOf_62 : decode cX5_aheadOf 62 = .ok (.iload_n 3, 1) := by decide +kernel
theorem dX5_aheadOf_63 : decode cX5_aheadOf 63 = .ok (.isub, 1) := by decide +kernel
theorem dX5_aheadOf_64 : decode cX5_aheadOf 64 = .ok (.iaload, 1) := by decide +kernel
theorem dX5_aheadOf_65 : decode cX5_aheadOf 65 = .ok (.ireturn, 1) := by decide +kernel
theorem dX5_dot_0 : decode cX5_dot 0 = .ok (.aload_n 0, 1) := by decide +kernel
theorem dX5_dot_1 : decode cX5_dot 1 = .ok (.iload_n 2, 1) := by decide +kernel
theorem dX5_dot_2 : decode cX5_dot 2 = .ok (.invokevirtual 143, 3) := by decide +kernel
theorem dX5_dot_5 : decode cX5_dot 5 = .ok (.aload_n 0, 1) := by decide +kernel
theorem dX5_dot_6 : decode cX5_dot 6 = .ok (.iload_n 1, 1) := by decide +kernel
theorem dX5_dot_7 : decode cX5_dot 7 = .ok (.invokevirtual 143, 3) := by decide +kernel
theorem dX5_dot_10 : decode cX5_dot 10 = .ok (.isub, 1) := by decide +kernel
theorem dX5_dot_11 : decode cX5_dot 11 = .ok (.i2l, 1) := by decide +kernel
theorem dX5_dot_12 : decode cX5_dot 12 = .ok (.aload_n 0, 1) := by decide +kernel
theorem dX5_dot_13 : decode cX5_dot 13 = .ok (.iload_n 3, 1) := by decide +kernel
theorem dX5_dot_14 : decode cX5_dot 14 = .ok (.invokevirtual 143, 3) := by decide +kernel
theorem dX5_dot_17 : decode cX5_dot 17 = .ok (.aload_n 0, 1) := by decide +kernel
theorem dX5_dot_18 : decode cX5_dot 18 = .ok (.iload_n 1, 1) := by decide +kernel
theorem dX5_dot_19 : decode cX5_dot 19 = .ok (.invokevirtual 143, 3) := by decide +kernel
theorem dX5_dot_22 : decode cX5_dot 22 = .ok (.isub, 1) := by decide +kernel
theorem dX5_dot_23 : decode cX5_dot 23 = .ok (.i2l, 1) := by decide +kernel
theorem dX5_dot_24 : decode cX5_dot 24 = .ok (.lmul, 1) := by decide +kernel
theorem dX5_dot_25 : decode cX5_dot 25 = .ok (.lstore 4, 2) := by decide +kernel
theorem dX5_dot_27 : decode cX5_dot 27 = .ok (.lload 4, 2) := by decide +kernel
theorem dX5_dot_29 : decode cX5_dot 29 = .ok (.aload_n 0, 1) := by decide +kernel
theorem dX5_dot_30 : decode cX5_dot 30 = .ok (.iload_n 2, 1) := by decide +kernel
theorem dX5_dot_31 : decode cX5_dot 31 = .ok (.invokevirtual 146, 3) := by decide +kernel
theorem dX5_dot_34 : decode cX5_dot 34 = .ok (.aload_n 0, 1) := by decide +kernel
theorem dX5_dot_35 : decode cX5_dot 35 = .ok (.iload_n 1, 1) := by decide +kernel
theorem dX5_dot_36 : decode cX5_dot 36 = .ok (.invokevirtual 146, 3) := by decide +kernel
theorem dX5_dot_39 : decode cX5_dot 39 = .ok (.isub, 1) := by decide +kernel
theorem dX5_dot_40 : decode cX5_dot 40 = .ok (.i2l, 1) := by decide +kernel
theorem dX5_dot_41 : decode cX5_dot 41 = .ok (.aload_n 0, 1) := by decide +kernel
theorem dX5_dot_42 : decode cX5_dot 42 = .ok (.iload_n 3, 1) := by decide +kernel
theorem dX5_dot_43 : decode cX5_dot 43 = .ok (.invokevirtual 146, 3) := by decide +kernel
theorem dX5_dot_46 : decode cX5_dot 46 = .ok (.aload_n 0, 1) := by decide +kernel
theorem dX5_dot_47 : decode cX5_dot 47 = .ok (.iload_n 1, 1) := by decide +kernel
theorem dX5_dot_48 : decode cX5_dot 48 = .ok (.invokevirtual 146, 3) := by decide +kernel
theorem dX5_dot_51 : decode cX5_dot 51 = .ok (.isub, 1) := by decide +kernel
theorem dX5_dot_52 : decode cX5_dot 52 = .ok (.i2l, 1) := by decide +kernel
theorem dX5_dot_53 : decode cX5_dot 53 = .ok (.lmul, 1) := by decide +kernel
theorem dX5_dot_54 : decode cX5_dot 54 = .ok (.ladd, 1) := by decide +kernel
theorem dX5_dot_55 : decode cX5_dot 55 = .ok (.lreturn, 1) := by decide +kernel
theorem dX5_joined_0 : decode cX5_joined 0 = .ok (.aload_n 0, 1) := by decide +kernel
theorem dX5_joined_1 : decode cX5_joined 1 = .ok (.iload_n 1, 1) := by decide +kernel
theorem dX5_joined_2 : decode cX5_joined 2 = .ok (.invokevirtual 140, 3) := by decide +kernel
theorem dX5_joined_5 : decode cX5_joined 5 = .ok (.ifCond .ne 5, 3) := by decide +kernel
theorem dX5_joined_8 : decode cX5_joined 8 = .ok (.iconst 0, 1) := by decide +kernel
theorem dX5_joined_9 : decode cX5_joined 9 = .ok (.ireturn, 1) := by decide +kernel
theorem dX5_joined_10 : decode cX5_joined 10 = .ok (.aload_n 0, 1) := by decide +kernel
theorem dX5_joined_11 : decode cX5_joined 11 = .ok (.iload_n 1, 1) := by decide +kernel
theorem dX5_joined_12 : decode cX5_joined 12 = .ok (.invokevirtual 125, 3) := by decide +kernel
theorem dX5_joined_15 : decode cX5_joined 15 = .ok (.istore_n 2, 1) := by decide +kernel
theorem dX5_joined_16 : decode cX5_joined 16 = .ok (.iconst (-1), 1) := by decide +kernel
theorem dX5_joined_17 : decode cX5_joined 17 = .ok (.istore_n 3, 1) := by decide +kernel
theorem dX5_joined_18 : decode cX5_joined 18 = .ok (.lconst 0, 1) := by decide +kernel
theorem dX5_joined_19 : decode cX5_joined 19 = .ok (.lstore 4, 2) := by decide +kernel
theorem dX5_joined_21 : decode cX5_joined 21 = .ok (.lconst 1, 1) := by decide +kernel
theorem dX5_joined_22 : decode cX5_joined 22 = .ok (.lstore 6, 2) := by decide +kernel
theorem dX5_joined_24 : decode cX5_joined 24 = .ok (.aload_n 0, 1) := by decide +kernel
theorem dX5_joined_25 : decode cX5_joined 25 = .ok (.iload_n 1, 1) := by decide +kernel
theorem dX5_joined_26 : decode cX5_joined 26 = .ok (.iload_n 2, 1) := by decide +kernel
theorem dX5_joined_27 : decode cX5_joined 27 = .ok (.invokevirtual 149, 3) := by decide +kernel
theorem dX5_joined_30 : decode cX5_joined 30 = .ok (.istore 8, 2) := by decide +kernel
theorem dX5_joined_32 : decode cX5_joined 32 = .ok (.iconst 0, 1) := by decide +kernel
theorem dX5_joined_33 : decode cX5_joined 33 = .ok (.istore 9, 2) := by decide +kernel
theorem dX5_joined_35 : decode cX5_joined 35 = .ok (.iload 9, 2) := by decide +kernel
theorem dX5_joined_37 : decode cX5_joined 37 = .ok (.aload_n 0, 1) := by decide +kernel
theorem dX5_joined_38 : decode cX5_joined 38 = .ok (.getfield 97, 3) := by decide +kernel
theorem dX5_joined_41 : decode cX5_joined 41 = .ok (.if_icmp .ge 123, 3) := by decide +kernel
theorem dX5_joined_44 : decode cX5_joined 44 = .ok (.aload_n 0, 1) := by decide +kernel
theorem dX5_joined_45 : decode cX5_joined 45 = .ok (.iload_n 2, 1) := by decide +kernel
theorem dX5_joined_46 : decode cX5_joined 46 = .ok (.invokevirtual 107, 3) := by decide +kernel
theorem dX5_joined_49 : decode cX5_joined 49 = .ok (.iconst 3, 1) := by decide +kernel
theorem dX5_joined_50 : decode cX5_joined 50 = .ok (.if_icmp .lt 114, 3) := by decide +kernel
theorem dX5_joined_53 : decode cX5_joined 53 = .ok (.iload 9, 2) := by decide +kernel
theorem dX5_joined_55 : decode cX5_joined 55 = .ok (.iload_n 1, 1) := by decide +kernel
theorem dX5_joined_56 : decode cX5_joined 56 = .ok (.if_icmp .eq 102, 3) := by decide +kernel
theorem dX5_joined_59 : decode cX5_joined 59 = .ok (.aload_n 0, 1) := by decide +kernel
theorem dX5_joined_60 : decode cX5_joined 60 = .ok (.iload 9, 2) := by decide +kernel
theorem dX5_joined_62 : decode cX5_joined 62 = .ok (.invokevirtual 122, 3) := by decide +kernel
theorem dX5_joined_65 : decode cX5_joined 65 = .ok (.iload_n 2, 1) := by decide +kernel
theorem dX5_joined_66 : decode cX5_joined 66 = .ok (.if_icmp .eq 13, 3) := by decide +kernel
theorem dX5_joined_69 : decode cX5_joined 69 = .ok (.aload_n 0, 1) := by decide +kernel
theorem dX5_joined_70 : decode cX5_joined 70 = .ok (.iload 9, 2) := by decide +kernel
theorem dX5_joined_72 : decode cX5_joined 72 = .ok (.invokevirtual 125, 3) := by decide +kernel
theorem dX5_joined_75 : decode cX5_joined 75 = .ok (.iload_n 2, 1) := by decide +kernel
theorem dX5_joined_76 : decode cX5_joined 76 = .ok (.if_icmp .ne 82, 3) := by decide +kernel
theorem dX5_joined_79 : decode cX5_joined 79 = .ok (.aload_n 0, 1) := by decide +kernel
theorem dX5_joined_80 : decode cX5_joined 80 = .ok (.iload 9, 2) := by decide +kernel
theorem dX5_joined_82 : decode cX5_joined 82 = .ok (.iload_n 2, 1) := by decide +kernel
theorem dX5_joined_83 : decode cX5_joined 83 = .ok (.invokevirtual 149, 3) := by decide +kernel
theorem dX5_joined_86 : decode cX5_joined 86 = .ok (.istore 10, 2) := by decide +kernel
theorem dX5_joined_88 : decode cX5_joined 88 = .ok (.aload_n 0, 1) := by decide +kernel
theorem dX5_joined_89 : decode cX5_joined 89 = .ok (.iload_n 2, 1) := by decide +kernel
theorem dX5_joined_90 : decode cX5_joined 90 = .ok (.iload 8, 2) := by decide +kernel
theorem dX5_joined_92 : decode cX5_joined 92 = .ok (.iload 10, 2) := by decide +kernel
theorem dX5_joined_94 : decode cX5_joined 94 = .ok (.invokevirtual 152, 3) := by decide +kernel
theorem dX5_joined_97 : decode cX5_joined 97 = .ok (.lstore 11, 2) := by decide +kernel
theorem dX5_joined_99 : decode cX5_joined 99 = .ok (.aload_n 0, 1) := by decide +kernel
theorem dX5_joined_100 : decode cX5_joined 100 = .ok (.iload_n 2, 1) := by decide +kernel
theorem dX5_joined_101 : decode cX5_joined 101 = .ok (.iload 8, 2) := by decide +kernel
theorem dX5_joined_103 : decode cX5_joined 103 = .ok (.iload 8, 2) := by decide +kernel
theorem dX5_joined_105 : decode cX5_joined 105 = .ok (.invokevirtual 152, 3) := by decide +kernel
theorem dX5_joined_108 : decode cX5_joined 108 = .ok (.aload_n 0, 1) := by decide +kernel
theorem dX5_joined_109 : decode cX5_joined 109 = .ok (.iload_n 2, 1) := by decide +kernel
theorem dX5_joined_110 : decode cX5_joined 110 = .ok (.iload 10, 2) := by decide +kernel
theorem dX5_joined_112 : decode cX5_joined 112 = .ok (.iload 10, 2) := by decide +kernel
theorem dX5_joined_114 : decode cX5_joined 114 = .ok (.invokevirtual 152, 3) := by decide +kernel
theorem dX5_joined_117 : decode cX5_joined 117 = .ok (.lmul, 1) := by decide +kernel
theorem dX5_joined_118 : decode cX5_joined 118 = .ok (.lstore 13, 2) := by decide +kernel
theorem dX5_joined_120 : decode cX5_joined 120 = .ok (.lload 11, 2) := by decide +kernel
theorem dX5_joined_122 : decode cX5_joined 122 = .ok (.lconst 0, 1) := by decide +kernel
theorem dX5_joined_123 : decode cX5_joined 123 = .ok (.lcmp, 1) := by decide +kernel
theorem dX5_joined_124 : decode cX5_joined 124 = .ok (.ifCond .ge 34, 3) := by decide +kernel
theorem dX5_joined_127 : decode cX5_joined 127 = .ok (.lload 11, 2) := by decide +kernel
theorem dX5_joined_129 : decode cX5_joined 129 = .ok (.lload 11, 2) := by decide +kernel
theorem dX5_joined_131 : decode cX5_joined 131 = .ok (.lmul, 1) := by decide +kernel
theorem dX5_joined_132 : decode cX5_joined 132 = .ok (.lload 6, 2) := by decide +kernel
theorem dX5_joined_134 : decode cX5_joined 134 = .ok (.lmul, 1) := by decide +kernel
theorem dX5_joined_135 : decode cX5_joined 135 = .ok (.lload 4, 2) := by decide +kernel
theorem dX5_joined_137 : decode cX5_joined 137 = .ok (.lload 13, 2) := by decide +kernel
theorem dX5_joined_139 : decode cX5_joined 139 = .ok (.lmul, 1) := by decide +kernel
theorem dX5_joined_140 : decode cX5_joined 140 = .ok (.lcmp, 1) := by decide +kernel
theorem dX5_joined_141 : decode cX5_joined 141 = .ok (.ifCond .le 17, 3) := by decide +kernel
theorem dX5_joined_144 : decode cX5_joined 144 = .ok (.iload 9, 2) := by decide +kernel
theorem dX5_joined_146 : decode cX5_joined 146 = .ok (.istore_n 3, 1) := by decide +kernel
theorem dX5_joined_147 : decode cX5_joined 147 = .ok (.lload 11, 2) := by decide +kernel
theorem dX5_joined_149 : decode cX5_joined 149 = .ok (.lload 11, 2) := by decide +kernel
theorem dX5_joined_151 : decode cX5_joined 151 = .ok (.lmul, 1) := by decide +kernel
theorem dX5_joined_152 : decode cX5_joined 152 = .ok (.lstore 4, 2) := by decide +kernel
theorem dX5_joined_154 : decode cX5_joined 154 = .ok (.lload 13, 2) := by decide +kernel
theorem dX5_joined_156 : decode cX5_joined 156 = .ok (.lstore 6, 2) := by decide +kernel
theorem dX5_joined_158 : decode cX5_joined 158 = .ok (.iinc 9 1, 3) := by decide +kernel
theorem dX5_joined_161 : decode cX5_joined 161 = .ok (.goto (-126), 3) := by decide +kernel
theorem dX5_joined_164 : decode cX5_joined 164 = .ok (.iload_n 3, 1) := by decide +kernel
theorem dX5_joined_165 : decode cX5_joined 165 = .ok (.ireturn, 1) := by decide +kernel
theorem dX5_farFrom_0 : decode cX5_farFrom 0 = .ok (.aload_n 0, 1) := by decide +kernel
theorem dX5_farFrom_1 : decode cX5_farFrom 1 = .ok (.iload_n 1, 1) := by decide +kernel
theorem dX5_farFrom_2 : decode cX5_farFrom 2 = .ok (.invokevirtual 143, 3) := by decide +kernel
theorem dX5_farFrom_5 : decode cX5_farFrom 5 = .ok (.aload_n 0, 1) := by decide +kernel
theorem dX5_farFrom_6 : decode cX5_farFrom 6 = .ok (.iload_n 2, 1) := by decide +kernel
theorem dX5_farFrom_7 : decode cX5_farFrom 7 = .ok (.invokevirtual 143, 3) := by decide +kernel
theorem dX5_farFrom_10 : decode cX5_farFrom 10 = .ok (.isub, 1) := by decide +kernel
theorem dX5_farFrom_11 : decode cX5_farFrom 11 = .ok (.i2l, 1) := by decide +kernel
theorem dX5_farFrom_12 : decode cX5_farFrom 12 = .ok (.lstore_n 3, 1) := by decide +kernel
theorem dX5_farFrom_13 : decode cX5_farFrom 13 = .ok (.aload_n 0, 1) := by decide +kernel
theorem dX5_farFrom_14 : decode cX5_farFrom 14 = .ok (.iload_n 1, 1) := by decide +kernel
theorem dX5_farFrom_15 : decode cX5_farFrom 15 = .ok (.invokevirtual 146, 3) := by decide +kernel
theorem dX5_farFrom_18 : decode cX5_farFrom 18 = .ok (.aload_n 0, 1) := by decide +kernel
theorem dX5_farFrom_19 : decode cX5_farFrom 19 = .ok (.iload_n 2, 1) := by decide +kernel
theorem dX5_farFrom_20 : decode cX5_farFrom 20 = .ok (.invokevirtual 146, 3) := by decide +kernel
theorem dX5_farFrom_23 : decode cX5_farFrom 23 = .ok (.isub, 1) := by decide +kernel
theorem dX5_farFrom_24 : decode cX5_farFrom 24 = .ok (.i2l, 1) := by decide +kernel
theorem dX5_farFrom_25 : decode cX5_farFrom 25 = .ok (.lstore 5, 2) := by decide +kernel
theorem dX5_farFrom_27 : decode cX5_farFrom 27 = .ok (.lload_n 3, 1) := by decide +kernel
theorem dX5_farFrom_28 : decode cX5_farFrom 28 = .ok (.lload_n 3, 1) := by decide +kernel
theorem dX5_farFrom_29 : decode cX5_farFrom 29 = .ok (.lmul, 1) := by decide +kernel
theorem dX5_farFrom_30 : decode cX5_farFrom 30 = .ok (.lload 5, 2) := by decide +kernel
theorem dX5_farFrom_32 : decode cX5_farFrom 32 = .ok (.lload 5, 2) := by decide +kernel
theorem dX5_farFrom_34 : decode cX5_farFrom 34 = .ok (.lmul, 1) := by decide +kernel
theorem dX5_farFrom_35 : decode cX5_farFrom 35 = .ok (.ladd, 1) := by decide +kernel
theorem dX5_farFrom_36 : decode cX5_farFrom 36 = .ok (.lreturn, 1) := by decide +kernel
theorem dX5_nearestWhite_0 : decode cX5_nearestWhite 0 = .ok (.ldc2_w 156, 3) := by decide +kernel
theorem dX5_nearestWhite_3 : decode cX5_nearestWhite 3 = .ok (.lstore_n 2, 1) := by decide +kernel
theorem dX5_nearestWhite_4 : decode cX5_nearestWhite 4 = .ok (.iconst 0, 1) := by decide +kernel
theorem dX5_nearestWhite_5 : decode cX5_nearestWhite 5 = .ok (.istore 4, 2) := by decide +kernel
theorem dX5_nearestWhite_7 : decode cX5_nearestWhite 7 = .ok (.iload 4, 2) := by decide +kernel
theorem dX5_nearestWhite_9 : decode cX5_nearestWhite 9 = .ok (.aload_n 0, 1) := by decide +kernel
theorem dX5_nearestWhite_10 : decode cX5_nearestWhite 10 = .ok (.invokevirtual 74, 3) := by decide +kernel
theorem dX5_nearestWhite_13 : decode cX5_nearestWhite 13 = .ok (.if_icmp .ge 43, 3) := by decide +kernel
theorem dX5_nearestWhite_16 : decode cX5_nearestWhite 16 = .ok (.aload_n 0, 1) := by decide +kernel
theorem dX5_nearestWhite_17 : decode cX5_nearestWhite 17 = .ok (.getfield 7, 3) := by decide +kernel
theorem dX5_nearestWhite_20 : decode cX5_nearestWhite 20 = .ok (.iload 4, 2) := by decide +kernel
theorem dX5_nearestWhite_22 : decode cX5_nearestWhite 22 = .ok (.baload, 1) := by decide +kernel
theorem dX5_nearestWhite_23 : decode cX5_nearestWhite 23 = .ok (.ifCond .ne 25, 3) := by decide +kernel
theorem dX5_nearestWhite_26 : decode cX5_nearestWhite 26 = .ok (.aload_n 0, 1) := by decide +kernel
theorem dX5_nearestWhite_27 : decode cX5_nearestWhite 27 = .ok (.iload_n 1, 1) := by decide +kernel
theorem dX5_nearestWhite_28 : decode cX5_nearestWhite 28 = .ok (.iload 4, 2) := by decide +kernel
theorem dX5_nearestWhite_30 : decode cX5_nearestWhite 30 = .ok (.invokevirtual 158, 3) := by decide +kernel
theorem dX5_nearestWhite_33 : decode cX5_nearestWhite 33 = .ok (.lload_n 2, 1) := by decide +kernel
theorem dX5_nearestWhite_34 : decode cX5_nearestWhite 34 = .ok (.lcmp, 1) := by decide +kernel
theorem dX5_nearestWhite_35 : decode cX5_nearestWhite 35 = .ok (.ifCond .ge 13, 3) := by decide +kernel
theorem dX5_nearestWhite_38 : decode cX5_nearestWhite 38 = .ok (.aload_n 0, 1) := by decide +kernel
theorem dX5_nearestWhite_39 : decode cX5_nearestWhite 39 = .ok (.iload_n 1, 1) := by decide +kernel
theorem dX5_nearestWhite_40 : decode cX5_nearestWhite 40 = .ok (.iload 4, 2) := by decide +kernel
theorem dX5_nearestWhite_42 : decode cX5_nearestWhite 42 = .ok (.invokevirtual 158, 3) := by decide +kernel
theorem dX5_nearestWhite_45 : decode cX5_nearestWhite 45 = .ok (.goto 4, 3) := by decide +kernel
theorem dX5_nearestWhite_48 : decode cX5_nearestWhite 48 = .ok (.lload_n 2, 1) := by decide +kernel
theorem dX5_nearestWhite_49 : decode cX5_nearestWhite 49 = .ok (.lstore_n 2, 1) := by decide +kernel
theorem dX5_nearestWhite_50 : decode cX5_nearestWhite 50 = .ok (.iinc 4 1, 3) := by decide +kernel
theorem dX5_nearestWhite_53 : decode cX5_nearestWhite 53 = .ok (.goto (-46), 3) := by decide +kernel
theorem dX5_nearestWhite_56 : decode cX5_nearestWhite 56 = .ok (.lload_n 2, 1) := by decide +kernel
theorem dX5_nearestWhite_57 : decode cX5_nearestWhite 57 = .ok (.lreturn, 1) := by decide +kernel
theorem dX5_distance2_0 : decode cX5_distance2 0 = .ok (.aload_n 0, 1) := by decide +kernel
theorem dX5_distance2_1 : decode cX5_distance2 1 = .ok (.aload_n 0, 1) := by decide +kernel
theorem dX5_distance2_2 : decode cX5_distance2 2 = .ok (.iload_n 1, 1) := by decide +kernel
theorem dX5_distance2_3 : decode cX5_distance2 3 = .ok (.iload_n 2, 1) := by decide +kernel
theorem dX5_distance2_4 : decode cX5_distance2 4 = .ok (.invokevirtual 134, 3) := by decide +kernel
theorem dX5_distance2_7 : decode cX5_distance2 7 = .ok (.ifCond .eq 7, 3) := by decide +kernel
theorem dX5_distance2_10 : decode cX5_distance2 10 = .ok (.iconst 0, 1) := by decide +kernel
theorem dX5_distance2_11 : decode cX5_distance2 11 = .ok (.goto 4, 3) := by decide +kernel
theorem dX5_distance2_14 : decode cX5_distance2 14 = .ok (.iconst 1, 1) := by decide +kernel
theorem dX5_distance2_15 : decode cX5_distance2 15 = .ok (.putfield 51, 3) := by decide +kernel
theorem dX5_distance2_18 : decode cX5_distance2 18 = .ok (.aload_n 0, 1) := by decide +kernel
theorem dX5_distance2_19 : decode cX5_distance2 19 = .ok (.getfield 51, 3) := by decide +kernel
theorem dX5_distance2_22 : decode cX5_distance2 22 = .ok (.ifCond .le 7, 3) := by decide +kernel
theorem dX5_distance2_25 : decode cX5_distance2 25 = .ok (.lconst 0, 1) := by decide +kernel
theorem dX5_distance2_26 : decode cX5_distance2 26 = .ok (.goto 13, 3) := by decide +kernel
theorem dX5_distance2_29 : decode cX5_distance2 29 = .ok (.aload_n 0, 1) := by decide +kernel
theorem dX5_distance2_30 : decode cX5_distance2 30 = .ok (.aload_n 0, 1) := by decide +kernel
theorem dX5_distance2_31 : decode cX5_distance2 31 = .ok (.iload_n 1, 1) := by decide +kernel
theorem dX5_distance2_32 : decode cX5_distance2 32 = .ok (.iload_n 2, 1) := by decide +kernel
theorem dX5_distance2_33 : decode cX5_distance2 33 = .ok (.invokevirtual 137, 3) := by decide +kernel
theorem dX5_distance2_36 : decode cX5_distance2 36 = .ok (.invokevirtual 162, 3) := by decide +kernel
theorem dX5_distance2_39 : decode cX5_distance2 39 = .ok (.lreturn, 1) := by decide +kernel
theorem dX5_draw_0 : decode cX5_draw 0 = .ok (.aload_n 0, 1) := by decide +kernel
theorem dX5_draw_1 : decode cX5_draw 1 = .ok (.aload_n 0, 1) := by decide +kernel
theorem dX5_draw_2 : decode cX5_draw 2 = .ok (.getfield 84, 3) := by decide +kernel
theorem dX5_draw_5 : decode cX5_draw 5 = .ok (.ifCond .eq 7, 3) := by decide +kernel
theorem dX5_draw_8 : decode cX5_draw 8 = .ok (.iconst 0, 1) := by decide +kernel
theorem dX5_draw_9 : decode cX5_draw 9 = .ok (.goto 4, 3) := by decide +kernel
theorem dX5_draw_12 : decode cX5_draw 12 = .ok (.iconst 1, 1) := by decide +kernel
theorem dX5_draw_13 : decode cX5_draw 13 = .ok (.putfield 51, 3) := by decide +kernel
theorem dX5_draw_16 : decode cX5_draw 16 = .ok (.aload_n 0, 1) := by decide +kernel
theorem dX5_draw_17 : decode cX5_draw 17 = .ok (.getfield 51, 3) := by decide +kernel
theorem dX5_draw_20 : decode cX5_draw 20 = .ok (.ifCond .le 5, 3) := by decide +kernel
theorem dX5_draw_23 : decode cX5_draw 23 = .ok (.iconst 0, 1) := by decide +kernel
theorem dX5_draw_24 : decode cX5_draw 24 = .ok (.ireturn, 1) := by decide +kernel
theorem dX5_draw_25 : decode cX5_draw 25 = .ok (.iconst 0, 1) := by decide +kernel
theorem dX5_draw_26 : decode cX5_draw 26 = .ok (.istore_n 1, 1) := by decide +kernel
theorem dX5_draw_27 : decode cX5_draw 27 = .ok (.iload_n 1, 1) := by decide +kernel
theorem dX5_draw_28 : decode cX5_draw 28 = .ok (.aload_n 0, 1) := by decide +kernel
theorem dX5_draw_29 : decode cX5_draw 29 = .ok (.invokevirtual 74, 3) := by decide +kernel
theorem dX5_draw_32 : decode cX5_draw 32 = .ok (.if_icmp .ge 21, 3) := by decide +kernel
theorem dX5_draw_35 : decode cX5_draw 35 = .ok (.aload_n 0, 1) := by decide +kernel
theorem dX5_draw_36 : decode cX5_draw 36 = .ok (.getfield 16, 3) := by decide +kernel
theorem dX5_draw_39 : decode cX5_draw 39 = .ok (.iload_n 1, 1) := by decide +kernel
theorem dX5_draw_40 : decode cX5_draw 40 = .ok (.aload_n 0, 1) := by decide +kernel
theorem dX5_draw_41 : decode cX5_draw 41 = .ok (.getfield 7, 3) := by decide +kernel
theorem dX5_draw_44 : decode cX5_draw 44 = .ok (.iload_n 1, 1) := by decide +kernel
theorem dX5_draw_45 : decode cX5_draw 45 = .ok (.baload, 1) := by decide +kernel
theorem dX5_draw_46 : decode cX5_draw 46 = .ok (.bastore, 1) := by decide +kernel
theorem dX5_draw_47 : decode cX5_draw 47 = .ok (.iinc 1 1, 3) := by decide +kernel
theorem dX5_draw_50 : decode cX5_draw 50 = .ok (.goto (-23), 3) := by decide +kernel
theorem dX5_draw_53 : decode cX5_draw 53 = .ok (.iconst 0, 1) := by decide +kernel
theorem dX5_draw_54 : decode cX5_draw 54 = .ok (.istore_n 1, 1) := by decide +kernel
theorem dX5_draw_55 : decode cX5_draw 55 = .ok (.iload_n 1, 1) := by decide +kernel
theorem dX5_draw_56 : decode cX5_draw 56 = .ok (.aload_n 0, 1) := by decide +kernel
theorem dX5_draw_57 : decode cX5_draw 57 = .ok (.invokevirtual 74, 3) := by decide +kernel
theorem dX5_draw_60 : decode cX5_draw 60 = .ok (.if_icmp .ge 76, 3) := by decide +kernel
theorem dX5_draw_63 : decode cX5_draw 63 = .ok (.aload_n 0, 1) := by decide +kernel
theorem dX5_draw_64 : decode cX5_draw 64 = .ok (.getfield 13, 3) := by decide +kernel
theorem dX5_draw_67 : decode cX5_draw 67 = .ok (.iload_n 1, 1) := by decide +kernel
theorem dX5_draw_68 : decode cX5_draw 68 = .ok (.baload, 1) := by decide +kernel
theorem dX5_draw_69 : decode cX5_draw 69 = .ok (.ifCond .eq 61, 3) := by decide +kernel
theorem dX5_draw_72 : decode cX5_draw 72 = .ok (.aload_n 0, 1) := by decide +kernel
theorem dX5_draw_73 : decode cX5_draw 73 = .ok (.iload_n 1, 1) := by decide +kernel
theorem dX5_draw_74 : decode cX5_draw 74 = .ok (.invokevirtual 162, 3) := by decide +kernel
theorem dX5_draw_77 : decode cX5_draw 77 = .ok (.lstore_n 2, 1) := by decide +kernel
theorem dX5_draw_78 : decode cX5_draw 78 = .ok (.iconst 0, 1) := by decide +kernel
theorem dX5_draw_79 : decode cX5_draw 79 = .ok (.istore 4, 2) := by decide +kernel
theorem dX5_draw_81 : decode cX5_draw 81 = .ok (.iload 4, 2) := by decide +kernel
theorem dX5_draw_83 : decode cX5_draw 83 = .ok (.aload_n 0, 1) := by decide +kernel
theorem dX5_draw_84 : decode cX5_draw 84 = .ok (.invokevirtual 74, 3) := by decide +kernel
theorem dX5_draw_87 : decode cX5_draw 87 = .ok (.if_icmp .ge 43, 3) := by decide +kernel
theorem dX5_draw_90 : decode cX5_draw 90 = .ok (.aload_n 0, 1) := by decide +kernel
theorem dX5_draw_91 : decode cX5_draw 91 = .ok (.getfield 16, 3) := by decide +kernel
theorem dX5_draw_94 : decode cX5_draw 94 = .ok (.iload 4, 2) := by decide +kernel
theorem dX5_draw_96 : decode cX5_draw 96 = .ok (.aload_n 0, 1) := by decide +kernel
theorem dX5_draw_97 : decode cX5_draw 97 = .ok (.getfield 16, 3) := by decide +kernel
theorem dX5_draw_100 : decode cX5_draw 100 = .ok (.iload 4, 2) := by decide +kernel
theorem dX5_draw_102 : decode cX5_draw 102 = .ok (.baload, 1) := by decide +kernel
theorem dX5_draw_103 : decode cX5_draw 103 = .ok (.ifCond .eq 19, 3) := by decide +kernel
theorem dX5_draw_106 : decode cX5_draw 106 = .ok (.aload_n 0, 1) := by decide +kernel
theorem dX5_draw_107 : decode cX5_draw 107 = .ok (.iload_n 1, 1) := by decide +kernel
theorem dX5_draw_108 : decode cX5_draw 108 = .ok (.iload 4, 2) := by decide +kernel
theorem dX5_draw_110 : decode cX5_draw 110 = .ok (.invokevirtual 158, 3) := by decide +kernel
theorem dX5_draw_113 : decode cX5_draw 113 = .ok (.lload_n 2, 1) := by decide +kernel
theorem dX5_draw_114 : decode cX5_draw 114 = .ok (.lcmp, 1) := by decide +kernel
theorem dX5_draw_115 : decode cX5_draw 115 = .ok (.ifCond .lt 7, 3) := by decide +kernel
theorem dX5_draw_118 : decode cX5_draw 118 = .ok (.iconst 1, 1) := by decide +kernel
theorem dX5_draw_119 : decode cX5_draw 119 = .ok (.goto 4, 3) := by decide +kernel
theorem dX5_draw_122 : decode cX5_draw 122 = .ok (.iconst 0, 1) := by decide +kernel
theorem dX5_draw_123 : decode cX5_draw 123 = .ok (.bastore, 1) := by decide +kernel
theorem dX5_draw_124 : decode cX5_draw 124 = .ok (.iinc 4 1, 3) := by decide +kernel
theorem dX5_draw_127 : decode cX5_draw 127 = .ok (.goto (-46), 3) := by decide +kernel
theorem dX5_draw_130 : decode cX5_draw 130 = .ok (.iinc 1 1, 3) := by decide +kernel
theorem dX5_draw_133 : decode cX5_draw 133 = .ok (.goto (-78), 3) := by decide +kernel
theorem dX5_draw_136 : decode cX5_draw 136 = .ok (.iconst 0, 1) := by decide +kernel
theorem dX5_draw_137 : decode cX5_draw 137 = .ok (.istore_n 1, 1) := by decide +kernel
theorem dX5_draw_138 : decode cX5_draw 138 = .ok (.iconst 0, 1) := by decide +kernel
theorem dX5_draw_139 : decode cX5_draw 139 = .ok (.istore_n 2, 1) := by decide +kernel
theorem dX5_draw_140 : decode cX5_draw 140 = .ok (.iload_n 2, 1) := by decide +kernel
theorem dX5_draw_141 : decode cX5_draw 141 = .ok (.aload_n 0, 1) := by decide +kernel
theorem dX5_draw_142 : decode cX5_draw 142 = .ok (.invokevirtual 74, 3) := by decide +kernel
theorem dX5_draw_145 : decode cX5_draw 145 = .ok (.if_icmp .ge 26, 3) := by decide +kernel
theorem dX5_draw_148 : decode cX5_draw 148 = .ok (.iload_n 1, 1) := by decide +kernel
theorem dX5_draw_149 : decode cX5_draw 149 = .ok (.aload_n 0, 1) := by decide +kernel
theorem dX5_draw_150 : decode cX5_draw 150 = .ok (.getfield 16, 3) := by decide +kernel
theorem dX5_draw_153 : decode cX5_draw 153 = .ok (.iload_n 2, 1) := by decide +kernel
theorem dX5_draw_154 : decode cX5_draw 154 = .ok (.baload, 1) := by decide +kernel
theorem dX5_draw_155 : decode cX5_draw 155 = .ok (.ifCond .eq 7, 3) := by decide +kernel
theorem dX5_draw_158 : decode cX5_draw 158 = .ok (.iconst 1, 1) := by decide +kernel
theorem dX5_draw_159 : decode cX5_draw 159 = .ok (.goto 4, 3) := by decide +kernel
theorem dX5_draw_162 : decode cX5_draw 162 = .ok (.iconst 0, 1) := by decide +kernel
theorem dX5_draw_163 : decode cX5_draw 163 = .ok (.iadd, 1) := by decide +kernel
theorem dX5_draw_164 : decode cX5_draw 164 = .ok (.istore_n 1, 1) := by decide +kernel
theorem dX5_draw_165 : decode cX5_draw 165 = .ok (.iinc 2 1, 3) := by decide +kernel
theorem dX5_draw_168 : decode cX5_draw 168 = .ok (.goto (-28), 3) := by decide +kernel
theorem dX5_draw_171 : decode cX5_draw 171 = .ok (.iload_n 1, 1) := by decide +kernel
theorem dX5_draw_172 : decode cX5_draw 172 = .ok (.ireturn, 1) := by decide +kernel
theorem dX5_groups_0 : decode cX5_groups 0 = .ok (.iconst 0, 1) := by decide +kernel
theorem dX5_groups_1 : decode cX5_groups 1 = .ok (.istore_n 2, 1) := by decide +kernel
theorem dX5_groups_2 : decode cX5_groups 2 = .ok (.iload_n 2, 1) := by decide +kernel
theorem dX5_groups_3 : decode cX5_groups 3 = .ok (.aload_n 0, 1) := by decide +kernel
theorem dX5_groups_4 : decode cX5_groups 4 = .ok (.invokevirtual 74, 3) := by decide +kernel
theorem dX5_groups_7 : decode cX5_groups 7 = .ok (.if_icmp .ge 32, 3) := by decide +kernel
theorem dX5_groups_10 : decode cX5_groups 10 = .ok (.aload_n 0, 1) := by decide +kernel
theorem dX5_groups_11 : decode cX5_groups 11 = .ok (.getfield 19, 3) := by decide +kernel
theorem dX5_groups_14 : decode cX5_groups 14 = .ok (.iload_n 2, 1) := by decide +kernel
theorem dX5_groups_15 : decode cX5_groups 15 = .ok (.aload_n 0, 1) := by decide +kernel
theorem dX5_groups_16 : decode cX5_groups 16 = .ok (.getfield 13, 3) := by decide +kernel
theorem dX5_groups_19 : decode cX5_groups 19 = .ok (.iload_n 2, 1) := by decide +kernel
theorem dX5_groups_20 : decode cX5_groups 20 = .ok (.baload, 1) := by decide +kernel
theorem dX5_groups_21 : decode cX5_groups 21 = .ok (.iload_n 1, 1) := by decide +kernel
theorem dX5_groups_22 : decode cX5_groups 22 = .ok (.if_icmp .ne 7, 3) := by decide +kernel
theorem dX5_groups_25 : decode cX5_groups 25 = .ok (.iload_n 2, 1) := by decide +kernel
theorem dX5_groups_26 : decode cX5_groups 26 = .ok (.goto 6, 3) := by decide +kernel
theorem dX5_groups_29 : decode cX5_groups 29 = .ok (.sipush 676, 3) := by decide +kernel
theorem dX5_groups_32 : decode cX5_groups 32 = .ok (.iastore, 1) := by decide +kernel
theorem dX5_groups_33 : decode cX5_groups 33 = .ok (.iinc 2 1, 3) := by decide +kernel
theorem dX5_groups_36 : decode cX5_groups 36 = .ok (.goto (-34), 3) := by decide +kernel
theorem dX5_groups_39 : decode cX5_groups 39 = .ok (.iconst 1, 1) := by decide +kernel
theorem dX5_groups_40 : decode cX5_groups 40 = .ok (.istore_n 2, 1) := by decide +kernel
theorem dX5_groups_41 : decode cX5_groups 41 = .ok (.iload_n 2, 1) := by decide +kernel
theorem dX5_groups_42 : decode cX5_groups 42 = .ok (.ifCond .eq 180, 3) := by decide +kernel
theorem dX5_groups_45 : decode cX5_groups 45 = .ok (.iconst 0, 1) := by decide +kernel
theorem dX5_groups_46 : decode cX5_groups 46 = .ok (.istore_n 2, 1) := by decide +kernel
theorem dX5_groups_47 : decode cX5_groups 47 = .ok (.iconst 0, 1) := by decide +kernel
theorem dX5_groups_48 : decode cX5_groups 48 = .ok (.istore_n 3, 1) := by decide +kernel
theorem dX5_groups_49 : decode cX5_groups 49 = .ok (.iload_n 3, 1) := by decide +kernel
theorem dX5_groups_50 : decode cX5_groups 50 = .ok (.aload_n 0, 1) := by decide +kernel
theorem dX5_groups_51 : decode cX5_groups 51 = .ok (.invokevirtual 74, 3) := by decide +kernel
theorem dX5_groups_54 : decode cX5_groups 54 = .ok (.if_icmp .ge 165, 3) := by decide +kernel
theorem dX5_groups_57 : decode cX5_groups 57 = .ok (.aload_n 0, 1) := by decide +kernel
theorem dX5_groups_58 : decode cX5_groups 58 = .ok (.getfield 19, 3) := by decide +kernel
theorem dX5_groups_61 : decode cX5_groups 61 = .ok (.iload_n 3, 1) := by decide +kernel
theorem dX5_groups_62 : decode cX5_groups 62 = .ok (.iaload, 1) := by decide +kernel
theorem dX5_groups_63 : decode cX5_groups 63 = .ok (.istore 4, 2) := by decide +kernel
theorem dX5_groups_65 : decode cX5_groups 65 = .ok (.iconst 0, 1) := by decide +kernel
theorem dX5_groups_66 : decode cX5_groups 66 = .ok (.istore 5, 2) := by decide +kernel
theorem dX5_groups_68 : decode cX5_groups 68 = .ok (.iload 5, 2) := by decide +kernel
theorem dX5_groups_70 : decode cX5_groups 70 = .ok (.bipush 8, 2) := by decide +kernel
theorem dX5_groups_72 : decode cX5_groups 72 = .ok (.if_icmp .ge 112, 3) := by decide +kernel
theorem dX5_groups_75 : decode cX5_groups 75 = .ok (.iload 4, 2) := by decide +kernel
theorem dX5_groups_77 : decode cX5_groups 77 = .ok (.sipush 676, 3) := by decide +kernel
theorem dX5_groups_80 : decode cX5_groups 80 = .ok (.if_icmp .ge 104, 3) := by decide +kernel
theorem dX5_groups_83 : decode cX5_groups 83 = .ok (.aload_n 0, 1) := by decide +kernel
theorem dX5_groups_84 : decode cX5_groups 84 = .ok (.iload_n 3, 1) := by decide +kernel
theorem dX5_groups_85 : decode cX5_groups 85 = .ok (.iload 5, 2) := by decide +kernel
theorem dX5_groups_87 : decode cX5_groups 87 = .ok (.invokevirtual 58, 3) := by decide +kernel
theorem dX5_groups_90 : decode cX5_groups 90 = .ok (.istore 6, 2) := by decide +kernel
theorem dX5_groups_92 : decode cX5_groups 92 = .ok (.iload 6, 2) := by decide +kernel
theorem dX5_groups_94 : decode cX5_groups 94 = .ok (.iconst 0, 1) := by decide +kernel
theorem dX5_groups_95 : decode cX5_groups 95 = .ok (.aload_n 0, 1) := by decide +kernel
theorem dX5_groups_96 : decode cX5_groups 96 = .ok (.invokevirtual 74, 3) := by decide +kernel
theorem dX5_groups_99 : decode cX5_groups 99 = .ok (.iconst 1, 1) := by decide +kernel
theorem dX5_groups_100 : decode cX5_groups 100 = .ok (.isub, 1) := by decide +kernel
theorem dX5_groups_101 : decode cX5_groups 101 = .ok (.invokestatic 54, 3) := by decide +kernel
theorem dX5_groups_104 : decode cX5_groups 104 = .ok (.ifCond .eq 29, 3) := by decide +kernel
theorem dX5_groups_107 : decode cX5_groups 107 = .ok (.iload 6, 2) := by decide +kernel
theorem dX5_groups_109 : decode cX5_groups 109 = .ok (.aload_n 0, 1) := by decide +kernel
theorem dX5_groups_110 : decode cX5_groups 110 = .ok (.getfield 48, 3) := by decide +kernel
theorem dX5_groups_113 : decode cX5_groups 113 = .ok (.irem, 1) := by decide +kernel
theorem dX5_groups_114 : decode cX5_groups 114 = .ok (.iload_n 3, 1) := by decide +kernel
theorem dX5_groups_115 : decode cX5_groups 115 = .ok (.aload_n 0, 1) := by decide +kernel
theorem dX5_groups_116 : decode cX5_groups 116 = .ok (.getfield 48, 3) := by decide +kernel
theorem dX5_groups_119 : decode cX5_groups 119 = .ok (.irem, 1) := by decide +kernel
theorem dX5_groups_120 : decode cX5_groups 120 = .ok (.isub, 1) := by decide +kernel
theorem dX5_groups_121 : decode cX5_groups 121 = .ok (.iconst (-1), 1) := by decide +kernel
theorem dX5_groups_122 : decode cX5_groups 122 = .ok (.iconst 1, 1) := by decide +kernel
theorem dX5_groups_123 : decode cX5_groups 123 = .ok (.invokestatic 54, 3) := by decide +kernel
theorem dX5_groups_126 : decode cX5_groups 126 = .ok (.ifCond .eq 7, 3) := by decide +kernel
theorem dX5_groups_129 : decode cX5_groups 129 = .ok (.iconst 1, 1) := by decide +kernel
theorem dX5_groups_130 : decode cX5_groups 130 = .ok (.goto 4, 3) := by decide +kernel
theorem dX5_groups_133 : decode cX5_groups 133 = .ok (.iconst 0, 1) := by decide +kernel
theorem dX5_groups_134 : decode cX5_groups 134 = .ok (.istore 7, 2) := by decide +kernel
theorem dX5_groups_136 : decode cX5_groups 136 = .ok (.iload 7, 2) := by decide +kernel
theorem dX5_groups_138 : decode cX5_groups 138 = .ok (.ifCond .eq 25, 3) := by decide +kernel
theorem dX5_groups_141 : decode cX5_groups 141 = .ok (.aload_n 0, 1) := by decide +kernel
theorem dX5_groups_142 : decode cX5_groups 142 = .ok (.getfield 19, 3) := by decide +kernel
theorem dX5_groups_145 : decode cX5_groups 145 = .ok (.iload 6, 2) := by decide +kernel
theorem dX5_groups_147 : decode cX5_groups 147 = .ok (.iaload, 1) := by decide +kernel
theorem dX5_groups_148 : decode cX5_groups 148 = .ok (.iload 4, 2) := by decide +kernel
theorem dX5_groups_150 : decode cX5_groups 150 = .ok (.if_icmp .ge 13, 3) := by decide +kernel
theorem dX5_groups_153 : decode cX5_groups 153 = .ok (.aload_n 0, 1) := by decide +kernel
theorem dX5_groups_154 : decode cX5_groups 154 = .ok (.getfield 19, 3) := by decide +kernel
theorem dX5_groups_157 : decode cX5_groups 157 = .ok (.iload 6, 2) := by decide +kernel
theorem dX5_groups_159 : decode cX5_groups 159 = .ok (.iaload, 1) := by decide +kernel
theorem dX5_groups_160 : decode cX5_groups 160 = .ok (.goto 5, 3) := by decide +kernel
theorem dX5_groups_163 : decode cX5_groups 163 = .ok (.iload 4, 2) := by decide +kernel
theorem dX5_groups_165 : decode cX5_groups 165 = .ok (.istore 4, 2) := by decide +kernel
theorem dX5_groups_167 : decode cX5_groups 167 = .ok (.iload 5, 2) := by decide +kernel
theorem dX5_groups_169 : decode cX5_groups 169 = .ok (.iload_n 1, 1) := by decide +kernel
theorem dX5_groups_170 : decode cX5_groups 170 = .ok (.ifCond .eq 7, 3) := by decide +kernel
theorem dX5_groups_173 : decode cX5_groups 173 = .ok (.iconst 1, 1) := by decide +kernel
theorem dX5_groups_174 : decode cX5_groups 174 = .ok (.goto 4, 3) := by decide +kernel
theorem dX5_groups_177 : decode cX5_groups 177 = .ok (.iconst 2, 1) := by decide +kernel
theorem dX5_groups_178 : decode cX5_groups 178 = .ok (.iadd, 1) := by decide +kernel
theorem dX5_groups_179 : decode cX5_groups 179 = .ok (.istore 5, 2) := by decide +kernel
theorem dX5_groups_181 : decode cX5_groups 181 = .ok (.goto (-113), 3) := by decide +kernel
theorem dX5_groups_184 : decode cX5_groups 184 = .ok (.iload_n 2, 1) := by decide +kernel
theorem dX5_groups_185 : decode cX5_groups 185 = .ok (.ifCond .ne 14, 3) := by decide +kernel
theorem dX5_groups_188 : decode cX5_groups 188 = .ok (.iload 4, 2) := by decide +kernel
theorem dX5_groups_190 : decode cX5_groups 190 = .ok (.aload_n 0, 1) := by decide +kernel
theorem dX5_groups_191 : decode cX5_groups 191 = .ok (.getfield 19, 3) := by decide +kernel
theorem dX5_groups_194 : decode cX5_groups 194 = .ok (.iload_n 3, 1) := by decide +kernel
theorem dX5_groups_195 : decode cX5_groups 195 = .ok (.iaload, 1) := by decide +kernel
theorem dX5_groups_196 : decode cX5_groups 196 = .ok (.if_icmp .ge 7, 3) := by decide +kernel
theorem dX5_groups_199 : decode cX5_groups 199 = .ok (.iconst 1, 1) := by decide +kernel
theorem dX5_groups_200 : decode cX5_groups 200 = .ok (.goto 4, 3) := by decide +kernel
theorem dX5_groups_203 : decode cX5_groups 203 = .ok (.iconst 0, 1) := by decide +kernel
theorem dX5_groups_204 : decode cX5_groups 204 = .ok (.istore_n 2, 1) := by decide +kernel
theorem dX5_groups_205 : decode cX5_groups 205 = .ok (.aload_n 0, 1) := by decide +kernel
theorem dX5_groups_206 : decode cX5_groups 206 = .ok (.getfield 19, 3) := by decide +kernel
theorem dX5_groups_209 : decode cX5_groups 209 = .ok (.iload_n 3, 1) := by decide +kernel
theorem dX5_groups_210 : decode cX5_groups 210 = .ok (.iload 4, 2) := by decide +kernel
theorem dX5_groups_212 : decode cX5_groups 212 = .ok (.iastore, 1) := by decide +kernel
theorem dX5_groups_213 : decode cX5_groups 213 = .ok (.iinc 3 1, 3) := by decide +kernel
theorem dX5_groups_216 : decode cX5_groups 216 = .ok (.goto (-167), 3) := by decide +kernel
theorem dX5_groups_219 : decode cX5_groups 219 = .ok (.goto (-178), 3) := by decide +kernel
theorem dX5_groups_222 : decode cX5_groups 222 = .ok (.iconst 0, 1) := by decide +kernel
theorem dX5_groups_223 : decode cX5_groups 223 = .ok (.istore_n 3, 1) := by decide +kernel
theorem dX5_groups_224 : decode cX5_groups 224 = .ok (.iconst 0, 1) := by decide +kernel
theorem dX5_groups_225 : decode cX5_groups 225 = .ok (.istore 4, 2) := by decide +kernel
theorem dX5_groups_227 : decode cX5_groups 227 = .ok (.iload 4, 2) := by decide +kernel
theorem dX5_groups_229 : decode cX5_groups 229 = .ok (.aload_n 0, 1) := by decide +kernel
theorem dX5_groups_230 : decode cX5_groups 230 = .ok (.invokevirtual 74, 3) := by decide +kernel
theorem dX5_groups_233 : decode cX5_groups 233 = .ok (.if_icmp .ge 29, 3) := by decide +kernel
theorem dX5_groups_236 : decode cX5_groups 236 = .ok (.iload_n 3, 1) := by decide +kernel
theorem dX5_groups_237 : decode cX5_groups 237 = .ok (.aload_n 0, 1) := by decide +kernel
theorem dX5_groups_238 : decode cX5_groups 238 = .ok (.getfield 19, 3) := by decide +kernel
theorem dX5_groups_241 : decode cX5_groups 241 = .ok (.iload 4, 2) := by decide +kernel
theorem dX5_groups_243 : decode cX5_groups 243 = .ok (.iaload, 1) := by decide +kernel
theorem dX5_groups_244 : decode cX5_groups 244 = .ok (.iload 4, 2) := by decide +kernel
theorem dX5_groups_246 : decode cX5_groups 246 = .ok (.if_icmp .ne 7, 3) := by decide +kernel
theorem dX5_groups_249 : decode cX5_groups 249 = .ok (.iconst 1, 1) := by decide +kernel
theorem dX5_groups_250 : decode cX5_groups 250 = .ok (.goto 4, 3) := by decide +kernel
theorem dX5_groups_253 : decode cX5_groups 253 = .ok (.iconst 0, 1) := by decide +kernel
theorem dX5_groups_254 : decode cX5_groups 254 = .ok (.iadd, 1) := by decide +kernel
theorem dX5_groups_255 : decode cX5_groups 255 = .ok (.istore_n 3, 1) := by decide +kernel
theorem dX5_groups_256 : decode cX5_groups 256 = .ok (.iinc 4 1, 3) := by decide +kernel
theorem dX5_groups_259 : decode cX5_groups 259 = .ok (.goto (-32), 3) := by decide +kernel
theorem dX5_groups_262 : decode cX5_groups 262 = .ok (.iload_n 3, 1) := by decide +kernel
theorem dX5_groups_263 : decode cX5_groups 263 = .ok (.ireturn, 1) := by decide +kernel
theorem dX5_parts_0 : decode cX5_parts 0 = .ok (.aload_n 0, 1) := by decide +kernel
theorem dX5_parts_1 : decode cX5_parts 1 = .ok (.iconst 0, 1) := by decide +kernel
theorem dX5_parts_2 : decode cX5_parts 2 = .ok (.putfield 51, 3) := by decide +kernel
theorem dX5_parts_5 : decode cX5_parts 5 = .ok (.aload_n 0, 1) := by decide +kernel
theorem dX5_parts_6 : decode cX5_parts 6 = .ok (.iconst 1, 1) := by decide +kernel
theorem dX5_parts_7 : decode cX5_parts 7 = .ok (.invokevirtual 166, 3) := by decide +kernel
theorem dX5_parts_10 : decode cX5_parts 10 = .ok (.ireturn, 1) := by decide +kernel
theorem dX5_holes_0 : decode cX5_holes 0 = .ok (.aload_n 0, 1) := by decide +kernel
theorem dX5_holes_1 : decode cX5_holes 1 = .ok (.iconst 0, 1) := by decide +kernel
theorem dX5_holes_2 : decode cX5_holes 2 = .ok (.putfield 51, 3) := by decide +kernel
theorem dX5_holes_5 : decode cX5_holes 5 = .ok (.aload_n 0, 1) := by decide +kernel
theorem dX5_holes_6 : decode cX5_holes 6 = .ok (.iconst 0, 1) := by decide +kernel
theorem dX5_holes_7 : decode cX5_holes 7 = .ok (.invokevirtual 166, 3) := by decide +kernel
theorem dX5_holes_10 : decode cX5_holes 10 = .ok (.iconst 1, 1) := by decide +kernel
theorem dX5_holes_11 : decode cX5_holes 11 = .ok (.isub, 1) := by decide +kernel
theorem dX5_holes_12 : decode cX5_holes 12 = .ok (.ireturn, 1) := by decide +kernel
theorem dX5_told_0 : decode cX5_told 0 = .ok (.aload_n 0, 1) := by decide +kernel
theorem dX5_told_1 : decode cX5_told 1 = .ok (.iconst 0, 1) := by decide +kernel
theorem dX5_told_2 : decode cX5_told 2 = .ok (.putfield 51, 3) := by decide +kernel
theorem dX5_told_5 : decode cX5_told 5 = .ok (.iconst 0, 1) := by decide +kernel
theorem dX5_told_6 : decode cX5_told 6 = .ok (.istore_n 2, 1) := by decide +kernel
theorem dX5_told_7 : decode cX5_told 7 = .ok (.iconst 0, 1) := by decide +kernel
theorem dX5_told_8 : decode cX5_told 8 = .ok (.istore_n 3, 1) := by decide +kernel
theorem dX5_told_9 : decode cX5_told 9 = .ok (.iconst 0, 1) := by decide +kernel
theorem dX5_told_10 : decode cX5_told 10 = .ok (.istore 4, 2) := by decide +kernel
theorem dX5_told_12 : decode cX5_told 12 = .ok (.iload 4, 2) := by decide +kernel
theorem dX5_told_14 : decode cX5_told 14 = .ok (.aload_n 0, 1) := by decide +kernel
theorem dX5_told_15 : decode cX5_told 15 = .ok (.invokevirtual 74, 3) := by decide +kernel
theorem dX5_told_18 : decode cX5_told 18 = .ok (.if_icmp .ge 45, 3) := by decide +kernel
theorem dX5_told_21 : decode cX5_told 21 = .ok (.iload_n 2, 1) := by decide +kernel
theorem dX5_told_22 : decode cX5_told 22 = .ok (.aload_n 0, 1) := by decide +kernel
theorem dX5_told_23 : decode cX5_told 23 = .ok (.getfield 7, 3) := by decide +kernel
theorem dX5_told_26 : decode cX5_told 26 = .ok (.iload 4, 2) := by decide +kernel
theorem dX5_told_28 : decode cX5_told 28 = .ok (.baload, 1) := by decide +kernel
theorem dX5_told_29 : decode cX5_told 29 = .ok (.ifCond .eq 7, 3) := by decide +kernel
theorem dX5_told_32 : decode cX5_told 32 = .ok (.iconst 1, 1) := by decide +kernel
theorem dX5_told_33 : decode cX5_told 33 = .ok (.goto 4, 3) := by decide +kernel
theorem dX5_told_36 : decode cX5_told 36 = .ok (.iconst 0, 1) := by decide +kernel
theorem dX5_told_37 : decode cX5_told 37 = .ok (.iadd, 1) := by decide +kernel
theorem dX5_told_38 : decode cX5_told 38 = .ok (.istore_n 2, 1) := by decide +kernel
theorem dX5_told_39 : decode cX5_told 39 = .ok (.iload_n 3, 1) := by decide +kernel
theorem dX5_told_40 : decode cX5_told 40 = .ok (.aload_n 0, 1) := by decide +kernel
theorem dX5_told_41 : decode cX5_told 41 = .ok (.getfield 13, 3) := by decide +kernel
theorem dX5_told_44 : decode cX5_told 44 = .ok (.iload 4, 2) := by decide +kernel
theorem dX5_told_46 : decode cX5_told 46 = .ok (.baload, 1) := by decide +kernel
theorem dX5_told_47 : decode cX5_told 47 = .ok (.ifCond .eq 7, 3) := by decide +kernel
theorem dX5_told_50 : decode cX5_told 50 = .ok (.iconst 1, 1) := by decide +kernel
theorem dX5_told_51 : decode cX5_told 51 = .ok (.goto 4, 3) := by decide +kernel
theorem dX5_told_54 : decode cX5_told 54 = .ok (.iconst 0, 1) := by decide +kernel
theorem dX5_told_55 : decode cX5_told 55 = .ok (.iadd, 1) := by decide +kernel
theorem dX5_told_56 : decode cX5_told 56 = .ok (.istore_n 3, 1) := by decide +kernel
theorem dX5_told_57 : decode cX5_told 57 = .ok (.iinc 4 1, 3) := by decide +kernel
theorem dX5_told_60 : decode cX5_told 60 = .ok (.goto (-48), 3) := by decide +kernel
theorem dX5_told_63 : decode cX5_told 63 = .ok (.iload_n 1, 1) := by decide +kernel
theorem dX5_told_64 : decode cX5_told 64 = .ok (.tableswitch 63 0 4 #[36, 41, 46, 48, 50], 36) := by decide +kernel
theorem dX5_told_100 : decode cX5_told 100 = .ok (.aload_n 0, 1) := by decide +kernel
theorem dX5_told_101 : decode cX5_told 101 = .ok (.getfield 41, 3) := by decide +kernel
theorem dX5_told_104 : decode cX5_told 104 = .ok (.ireturn, 1) := by decide +kernel
theorem dX5_told_105 : decode cX5_told 105 = .ok (.aload_n 0, 1) := by decide +kernel
theorem dX5_told_106 : decode cX5_told 106 = .ok (.getfield 45, 3) := by decide +kernel
theorem dX5_told_109 : decode cX5_told 109 = .ok (.ireturn, 1) := by decide +kernel
theorem dX5_told_110 : decode cX5_told 110 = .ok (.iload_n 2, 1) := by decide +kernel
theorem dX5_told_111 : decode cX5_told 111 = .ok (.ireturn, 1) := by decide +kernel
theorem dX5_told_112 : decode cX5_told 112 = .ok (.iload_n 3, 1) := by decide +kernel
theorem dX5_told_113 : decode cX5_told 113 = .ok (.ireturn, 1) := by decide +kernel
theorem dX5_told_114 : decode cX5_told 114 = .ok (.aload_n 0, 1) := by decide +kernel
theorem dX5_told_115 : decode cX5_told 115 = .ok (.getfield 84, 3) := by decide +kernel
theorem dX5_told_118 : decode cX5_told 118 = .ok (.ifCond .eq 7, 3) := by decide +kernel
theorem dX5_told_121 : decode cX5_told 121 = .ok (.iconst 1, 1) := by decide +kernel
theorem dX5_told_122 : decode cX5_told 122 = .ok (.goto 4, 3) := by decide +kernel
theorem dX5_told_125 : decode cX5_told 125 = .ok (.iconst 0, 1) := by decide +kernel
theorem dX5_told_126 : decode cX5_told 126 = .ok (.ireturn, 1) := by decide +kernel
theorem dX5_told_127 : decode cX5_told 127 = .ok (.iconst (-1), 1) := by decide +kernel
theorem dX5_told_128 : decode cX5_told 128 = .ok (.ireturn, 1) := by decide +kernel
theorem dX5_clear_0 : decode cX5_clear 0 = .ok (.aload_n 0, 1) := by decide +kernel
theorem dX5_clear_1 : decode cX5_clear 1 = .ok (.iconst 0, 1) := by decide +kernel
theorem dX5_clear_2 : decode cX5_clear 2 = .ok (.putfield 51, 3) := by decide +kernel
theorem dX5_clear_5 : decode cX5_clear 5 = .ok (.iconst 0, 1) := by decide +kernel
theorem dX5_clear_6 : decode cX5_clear 6 = .ok (.istore_n 1, 1) := by decide +kernel
theorem dX5_clear_7 : decode cX5_clear 7 = .ok (.iload_n 1, 1) := by decide +kernel
theorem dX5_clear_8 : decode cX5_clear 8 = .ok (.sipush 676, 3) := by decide +kernel
theorem dX5_clear_11 : decode cX5_clear 11 = .ok (.if_icmp .ge 23, 3) := by decide +kernel
theorem dX5_clear_14 : decode cX5_clear 14 = .ok (.aload_n 0, 1) := by decide +kernel
theorem dX5_clear_15 : decode cX5_clear 15 = .ok (.getfield 7, 3) := by decide +kernel
theorem dX5_clear_18 : decode cX5_clear 18 = .ok (.iload_n 1, 1) := by decide +kernel
theorem dX5_clear_19 : decode cX5_clear 19 = .ok (.iconst 0, 1) := by decide +kernel
theorem dX5_clear_20 : decode cX5_clear 20 = .ok (.bastore, 1) := by decide +kernel
theorem dX5_clear_21 : decode cX5_clear 21 = .ok (.aload_n 0, 1) := by decide +kernel
theorem dX5_clear_22 : decode cX5_clear 22 = .ok (.getfield 13, 3) := by decide +kernel
theorem dX5_clear_25 : decode cX5_clear 25 = .ok (.iload_n 1, 1) := by decide +kernel
theorem dX5_clear_26 : decode cX5_clear 26 = .ok (.iconst 0, 1) := by decide +kernel
theorem dX5_clear_27 : decode cX5_clear 27 = .ok (.bastore, 1) := by decide +kernel
theorem dX5_clear_28 : decode cX5_clear 28 = .ok (.iinc 1 1, 3) := by decide +kernel
theorem dX5_clear_31 : decode cX5_clear 31 = .ok (.goto (-24), 3) := by decide +kernel
theorem dX5_clear_34 : decode cX5_clear 34 = .ok (.aload_n 0, 1) := by decide +kernel
theorem dX5_clear_35 : decode cX5_clear 35 = .ok (.iconst 0, 1) := by decide +kernel
theorem dX5_clear_36 : decode cX5_clear 36 = .ok (.putfield 84, 3) := by decide +kernel
theorem dX5_clear_39 : decode cX5_clear 39 = .ok (.aload_n 0, 1) := by decide +kernel
theorem dX5_clear_40 : decode cX5_clear 40 = .ok (.invokevirtual 131, 3) := by decide +kernel
theorem dX5_clear_43 : decode cX5_clear 43 = .ok (.return_, 1) := by decide +kernel
