theorem dX0_init_0 : decode cX0_init 0 = .ok (.aload_n 0, 1) := by decide +kernel
theorem dX0_init_1 : decode cX0_init 1 = .ok (.invokespecial 3, 3) := by decide +kernel
theorem dX0_init_4 : decode cX0_init 4 = .ok (.aload_n 0, 1) := by decide +kernel
theorem dX0_init_5 : decode cX0_init 5 = .ok (.new 9, 3) := by decide +kernel
theorem dX0_init_8 : decode cX0_init 8 = .ok (.dup, 1) := by decide +kernel
theorem dX0_init_9 : decode cX0_init 9 = .ok (.iload_n 1, 1) := by decide +kernel
theorem dX0_init_10 : decode cX0_init 10 = .ok (.iload_n 2, 1) := by decide +kernel
theorem dX0_init_11 : decode cX0_init 11 = .ok (.invokespecial 11, 3) := by decide +kernel
theorem dX0_init_14 : decode cX0_init 14 = .ok (.putfield 14, 3) := by decide +kernel
theorem dX0_init_17 : decode cX0_init 17 = .ok (.aload_n 0, 1) := by decide +kernel
theorem dX0_init_18 : decode cX0_init 18 = .ok (.aload_n 0, 1) := by decide +kernel
theorem dX0_init_19 : decode cX0_init 19 = .ok (.getfield 14, 3) := by decide +kernel
theorem dX0_init_22 : decode cX0_init 22 = .ok (.getfield 20, 3) := by decide +kernel
theorem dX0_init_25 : decode cX0_init 25 = .ok (.aload_n 0, 1) := by decide +kernel
theorem dX0_init_26 : decode cX0_init 26 = .ok (.getfield 14, 3) := by decide +kernel
theorem dX0_init_29 : decode cX0_init 29 = .ok (.getfield 24, 3) := by decide +kernel
theorem dX0_init_32 : decode cX0_init 32 = .ok (.imul, 1) := by decide +kernel
theorem dX0_init_33 : decode cX0_init 33 = .ok (.newarray .int, 2) := by decide +kernel
theorem dX0_init_35 : decode cX0_init 35 = .ok (.putfield 27, 3) := by decide +kernel
theorem dX0_init_38 : decode cX0_init 38 = .ok (.return_, 1) := by decide +kernel
theorem dX0_blackGroups_0 : decode cX0_blackGroups 0 = .ok (.aload_n 0, 1) := by decide +kernel
theorem dX0_blackGroups_1 : decode cX0_blackGroups 1 = .ok (.getfield 14, 3) := by decide +kernel
theorem dX0_blackGroups_4 : decode cX0_blackGroups 4 = .ok (.invokevirtual 31, 3) := by decide +kernel
theorem dX0_blackGroups_7 : decode cX0_blackGroups 7 = .ok (.iconst 0, 1) := by decide +kernel
theorem dX0_blackGroups_8 : decode cX0_blackGroups 8 = .ok (.istore_n 2, 1) := by decide +kernel
theorem dX0_blackGroups_9 : decode cX0_blackGroups 9 = .ok (.iconst 0, 1) := by decide +kernel
theorem dX0_blackGroups_10 : decode cX0_blackGroups 10 = .ok (.istore_n 3, 1) := by decide +kernel
theorem dX0_blackGroups_11 : decode cX0_blackGroups 11 = .ok (.iload_n 3, 1) := by decide +kernel
theorem dX0_blackGroups_12 : decode cX0_blackGroups 12 = .ok (.aload_n 1, 1) := by decide +kernel
theorem dX0_blackGroups_13 : decode cX0_blackGroups 13 = .ok (.getfield 24, 3) := by decide +kernel
theorem dX0_blackGroups_16 : decode cX0_blackGroups 16 = .ok (.if_icmp .ge 62, 3) := by decide +kernel
theorem dX0_blackGroups_19 : decode cX0_blackGroups 19 = .ok (.iconst 0, 1) := by decide +kernel
theorem dX0_blackGroups_20 : decode cX0_blackGroups 20 = .ok (.istore 4, 2) := by decide +kernel
theorem dX0_blackGroups_22 : decode cX0_blackGroups 22 = .ok (.iload 4, 2) := by decide +kernel
theorem dX0_blackGroups_24 : decode cX0_blackGroups 24 = .ok (.aload_n 1, 1) := by decide +kernel
theorem dX0_blackGroups_25 : decode cX0_blackGroups 25 = .ok (.getfield 20, 3) := by decide +kernel
theorem dX0_blackGroups_28 : decode cX0_blackGroups 28 = .ok (.if_icmp .ge 44, 3) := by decide +kernel
theorem dX0_blackGroups_31 : decode cX0_blackGroups 31 = .ok (.aload_n 1, 1) := by decide +kernel
theorem dX0_blackGroups_32 : decode cX0_blackGroups 32 = .ok (.iload 4, 2) := by decide +kernel
theorem dX0_blackGroups_34 : decode cX0_blackGroups 34 = .ok (.iload_n 3, 1) := by decide +kernel
theorem dX0_blackGroups_35 : decode cX0_blackGroups 35 = .ok (.invokevirtual 34, 3) := by decide +kernel
theorem dX0_blackGroups_38 : decode cX0_blackGroups 38 = .ok (.ifCond .eq 28, 3) := by decide +kernel
theorem dX0_blackGroups_41 : decode cX0_blackGroups 41 = .ok (.aload_n 0, 1) := by decide +kernel
theorem dX0_blackGroups_42 : decode cX0_blackGroups 42 = .ok (.getfield 14, 3) := by decide +kernel
theorem dX0_blackGroups_45 : decode cX0_blackGroups 45 = .ok (.iload 4, 2) := by decide +kernel
theorem dX0_blackGroups_47 : decode cX0_blackGroups 47 = .ok (.iload_n 3, 1) := by decide +kernel
theorem dX0_blackGroups_48 : decode cX0_blackGroups 48 = .ok (.invokevirtual 34, 3) := by decide +kernel
theorem dX0_blackGroups_51 : decode cX0_blackGroups 51 = .ok (.ifCond .ne 15, 3) := by decide +kernel
theorem dX0_blackGroups_54 : decode cX0_blackGroups 54 = .ok (.aload_n 0, 1) := by decide +kernel
theorem dX0_blackGroups_55 : decode cX0_blackGroups 55 = .ok (.aload_n 1, 1) := by decide +kernel
theorem dX0_blackGroups_56 : decode cX0_blackGroups 56 = .ok (.iload 4, 2) := by decide +kernel
theorem dX0_blackGroups_58 : decode cX0_blackGroups 58 = .ok (.iload_n 3, 1) := by decide +kernel
theorem dX0_blackGroups_59 : decode cX0_blackGroups 59 = .ok (.invokevirtual 38, 3) := by decide +kernel
theorem dX0_blackGroups_62 : decode cX0_blackGroups 62 = .ok (.pop, 1) := by decide +kernel
theorem dX0_blackGroups_63 : decode cX0_blackGroups 63 = .ok (.iinc 2 1, 3) := by decide +kernel
theorem dX0_blackGroups_66 : decode cX0_blackGroups 66 = .ok (.iinc 4 1, 3) := by decide +kernel
theorem dX0_blackGroups_69 : decode cX0_blackGroups 69 = .ok (.goto (-47), 3) := by decide +kernel
theorem dX0_blackGroups_72 : decode cX0_blackGroups 72 = .ok (.iinc 3 1, 3) := by decide +kernel
theorem dX0_blackGroups_75 : decode cX0_blackGroups 75 = .ok (.goto (-64), 3) := by decide +kernel
theorem dX0_blackGroups_78 : decode cX0_blackGroups 78 = .ok (.iload_n 2, 1) := by decide +kernel
theorem dX0_blackGroups_79 : decode cX0_blackGroups 79 = .ok (.ireturn, 1) := by decide +kernel
theorem dX0_closedWhiteGroups_0 : decode cX0_closedWhiteGroups 0 = .ok (.aload_n 0, 1) := by decide +kernel
theorem dX0_closedWhiteGroups_1 : decode cX0_closedWhiteGroups 1 = .ok (.getfield 14, 3) := by decide +kernel
theorem dX0_closedWhiteGroups_4 : decode cX0_closedWhiteGroups 4 = .ok (.invokevirtual 31, 3) := by decide +kernel
theorem dX0_closedWhiteGroups_7 : decode cX0_closedWhiteGroups 7 = .ok (.iconst 0, 1) := by decide +kernel
theorem dX0_closedWhiteGroups_8 : decode cX0_closedWhiteGroups 8 = .ok (.istore_n 2, 1) := by decide +kernel
theorem dX0_closedWhiteGroups_9 : decode cX0_closedWhiteGroups 9 = .ok (.iconst 0, 1) := by decide +kernel
theorem dX0_closedWhiteGroups_10 : decode cX0_closedWhiteGroups 10 = .ok (.istore_n 3, 1) := by decide +kernel
theorem dX0_closedWhiteGroups_11 : decode cX0_closedWhiteGroups 11 = .ok (.iload_n 3, 1) := by decide +kernel
theorem dX0_closedWhiteGroups_12 : decode cX0_closedWhiteGroups 12 = .ok (.aload_n 1, 1) := by decide +kernel
theorem dX0_closedWhiteGroups_13 : decode cX0_closedWhiteGroups 13 = .ok (.getfield 24, 3) := by decide +kernel
theorem dX0_closedWhiteGroups_16 : decode cX0_closedWhiteGroups 16 = .ok (.if_icmp .ge 64, 3) := by decide +kernel
theorem dX0_closedWhiteGroups_19 : decode cX0_closedWhiteGroups 19 = .ok (.iconst 0, 1) := by decide +kernel
theorem dX0_closedWhiteGroups_20 : decode cX0_closedWhiteGroups 20 = .ok (.istore 4, 2) := by decide +kernel
theorem dX0_closedWhiteGroups_22 : decode cX0_closedWhiteGroups 22 = .ok (.iload 4, 2) := by decide +kernel
theorem dX0_closedWhiteGroups_24 : decode cX0_closedWhiteGroups 24 = .ok (.aload_n 1, 1) := by decide +kernel
theorem dX0_closedWhiteGroups_25 : decode cX0_closedWhiteGroups 25 = .ok (.getfield 20, 3) := by decide +kernel
theorem dX0_closedWhiteGroups_28 : decode cX0_closedWhiteGroups 28 = .ok (.if_icmp .ge 46, 3) := by decide +kernel
theorem dX0_closedWhiteGroups_31 : decode cX0_closedWhiteGroups 31 = .ok (.aload_n 1, 1) := by decide +kernel
theorem dX0_closedWhiteGroups_32 : decode cX0_closedWhiteGroups 32 = .ok (.iload 4, 2) := by decide +kernel
theorem dX0_closedWhiteGroups_34 : decode cX0_closedWhiteGroups 34 = .ok (.iload_n 3, 1) := by decide +kernel
theorem dX0_closedWhiteGroups_35 : decode cX0_closedWhiteGroups 35 = .ok (.invokevirtual 34, 3) := by decide +kernel
theorem dX0_closedWhiteGroups_38 : decode cX0_closedWhiteGroups 38 = .ok (.ifCond .ne 30, 3) := by decide +kernel
theorem dX0_closedWhiteGroups_41 : decode cX0_closedWhiteGroups 41 = .ok (.aload_n 0, 1) := by decide +kernel
theorem dX0_closedWhiteGroups_42 : decode cX0_closedWhiteGroups 42 = .ok (.getfield 14, 3) := by decide +kernel
theorem dX0_closedWhiteGroups_45 : decode cX0_closedWhiteGroups 45 = .ok (.iload 4, 2) := by decide +kernel
theorem dX0_closedWhiteGroups_47 : decode cX0_closedWhiteGroups 47 = .ok (.iload_n 3, 1) := by decide +kernel
theorem dX0_closedWhiteGroups_48 : decode cX0_closedWhiteGroups 48 = .ok (.invokevirtual 34, 3) := by decide +kernel
theorem dX0_closedWhiteGroups_51 : decode cX0_closedWhiteGroups 51 = .ok (.ifCond .ne 17, 3) := by decide +kernel
theorem dX0_closedWhiteGroups_54 : decode cX0_closedWhiteGroups 54 = .ok (.aload_n 0, 1) := by decide +kernel
theorem dX0_closedWhiteGroups_55 : decode cX0_closedWhiteGroups 55 = .ok (.aload_n 1, 1) := by decide +kernel
theorem dX0_closedWhiteGroups_56 : decode cX0_closedWhiteGroups 56 = .ok (.iload 4, 2) := by decide +kernel
theorem dX0_closedWhiteGroups_58 : decode cX0_closedWhiteGroups 58 = .ok (.iload_n 3, 1) := by decide +kernel
theorem dX0_closedWhiteGroups_59 : decode cX0_closedWhiteGroups 59 = .ok (.invokevirtual 38, 3) := by decide +kernel
theorem dX0_closedWhiteGroups_62 : decode cX0_closedWhiteGroups 62 = .ok (.ifCond .ne 6, 3) := by decide +kernel
theorem dX0_closedWhiteGroups_65 : decode cX0_closedWhiteGroups 65 = .ok (.iinc 2 1, 3) := by decide +kernel
theorem dX0_closedWhiteGroups_68 : decode cX0_closedWhiteGroups 68 = .ok (.iinc 4 1, 3) := by decide +kernel
theorem dX0_closedWhiteGroups_71 : decode cX0_closedWhiteGroups 71 = .ok (.goto (-49), 3) := by decide +kernel
theorem dX0_closedWhiteGroups_74 : decode cX0_closedWhiteGroups 74 = .ok (.iinc 3 1, 3) := by decide +kernel
theorem dX0_closedWhiteGroups_77 : decode cX0_closedWhiteGroups 77 = .ok (.goto (-66), 3) := by decide +kernel
theorem dX0_closedWhiteGroups_80 : decode cX0_closedWhiteGroups 80 = .ok (.iload_n 2, 1) := by decide +kernel
theorem dX0_closedWhiteGroups_81 : decode cX0_closedWhiteGroups 81 = .ok (.ireturn, 1) := by decide +kernel
theorem dX0_meetGroup_0 : decode cX0_meetGroup 0 = .ok (.aload_n 1, 1) := by decide +kernel
theorem dX0_meetGroup_1 : decode cX0_meetGroup 1 = .ok (.iload_n 2, 1) := by decide +kernel
theorem dX0_meetGroup_2 : decode cX0_meetGroup 2 = .ok (.iload_n 3, 1) := by decide +kernel
theorem dX0_meetGroup_3 : decode cX0_meetGroup 3 = .ok (.invokevirtual 34, 3) := by decide +kernel
theorem dX0_meetGroup_6 : decode cX0_meetGroup 6 = .ok (.istore 4, 2) := by decide +kernel
theorem dX0_meetGroup_8 : decode cX0_meetGroup 8 = .ok (.iload 4, 2) := by decide +kernel
theorem dX0_meetGroup_10 : decode cX0_meetGroup 10 = .ok (.ifCond .eq 7, 3) := by decide +kernel
theorem dX0_meetGroup_13 : decode cX0_meetGroup 13 = .ok (.iconst 1, 1) := by decide +kernel
theorem dX0_meetGroup_14 : decode cX0_meetGroup 14 = .ok (.goto 4, 3) := by decide +kernel
theorem dX0_meetGroup_17 : decode cX0_meetGroup 17 = .ok (.iconst 2, 1) := by decide +kernel
theorem dX0_meetGroup_18 : decode cX0_meetGroup 18 = .ok (.istore 5, 2) := by decide +kernel
theorem dX0_meetGroup_20 : decode cX0_meetGroup 20 = .ok (.iconst 0, 1) := by decide +kernel
theorem dX0_meetGroup_21 : decode cX0_meetGroup 21 = .ok (.istore 6, 2) := by decide +kernel
theorem dX0_meetGroup_23 : decode cX0_meetGroup 23 = .ok (.aload_n 0, 1) := by decide +kernel
theorem dX0_meetGroup_24 : decode cX0_meetGroup 24 = .ok (.iconst 0, 1) := by decide +kernel
theorem dX0_meetGroup_25 : decode cX0_meetGroup 25 = .ok (.putfield 42, 3) := by decide +kernel
theorem dX0_meetGroup_28 : decode cX0_meetGroup 28 = .ok (.aload_n 0, 1) := by decide +kernel
theorem dX0_meetGroup_29 : decode cX0_meetGroup 29 = .ok (.iload_n 2, 1) := by decide +kernel
theorem dX0_meetGroup_30 : decode cX0_meetGroup 30 = .ok (.iload_n 3, 1) := by decide +kernel
theorem dX0_meetGroup_31 : decode cX0_meetGroup 31 = .ok (.invokevirtual 45, 3) := by decide +kernel
theorem dX0_meetGroup_34 : decode cX0_meetGroup 34 = .ok (.iconst 0, 1) := by decide +kernel
theorem dX0_meetGroup_35 : decode cX0_meetGroup 35 = .ok (.istore 7, 2) := by decide +kernel
theorem dX0_meetGroup_37 : decode cX0_meetGroup 37 = .ok (.iload 7, 2) := by decide +kernel
theorem dX0_meetGroup_39 : decode cX0_meetGroup 39 = .ok (.aload_n 0, 1) := by decide +kernel
theorem dX0_meetGroup_40 : decode cX0_meetGroup 40 = .ok (.getfield 42, 3) := by decide +kernel
theorem dX0_meetGroup_43 : decode cX0_meetGroup 43 = .ok (.if_icmp .ge 115, 3) := by decide +kernel
theorem dX0_meetGroup_46 : decode cX0_meetGroup 46 = .ok (.iload 7, 2) := by decide +kernel
theorem dX0_meetGroup_48 : decode cX0_meetGroup 48 = .ok (.aload_n 0, 1) := by decide +kernel
theorem dX0_meetGroup_49 : decode cX0_meetGroup 49 = .ok (.getfield 27, 3) := by decide +kernel
theorem dX0_meetGroup_52 : decode cX0_meetGroup 52 = .ok (.arraylength, 1) := by decide +kernel
theorem dX0_meetGroup_53 : decode cX0_meetGroup 53 = .ok (.if_icmp .ge 105, 3) := by decide +kernel
theorem dX0_meetGroup_56 : decode cX0_meetGroup 56 = .ok (.iconst 0, 1) := by decide +kernel
theorem dX0_meetGroup_57 : decode cX0_meetGroup 57 = .ok (.istore 8, 2) := by decide +kernel
theorem dX0_meetGroup_59 : decode cX0_meetGroup 59 = .ok (.iload 8, 2) := by decide +kernel
theorem dX0_meetGroup_61 : decode cX0_meetGroup 61 = .ok (.bipush 8, 2) := by decide +kernel
theorem dX0_meetGroup_63 : decode cX0_meetGroup 63 = .ok (.if_icmp .ge 89, 3) := by decide +kernel
theorem dX0_meetGroup_66 : decode cX0_meetGroup 66 = .ok (.aload_n 0, 1) := by decide +kernel
theorem dX0_meetGroup_67 : decode cX0_meetGroup 67 = .ok (.getfield 27, 3) := by decide +kernel
theorem dX0_meetGroup_70 : decode cX0_meetGroup 70 = .ok (.iload 7, 2) := by decide +kernel
theorem dX0_meetGroup_72 : decode cX0_meetGroup 72 = .ok (.iaload, 1) := by decide +kernel
theorem dX0_meetGroup_73 : decode cX0_meetGroup 73 = .ok (.invokestatic 48, 3) := by decide +kernel
theorem dX0_meetGroup_76 : decode cX0_meetGroup 76 = .ok (.getstatic 52, 3) := by decide +kernel
theorem dX0_meetGroup_79 : decode cX0_meetGroup 79 = .ok (.iload 8, 2) := by decide +kernel
theorem dX0_meetGroup_81 : decode cX0_meetGroup 81 = .ok (.iaload, 1) := by decide +kernel
theorem dX0_meetGroup_82 : decode cX0_meetGroup 82 = .ok (.iadd, 1) := by decide +kernel
theorem dX0_meetGroup_83 : decode cX0_meetGroup 83 = .ok (.istore 9, 2) := by decide +kernel
theorem dX0_meetGroup_85 : decode cX0_meetGroup 85 = .ok (.aload_n 0, 1) := by decide +kernel
theorem dX0_meetGroup_86 : decode cX0_meetGroup 86 = .ok (.getfield 27, 3) := by decide +kernel
theorem dX0_meetGroup_89 : decode cX0_meetGroup 89 = .ok (.iload 7, 2) := by decide +kernel
theorem dX0_meetGroup_91 : decode cX0_meetGroup 91 = .ok (.iaload, 1) := by decide +kernel
theorem dX0_meetGroup_92 : decode cX0_meetGroup 92 = .ok (.invokestatic 55, 3) := by decide +kernel
theorem dX0_meetGroup_95 : decode cX0_meetGroup 95 = .ok (.getstatic 58, 3) := by decide +kernel
theorem dX0_meetGroup_98 : decode cX0_meetGroup 98 = .ok (.iload 8, 2) := by decide +kernel
theorem dX0_meetGroup_100 : decode cX0_meetGroup 100 = .ok (.iaload, 1) := by decide +kernel
theorem dX0_meetGroup_101 : decode cX0_meetGroup 101 = .ok (.iadd, 1) := by decide +kernel
theorem dX0_meetGroup_102 : decode cX0_meetGroup 102 = .ok (.istore 10, 2) := by decide +kernel
theorem dX0_meetGroup_104 : decode cX0_meetGroup 104 = .ok (.aload_n 1, 1) := by decide +kernel
theorem dX0_meetGroup_105 : decode cX0_meetGroup 105 = .ok (.iload 9, 2) := by decide +kernel
theorem dX0_meetGroup_107 : decode cX0_meetGroup 107 = .ok (.iload 10, 2) := by decide +kernel
theorem dX0_meetGroup_109 : decode cX0_meetGroup 109 = .ok (.invokevirtual 61, 3) := by decide +kernel
theorem dX0_meetGroup_112 : decode cX0_meetGroup 112 = .ok (.ifCond .ne 9, 3) := by decide +kernel
theorem dX0_meetGroup_115 : decode cX0_meetGroup 115 = .ok (.iconst 1, 1) := by decide +kernel
theorem dX0_meetGroup_116 : decode cX0_meetGroup 116 = .ok (.istore 6, 2) := by decide +kernel
theorem dX0_meetGroup_118 : decode cX0_meetGroup 118 = .ok (.goto 24, 3) := by decide +kernel
theorem dX0_meetGroup_121 : decode cX0_meetGroup 121 = .ok (.aload_n 1, 1) := by decide +kernel
theorem dX0_meetGroup_122 : decode cX0_meetGroup 122 = .ok (.iload 9, 2) := by decide +kernel
theorem dX0_meetGroup_124 : decode cX0_meetGroup 124 = .ok (.iload 10, 2) := by decide +kernel
theorem dX0_meetGroup_126 : decode cX0_meetGroup 126 = .ok (.invokevirtual 34, 3) := by decide +kernel
theorem dX0_meetGroup_129 : decode cX0_meetGroup 129 = .ok (.iload 4, 2) := by decide +kernel
theorem dX0_meetGroup_131 : decode cX0_meetGroup 131 = .ok (.if_icmp .ne 11, 3) := by decide +kernel
theorem dX0_meetGroup_134 : decode cX0_meetGroup 134 = .ok (.aload_n 0, 1) := by decide +kernel
theorem dX0_meetGroup_135 : decode cX0_meetGroup 135 = .ok (.iload 9, 2) := by decide +kernel
theorem dX0_meetGroup_137 : decode cX0_meetGroup 137 = .ok (.iload 10, 2) := by decide +kernel
theorem dX0_meetGroup_139 : decode cX0_meetGroup 139 = .ok (.invokevirtual 45, 3) := by decide +kernel
theorem dX0_meetGroup_142 : decode cX0_meetGroup 142 = .ok (.iload 8, 2) := by decide +kernel
theorem dX0_meetGroup_144 : decode cX0_meetGroup 144 = .ok (.iload 5, 2) := by decide +kernel
theorem dX0_meetGroup_146 : decode cX0_meetGroup 146 = .ok (.iadd, 1) := by decide +kernel
theorem dX0_meetGroup_147 : decode cX0_meetGroup 147 = .ok (.istore 8, 2) := by decide +kernel
theorem dX0_meetGroup_149 : decode cX0_meetGroup 149 = .ok (.goto (-90), 3) := by decide +kernel
theorem dX0_meetGroup_152 : decode cX0_meetGroup 152 = .ok (.iinc 7 1, 3) := by decide +kernel
theorem dX0_meetGroup_155 : decode cX0_meetGroup 155 = .ok (.goto (-118), 3) := by decide +kernel
theorem dX0_meetGroup_158 : decode cX0_meetGroup 158 = .ok (.iload 6, 2) := by decide +kernel
theorem dX0_meetGroup_160 : decode cX0_meetGroup 160 = .ok (.ireturn, 1) := by decide +kernel
theorem dX0_meet_0 : decode cX0_meet 0 = .ok (.aload_n 0, 1) := by decide +kernel
theorem dX0_meet_1 : decode cX0_meet 1 = .ok (.getfield 14, 3) := by decide +kernel
theorem dX0_meet_4 : decode cX0_meet 4 = .ok (.iload_n 1, 1) := by decide +kernel
theorem dX0_meet_5 : decode cX0_meet 5 = .ok (.iload_n 2, 1) := by decide +kernel
theorem dX0_meet_6 : decode cX0_meet 6 = .ok (.invokevirtual 34, 3) := by decide +kernel
theorem dX0_meet_9 : decode cX0_meet 9 = .ok (.ifCond .ne 49, 3) := by decide +kernel
theorem dX0_meet_12 : decode cX0_meet 12 = .ok (.aload_n 0, 1) := by decide +kernel
theorem dX0_meet_13 : decode cX0_meet 13 = .ok (.getfield 42, 3) := by decide +kernel
theorem dX0_meet_16 : decode cX0_meet 16 = .ok (.aload_n 0, 1) := by decide +kernel
theorem dX0_meet_17 : decode cX0_meet 17 = .ok (.getfield 27, 3) := by decide +kernel
theorem dX0_meet_20 : decode cX0_meet 20 = .ok (.arraylength, 1) := by decide +kernel
theorem dX0_meet_21 : decode cX0_meet 21 = .ok (.if_icmp .ge 37, 3) := by decide +kernel
theorem dX0_meet_24 : decode cX0_meet 24 = .ok (.aload_n 0, 1) := by decide +kernel
theorem dX0_meet_25 : decode cX0_meet 25 = .ok (.getfield 14, 3) := by decide +kernel
theorem dX0_meet_28 : decode cX0_meet 28 = .ok (.iload_n 1, 1) := by decide +kernel
theorem dX0_meet_29 : decode cX0_meet 29 = .ok (.iload_n 2, 1) := by decide +kernel
theorem dX0_meet_30 : decode cX0_meet 30 = .ok (.iconst 1, 1) := by decide +kernel
theorem dX0_meet_31 : decode cX0_meet 31 = .ok (.invokevirtual 64, 3) := by decide +kernel
theorem dX0_meet_34 : decode cX0_meet 34 = .ok (.aload_n 0, 1) := by decide +kernel
theorem dX0_meet_35 : decode cX0_meet 35 = .ok (.getfield 27, 3) := by decide +kernel
theorem dX0_meet_38 : decode cX0_meet 38 = .ok (.aload_n 0, 1) := by decide +kernel
theorem dX0_meet_39 : decode cX0_meet 39 = .ok (.getfield 42, 3) := by decide +kernel
theorem dX0_meet_42 : decode cX0_meet 42 = .ok (.iload_n 1, 1) := by decide +kernel
theorem dX0_meet_43 : decode cX0_meet 43 = .ok (.iload_n 2, 1) := by decide +kernel
theorem dX0_meet_44 : decode cX0_meet 44 = .ok (.invokestatic 68, 3) := by decide +kernel
theorem dX0_meet_47 : decode cX0_meet 47 = .ok (.iastore, 1) := by decide +kernel
theorem dX0_meet_48 : decode cX0_meet 48 = .ok (.aload_n 0, 1) := by decide +kernel
theorem dX0_meet_49 : decode cX0_meet 49 = .ok (.dup, 1) := by decide +kernel
theorem dX0_meet_50 : decode cX0_meet 50 = .ok (.getfield 42, 3) := by decide +kernel
theorem dX0_meet_53 : decode cX0_meet 53 = .ok (.iconst 1, 1) := by decide +kernel
theorem dX0_meet_54 : decode cX0_meet 54 = .ok (.iadd, 1) := by decide +kernel
theorem dX0_meet_55 : decode cX0_meet 55 = .ok (.putfield 42, 3) := by decide +kernel
theorem dX0_meet_58 : decode cX0_meet 58 = .ok (.return_, 1) := by decide +kernel
theorem dX1_init_0 : decode cX1_init 0 = .ok (.aload_n 0, 1) := by decide +kernel
theorem dX1_init_1 : decode cX1_init 1 = .ok (.invokespecial 3, 3) := by decide +kernel
theorem dX1_init_4 : decode cX1_init 4 = .ok (.aload_n 0, 1) := by decide +kernel
theorem dX1_init_5 : decode cX1_init 5 = .ok (.iload_n 1, 1) := by decide +kernel
theorem dX1_init_6 : decode cX1_init 6 = .ok (.invokestatic 9, 3) := by decide +kernel
theorem dX1_init_9 : decode cX1_init 9 = .ok (.putfield 13, 3) := by decide +kernel
theorem dX1_init_12 : decode cX1_init 12 = .ok (.aload_n 0, 1) := by decide +kernel
theorem dX1_init_13 : decode cX1_init 13 = .ok (.iload_n 2, 1) := by decide +kernel
theorem dX1_init_14 : decode cX1_init 14 = .ok (.invokestatic 9, 3) := by decide +kernel
theorem dX1_init_17 : decode cX1_init 17 = .ok (.putfield 19, 3) := by decide +kernel
theorem dX1_init_20 : decode cX1_init 20 = .ok (.aload_n 0, 1) := by decide +kernel
theorem dX1_init_21 : decode cX1_init 21 = .ok (.aload_n 0, 1) := by decide +kernel
theorem dX1_init_22 : decode cX1_init 22 = .ok (.getfield 19, 3) := by decide +kernel
theorem dX1_init_25 : decode cX1_init 25 = .ok (.newarray .int, 2) := by decide +kernel
theorem dX1_init_27 : decode cX1_init 27 = .ok (.putfield 22, 3) := by decide +kernel
theorem dX1_init_30 : decode cX1_init 30 = .ok (.return_, 1) := by decide +kernel
theorem dX1_has_0 : decode cX1_has 0 = .ok (.iload_n 1, 1) := by decide +kernel
theorem dX1_has_1 : decode cX1_has 1 = .ok (.ifCond .lt 27, 3) := by decide +kernel
theorem dX1_has_4 : decode cX1_has 4 = .ok (.iload_n 1, 1) := by decide +kernel
theorem dX1_has_5 : decode cX1_has 5 = .ok (.aload_n 0, 1) := by decide +kernel
theorem dX1_has_6 : decode cX1_has 6 = .ok (.getfield 13, 3) := by decide +kernel
theorem dX1_has_9 : decode cX1_has 9 = .ok (.if_icmp .ge 19, 3) := by decide +kernel
theorem dX1_has_12 : decode cX1_has 12 = .ok (.iload_n 2, 1) := by decide +kernel
theorem dX1_has_13 : decode cX1_has 13 = .ok (.ifCond .lt 15, 3) := by decide +kernel
theorem dX1_has_16 : decode cX1_has 16 = .ok (.iload_n 2, 1) := by decide +kernel
theorem dX1_has_17 : decode cX1_has 17 = .ok (.aload_n 0, 1) := by decide +kernel
theorem dX1_has_18 : decode cX1_has 18 = .ok (.getfield 19, 3) := by decide +kernel
theorem dX1_has_21 : decode cX1_has 21 = .ok (.if_icmp .ge 7, 3) := by decide +kernel
theorem dX1_has_24 : decode cX1_has 24 = .ok (.iconst 1, 1) := by decide +kernel
theorem dX1_has_25 : decode cX1_has 25 = .ok (.goto 4, 3) := by decide +kernel
theorem dX1_has_28 : decode cX1_has 28 = .ok (.iconst 0, 1) := by decide +kernel
theorem dX1_has_29 : decode cX1_has 29 = .ok (.ireturn, 1) := by decide +kernel
theorem dX1_isBlack_0 : decode cX1_isBlack 0 = .ok (.aload_n 0, 1) := by decide +kernel
theorem dX1_isBlack_1 : decode cX1_isBlack 1 = .ok (.iload_n 1, 1) := by decide +kernel
theorem dX1_isBlack_2 : decode cX1_isBlack 2 = .ok (.iload_n 2, 1) := by decide +kernel
theorem dX1_isBlack_3 : decode cX1_isBlack 3 = .ok (.invokevirtual 26, 3) := by decide +kernel
theorem dX1_isBlack_6 : decode cX1_isBlack 6 = .ok (.ifCond .eq 20, 3) := by decide +kernel
theorem dX1_isBlack_9 : decode cX1_isBlack 9 = .ok (.aload_n 0, 1) := by decide +kernel
theorem dX1_isBlack_10 : decode cX1_isBlack 10 = .ok (.getfield 22, 3) := by decide +kernel
theorem dX1_isBlack_13 : decode cX1_isBlack 13 = .ok (.iload_n 2, 1) := by decide +kernel
theorem dX1_isBlack_14 : decode cX1_isBlack 14 = .ok (.iaload, 1) := by decide +kernel
theorem dX1_isBlack_15 : decode cX1_isBlack 15 = .ok (.iload_n 1, 1) := by decide +kernel
theorem dX1_isBlack_16 : decode cX1_isBlack 16 = .ok (.ishr, 1) := by decide +kernel
theorem dX1_isBlack_17 : decode cX1_isBlack 17 = .ok (.iconst 1, 1) := by decide +kernel
theorem dX1_isBlack_18 : decode cX1_isBlack 18 = .ok (.iand, 1) := by decide +kernel
theorem dX1_isBlack_19 : decode cX1_isBlack 19 = .ok (.ifCond .eq 7, 3) := by decide +kernel
theorem dX1_isBlack_22 : decode cX1_isBlack 22 = .ok (.iconst 1, 1) := by decide +kernel
theorem dX1_isBlack_23 : decode cX1_isBlack 23 = .ok (.goto 4, 3) := by decide +kernel
theorem dX1_isBlack_26 : decode cX1_isBlack 26 = .ok (.iconst 0, 1) := by decide +kernel
theorem dX1_isBlack_27 : decode cX1_isBlack 27 = .ok (.ireturn, 1) := by decide +kernel
theorem dX1_paint_0 : decode cX1_paint 0 = .ok (.aload_n 0, 1) := by decide +kernel
theorem dX1_paint_1 : decode cX1_paint 1 = .ok (.iload_n 1, 1) := by decide +kernel
theorem dX1_paint_2 : decode cX1_paint 2 = .ok (.iload_n 2, 1) := by decide +kernel
theorem dX1_paint_3 : decode cX1_paint 3 = .ok (.invokevirtual 26, 3) := by decide +kernel
theorem dX1_paint_6 : decode cX1_paint 6 = .ok (.ifCond .ne 4, 3) := by decide +kernel
theorem dX1_paint_9 : decode cX1_paint 9 = .ok (.return_, 1) := by decide +kernel
theorem dX1_paint_10 : decode cX1_paint 10 = .ok (.aload_n 0, 1) := by decide +kernel
theorem dX1_paint_11 : decode cX1_paint 11 = .ok (.getfield 22, 3) := by decide +kernel
theorem dX1_paint_14 : decode cX1_paint 14 = .ok (.iload_n 2, 1) := by decide +kernel
theorem dX1_paint_15 : decode cX1_paint 15 = .ok (.iload_n 3, 1) := by decide +kernel
theorem dX1_paint_16 : decode cX1_paint 16 = .ok (.ifCond .eq 16, 3) := by decide +kernel
theorem dX1_paint_19 : decode cX1_paint 19 = .ok (.aload_n 0, 1) := by decide +kernel
theorem dX1_paint_20 : decode cX1_paint 20 = .ok (.getfield 22, 3) := by decide +kernel
theorem dX1_paint_23 : decode cX1_paint 23 = .ok (.iload_n 2, 1) := by decide +kernel
theorem dX1_paint_24 : decode cX1_paint 24 = .ok (.iaload, 1) := by decide +kernel
theorem dX1_paint_25 : decode cX1_paint 25 = .ok (.iconst 1, 1) := by decide +kernel
theorem dX1_paint_26 : decode cX1_paint 26 = .ok (.iload_n 1, 1) := by decide +kernel
theorem dX1_paint_27 : decode cX1_paint 27 = .ok (.ishl, 1) := by decide +kernel
theorem dX1_paint_28 : decode cX1_paint 28 = .ok (.ior, 1) := by decide +kernel
theorem dX1_paint_29 : decode cX1_paint 29 = .ok (.goto 15, 3) := by decide +kernel
theorem dX1_paint_32 : decode cX1_paint 32 = .ok (.aload_n 0, 1) := by decide +kernel
theorem dX1_paint_33 : decode cX1_paint 33 = .ok (.getfield 22, 3) := by decide +kernel
theorem dX1_paint_36 : decode cX1_paint 36 = .ok (.iload_n 2, 1) := by decide +kernel
theorem dX1_paint_37 : decode cX1_paint 37 = .ok (.iaload, 1) := by decide +kernel
theorem dX1_paint_38 : decode cX1_paint 38 = .ok (.iconst 1, 1) := by decide +kernel
theorem dX1_paint_39 : decode cX1_paint 39 = .ok (.iload_n 1, 1) := by decide +kernel
theorem dX1_paint_40 : decode cX1_paint 40 = .ok (.ishl, 1) := by decide +kernel
theorem dX1_paint_41 : decode cX1_paint 41 = .ok (.iconst (-1), 1) := by decide +kernel
theorem dX1_paint_42 : decode cX1_paint 42 = .ok (.ixor, 1) := by decide +kernel
theorem dX1_paint_43 : decode cX1_paint 43 = .ok (.iand, 1) := by decide +kernel
theorem dX1_paint_44 : decode cX1_paint 44 = .ok (.iastore, 1) := by decide +kernel
theorem dX1_paint_45 : decode cX1_paint 45 = .ok (.return_, 1) := by decide +kernel
theorem dX1_whiten_0 : decode cX1_whiten 0 = .ok (.iconst 0, 1) := by decide +kernel
theorem dX1_whiten_1 : decode cX1_whiten 1 = .ok (.istore_n 1, 1) := by decide +kernel
theorem dX1_whiten_2 : decode cX1_whiten 2 = .ok (.iload_n 1, 1) := by decide +kernel
theorem dX1_whiten_3 : decode cX1_whiten 3 = .ok (.aload_n 0, 1) := by decide +kernel
theorem dX1_whiten_4 : decode cX1_whiten 4 = .ok (.getfield 22, 3) := by decide +kernel
theorem dX1_whiten_7 : decode cX1_whiten 7 = .ok (.arraylength, 1) := by decide +kernel
theorem dX1_whiten_8 : decode cX1_whiten 8 = .ok (.if_icmp .ge 16, 3) := by decide +kernel
theorem dX1_whiten_11 : decode cX1_whiten 11 = .ok (.aload_n 0, 1) := by decide +kernel
theorem dX1_whiten_12 : decode cX1_whiten 12 = .ok (.getfield 22, 3) := by decide +kernel
theorem dX1_whiten_15 : decode cX1_whiten 15 = .ok (.iload_n 1, 1) := by decide +kernel
theorem dX1_whiten_16 : decode cX1_whiten 16 = .ok (.iconst 0, 1) := by decide +kernel
theorem dX1_whiten_17 : decode cX1_whiten 17 = .ok (.iastore, 1) := by decide +kernel
theorem dX1_whiten_18 : decode cX1_whiten 18 = .ok (.iinc 1 1, 3) := by decide +kernel
theorem dX1_whiten_21 : decode cX1_whiten 21 = .ok (.goto (-19), 3) := by decide +kernel
theorem dX1_whiten_24 : decode cX1_whiten 24 = .ok (.return_, 1) := by decide +kernel
theorem dX1_copyFrom_0 : decode cX1_copyFrom 0 = .ok (.iconst 0, 1) := by decide +kernel
theorem dX1_copyFrom_1 : decode cX1_copyFrom 1 = .ok (.istore_n 2, 1) := by decide +kernel
theorem dX1_copyFrom_2 : decode cX1_copyFrom 2 = .ok (.iload_n 2, 1) := by decide +kernel
theorem dX1_copyFrom_3 : decode cX1_copyFrom 3 = .ok (.aload_n 0, 1) := by decide +kernel
theorem dX1_copyFrom_4 : decode cX1_copyFrom 4 = .ok (.getfield 22, 3) := by decide +kernel
theorem dX1_copyFrom_7 : decode cX1_copyFrom 7 = .ok (.arraylength, 1) := by decide +kernel
theorem dX1_copyFrom_8 : decode cX1_copyFrom 8 = .ok (.if_icmp .ge 30, 3) := by decide +kernel
theorem dX1_copyFrom_11 : decode cX1_copyFrom 11 = .ok (.iload_n 2, 1) := by decide +kernel
theorem dX1_copyFrom_12 : decode cX1_copyFrom 12 = .ok (.aload_n 1, 1) := by decide +kernel
theorem dX1_copyFrom_13 : decode cX1_copyFrom 13 = .ok (.getfield 22, 3) := by decide +kernel
theorem dX1_copyFrom_16 : decode cX1_copyFrom 16 = .ok (.arraylength, 1) := by decide +kernel
theorem dX1_copyFrom_17 : decode cX1_copyFrom 17 = .ok (.if_icmp .ge 21, 3) := by decide +kernel
theorem dX1_copyFrom_20 : decode cX1_copyFrom 20 = .ok (.aload_n 0, 1) := by decide +kernel
theorem dX1_copyFrom_21 : decode cX1_copyFrom 21 = .ok (.getfield 22, 3) := by decide +kernel
theorem dX1_copyFrom_24 : decode cX1_copyFrom 24 = .ok (.iload_n 2, 1) := by decide +kernel
theorem dX1_copyFrom_25 : decode cX1_copyFrom 25 = .ok (.aload_n 1, 1) := by decide +kernel
theorem dX1_copyFrom_26 : decode cX1_copyFrom 26 = .ok (.getfield 22, 3) := by decide +kernel
theorem dX1_copyFrom_29 : decode cX1_copyFrom 29 = .ok (.iload_n 2, 1) := by decide +kernel
theorem dX1_copyFrom_30 : decode cX1_copyFrom 30 = .ok (.iaload, 1) := by decide +kernel
theorem dX1_copyFrom_31 : decode cX1_copyFrom 31 = .ok (.iastore, 1) := by decide +kernel
theorem dX1_copyFrom_32 : decode cX1_copyFrom 32 = .ok (.iinc 2 1, 3) := by decide +kernel
theorem dX1_copyFrom_35 : decode cX1_copyFrom 35 = .ok (.goto (-33), 3) := by decide +kernel
theorem dX1_copyFrom_38 : decode cX1_copyFrom 38 = .ok (.return_, 1) := by decide +kernel
theorem dX1_blackCount_0 : decode cX1_blackCount 0 = .ok (.iconst 0, 1) := by decide +kernel
theorem dX1_blackCount_1 : decode cX1_blackCount 1 = .ok (.istore_n 1, 1) := by decide +kernel
theorem dX1_blackCount_2 : decode cX1_blackCount 2 = .ok (.iconst 0, 1) := by decide +kernel
theorem dX1_blackCount_3 : decode cX1_blackCount 3 = .ok (.istore_n 2, 1) := by decide +kernel
theorem dX1_blackCount_4 : decode cX1_blackCount 4 = .ok (.iload_n 2, 1) := by decide +kernel
theorem dX1_blackCount_5 : decode cX1_blackCount 5 = .ok (.aload_n 0, 1) := by decide +kernel
theorem dX1_blackCount_6 : decode cX1_blackCount 6 = .ok (.getfield 22, 3) := by decide +kernel
theorem dX1_blackCount_9 : decode cX1_blackCount 9 = .ok (.arraylength, 1) := by decide +kernel
theorem dX1_blackCount_10 : decode cX1_blackCount 10 = .ok (.if_icmp .ge 21, 3) := by decide +kernel
theorem dX1_blackCount_13 : decode cX1_blackCount 13 = .ok (.iload_n 1, 1) := by decide +kernel
theorem dX1_blackCount_14 : decode cX1_blackCount 14 = .ok (.aload_n 0, 1) := by decide +kernel
theorem dX1_blackCount_15 : decode cX1_blackCount 15 = .ok (.getfield 22, 3) := by decide +kernel
theorem dX1_blackCount_18 : decode cX1_blackCount 18 = .ok (.iload_n 2, 1) := by decide +kernel
theorem dX1_blackCount_19 : decode cX1_blackCount 19 = .ok (.iaload, 1) := by decide +kernel
theorem dX1_blackCount_20 : decode cX1_blackCount 20 = .ok (.invokestatic 30, 3) := by decide +kernel
theorem dX1_blackCount_23 : decode cX1_blackCount 23 = .ok (.iadd, 1) := by decide +kernel
theorem dX1_blackCount_24 : decode cX1_blackCount 24 = .ok (.istore_n 1, 1) := by decide +kernel
theorem dX1_blackCount_25 : decode cX1_blackCount 25 = .ok (.iinc 2 1, 3) := by decide +kernel
theorem dX1_blackCount_28 : decode cX1_blackCount 28 = .ok (.goto (-24), 3) := by decide +kernel
theorem dX1_blackCount_31 : decode cX1_blackCount 31 = .ok (.iload_n 1, 1) := by decide +kernel
theorem dX1_blackCount_32 : decode cX1_blackCount 32 = .ok (.ireturn, 1) := by decide +kernel
theorem dX1_blackRound_0 : decode cX1_blackRound 0 = .ok (.iconst 0, 1) := by decide +kernel
theorem dX1_blackRound_1 : decode cX1_blackRound 1 = .ok (.istore_n 3, 1) := by decide +kernel
theorem dX1_blackRound_2 : decode cX1_blackRound 2 = .ok (.iconst 0, 1) := by decide +kernel
theorem dX1_blackRound_3 : decode cX1_blackRound 3 = .ok (.istore 4, 2) := by decide +kernel
theorem dX1_blackRound_5 : decode cX1_blackRound 5 = .ok (.iload 4, 2) := by decide +kernel
theorem dX1_blackRound_7 : decode cX1_blackRound 7 = .ok (.bipush 8, 2) := by decide +kernel
theorem dX1_blackRound_9 : decode cX1_blackRound 9 = .ok (.if_icmp .ge 39, 3) := by decide +kernel
theorem dX1_blackRound_12 : decode cX1_blackRound 12 = .ok (.aload_n 0, 1) := by decide +kernel
theorem dX1_blackRound_13 : decode cX1_blackRound 13 = .ok (.iload_n 1, 1) := by decide +kernel
theorem dX1_blackRound_14 : decode cX1_blackRound 14 = .ok (.getstatic 35, 3) := by decide +kernel
theorem dX1_blackRound_17 : decode cX1_blackRound 17 = .ok (.iload 4, 2) := by decide +kernel
theorem dX1_blackRound_19 : decode cX1_blackRound 19 = .ok (.iaload, 1) := by decide +kernel
theorem dX1_blackRound_20 : decode cX1_blackRound 20 = .ok (.iadd, 1) := by decide +kernel
theorem dX1_blackRound_21 : decode cX1_blackRound 21 = .ok (.iload_n 2, 1) := by decide +kernel
theorem dX1_blackRound_22 : decode cX1_blackRound 22 = .ok (.getstatic 38, 3) := by decide +kernel
theorem dX1_blackRound_25 : decode cX1_blackRound 25 = .ok (.iload 4, 2) := by decide +kernel
theorem dX1_blackRound_27 : decode cX1_blackRound 27 = .ok (.iaload, 1) := by decide +kernel
theorem dX1_blackRound_28 : decode cX1_blackRound 28 = .ok (.iadd, 1) := by decide +kernel
theorem dX1_blackRound_29 : decode cX1_blackRound 29 = .ok (.invokevirtual 41, 3) := by decide +kernel
theorem dX1_blackRound_32 : decode cX1_blackRound 32 = .ok (.ifCond .eq 10, 3) := by decide +kernel
theorem dX1_blackRound_35 : decode cX1_blackRound 35 = .ok (.iload_n 3, 1) := by decide +kernel
theorem dX1_blackRound_36 : decode cX1_blackRound 36 = .ok (.iconst 1, 1) := by decide +kernel
theorem dX1_blackRound_37 : decode cX1_blackRound 37 = .ok (.iload 4, 2) := by decide +kernel
theorem dX1_blackRound_39 : decode cX1_blackRound 39 = .ok (.ishl, 1) := by decide +kernel
theorem dX1_blackRound_40 : decode cX1_blackRound 40 = .ok (.ior, 1) := by decide +kernel
theorem dX1_blackRound_41 : decode cX1_blackRound 41 = .ok (.istore_n 3, 1) := by decide +kernel
theorem dX1_blackRound_42 : decode cX1_blackRound 42 = .ok (.iinc 4 1, 3) := by decide +kernel
theorem dX1_blackRound_45 : decode cX1_blackRound 45 = .ok (.goto (-40), 3) := by decide +kernel
theorem dX1_blackRound_48 : decode cX1_blackRound 48 = .ok (.iload_n 3, 1) := by decide +kernel
theorem dX1_blackRound_49 : decode cX1_blackRound 49 = .ok (.ireturn, 1) := by decide +kernel
theorem dX1_linksAt_0 : decode cX1_linksAt 0 = .ok (.aload_n 0, 1) := by decide +kernel
theorem dX1_linksAt_1 : decode cX1_linksAt 1 = .ok (.iload_n 1, 1) := by decide +kernel
theorem dX1_linksAt_2 : decode cX1_linksAt 2 = .ok (.iload_n 2, 1) := by decide +kernel
theorem dX1_linksAt_3 : decode cX1_linksAt 3 = .ok (.invokevirtual 41, 3) := by decide +kernel
theorem dX1_linksAt_6 : decode cX1_linksAt 6 = .ok (.ifCond .ne 5, 3) := by decide +kernel
theorem dX1_linksAt_9 : decode cX1_linksAt 9 = .ok (.iconst 0, 1) := by decide +kernel
theorem dX1_linksAt_10 : decode cX1_linksAt 10 = .ok (.ireturn, 1) := by decide +kernel
theorem dX1_linksAt_11 : decode cX1_linksAt 11 = .ok (.aload_n 0, 1) := by decide +kernel
theorem dX1_linksAt_12 : decode cX1_linksAt 12 = .ok (.iload_n 1, 1) := by decide +kernel
theorem dX1_linksAt_13 : decode cX1_linksAt 13 = .ok (.iload_n 2, 1) := by decide +kernel
theorem dX1_linksAt_14 : decode cX1_linksAt 14 = .ok (.invokevirtual 44, 3) := by decide +kernel
theorem dX1_linksAt_17 : decode cX1_linksAt 17 = .ok (.istore_n 3, 1) := by decide +kernel
theorem dX1_linksAt_18 : decode cX1_linksAt 18 = .ok (.iconst 0, 1) := by decide +kernel
theorem dX1_linksAt_19 : decode cX1_linksAt 19 = .ok (.istore 4, 2) := by decide +kernel
theorem dX1_linksAt_21 : decode cX1_linksAt 21 = .ok (.iconst 0, 1) := by decide +kernel
theorem dX1_linksAt_22 : decode cX1_linksAt 22 = .ok (.istore 5, 2) := by decide +kernel
theorem dX1_linksAt_24 : decode cX1_linksAt 24 = .ok (.iload 5, 2) := by decide +kernel
theorem dX1_linksAt_26 : decode cX1_linksAt 26 = .ok (.bipush 8, 2) := by decide +kernel
theorem dX1_linksAt_28 : decode cX1_linksAt 28 = .ok (.if_icmp .ge 80, 3) := by decide +kernel
theorem dX1_linksAt_31 : decode cX1_linksAt 31 = .ok (.iload 5, 2) := by decide +kernel
theorem dX1_linksAt_33 : decode cX1_linksAt 33 = .ok (.iconst 1, 1) := by decide +kernel
theorem dX1_linksAt_34 : decode cX1_linksAt 34 = .ok (.iand, 1) := by decide +kernel
theorem dX1_linksAt_35 : decode cX1_linksAt 35 = .ok (.ifCond .eq 7, 3) := by decide +kernel
theorem dX1_linksAt_38 : decode cX1_linksAt 38 = .ok (.iconst 1, 1) := by decide +kernel
theorem dX1_linksAt_39 : decode cX1_linksAt 39 = .ok (.goto 4, 3) := by decide +kernel
theorem dX1_linksAt_42 : decode cX1_linksAt 42 = .ok (.iconst 0, 1) := by decide +kernel
theorem dX1_linksAt_43 : decode cX1_linksAt 43 = .ok (.istore 6, 2) := by decide +kernel
theorem dX1_linksAt_45 : decode cX1_linksAt 45 = .ok (.iload 6, 2) := by decide +kernel
theorem dX1_linksAt_47 : decode cX1_linksAt 47 = .ok (.ifCond .eq 29, 3) := by decide +kernel
theorem dX1_linksAt_50 : decode cX1_linksAt 50 = .ok (.iload_n 3, 1) := by decide +kernel
theorem dX1_linksAt_51 : decode cX1_linksAt 51 = .ok (.iload 5, 2) := by decide +kernel
theorem dX1_linksAt_53 : decode cX1_linksAt 53 = .ok (.iconst 1, 1) := by decide +kernel
theorem dX1_linksAt_54 : decode cX1_linksAt 54 = .ok (.isub, 1) := by decide +kernel
theorem dX1_linksAt_55 : decode cX1_linksAt 55 = .ok (.invokestatic 48, 3) := by decide +kernel
theorem dX1_linksAt_58 : decode cX1_linksAt 58 = .ok (.ifCond .ne 14, 3) := by decide +kernel
theorem dX1_linksAt_61 : decode cX1_linksAt 61 = .ok (.iload_n 3, 1) := by decide +kernel
theorem dX1_linksAt_62 : decode cX1_linksAt 62 = .ok (.iload 5, 2) := by decide +kernel
theorem dX1_linksAt_64 : decode cX1_linksAt 64 = .ok (.iconst 1, 1) := by decide +kernel
theorem dX1_linksAt_65 : decode cX1_linksAt 65 = .ok (.iadd, 1) := by decide +kernel
theorem dX1_linksAt_66 : decode cX1_linksAt 66 = .ok (.invokestatic 48, 3) := by decide +kernel
theorem dX1_linksAt_69 : decode cX1_linksAt 69 = .ok (.ifCond .eq 7, 3) := by decide +kernel
theorem dX1_linksAt_72 : decode cX1_linksAt 72 = .ok (.iconst 1, 1) := by decide +kernel
theorem dX1_linksAt_73 : decode cX1_linksAt 73 = .ok (.goto 4, 3) := by decide +kernel
theorem dX1_linksAt_76 : decode cX1_linksAt 76 = .ok (.iconst 0, 1) := by decide +kernel
theorem dX1_linksAt_77 : decode cX1_linksAt 77 = .ok (.istore 7, 2) := by decide +kernel
theorem dX1_linksAt_79 : decode cX1_linksAt 79 = .ok (.iload_n 3, 1) := by decide +kernel
theorem dX1_linksAt_80 : decode cX1_linksAt 80 = .ok (.iload 5, 2) := by decide +kernel
theorem dX1_linksAt_82 : decode cX1_linksAt 82 = .ok (.invokestatic 48, 3) := by decide +kernel
theorem dX1_linksAt_85 : decode cX1_linksAt 85 = .ok (.ifCond .eq 17, 3) := by decide +kernel
theorem dX1_linksAt_88 : decode cX1_linksAt 88 = .ok (.iload 7, 2) := by decide +kernel
theorem dX1_linksAt_90 : decode cX1_linksAt 90 = .ok (.ifCond .ne 12, 3) := by decide +kernel
theorem dX1_linksAt_93 : decode cX1_linksAt 93 = .ok (.iload 4, 2) := by decide +kernel
theorem dX1_linksAt_95 : decode cX1_linksAt 95 = .ok (.iconst 1, 1) := by decide +kernel
theorem dX1_linksAt_96 : decode cX1_linksAt 96 = .ok (.iload 5, 2) := by decide +kernel
theorem dX1_linksAt_98 : decode cX1_linksAt 98 = .ok (.ishl, 1) := by decide +kernel
theorem dX1_linksAt_99 : decode cX1_linksAt 99 = .ok (.ior, 1) := by decide +kernel
theorem dX1_linksAt_100 : decode cX1_linksAt 100 = .ok (.istore 4, 2) := by decide +kernel
theorem dX1_linksAt_102 : decode cX1_linksAt 102 = .ok (.iinc 5 1, 3) := by decide +kernel
theorem dX1_linksAt_105 : decode cX1_linksAt 105 = .ok (.goto (-81), 3) := by decide +kernel
theorem dX1_linksAt_108 : decode cX1_linksAt 108 = .ok (.iload 4, 2) := by decide +kernel
theorem dX1_linksAt_110 : decode cX1_linksAt 110 = .ok (.ireturn, 1) := by decide +kernel
theorem dX1_nearestWhite2_0 : decode cX1_nearestWhite2 0 = .ok (.aload_n 0, 1) := by decide +kernel
theorem dX1_nearestWhite2_1 : decode cX1_nearestWhite2 1 = .ok (.iload_n 1, 1) := by decide +kernel
theorem dX1_nearestWhite2_2 : decode cX1_nearestWhite2 2 = .ok (.iload_n 2, 1) := by decide +kernel
theorem dX1_nearestWhite2_3 : decode cX1_nearestWhite2 3 = .ok (.invokevirtual 41, 3) := by decide +kernel
theorem dX1_nearestWhite2_6 : decode cX1_nearestWhite2 6 = .ok (.ifCond .ne 5, 3) := by decide +kernel
theorem dX1_nearestWhite2_9 : decode cX1_nearestWhite2 9 = .ok (.lconst 0, 1) := by decide +kernel
theorem dX1_nearestWhite2_10 : decode cX1_nearestWhite2 10 = .ok (.lreturn, 1) := by decide +kernel
theorem dX1_nearestWhite2_11 : decode cX1_nearestWhite2 11 = .ok (.iload_n 1, 1) := by decide +kernel
theorem dX1_nearestWhite2_12 : decode cX1_nearestWhite2 12 = .ok (.iconst 1, 1) := by decide +kernel
theorem dX1_nearestWhite2_13 : decode cX1_nearestWhite2 13 = .ok (.iadd, 1) := by decide +kernel
theorem dX1_nearestWhite2_14 : decode cX1_nearestWhite2 14 = .ok (.aload_n 0, 1) := by decide +kernel
theorem dX1_nearestWhite2_15 : decode cX1_nearestWhite2 15 = .ok (.getfield 13, 3) := by decide +kernel
theorem dX1_nearestWhite2_18 : decode cX1_nearestWhite2 18 = .ok (.iload_n 1, 1) := by decide +kernel
theorem dX1_nearestWhite2_19 : decode cX1_nearestWhite2 19 = .ok (.isub, 1) := by decide +kernel
theorem dX1_nearestWhite2_20 : decode cX1_nearestWhite2 20 = .ok (.invokestatic 51, 3) := by decide +kernel
theorem dX1_nearestWhite2_23 : decode cX1_nearestWhite2 23 = .ok (.iload_n 2, 1) := by decide +kernel
theorem dX1_nearestWhite2_24 : decode cX1_nearestWhite2 24 = .ok (.iconst 1, 1) := by decide +kernel
theorem dX1_nearestWhite2_25 : decode cX1_nearestWhite2 25 = .ok (.iadd, 1) := by decide +kernel
theorem dX1_nearestWhite2_26 : decode cX1_nearestWhite2 26 = .ok (.aload_n 0, 1) := by decide +kernel
theorem dX1_nearestWhite2_27 : decode cX1_nearestWhite2 27 = .ok (.getfield 19, 3) := by decide +kernel
theorem dX1_nearestWhite2_30 : decode cX1_nearestWhite2 30 = .ok (.iload_n 2, 1) := by decide +kernel
theorem dX1_nearestWhite2_31 : decode cX1_nearestWhite2 31 = .ok (.isub, 1) := by decide +kernel
theorem dX1_nearestWhite2_32 : decode cX1_nearestWhite2 32 = .ok (.invokestatic 51, 3) := by decide +kernel
theorem dX1_nearestWhite2_35 : decode cX1_nearestWhite2 35 = .ok (.invokestatic 51, 3) := by decide +kernel
theorem dX1_nearestWhite2_38 : decode cX1_nearestWhite2 38 = .ok (.istore_n 3, 1) := by decide +kernel
theorem dX1_nearestWhite2_39 : decode cX1_nearestWhite2 39 = .ok (.iload_n 3, 1) := by decide +kernel
theorem dX1_nearestWhite2_40 : decode cX1_nearestWhite2 40 = .ok (.iload_n 3, 1) := by decide +kernel
theorem dX1_nearestWhite2_41 : decode cX1_nearestWhite2 41 = .ok (.imul, 1) := by decide +kernel
theorem dX1_nearestWhite2_42 : decode cX1_nearestWhite2 42 = .ok (.istore 4, 2) := by decide +kernel
theorem dX1_nearestWhite2_44 : decode cX1_nearestWhite2 44 = .ok (.iconst 1, 1) := by decide +kernel
theorem dX1_nearestWhite2_45 : decode cX1_nearestWhite2 45 = .ok (.iload_n 3, 1) := by decide +kernel
theorem dX1_nearestWhite2_46 : decode cX1_nearestWhite2 46 = .ok (.isub, 1) := by decide +kernel
theorem dX1_nearestWhite2_47 : decode cX1_nearestWhite2 47 = .ok (.istore 5, 2) := by decide +kernel
theorem dX1_nearestWhite2_49 : decode cX1_nearestWhite2 49 = .ok (.iload 5, 2) := by decide +kernel
theorem dX1_nearestWhite2_51 : decode cX1_nearestWhite2 51 = .ok (.iload_n 3, 1) := by decide +kernel
theorem dX1_nearestWhite2_52 : decode cX1_nearestWhite2 52 = .ok (.if_icmp .ge 59, 3) := by decide +kernel
theorem dX1_nearestWhite2_55 : decode cX1_nearestWhite2 55 = .ok (.iconst 1, 1) := by decide +kernel
theorem dX1_nearestWhite2_56 : decode cX1_nearestWhite2 56 = .ok (.iload_n 3, 1) := by decide +kernel
theorem dX1_nearestWhite2_57 : decode cX1_nearestWhite2 57 = .ok (.isub, 1) := by decide +kernel
theorem dX1_nearestWhite2_58 : decode cX1_nearestWhite2 58 = .ok (.istore 6, 2) := by decide +kernel
theorem dX1_nearestWhite2_60 : decode cX1_nearestWhite2 60 = .ok (.iload 6, 2) := by decide +kernel
theorem dX1_nearestWhite2_62 : decode cX1_nearestWhite2 62 = .ok (.iload_n 3, 1) := by decide +kernel
theorem dX1_nearestWhite2_63 : decode cX1_nearestWhite2 63 = .ok (.if_icmp .ge 42, 3) := by decide +kernel
theorem dX1_nearestWhite2_66 : decode cX1_nearestWhite2 66 = .ok (.aload_n 0, 1) := by decide +kernel
theorem dX1_nearestWhite2_67 : decode cX1_nearestWhite2 67 = .ok (.iload_n 1, 1) := by decide +kernel
theorem dX1_nearestWhite2_68 : decode cX1_nearestWhite2 68 = .ok (.iload 6, 2) := by decide +kernel
theorem dX1_nearestWhite2_70 : decode cX1_nearestWhite2 70 = .ok (.iadd, 1) := by decide +kernel
theorem dX1_nearestWhite2_71 : decode cX1_nearestWhite2 71 = .ok (.iload_n 2, 1) := by decide +kernel
theorem dX1_nearestWhite2_72 : decode cX1_nearestWhite2 72 = .ok (.iload 5, 2) := by decide +kernel
theorem dX1_nearestWhite2_74 : decode cX1_nearestWhite2 74 = .ok (.iadd, 1) := by decide +kernel
theorem dX1_nearestWhite2_75 : decode cX1_nearestWhite2 75 = .ok (.invokevirtual 41, 3) := by decide +kernel
theorem dX1_nearestWhite2_78 : decode cX1_nearestWhite2 78 = .ok (.ifCond .ne 21, 3) := by decide +kernel
theorem dX1_nearestWhite2_81 : decode cX1_nearestWhite2 81 = .ok (.iload 4, 2) := by decide +kernel
theorem dX1_nearestWhite2_83 : decode cX1_nearestWhite2 83 = .ok (.iload 6, 2) := by decide +kernel
theorem dX1_nearestWhite2_85 : decode cX1_nearestWhite2 85 = .ok (.iload 6, 2) := by decide +kernel
theorem dX1_nearestWhite2_87 : decode cX1_nearestWhite2 87 = .ok (.imul, 1) := by decide +kernel
theorem dX1_nearestWhite2_88 : decode cX1_nearestWhite2 88 = .ok (.iload 5, 2) := by decide +kernel
theorem dX1_nearestWhite2_90 : decode cX1_nearestWhite2 90 = .ok (.iload 5, 2) := by decide +kernel
theorem dX1_nearestWhite2_92 : decode cX1_nearestWhite2 92 = .ok (.imul, 1) := by decide +kernel
theorem dX1_nearestWhite2_93 : decode cX1_nearestWhite2 93 = .ok (.iadd, 1) := by decide +kernel
theorem dX1_nearestWhite2_94 : decode cX1_nearestWhite2 94 = .ok (.invokestatic 51, 3) := by decide +kernel
theorem dX1_nearestWhite2_97 : decode cX1_nearestWhite2 97 = .ok (.istore 4, 2) := by decide +kernel
theorem dX1_nearestWhite2_99 : decode cX1_nearestWhite2 99 = .ok (.iinc 6 1, 3) := by decide +kernel
theorem dX1_nearestWhite2_102 : decode cX1_nearestWhite2 102 = .ok (.goto (-42), 3) := by decide +kernel
theorem dX1_nearestWhite2_105 : decode cX1_nearestWhite2 105 = .ok (.iinc 5 1, 3) := by decide +kernel
theorem dX1_nearestWhite2_108 : decode cX1_nearestWhite2 108 = .ok (.goto (-59), 3) := by decide +kernel
theorem dX1_nearestWhite2_111 : decode cX1_nearestWhite2 111 = .ok (.iload 4, 2) := by decide +kernel
theorem dX1_nearestWhite2_113 : decode cX1_nearestWhite2 113 = .ok (.i2l, 1) := by decide +kernel
theorem dX1_nearestWhite2_114 : decode cX1_nearestWhite2 114 = .ok (.lreturn, 1) := by decide +kernel
theorem dX1_whitenDisc_0 : decode cX1_whitenDisc 0 = .ok (.iconst 0, 1) := by decide +kernel
theorem dX1_whitenDisc_1 : decode cX1_whitenDisc 1 = .ok (.istore 5, 2) := by decide +kernel
theorem dX1_whitenDisc_3 : decode cX1_whitenDisc 3 = .ok (.iload 5, 2) := by decide +kernel
theorem dX1_whitenDisc_5 : decode cX1_whitenDisc 5 = .ok (.bipush 24, 2) := by decide +kernel
theorem dX1_whitenDisc_7 : decode cX1_whitenDisc 7 = .ok (.if_icmp .ge 24, 3) := by decide +kernel
theorem dX1_whitenDisc_10 : decode cX1_whitenDisc 10 = .ok (.iload 5, 2) := by decide +kernel
theorem dX1_whitenDisc_12 : decode cX1_whitenDisc 12 = .ok (.iconst 1, 1) := by decide +kernel
theorem dX1_whitenDisc_13 : decode cX1_whitenDisc 13 = .ok (.iadd, 1) := by decide +kernel
theorem dX1_whitenDisc_14 : decode cX1_whitenDisc 14 = .ok (.iload 5, 2) := by decide +kernel
theorem dX1_whitenDisc_16 : decode cX1_whitenDisc 16 = .ok (.iconst 1, 1) := by decide +kernel
theorem dX1_whitenDisc_17 : decode cX1_whitenDisc 17 = .ok (.iadd, 1) := by decide +kernel
theorem dX1_whitenDisc_18 : decode cX1_whitenDisc 18 = .ok (.imul, 1) := by decide +kernel
theorem dX1_whitenDisc_19 : decode cX1_whitenDisc 19 = .ok (.i2l, 1) := by decide +kernel
theorem dX1_whitenDisc_20 : decode cX1_whitenDisc 20 = .ok (.lload_n 3, 1) := by decide +kernel
theorem dX1_whitenDisc_21 : decode cX1_whitenDisc 21 = .ok (.lcmp, 1) := by decide +kernel
theorem dX1_whitenDisc_22 : decode cX1_whitenDisc 22 = .ok (.ifCond .ge 9, 3) := by decide +kernel
theorem dX1_whitenDisc_25 : decode cX1_whitenDisc 25 = .ok (.iinc 5 1, 3) := by decide +kernel
theorem dX1_whitenDisc_28 : decode cX1_whitenDisc 28 = .ok (.goto (-25), 3) := by decide +kernel
theorem dX1_whitenDisc_31 : decode cX1_whitenDisc 31 = .ok (.iload 5, 2) := by decide +kernel
theorem dX1_whitenDisc_33 : decode cX1_whitenDisc 33 = .ok (.ineg, 1) := by decide +kernel
theorem dX1_whitenDisc_34 : decode cX1_whitenDisc 34 = .ok (.istore 6, 2) := by decide +kernel
theorem dX1_whitenDisc_36 : decode cX1_whitenDisc 36 = .ok (.iload 6, 2) := by decide +kernel
theorem dX1_whitenDisc_38 : decode cX1_whitenDisc 38 = .ok (.iload 5, 2) := by decide +kernel
theorem dX1_whitenDisc_40 : decode cX1_whitenDisc 40 = .ok (.if_icmp .gt 57, 3) := by decide +kernel
theorem dX1_whitenDisc_43 : decode cX1_whitenDisc 43 = .ok (.iload 5, 2) := by decide +kernel
theorem dX1_whitenDisc_45 : decode cX1_whitenDisc 45 = .ok (.ineg, 1) := by decide +kernel
theorem dX1_whitenDisc_46 : decode cX1_whitenDisc 46 = .ok (.istore 7, 2) := by decide +kernel
theorem dX1_whitenDisc_48 : decode cX1_whitenDisc 48 = .ok (.iload 7, 2) := by decide +kernel
theorem dX1_whitenDisc_50 : decode cX1_whitenDisc 50 = .ok (.iload 5, 2) := by decide +kernel
theorem dX1_whitenDisc_52 : decode cX1_whitenDisc 52 = .ok (.if_icmp .gt 39, 3) := by decide +kernel
theorem dX1_whitenDisc_55 : decode cX1_whitenDisc 55 = .ok (.iload 7, 2) := by decide +kernel
theorem dX1_whitenDisc_57 : decode cX1_whitenDisc 57 = .ok (.iload 7, 2) := by decide +kernel
theorem dX1_whitenDisc_59 : decode cX1_whitenDisc 59 = .ok (.imul, 1) := by decide +kernel
theorem dX1_whitenDisc_60 : decode cX1_whitenDisc 60 = .ok (.iload 6, 2) := by decide +kernel
theorem dX1_whitenDisc_62 : decode cX1_whitenDisc 62 = .ok (.iload 6, 2) := by decide +kernel
theorem dX1_whitenDisc_64 : decode cX1_whitenDisc 64 = .ok (.imul, 1) := by decide +kernel
theorem dX1_whitenDisc_65 : decode cX1_whitenDisc 65 = .ok (.iadd, 1) := by decide +kernel
theorem dX1_whitenDisc_66 : decode cX1_whitenDisc 66 = .ok (.i2l, 1) := by decide +kernel
theorem dX1_whitenDisc_67 : decode cX1_whitenDisc 67 = .ok (.lload_n 3, 1) := by decide +kernel
theorem dX1_whitenDisc_68 : decode cX1_whitenDisc 68 = .ok (.lcmp, 1) := by decide +kernel
theorem dX1_whitenDisc_69 : decode cX1_whitenDisc 69 = .ok (.ifCond .ge 16, 3) := by decide +kernel
theorem dX1_whitenDisc_72 : decode cX1_whitenDisc 72 = .ok (.aload_n 0, 1) := by decide +kernel
theorem dX1_whitenDisc_73 : decode cX1_whitenDisc 73 = .ok (.iload_n 1, 1) := by decide +kernel
theorem dX1_whitenDisc_74 : decode cX1_whitenDisc 74 = .ok (.iload 7, 2) := by decide +kernel
theorem dX1_whitenDisc_76 : decode cX1_whitenDisc 76 = .ok (.iadd, 1) := by decide +kernel
theorem dX1_whitenDisc_77 : decode cX1_whitenDisc 77 = .ok (.iload_n 2, 1) := by decide +kernel
theorem dX1_whitenDisc_78 : decode cX1_whitenDisc 78 = .ok (.iload 6, 2) := by decide +kernel
theorem dX1_whitenDisc_80 : decode cX1_whitenDisc 80 = .ok (.iadd, 1) := by decide +kernel
theorem dX1_whitenDisc_81 : decode cX1_whitenDisc 81 = .ok (.iconst 0, 1) := by decide +kernel
theorem dX1_whitenDisc_82 : decode cX1_whitenDisc 82 = .ok (.invokevirtual 56, 3) := by decide +kernel
theorem dX1_whitenDisc_85 : decode cX1_whitenDisc 85 = .ok (.iinc 7 1, 3) := by decide +kernel
theorem dX1_whitenDisc_88 : decode cX1_whitenDisc 88 = .ok (.goto (-40), 3) := by decide +kernel
theorem dX1_whitenDisc_91 : decode cX1_whitenDisc 91 = .ok (.iinc 6 1, 3) := by decide +kernel
theorem dX1_whitenDisc_94 : decode cX1_whitenDisc 94 = .ok (.goto (-58), 3) := by decide +kernel
theorem dX1_whitenDisc_97 : decode cX1_whitenDisc 97 = .ok (.return_, 1) := by decide +kernel
theorem dX2_init_0 : decode cX2_init 0 = .ok (.aload_n 0, 1) := by decide +kernel
theorem dX2_init_1 : decode cX2_init 1 = .ok (.invokespecial 3, 3) := by decide +kernel
theorem dX2_init_4 : decode cX2_init 4 = .ok (.aload_n 0, 1) := by decide +kernel
theorem dX2_init_5 : decode cX2_init 5 = .ok (.iconst 1, 1) := by decide +kernel
theorem dX2_init_6 : decode cX2_init 6 = .ok (.iload_n 1, 1) := by decide +kernel
theorem dX2_init_7 : decode cX2_init 7 = .ok (.invokestatic 9, 3) := by decide +kernel
theorem dX2_init_10 : decode cX2_init 10 = .ok (.newarray .int, 2) := by decide +kernel
theorem dX2_init_12 : decode cX2_init 12 = .ok (.putfield 15, 3) := by decide +kernel
theorem dX2_init_15 : decode cX2_init 15 = .ok (.return_, 1) := by decide +kernel
theorem dX2_passesOver_0 : decode cX2_passesOver 0 = .ok (.iconst 0, 1) := by decide +kernel
theorem dX2_passesOver_1 : decode cX2_passesOver 1 = .ok (.istore_n 2, 1) := by decide +kernel
theorem dX2_passesOver_2 : decode cX2_passesOver 2 = .ok (.iconst 0, 1) := by decide +kernel
theorem dX2_passesOver_3 : decode cX2_passesOver 3 = .ok (.istore_n 3, 1) := by decide +kernel
theorem dX2_passesOver_4 : decode cX2_passesOver 4 = .ok (.iload_n 3, 1) := by decide +kernel
theorem dX2_passesOver_5 : decode cX2_passesOver 5 = .ok (.aload_n 0, 1) := by decide +kernel
theorem dX2_passesOver_6 : decode cX2_passesOver 6 = .ok (.getfield 15, 3) := by decide +kernel
theorem dX2_passesOver_9 : decode cX2_passesOver 9 = .ok (.arraylength, 1) := by decide +kernel
theorem dX2_passesOver_10 : decode cX2_passesOver 10 = .ok (.if_icmp .gt 38, 3) := by decide +kernel
theorem dX2_passesOver_13 : decode cX2_passesOver 13 = .ok (.aload_n 0, 1) := by decide +kernel
theorem dX2_passesOver_14 : decode cX2_passesOver 14 = .ok (.aload_n 1, 1) := by decide +kernel
theorem dX2_passesOver_15 : decode cX2_passesOver 15 = .ok (.iconst 0, 1) := by decide +kernel
theorem dX2_passesOver_16 : decode cX2_passesOver 16 = .ok (.bipush 6, 2) := by decide +kernel
theorem dX2_passesOver_18 : decode cX2_passesOver 18 = .ok (.invokevirtual 21, 3) := by decide +kernel
theorem dX2_passesOver_21 : decode cX2_passesOver 21 = .ok (.aload_n 0, 1) := by decide +kernel
theorem dX2_passesOver_22 : decode cX2_passesOver 22 = .ok (.aload_n 1, 1) := by decide +kernel
theorem dX2_passesOver_23 : decode cX2_passesOver 23 = .ok (.iconst 4, 1) := by decide +kernel
theorem dX2_passesOver_24 : decode cX2_passesOver 24 = .ok (.iconst 2, 1) := by decide +kernel
theorem dX2_passesOver_25 : decode cX2_passesOver 25 = .ok (.invokevirtual 21, 3) := by decide +kernel
theorem dX2_passesOver_28 : decode cX2_passesOver 28 = .ok (.iadd, 1) := by decide +kernel
theorem dX2_passesOver_29 : decode cX2_passesOver 29 = .ok (.istore 4, 2) := by decide +kernel
theorem dX2_passesOver_31 : decode cX2_passesOver 31 = .ok (.iload 4, 2) := by decide +kernel
theorem dX2_passesOver_33 : decode cX2_passesOver 33 = .ok (.ifCond .ne 6, 3) := by decide +kernel
theorem dX2_passesOver_36 : decode cX2_passesOver 36 = .ok (.goto 12, 3) := by decide +kernel
theorem dX2_passesOver_39 : decode cX2_passesOver 39 = .ok (.iinc 2 1, 3) := by decide +kernel
theorem dX2_passesOver_42 : decode cX2_passesOver 42 = .ok (.iinc 3 1, 3) := by decide +kernel
theorem dX2_passesOver_45 : decode cX2_passesOver 45 = .ok (.goto (-41), 3) := by decide +kernel
theorem dX2_passesOver_48 : decode cX2_passesOver 48 = .ok (.iload_n 2, 1) := by decide +kernel
theorem dX2_passesOver_49 : decode cX2_passesOver 49 = .ok (.ireturn, 1) := by decide +kernel
theorem dX2_takeHalf_0 : decode cX2_takeHalf 0 = .ok (.aload_n 0, 1) := by decide +kernel
theorem dX2_takeHalf_1 : decode cX2_takeHalf 1 = .ok (.aload_n 1, 1) := by decide +kernel
theorem dX2_takeHalf_2 : decode cX2_takeHalf 2 = .ok (.iload_n 2, 1) := by decide +kernel
theorem dX2_takeHalf_3 : decode cX2_takeHalf 3 = .ok (.iload_n 3, 1) := by decide +kernel
theorem dX2_takeHalf_4 : decode cX2_takeHalf 4 = .ok (.invokevirtual 25, 3) := by decide +kernel
theorem dX2_takeHalf_7 : decode cX2_takeHalf 7 = .ok (.istore 4, 2) := by decide +kernel
theorem dX2_takeHalf_9 : decode cX2_takeHalf 9 = .ok (.iconst 0, 1) := by decide +kernel
theorem dX2_takeHalf_10 : decode cX2_takeHalf 10 = .ok (.istore 5, 2) := by decide +kernel
theorem dX2_takeHalf_12 : decode cX2_takeHalf 12 = .ok (.iconst 0, 1) := by decide +kernel
theorem dX2_takeHalf_13 : decode cX2_takeHalf 13 = .ok (.istore 6, 2) := by decide +kernel
theorem dX2_takeHalf_15 : decode cX2_takeHalf 15 = .ok (.iload 6, 2) := by decide +kernel
theorem dX2_takeHalf_17 : decode cX2_takeHalf 17 = .ok (.iload 4, 2) := by decide +kernel
theorem dX2_takeHalf_19 : decode cX2_takeHalf 19 = .ok (.if_icmp .ge 80, 3) := by decide +kernel
theorem dX2_takeHalf_22 : decode cX2_takeHalf 22 = .ok (.iload 6, 2) := by decide +kernel
theorem dX2_takeHalf_24 : decode cX2_takeHalf 24 = .ok (.aload_n 0, 1) := by decide +kernel
theorem dX2_takeHalf_25 : decode cX2_takeHalf 25 = .ok (.getfield 15, 3) := by decide +kernel
theorem dX2_takeHalf_28 : decode cX2_takeHalf 28 = .ok (.arraylength, 1) := by decide +kernel
theorem dX2_takeHalf_29 : decode cX2_takeHalf 29 = .ok (.if_icmp .ge 70, 3) := by decide +kernel
theorem dX2_takeHalf_32 : decode cX2_takeHalf 32 = .ok (.aload_n 0, 1) := by decide +kernel
theorem dX2_takeHalf_33 : decode cX2_takeHalf 33 = .ok (.getfield 15, 3) := by decide +kernel
theorem dX2_takeHalf_36 : decode cX2_takeHalf 36 = .ok (.iload 6, 2) := by decide +kernel
theorem dX2_takeHalf_38 : decode cX2_takeHalf 38 = .ok (.iaload, 1) := by decide +kernel
theorem dX2_takeHalf_39 : decode cX2_takeHalf 39 = .ok (.invokestatic 28, 3) := by decide +kernel
theorem dX2_takeHalf_42 : decode cX2_takeHalf 42 = .ok (.istore 7, 2) := by decide +kernel
theorem dX2_takeHalf_44 : decode cX2_takeHalf 44 = .ok (.aload_n 0, 1) := by decide +kernel
theorem dX2_takeHalf_45 : decode cX2_takeHalf 45 = .ok (.getfield 15, 3) := by decide +kernel
theorem dX2_takeHalf_48 : decode cX2_takeHalf 48 = .ok (.iload 6, 2) := by decide +kernel
theorem dX2_takeHalf_50 : decode cX2_takeHalf 50 = .ok (.iaload, 1) := by decide +kernel
theorem dX2_takeHalf_51 : decode cX2_takeHalf 51 = .ok (.invokestatic 32, 3) := by decide +kernel
theorem dX2_takeHalf_54 : decode cX2_takeHalf 54 = .ok (.istore 8, 2) := by decide +kernel
theorem dX2_takeHalf_56 : decode cX2_takeHalf 56 = .ok (.aload_n 1, 1) := by decide +kernel
theorem dX2_takeHalf_57 : decode cX2_takeHalf 57 = .ok (.iload 7, 2) := by decide +kernel
theorem dX2_takeHalf_59 : decode cX2_takeHalf 59 = .ok (.iload 8, 2) := by decide +kernel
theorem dX2_takeHalf_61 : decode cX2_takeHalf 61 = .ok (.invokevirtual 35, 3) := by decide +kernel
theorem dX2_takeHalf_64 : decode cX2_takeHalf 64 = .ok (.ifCond .eq 29, 3) := by decide +kernel
theorem dX2_takeHalf_67 : decode cX2_takeHalf 67 = .ok (.aload_n 1, 1) := by decide +kernel
theorem dX2_takeHalf_68 : decode cX2_takeHalf 68 = .ok (.iload 7, 2) := by decide +kernel
theorem dX2_takeHalf_70 : decode cX2_takeHalf 70 = .ok (.iload 8, 2) := by decide +kernel
theorem dX2_takeHalf_72 : decode cX2_takeHalf 72 = .ok (.invokevirtual 41, 3) := by decide +kernel
theorem dX2_takeHalf_75 : decode cX2_takeHalf 75 = .ok (.invokestatic 44, 3) := by decide +kernel
theorem dX2_takeHalf_78 : decode cX2_takeHalf 78 = .ok (.ifCond .eq 15, 3) := by decide +kernel
theorem dX2_takeHalf_81 : decode cX2_takeHalf 81 = .ok (.aload_n 1, 1) := by decide +kernel
theorem dX2_takeHalf_82 : decode cX2_takeHalf 82 = .ok (.iload 7, 2) := by decide +kernel
theorem dX2_takeHalf_84 : decode cX2_takeHalf 84 = .ok (.iload 8, 2) := by decide +kernel
theorem dX2_takeHalf_86 : decode cX2_takeHalf 86 = .ok (.iconst 0, 1) := by decide +kernel
theorem dX2_takeHalf_87 : decode cX2_takeHalf 87 = .ok (.invokevirtual 48, 3) := by decide +kernel
theorem dX2_takeHalf_90 : decode cX2_takeHalf 90 = .ok (.iinc 5 1, 3) := by decide +kernel
theorem dX2_takeHalf_93 : decode cX2_takeHalf 93 = .ok (.iinc 6 1, 3) := by decide +kernel
theorem dX2_takeHalf_96 : decode cX2_takeHalf 96 = .ok (.goto (-81), 3) := by decide +kernel
theorem dX2_takeHalf_99 : decode cX2_takeHalf 99 = .ok (.iload 5, 2) := by decide +kernel
theorem dX2_takeHalf_101 : decode cX2_takeHalf 101 = .ok (.ireturn, 1) := by decide +kernel
theorem dX2_collect_0 : decode cX2_collect 0 = .ok (.iconst 0, 1) := by decide +kernel
theorem dX2_collect_1 : decode cX2_collect 1 = .ok (.istore 4, 2) := by decide +kernel
theorem dX2_collect_3 : decode cX2_collect 3 = .ok (.iconst 0, 1) := by decide +kernel
theorem dX2_collect_4 : decode cX2_collect 4 = .ok (.istore 5, 2) := by decide +kernel
theorem dX2_collect_6 : decode cX2_collect 6 = .ok (.iload 5, 2) := by decide +kernel
theorem dX2_collect_8 : decode cX2_collect 8 = .ok (.aload_n 1, 1) := by decide +kernel
theorem dX2_collect_9 : decode cX2_collect 9 = .ok (.getfield 52, 3) := by decide +kernel
theorem dX2_collect_12 : decode cX2_collect 12 = .ok (.if_icmp .ge 116, 3) := by decide +kernel
theorem dX2_collect_15 : decode cX2_collect 15 = .ok (.iconst 0, 1) := by decide +kernel
theorem dX2_collect_16 : decode cX2_collect 16 = .ok (.istore 6, 2) := by decide +kernel
theorem dX2_collect_18 : decode cX2_collect 18 = .ok (.iload 6, 2) := by decide +kernel
theorem dX2_collect_20 : decode cX2_collect 20 = .ok (.aload_n 1, 1) := by decide +kernel
theorem dX2_collect_21 : decode cX2_collect 21 = .ok (.getfield 56, 3) := by decide +kernel
theorem dX2_collect_24 : decode cX2_collect 24 = .ok (.if_icmp .ge 98, 3) := by decide +kernel
theorem dX2_collect_27 : decode cX2_collect 27 = .ok (.aload_n 1, 1) := by decide +kernel
theorem dX2_collect_28 : decode cX2_collect 28 = .ok (.iload 6, 2) := by decide +kernel
theorem dX2_collect_30 : decode cX2_collect 30 = .ok (.iload 5, 2) := by decide +kernel
theorem dX2_collect_32 : decode cX2_collect 32 = .ok (.invokevirtual 35, 3) := by decide +kernel
theorem dX2_collect_35 : decode cX2_collect 35 = .ok (.ifCond .ne 6, 3) := by decide +kernel
theorem dX2_collect_38 : decode cX2_collect 38 = .ok (.goto 78, 3) := by decide +kernel
theorem dX2_collect_41 : decode cX2_collect 41 = .ok (.aload_n 1, 1) := by decide +kernel
theorem dX2_collect_42 : decode cX2_collect 42 = .ok (.iload 6, 2) := by decide +kernel
theorem dX2_collect_44 : decode cX2_collect 44 = .ok (.iload 5, 2) := by decide +kernel
theorem dX2_collect_46 : decode cX2_collect 46 = .ok (.invokevirtual 41, 3) := by decide +kernel
theorem dX2_collect_49 : decode cX2_collect 49 = .ok (.istore 7, 2) := by decide +kernel
theorem dX2_collect_51 : decode cX2_collect 51 = .ok (.iload 7, 2) := by decide +kernel
theorem dX2_collect_53 : decode cX2_collect 53 = .ok (.iload_n 2, 1) := by decide +kernel
theorem dX2_collect_54 : decode cX2_collect 54 = .ok (.invokestatic 59, 3) := by decide +kernel
theorem dX2_collect_57 : decode cX2_collect 57 = .ok (.ifCond .eq 12, 3) := by decide +kernel
theorem dX2_collect_60 : decode cX2_collect 60 = .ok (.iload 7, 2) := by decide +kernel
theorem dX2_collect_62 : decode cX2_collect 62 = .ok (.iload_n 3, 1) := by decide +kernel
theorem dX2_collect_63 : decode cX2_collect 63 = .ok (.invokestatic 59, 3) := by decide +kernel
theorem dX2_collect_66 : decode cX2_collect 66 = .ok (.ifCond .ne 7, 3) := by decide +kernel
theorem dX2_collect_69 : decode cX2_collect 69 = .ok (.iconst 1, 1) := by decide +kernel
theorem dX2_collect_70 : decode cX2_collect 70 = .ok (.goto 4, 3) := by decide +kernel
theorem dX2_collect_73 : decode cX2_collect 73 = .ok (.iconst 0, 1) := by decide +kernel
theorem dX2_collect_74 : decode cX2_collect 74 = .ok (.istore 8, 2) := by decide +kernel
theorem dX2_collect_76 : decode cX2_collect 76 = .ok (.iload 8, 2) := by decide +kernel
theorem dX2_collect_78 : decode cX2_collect 78 = .ok (.ifCond .eq 38, 3) := by decide +kernel
theorem dX2_collect_81 : decode cX2_collect 81 = .ok (.iload 7, 2) := by decide +kernel
theorem dX2_collect_83 : decode cX2_collect 83 = .ok (.invokestatic 44, 3) := by decide +kernel
theorem dX2_collect_86 : decode cX2_collect 86 = .ok (.ifCond .eq 30, 3) := by decide +kernel
theorem dX2_collect_89 : decode cX2_collect 89 = .ok (.iload 4, 2) := by decide +kernel
theorem dX2_collect_91 : decode cX2_collect 91 = .ok (.aload_n 0, 1) := by decide +kernel
theorem dX2_collect_92 : decode cX2_collect 92 = .ok (.getfield 15, 3) := by decide +kernel
theorem dX2_collect_95 : decode cX2_collect 95 = .ok (.arraylength, 1) := by decide +kernel
theorem dX2_collect_96 : decode cX2_collect 96 = .ok (.if_icmp .ge 20, 3) := by decide +kernel
theorem dX2_collect_99 : decode cX2_collect 99 = .ok (.aload_n 0, 1) := by decide +kernel
theorem dX2_collect_100 : decode cX2_collect 100 = .ok (.getfield 15, 3) := by decide +kernel
theorem dX2_collect_103 : decode cX2_collect 103 = .ok (.iload 4, 2) := by decide +kernel
theorem dX2_collect_105 : decode cX2_collect 105 = .ok (.iload 6, 2) := by decide +kernel
theorem dX2_collect_107 : decode cX2_collect 107 = .ok (.iload 5, 2) := by decide +kernel
theorem dX2_collect_109 : decode cX2_collect 109 = .ok (.invokestatic 62, 3) := by decide +kernel
theorem dX2_collect_112 : decode cX2_collect 112 = .ok (.iastore, 1) := by decide +kernel
theorem dX2_collect_113 : decode cX2_collect 113 = .ok (.iinc 4 1, 3) := by decide +kernel
theorem dX2_collect_116 : decode cX2_collect 116 = .ok (.iinc 6 1, 3) := by decide +kernel
theorem dX2_collect_119 : decode cX2_collect 119 = .ok (.goto (-101), 3) := by decide +kernel
theorem dX2_collect_122 : decode cX2_collect 122 = .ok (.iinc 5 1, 3) := by decide +kernel
theorem dX2_collect_125 : decode cX2_collect 125 = .ok (.goto (-119), 3) := by decide +kernel
theorem dX2_collect_128 : decode cX2_collect 128 = .ok (.iload 4, 2) := by decide +kernel
theorem dX2_collect_130 : decode cX2_collect 130 = .ok (.ireturn, 1) := by decide +kernel
theorem dX2_mayGo_0 : decode cX2_mayGo 0 = .ok (.iload_n 0, 1) := by decide +kernel
theorem dX2_mayGo_1 : decode cX2_mayGo 1 = .ok (.invokestatic 65, 3) := by decide +kernel
theorem dX2_mayGo_4 : decode cX2_mayGo 4 = .ok (.iconst 1, 1) := by decide +kernel
theorem dX2_mayGo_5 : decode cX2_mayGo 5 = .ok (.if_icmp .ne 7, 3) := by decide +kernel
theorem dX2_mayGo_8 : decode cX2_mayGo 8 = .ok (.iconst 1, 1) := by decide +kernel
theorem dX2_mayGo_9 : decode cX2_mayGo 9 = .ok (.goto 4, 3) := by decide +kernel
theorem dX2_mayGo_12 : decode cX2_mayGo 12 = .ok (.iconst 0, 1) := by decide +kernel
theorem dX2_mayGo_13 : decode cX2_mayGo 13 = .ok (.istore_n 1, 1) := by decide +kernel
theorem dX2_mayGo_14 : decode cX2_mayGo 14 = .ok (.iload_n 1, 1) := by decide +kernel
theorem dX2_mayGo_15 : decode cX2_mayGo 15 = .ok (.ifCond .ne 14, 3) := by decide +kernel
theorem dX2_mayGo_18 : decode cX2_mayGo 18 = .ok (.iload_n 0, 1) := by decide +kernel
theorem dX2_mayGo_19 : decode cX2_mayGo 19 = .ok (.invokestatic 70, 3) := by decide +kernel
theorem dX2_mayGo_22 : decode cX2_mayGo 22 = .ok (.ifCond .eq 7, 3) := by decide +kernel
theorem dX2_mayGo_25 : decode cX2_mayGo 25 = .ok (.iconst 1, 1) := by decide +kernel
theorem dX2_mayGo_26 : decode cX2_mayGo 26 = .ok (.goto 4, 3) := by decide +kernel
theorem dX2_mayGo_29 : decode cX2_mayGo 29 = .ok (.iconst 0, 1) := by decide +kernel
theorem dX2_mayGo_30 : decode cX2_mayGo 30 = .ok (.ireturn, 1) := by decide +kernel
theorem dX2_isSimple_0 : decode cX2_isSimple 0 = .ok (.iconst 0, 1) := by decide +kernel
theorem dX2_isSimple_1 : decode cX2_isSimple 1 = .ok (.istore_n 1, 1) := by decide +kernel
theorem dX2_isSimple_2 : decode cX2_isSimple 2 = .ok (.iconst 0, 1) := by decide +kernel
theorem dX2_isSimple_3 : decode cX2_isSimple 3 = .ok (.istore_n 2, 1) := by decide +kernel
theorem dX2_isSimple_4 : decode cX2_isSimple 4 = .ok (.iload_n 2, 1) := by decide +kernel
theorem dX2_isSimple_5 : decode cX2_isSimple 5 = .ok (.bipush 8, 2) := by decide +kernel
theorem dX2_isSimple_7 : decode cX2_isSimple 7 = .ok (.if_icmp .ge 40, 3) := by decide +kernel
theorem dX2_isSimple_10 : decode cX2_isSimple 10 = .ok (.iload_n 0, 1) := by decide +kernel
theorem dX2_isSimple_11 : decode cX2_isSimple 11 = .ok (.iload_n 2, 1) := by decide +kernel
theorem dX2_isSimple_12 : decode cX2_isSimple 12 = .ok (.invokestatic 59, 3) := by decide +kernel
theorem dX2_isSimple_15 : decode cX2_isSimple 15 = .ok (.ifCond .ne 26, 3) := by decide +kernel
theorem dX2_isSimple_18 : decode cX2_isSimple 18 = .ok (.iload_n 0, 1) := by decide +kernel
theorem dX2_isSimple_19 : decode cX2_isSimple 19 = .ok (.iload_n 2, 1) := by decide +kernel
theorem dX2_isSimple_20 : decode cX2_isSimple 20 = .ok (.iconst 1, 1) := by decide +kernel
theorem dX2_isSimple_21 : decode cX2_isSimple 21 = .ok (.iadd, 1) := by decide +kernel
theorem dX2_isSimple_22 : decode cX2_isSimple 22 = .ok (.invokestatic 59, 3) := by decide +kernel
theorem dX2_isSimple_25 : decode cX2_isSimple 25 = .ok (.ifCond .ne 13, 3) := by decide +kernel
theorem dX2_isSimple_28 : decode cX2_isSimple 28 = .ok (.iload_n 0, 1) := by decide +kernel
theorem dX2_isSimple_29 : decode cX2_isSimple 29 = .ok (.iload_n 2, 1) := by decide +kernel
theorem dX2_isSimple_30 : decode cX2_isSimple 30 = .ok (.iconst 2, 1) := by decide +kernel
theorem dX2_isSimple_31 : decode cX2_isSimple 31 = .ok (.iadd, 1) := by decide +kernel
theorem dX2_isSimple_32 : decode cX2_isSimple 32 = .ok (.invokestatic 59, 3) := by decide +kernel
theorem dX2_isSimple_35 : decode cX2_isSimple 35 = .ok (.ifCond .eq 6, 3) := by decide +kernel
theorem dX2_isSimple_38 : decode cX2_isSimple 38 = .ok (.iinc 1 1, 3) := by decide +kernel
theorem dX2_isSimple_41 : decode cX2_isSimple 41 = .ok (.iinc 2 2, 3) := by decide +kernel
theorem dX2_isSimple_44 : decode cX2_isSimple 44 = .ok (.goto (-40), 3) := by decide +kernel
theorem dX2_isSimple_47 : decode cX2_isSimple 47 = .ok (.iload_n 1, 1) := by decide +kernel
theorem dX2_isSimple_48 : decode cX2_isSimple 48 = .ok (.iconst 1, 1) := by decide +kernel
theorem dX2_isSimple_49 : decode cX2_isSimple 49 = .ok (.if_icmp .ne 7, 3) := by decide +kernel
theorem dX2_isSimple_52 : decode cX2_isSimple 52 = .ok (.iconst 1, 1) := by decide +kernel
theorem dX2_isSimple_53 : decode cX2_isSimple 53 = .ok (.goto 4, 3) := by decide +kernel
theorem dX2_isSimple_56 : decode cX2_isSimple 56 = .ok (.iconst 0, 1) := by decide +kernel
theorem dX2_isSimple_57 : decode cX2_isSimple 57 = .ok (.ireturn, 1) := by decide +kernel
theorem dX3_init_0 : decode cX3_init 0 = .ok (.aload_n 0, 1) := by decide +kernel
theorem dX3_init_1 : decode cX3_init 1 = .ok (.invokespecial 3, 3) := by decide +kernel
theorem dX3_init_4 : decode cX3_init 4 = .ok (.iload_n 2, 1) := by decide +kernel
theorem dX3_init_5 : decode cX3_init 5 = .ok (.invokestatic 9, 3) := by decide +kernel
theorem dX3_init_8 : decode cX3_init 8 = .ok (.istore_n 3, 1) := by decide +kernel
theorem dX3_init_9 : decode cX3_init 9 = .ok (.iload_n 1, 1) := by decide +kernel
theorem dX3_init_10 : decode cX3_init 10 = .ok (.invokestatic 9, 3) := by decide +kernel
theorem dX3_init_13 : decode cX3_init 13 = .ok (.iload_n 3, 1) := by decide +kernel
theorem dX3_init_14 : decode cX3_init 14 = .ok (.imul, 1) := by decide +kernel
theorem dX3_init_15 : decode cX3_init 15 = .ok (.istore 4, 2) := by decide +kernel
theorem dX3_init_17 : decode cX3_init 17 = .ok (.aload_n 0, 1) := by decide +kernel
theorem dX3_init_18 : decode cX3_init 18 = .ok (.iload_n 3, 1) := by decide +kernel
theorem dX3_init_19 : decode cX3_init 19 = .ok (.iconst 5, 1) := by decide +kernel
theorem dX3_init_20 : decode cX3_init 20 = .ok (.ishl, 1) := by decide +kernel
theorem dX3_init_21 : decode cX3_init 21 = .ok (.newarray .int, 2) := by decide +kernel
theorem dX3_init_23 : decode cX3_init 23 = .ok (.putfield 13, 3) := by decide +kernel
theorem dX3_init_26 : decode cX3_init 26 = .ok (.aload_n 0, 1) := by decide +kernel
theorem dX3_init_27 : decode cX3_init 27 = .ok (.iload_n 3, 1) := by decide +kernel
theorem dX3_init_28 : decode cX3_init 28 = .ok (.iconst 5, 1) := by decide +kernel
theorem dX3_init_29 : decode cX3_init 29 = .ok (.ishl, 1) := by decide +kernel
theorem dX3_init_30 : decode cX3_init 30 = .ok (.newarray .int, 2) := by decide +kernel
theorem dX3_init_32 : decode cX3_init 32 = .ok (.putfield 19, 3) := by decide +kernel
theorem dX3_init_35 : decode cX3_init 35 = .ok (.aload_n 0, 1) := by decide +kernel
theorem dX3_init_36 : decode cX3_init 36 = .ok (.iconst 4, 1) := by decide +kernel
theorem dX3_init_37 : decode cX3_init 37 = .ok (.iload 4, 2) := by decide +kernel
theorem dX3_init_39 : decode cX3_init 39 = .ok (.imul, 1) := by decide +kernel
theorem dX3_init_40 : decode cX3_init 40 = .ok (.newarray .int, 2) := by decide +kernel
theorem dX3_init_42 : decode cX3_init 42 = .ok (.putfield 22, 3) := by decide +kernel
theorem dX3_init_45 : decode cX3_init 45 = .ok (.aload_n 0, 1) := by decide +kernel
theorem dX3_init_46 : decode cX3_init 46 = .ok (.iconst 2, 1) := by decide +kernel
theorem dX3_init_47 : decode cX3_init 47 = .ok (.iload 4, 2) := by decide +kernel
theorem dX3_init_49 : decode cX3_init 49 = .ok (.imul, 1) := by decide +kernel
theorem dX3_init_50 : decode cX3_init 50 = .ok (.iconst 1, 1) := by decide +kernel
theorem dX3_init_51 : decode cX3_init 51 = .ok (.iadd, 1) := by decide +kernel
theorem dX3_init_52 : decode cX3_init 52 = .ok (.newarray .int, 2) := by decide +kernel
theorem dX3_init_54 : decode cX3_init 54 = .ok (.putfield 25, 3) := by decide +kernel
theorem dX3_init_57 : decode cX3_init 57 = .ok (.aload_n 0, 1) := by decide +kernel
theorem dX3_init_58 : decode cX3_init 58 = .ok (.iload 4, 2) := by decide +kernel
theorem dX3_init_60 : decode cX3_init 60 = .ok (.newarray .int, 2) := by decide +kernel
theorem dX3_init_62 : decode cX3_init 62 = .ok (.putfield 28, 3) := by decide +kernel
theorem dX3_init_65 : decode cX3_init 65 = .ok (.return_, 1) := by decide +kernel
theorem dX3_strokeCount_0 : decode cX3_strokeCount 0 = .ok (.aload_n 0, 1) := by decide +kernel
theorem dX3_strokeCount_1 : decode cX3_strokeCount 1 = .ok (.getfield 31, 3) := by decide +kernel
theorem dX3_strokeCount_4 : decode cX3_strokeCount 4 = .ok (.ireturn, 1) := by decide +kernel
theorem dX3_crossingCount_0 : decode cX3_crossingCount 0 = .ok (.aload_n 0, 1) := by decide +kernel
theorem dX3_crossingCount_1 : decode cX3_crossingCount 1 = .ok (.getfield 35, 3) := by decide +kernel
theorem dX3_crossingCount_4 : decode cX3_crossingCount 4 = .ok (.ireturn, 1) := by decide +kernel
theorem dX3_crossingPlace_0 : decode cX3_crossingPlace 0 = .ok (.iload_n 1, 1) := by decide +kernel
theorem dX3_crossingPlace_1 : decode cX3_crossingPlace 1 = .ok (.ifCond .lt 29, 3) := by decide +kernel
theorem dX3_crossingPlace_4 : decode cX3_crossingPlace 4 = .ok (.iload_n 1, 1) := by decide +kernel
theorem dX3_crossingPlace_5 : decode cX3_crossingPlace 5 = .ok (.aload_n 0, 1) := by decide +kernel
theorem dX3_crossingPlace_6 : decode cX3_crossingPlace 6 = .ok (.getfield 35, 3) := by decide +kernel
theorem dX3_crossingPlace_9 : decode cX3_crossingPlace 9 = .ok (.if_icmp .ge 21, 3) := by decide +kernel
theorem dX3_crossingPlace_12 : decode cX3_crossingPlace 12 = .ok (.iload_n 1, 1) := by decide +kernel
theorem dX3_crossingPlace_13 : decode cX3_crossingPlace 13 = .ok (.aload_n 0, 1) := by decide +kernel
theorem dX3_crossingPlace_14 : decode cX3_crossingPlace 14 = .ok (.getfield 28, 3) := by decide +kernel
theorem dX3_crossingPlace_17 : decode cX3_crossingPlace 17 = .ok (.arraylength, 1) := by decide +kernel
theorem dX3_crossingPlace_18 : decode cX3_crossingPlace 18 = .ok (.if_icmp .ge 12, 3) := by decide +kernel
theorem dX3_crossingPlace_21 : decode cX3_crossingPlace 21 = .ok (.aload_n 0, 1) := by decide +kernel
theorem dX3_crossingPlace_22 : decode cX3_crossingPlace 22 = .ok (.getfield 28, 3) := by decide +kernel
theorem dX3_crossingPlace_25 : decode cX3_crossingPlace 25 = .ok (.iload_n 1, 1) := by decide +kernel
theorem dX3_crossingPlace_26 : decode cX3_crossingPlace 26 = .ok (.iaload, 1) := by decide +kernel
theorem dX3_crossingPlace_27 : decode cX3_crossingPlace 27 = .ok (.goto 4, 3) := by decide +kernel
theorem dX3_crossingPlace_30 : decode cX3_crossingPlace 30 = .ok (.iconst (-1), 1) := by decide +kernel
theorem dX3_crossingPlace_31 : decode cX3_crossingPlace 31 = .ok (.ireturn, 1) := by decide +kernel
theorem dX3_lengthOf_0 : decode cX3_lengthOf 0 = .ok (.iload_n 1, 1) := by decide +kernel
theorem dX3_lengthOf_1 : decode cX3_lengthOf 1 = .ok (.ifCond .lt 22, 3) := by decide +kernel
theorem dX3_lengthOf_4 : decode cX3_lengthOf 4 = .ok (.iload_n 1, 1) := by decide +kernel
theorem dX3_lengthOf_5 : decode cX3_lengthOf 5 = .ok (.aload_n 0, 1) := by decide +kernel
theorem dX3_lengthOf_6 : decode cX3_lengthOf 6 = .ok (.getfield 31, 3) := by decide +kernel
theorem dX3_lengthOf_9 : decode cX3_lengthOf 9 = .ok (.if_icmp .ge 14, 3) := by decide +kernel
theorem dX3_lengthOf_12 : decode cX3_lengthOf 12 = .ok (.iload_n 1, 1) := by decide +kernel
theorem dX3_lengthOf_13 : decode cX3_lengthOf 13 = .ok (.iconst 1, 1) := by decide +kernel
theorem dX3_lengthOf_14 : decode cX3_lengthOf 14 = .ok (.iadd, 1) := by decide +kernel
theorem dX3_lengthOf_15 : decode cX3_lengthOf 15 = .ok (.aload_n 0, 1) := by decide +kernel
theorem dX3_lengthOf_16 : decode cX3_lengthOf 16 = .ok (.getfield 25, 3) := by decide +kernel
theorem dX3_lengthOf_19 : decode cX3_lengthOf 19 = .ok (.arraylength, 1) := by decide +kernel
theorem dX3_lengthOf_20 : decode cX3_lengthOf 20 = .ok (.if_icmp .lt 5, 3) := by decide +kernel
theorem dX3_lengthOf_23 : decode cX3_lengthOf 23 = .ok (.iconst 0, 1) := by decide +kernel
theorem dX3_lengthOf_24 : decode cX3_lengthOf 24 = .ok (.ireturn, 1) := by decide +kernel
theorem dX3_lengthOf_25 : decode cX3_lengthOf 25 = .ok (.aload_n 0, 1) := by decide +kernel
theorem dX3_lengthOf_26 : decode cX3_lengthOf 26 = .ok (.getfield 25, 3) := by decide +kernel
theorem dX3_lengthOf_29 : decode cX3_lengthOf 29 = .ok (.iload_n 1, 1) := by decide +kernel
theorem dX3_lengthOf_30 : decode cX3_lengthOf 30 = .ok (.iconst 1, 1) := by decide +kernel
theorem dX3_lengthOf_31 : decode cX3_lengthOf 31 = .ok (.iadd, 1) := by decide +kernel
theorem dX3_lengthOf_32 : decode cX3_lengthOf 32 = .ok (.iaload, 1) := by decide +kernel
theorem dX3_lengthOf_33 : decode cX3_lengthOf 33 = .ok (.aload_n 0, 1) := by decide +kernel
theorem dX3_lengthOf_34 : decode cX3_lengthOf 34 = .ok (.getfield 25, 3) := by decide +kernel
theorem dX3_lengthOf_37 : decode cX3_lengthOf 37 = .ok (.iload_n 1, 1) := by decide +kernel
theorem dX3_lengthOf_38 : decode cX3_lengthOf 38 = .ok (.iaload, 1) := by decide +kernel
theorem dX3_lengthOf_39 : decode cX3_lengthOf 39 = .ok (.isub, 1) := by decide +kernel
theorem dX3_lengthOf_40 : decode cX3_lengthOf 40 = .ok (.ireturn, 1) := by decide +kernel
theorem dX3_sampleOf_0 : decode cX3_sampleOf 0 = .ok (.iload_n 2, 1) := by decide +kernel
theorem dX3_sampleOf_1 : decode cX3_sampleOf 1 = .ok (.ifCond .lt 12, 3) := by decide +kernel
theorem dX3_sampleOf_4 : decode cX3_sampleOf 4 = .ok (.iload_n 2, 1) := by decide +kernel
theorem dX3_sampleOf_5 : decode cX3_sampleOf 5 = .ok (.aload_n 0, 1) := by decide +kernel
theorem dX3_sampleOf_6 : decode cX3_sampleOf 6 = .ok (.iload_n 1, 1) := by decide +kernel
theorem dX3_sampleOf_7 : decode cX3_sampleOf 7 = .ok (.invokevirtual 38, 3) := by decide +kernel
theorem dX3_sampleOf_10 : decode cX3_sampleOf 10 = .ok (.if_icmp .lt 5, 3) := by decide +kernel
theorem dX3_sampleOf_13 : decode cX3_sampleOf 13 = .ok (.iconst (-1), 1) := by decide +kernel
theorem dX3_sampleOf_14 : decode cX3_sampleOf 14 = .ok (.ireturn, 1) := by decide +kernel
theorem dX3_sampleOf_15 : decode cX3_sampleOf 15 = .ok (.aload_n 0, 1) := by decide +kernel
theorem dX3_sampleOf_16 : decode cX3_sampleOf 16 = .ok (.getfield 25, 3) := by decide +kernel
theorem dX3_sampleOf_19 : decode cX3_sampleOf 19 = .ok (.iload_n 1, 1) := by decide +kernel
theorem dX3_sampleOf_20 : decode cX3_sampleOf 20 = .ok (.iaload, 1) := by decide +kernel
theorem dX3_sampleOf_21 : decode cX3_sampleOf 21 = .ok (.iload_n 2, 1) := by decide +kernel
theorem dX3_sampleOf_22 : decode cX3_sampleOf 22 = .ok (.iadd, 1) := by decide +kernel
theorem dX3_sampleOf_23 : decode cX3_sampleOf 23 = .ok (.istore_n 3, 1) := by decide +kernel
theorem dX3_sampleOf_24 : decode cX3_sampleOf 24 = .ok (.iload_n 3, 1) := by decide +kernel
theorem dX3_sampleOf_25 : decode cX3_sampleOf 25 = .ok (.ifCond .lt 21, 3) := by decide +kernel
theorem dX3_sampleOf_28 : decode cX3_sampleOf 28 = .ok (.iload_n 3, 1) := by decide +kernel
theorem dX3_sampleOf_29 : decode cX3_sampleOf 29 = .ok (.aload_n 0, 1) := by decide +kernel
theorem dX3_sampleOf_30 : decode cX3_sampleOf 30 = .ok (.getfield 22, 3) := by decide +kernel
theorem dX3_sampleOf_33 : decode cX3_sampleOf 33 = .ok (.arraylength, 1) := by decide +kernel
theorem dX3_sampleOf_34 : decode cX3_sampleOf 34 = .ok (.if_icmp .ge 12, 3) := by decide +kernel
theorem dX3_sampleOf_37 : decode cX3_sampleOf 37 = .ok (.aload_n 0, 1) := by decide +kernel
theorem dX3_sampleOf_38 : decode cX3_sampleOf 38 = .ok (.getfield 22, 3) := by decide +kernel
theorem dX3_sampleOf_41 : decode cX3_sampleOf 41 = .ok (.iload_n 3, 1) := by decide +kernel
theorem dX3_sampleOf_42 : decode cX3_sampleOf 42 = .ok (.iaload, 1) := by decide +kernel
theorem dX3_sampleOf_43 : decode cX3_sampleOf 43 = .ok (.goto 4, 3) := by decide +kernel
theorem dX3_sampleOf_46 : decode cX3_sampleOf 46 = .ok (.iconst (-1), 1) := by decide +kernel
theorem dX3_sampleOf_47 : decode cX3_sampleOf 47 = .ok (.ireturn, 1) := by decide +kernel
theorem dX3_degreeOf_0 : decode cX3_degreeOf 0 = .ok (.aload_n 0, 1) := by decide +kernel
theorem dX3_degreeOf_1 : decode cX3_degreeOf 1 = .ok (.iload_n 1, 1) := by decide +kernel
theorem dX3_degreeOf_2 : decode cX3_degreeOf 2 = .ok (.invokevirtual 41, 3) := by decide +kernel
theorem dX3_degreeOf_5 : decode cX3_degreeOf 5 = .ok (.invokestatic 44, 3) := by decide +kernel
theorem dX3_degreeOf_8 : decode cX3_degreeOf 8 = .ok (.ireturn, 1) := by decide +kernel
theorem dX3_trace_0 : decode cX3_trace 0 = .ok (.aload_n 0, 1) := by decide +kernel
theorem dX3_trace_1 : decode cX3_trace 1 = .ok (.iconst 0, 1) := by decide +kernel
theorem dX3_trace_2 : decode cX3_trace 2 = .ok (.putfield 31, 3) := by decide +kernel
theorem dX3_trace_5 : decode cX3_trace 5 = .ok (.aload_n 0, 1) := by decide +kernel
theorem dX3_trace_6 : decode cX3_trace 6 = .ok (.iconst 0, 1) := by decide +kernel
theorem dX3_trace_7 : decode cX3_trace 7 = .ok (.putfield 49, 3) := by decide +kernel
theorem dX3_trace_10 : decode cX3_trace 10 = .ok (.aload_n 0, 1) := by decide +kernel
theorem dX3_trace_11 : decode cX3_trace 11 = .ok (.iconst 0, 1) := by decide +kernel
theorem dX3_trace_12 : decode cX3_trace 12 = .ok (.putfield 35, 3) := by decide +kernel
theorem dX3_trace_15 : decode cX3_trace 15 = .ok (.aload_n 0, 1) := by decide +kernel
theorem dX3_trace_16 : decode cX3_trace 16 = .ok (.aload_n 1, 1) := by decide +kernel
theorem dX3_trace_17 : decode cX3_trace 17 = .ok (.invokevirtual 52, 3) := by decide +kernel
theorem dX3_trace_20 : decode cX3_trace 20 = .ok (.aload_n 0, 1) := by decide +kernel
theorem dX3_trace_21 : decode cX3_trace 21 = .ok (.aload_n 1, 1) := by decide +kernel
theorem dX3_trace_22 : decode cX3_trace 22 = .ok (.invokevirtual 56, 3) := by decide +kernel
theorem dX3_trace_25 : decode cX3_trace 25 = .ok (.aload_n 0, 1) := by decide +kernel
theorem dX3_trace_26 : decode cX3_trace 26 = .ok (.aload_n 1, 1) := by decide +kernel
theorem dX3_trace_27 : decode cX3_trace 27 = .ok (.invokevirtual 59, 3) := by decide +kernel
theorem dX3_trace_30 : decode cX3_trace 30 = .ok (.aload_n 0, 1) := by decide +kernel
theorem dX3_trace_31 : decode cX3_trace 31 = .ok (.aload_n 1, 1) := by decide +kernel
theorem dX3_trace_32 : decode cX3_trace 32 = .ok (.invokevirtual 62, 3) := by decide +kernel
theorem dX3_trace_35 : decode cX3_trace 35 = .ok (.return_, 1) := by decide +kernel
theorem dX3_cutShort_0 : decode cX3_cutShort 0 = .ok (.iconst 0, 1) := by decide +kernel
theorem dX3_cutShort_1 : decode cX3_cutShort 1 = .ok (.istore_n 3, 1) := by decide +kernel
theorem dX3_cutShort_2 : decode cX3_cutShort 2 = .ok (.iconst 0, 1) := by decide +kernel
theorem dX3_cutShort_3 : decode cX3_cutShort 3 = .ok (.istore 4, 2) := by decide +kernel
theorem dX3_cutShort_5 : decode cX3_cutShort 5 = .ok (.iload 4, 2) := by decide +kernel
theorem dX3_cutShort_7 : decode cX3_cutShort 7 = .ok (.aload_n 0, 1) := by decide +kernel
theorem dX3_cutShort_8 : decode cX3_cutShort 8 = .ok (.getfield 31, 3) := by decide +kernel
theorem dX3_cutShort_11 : decode cX3_cutShort 11 = .ok (.if_icmp .ge 56, 3) := by decide +kernel
theorem dX3_cutShort_14 : decode cX3_cutShort 14 = .ok (.aload_n 0, 1) := by decide +kernel
theorem dX3_cutShort_15 : decode cX3_cutShort 15 = .ok (.iload 4, 2) := by decide +kernel
theorem dX3_cutShort_17 : decode cX3_cutShort 17 = .ok (.invokevirtual 65, 3) := by decide +kernel
theorem dX3_cutShort_20 : decode cX3_cutShort 20 = .ok (.istore 5, 2) := by decide +kernel
theorem dX3_cutShort_22 : decode cX3_cutShort 22 = .ok (.iload 5, 2) := by decide +kernel
theorem dX3_cutShort_24 : decode cX3_cutShort 24 = .ok (.iconst (-1), 1) := by decide +kernel
theorem dX3_cutShort_25 : decode cX3_cutShort 25 = .ok (.if_icmp .eq 36, 3) := by decide +kernel
theorem dX3_cutShort_28 : decode cX3_cutShort 28 = .ok (.aload_n 0, 1) := by decide +kernel
theorem dX3_cutShort_29 : decode cX3_cutShort 29 = .ok (.iload 4, 2) := by decide +kernel
theorem dX3_cutShort_31 : decode cX3_cutShort 31 = .ok (.invokevirtual 38, 3) := by decide +kernel
theorem dX3_cutShort_34 : decode cX3_cutShort 34 = .ok (.iconst 1, 1) := by decide +kernel
theorem dX3_cutShort_35 : decode cX3_cutShort 35 = .ok (.isub, 1) := by decide +kernel
theorem dX3_cutShort_36 : decode cX3_cutShort 36 = .ok (.iload_n 2, 1) := by decide +kernel
theorem dX3_cutShort_37 : decode cX3_cutShort 37 = .ok (.if_icmp .ge 24, 3) := by decide +kernel
theorem dX3_cutShort_40 : decode cX3_cutShort 40 = .ok (.aload_n 1, 1) := by decide +kernel
theorem dX3_cutShort_41 : decode cX3_cutShort 41 = .ok (.iload 5, 2) := by decide +kernel
theorem dX3_cutShort_43 : decode cX3_cutShort 43 = .ok (.invokestatic 68, 3) := by decide +kernel
theorem dX3_cutShort_46 : decode cX3_cutShort 46 = .ok (.ifCond .eq 15, 3) := by decide +kernel
theorem dX3_cutShort_49 : decode cX3_cutShort 49 = .ok (.iload_n 3, 1) := by decide +kernel
theorem dX3_cutShort_50 : decode cX3_cutShort 50 = .ok (.aload_n 0, 1) := by decide +kernel
theorem dX3_cutShort_51 : decode cX3_cutShort 51 = .ok (.aload_n 1, 1) := by decide +kernel
theorem dX3_cutShort_52 : decode cX3_cutShort 52 = .ok (.iload 4, 2) := by decide +kernel
theorem dX3_cutShort_54 : decode cX3_cutShort 54 = .ok (.iload 5, 2) := by decide +kernel
theorem dX3_cutShort_56 : decode cX3_cutShort 56 = .ok (.invokevirtual 72, 3) := by decide +kernel
theorem dX3_cutShort_59 : decode cX3_cutShort 59 = .ok (.iadd, 1) := by decide +kernel
theorem dX3_cutShort_60 : decode cX3_cutShort 60 = .ok (.istore_n 3, 1) := by decide +kernel
theorem dX3_cutShort_61 : decode cX3_cutShort 61 = .ok (.iinc 4 1, 3) := by decide +kernel
theorem dX3_cutShort_64 : decode cX3_cutShort 64 = .ok (.goto (-59), 3) := by decide +kernel
theorem dX3_cutShort_67 : decode cX3_cutShort 67 = .ok (.iload_n 3, 1) := by decide +kernel
theorem dX3_cutShort_68 : decode cX3_cutShort 68 = .ok (.ireturn, 1) := by decide +kernel
theorem dX3_straightOn_0 : decode cX3_straightOn 0 = .ok (.aload_n 0, 1) := by decide +kernel
theorem dX3_straightOn_1 : decode cX3_straightOn 1 = .ok (.iload_n 1, 1) := by decide +kernel
theorem dX3_straightOn_2 : decode cX3_straightOn 2 = .ok (.invokevirtual 76, 3) := by decide +kernel
theorem dX3_straightOn_5 : decode cX3_straightOn 5 = .ok (.istore_n 2, 1) := by decide +kernel
theorem dX3_straightOn_6 : decode cX3_straightOn 6 = .ok (.aload_n 0, 1) := by decide +kernel
theorem dX3_straightOn_7 : decode cX3_straightOn 7 = .ok (.iload_n 2, 1) := by decide +kernel
theorem dX3_straightOn_8 : decode cX3_straightOn 8 = .ok (.invokevirtual 79, 3) := by decide +kernel
theorem dX3_straightOn_11 : decode cX3_straightOn 11 = .ok (.iconst 3, 1) := by decide +kernel
theorem dX3_straightOn_12 : decode cX3_straightOn 12 = .ok (.if_icmp .ge 5, 3) := by decide +kernel
theorem dX3_straightOn_15 : decode cX3_straightOn 15 = .ok (.iconst (-1), 1) := by decide +kernel
theorem dX3_straightOn_16 : decode cX3_straightOn 16 = .ok (.ireturn, 1) := by decide +kernel
theorem dX3_straightOn_17 : decode cX3_straightOn 17 = .ok (.aload_n 0, 1) := by decide +kernel
theorem dX3_straightOn_18 : decode cX3_straightOn 18 = .ok (.iload_n 1, 1) := by decide +kernel
theorem dX3_straightOn_19 : decode cX3_straightOn 19 = .ok (.iload_n 2, 1) := by decide +kernel
theorem dX3_straightOn_20 : decode cX3_straightOn 20 = .ok (.invokevirtual 82, 3) := by decide +kernel
theorem dX3_straightOn_23 : decode cX3_straightOn 23 = .ok (.istore_n 3, 1) := by decide +kernel
theorem dX3_straightOn_24 : decode cX3_straightOn 24 = .ok (.iconst (-1), 1) := by decide +kernel
theorem dX3_straightOn_25 : decode cX3_straightOn 25 = .ok (.istore 4, 2) := by decide +kernel
theorem dX3_straightOn_27 : decode cX3_straightOn 27 = .ok (.iconst 0, 1) := by decide +kernel
theorem dX3_straightOn_28 : decode cX3_straightOn 28 = .ok (.istore 5, 2) := by decide +kernel
theorem dX3_straightOn_30 : decode cX3_straightOn 30 = .ok (.iconst 1, 1) := by decide +kernel
theorem dX3_straightOn_31 : decode cX3_straightOn 31 = .ok (.istore 6, 2) := by decide +kernel
theorem dX3_straightOn_33 : decode cX3_straightOn 33 = .ok (.iconst 0, 1) := by decide +kernel
theorem dX3_straightOn_34 : decode cX3_straightOn 34 = .ok (.istore 7, 2) := by decide +kernel
theorem dX3_straightOn_36 : decode cX3_straightOn 36 = .ok (.iload 7, 2) := by decide +kernel
theorem dX3_straightOn_38 : decode cX3_straightOn 38 = .ok (.aload_n 0, 1) := by decide +kernel
theorem dX3_straightOn_39 : decode cX3_straightOn 39 = .ok (.getfield 31, 3) := by decide +kernel
theorem dX3_straightOn_42 : decode cX3_straightOn 42 = .ok (.if_icmp .ge 92, 3) := by decide +kernel
theorem dX3_straightOn_45 : decode cX3_straightOn 45 = .ok (.iload 7, 2) := by decide +kernel
theorem dX3_straightOn_47 : decode cX3_straightOn 47 = .ok (.iload_n 1, 1) := by decide +kernel
theorem dX3_straightOn_48 : decode cX3_straightOn 48 = .ok (.if_icmp .eq 80, 3) := by decide +kernel
theorem dX3_straightOn_51 : decode cX3_straightOn 51 = .ok (.aload_n 0, 1) := by decide +kernel
theorem dX3_straightOn_52 : decode cX3_straightOn 52 = .ok (.iload 7, 2) := by decide +kernel
theorem dX3_straightOn_54 : decode cX3_straightOn 54 = .ok (.iload_n 2, 1) := by decide +kernel
theorem dX3_straightOn_55 : decode cX3_straightOn 55 = .ok (.invokevirtual 86, 3) := by decide +kernel
theorem dX3_straightOn_58 : decode cX3_straightOn 58 = .ok (.ifCond .ne 6, 3) := by decide +kernel
theorem dX3_straightOn_61 : decode cX3_straightOn 61 = .ok (.goto 67, 3) := by decide +kernel
theorem dX3_straightOn_64 : decode cX3_straightOn 64 = .ok (.aload_n 0, 1) := by decide +kernel
theorem dX3_straightOn_65 : decode cX3_straightOn 65 = .ok (.iload 7, 2) := by decide +kernel
theorem dX3_straightOn_67 : decode cX3_straightOn 67 = .ok (.iload_n 2, 1) := by decide +kernel
theorem dX3_straightOn_68 : decode cX3_straightOn 68 = .ok (.invokevirtual 82, 3) := by decide +kernel
theorem dX3_straightOn_71 : decode cX3_straightOn 71 = .ok (.istore 8, 2) := by decide +kernel
theorem dX3_straightOn_73 : decode cX3_straightOn 73 = .ok (.iload_n 2, 1) := by decide +kernel
theorem dX3_straightOn_74 : decode cX3_straightOn 74 = .ok (.iload_n 3, 1) := by decide +kernel
theorem dX3_straightOn_75 : decode cX3_straightOn 75 = .ok (.iload 8, 2) := by decide +kernel
theorem dX3_straightOn_77 : decode cX3_straightOn 77 = .ok (.invokestatic 90, 3) := by decide +kernel
theorem dX3_straightOn_80 : decode cX3_straightOn 80 = .ok (.istore 9, 2) := by decide +kernel
theorem dX3_straightOn_82 : decode cX3_straightOn 82 = .ok (.iload_n 2, 1) := by decide +kernel
theorem dX3_straightOn_83 : decode cX3_straightOn 83 = .ok (.iload 8, 2) := by decide +kernel
theorem dX3_straightOn_85 : decode cX3_straightOn 85 = .ok (.iload 8, 2) := by decide +kernel
theorem dX3_straightOn_87 : decode cX3_straightOn 87 = .ok (.invokestatic 90, 3) := by decide +kernel
theorem dX3_straightOn_90 : decode cX3_straightOn 90 = .ok (.istore 10, 2) := by decide +kernel
theorem dX3_straightOn_92 : decode cX3_straightOn 92 = .ok (.iload 9, 2) := by decide +kernel
theorem dX3_straightOn_94 : decode cX3_straightOn 94 = .ok (.ifCond .ge 34, 3) := by decide +kernel
theorem dX3_straightOn_97 : decode cX3_straightOn 97 = .ok (.iload 9, 2) := by decide +kernel
theorem dX3_straightOn_99 : decode cX3_straightOn 99 = .ok (.iload 9, 2) := by decide +kernel
theorem dX3_straightOn_101 : decode cX3_straightOn 101 = .ok (.imul, 1) := by decide +kernel
theorem dX3_straightOn_102 : decode cX3_straightOn 102 = .ok (.iload 6, 2) := by decide +kernel
theorem dX3_straightOn_104 : decode cX3_straightOn 104 = .ok (.imul, 1) := by decide +kernel
theorem dX3_straightOn_105 : decode cX3_straightOn 105 = .ok (.iload 5, 2) := by decide +kernel
theorem dX3_straightOn_107 : decode cX3_straightOn 107 = .ok (.iload 5, 2) := by decide +kernel
theorem dX3_straightOn_109 : decode cX3_straightOn 109 = .ok (.imul, 1) := by decide +kernel
theorem dX3_straightOn_110 : decode cX3_straightOn 110 = .ok (.iload 10, 2) := by decide +kernel
theorem dX3_straightOn_112 : decode cX3_straightOn 112 = .ok (.imul, 1) := by decide +kernel
theorem dX3_straightOn_113 : decode cX3_straightOn 113 = .ok (.if_icmp .le 15, 3) := by decide +kernel
theorem dX3_straightOn_116 : decode cX3_straightOn 116 = .ok (.iload 7, 2) := by decide +kernel
theorem dX3_straightOn_118 : decode cX3_straightOn 118 = .ok (.istore 4, 2) := by decide +kernel
theorem dX3_straightOn_120 : decode cX3_straightOn 120 = .ok (.iload 9, 2) := by decide +kernel
theorem dX3_straightOn_122 : decode cX3_straightOn 122 = .ok (.istore 5, 2) := by decide +kernel
theorem dX3_straightOn_124 : decode cX3_straightOn 124 = .ok (.iload 10, 2) := by decide +kernel
theorem dX3_straightOn_126 : decode cX3_straightOn 126 = .ok (.istore 6, 2) := by decide +kernel
theorem dX3_straightOn_128 : decode cX3_straightOn 128 = .ok (.iinc 7 1, 3) := by decide +kernel
theorem dX3_straightOn_131 : decode cX3_straightOn 131 = .ok (.goto (-95), 3) := by decide +kernel
theorem dX3_straightOn_134 : decode cX3_straightOn 134 = .ok (.iload 4, 2) := by decide +kernel
theorem dX3_straightOn_136 : decode cX3_straightOn 136 = .ok (.ireturn, 1) := by decide +kernel
theorem dX3_findLinks_0 : decode cX3_findLinks 0 = .ok (.iconst 0, 1) := by decide +kernel
theorem dX3_findLinks_1 : decode cX3_findLinks 1 = .ok (.istore_n 2, 1) := by decide +kernel
theorem dX3_findLinks_2 : decode cX3_findLinks 2 = .ok (.iload_n 2, 1) := by decide +kernel
theorem dX3_findLinks_3 : decode cX3_findLinks 3 = .ok (.aload_n 0, 1) := by decide +kernel
theorem dX3_findLinks_4 : decode cX3_findLinks 4 = .ok (.getfield 13, 3) := by decide +kernel
theorem dX3_findLinks_7 : decode cX3_findLinks 7 = .ok (.arraylength, 1) := by decide +kernel
theorem dX3_findLinks_8 : decode cX3_findLinks 8 = .ok (.if_icmp .ge 43, 3) := by decide +kernel
theorem dX3_findLinks_11 : decode cX3_findLinks 11 = .ok (.iload_n 2, 1) := by decide +kernel
theorem dX3_findLinks_12 : decode cX3_findLinks 12 = .ok (.aload_n 0, 1) := by decide +kernel
theorem dX3_findLinks_13 : decode cX3_findLinks 13 = .ok (.getfield 19, 3) := by decide +kernel
theorem dX3_findLinks_16 : decode cX3_findLinks 16 = .ok (.arraylength, 1) := by decide +kernel
theorem dX3_findLinks_17 : decode cX3_findLinks 17 = .ok (.if_icmp .ge 34, 3) := by decide +kernel
theorem dX3_findLinks_20 : decode cX3_findLinks 20 = .ok (.aload_n 0, 1) := by decide +kernel
theorem dX3_findLinks_21 : decode cX3_findLinks 21 = .ok (.getfield 13, 3) := by decide +kernel
theorem dX3_findLinks_24 : decode cX3_findLinks 24 = .ok (.iload_n 2, 1) := by decide +kernel
theorem dX3_findLinks_25 : decode cX3_findLinks 25 = .ok (.aload_n 1, 1) := by decide +kernel
theorem dX3_findLinks_26 : decode cX3_findLinks 26 = .ok (.iload_n 2, 1) := by decide +kernel
theorem dX3_findLinks_27 : decode cX3_findLinks 27 = .ok (.invokestatic 94, 3) := by decide +kernel
theorem dX3_findLinks_30 : decode cX3_findLinks 30 = .ok (.iload_n 2, 1) := by decide +kernel
theorem dX3_findLinks_31 : decode cX3_findLinks 31 = .ok (.invokestatic 97, 3) := by decide +kernel
theorem dX3_findLinks_34 : decode cX3_findLinks 34 = .ok (.invokevirtual 100, 3) := by decide +kernel
theorem dX3_findLinks_37 : decode cX3_findLinks 37 = .ok (.iastore, 1) := by decide +kernel
theorem dX3_findLinks_38 : decode cX3_findLinks 38 = .ok (.aload_n 0, 1) := by decide +kernel
theorem dX3_findLinks_39 : decode cX3_findLinks 39 = .ok (.getfield 19, 3) := by decide +kernel
theorem dX3_findLinks_42 : decode cX3_findLinks 42 = .ok (.iload_n 2, 1) := by decide +kernel
theorem dX3_findLinks_43 : decode cX3_findLinks 43 = .ok (.iconst 0, 1) := by decide +kernel
theorem dX3_findLinks_44 : decode cX3_findLinks 44 = .ok (.iastore, 1) := by decide +kernel
theorem dX3_findLinks_45 : decode cX3_findLinks 45 = .ok (.iinc 2 1, 3) := by decide +kernel
theorem dX3_findLinks_48 : decode cX3_findLinks 48 = .ok (.goto (-46), 3) := by decide +kernel
theorem dX3_findLinks_51 : decode cX3_findLinks 51 = .ok (.return_, 1) := by decide +kernel
theorem dX3_findCrossings_0 : decode cX3_findCrossings 0 = .ok (.iconst 0, 1) := by decide +kernel
theorem dX3_findCrossings_1 : decode cX3_findCrossings 1 = .ok (.istore_n 2, 1) := by decide +kernel
theorem dX3_findCrossings_2 : decode cX3_findCrossings 2 = .ok (.iload_n 2, 1) := by decide +kernel
theorem dX3_findCrossings_3 : decode cX3_findCrossings 3 = .ok (.aload_n 1, 1) := by decide +kernel
theorem dX3_findCrossings_4 : decode cX3_findCrossings 4 = .ok (.getfield 105, 3) := by decide +kernel
theorem dX3_findCrossings_7 : decode cX3_findCrossings 7 = .ok (.if_icmp .ge 75, 3) := by decide +kernel
theorem dX3_findCrossings_10 : decode cX3_findCrossings 10 = .ok (.iconst 0, 1) := by decide +kernel
theorem dX3_findCrossings_11 : decode cX3_findCrossings 11 = .ok (.istore_n 3, 1) := by decide +kernel
theorem dX3_findCrossings_12 : decode cX3_findCrossings 12 = .ok (.iload_n 3, 1) := by decide +kernel
theorem dX3_findCrossings_13 : decode cX3_findCrossings 13 = .ok (.aload_n 1, 1) := by decide +kernel
theorem dX3_findCrossings_14 : decode cX3_findCrossings 14 = .ok (.getfield 108, 3) := by decide +kernel
theorem dX3_findCrossings_17 : decode cX3_findCrossings 17 = .ok (.if_icmp .ge 59, 3) := by decide +kernel
theorem dX3_findCrossings_20 : decode cX3_findCrossings 20 = .ok (.iload_n 3, 1) := by decide +kernel
theorem dX3_findCrossings_21 : decode cX3_findCrossings 21 = .ok (.iload_n 2, 1) := by decide +kernel
theorem dX3_findCrossings_22 : decode cX3_findCrossings 22 = .ok (.invokestatic 111, 3) := by decide +kernel
theorem dX3_findCrossings_25 : decode cX3_findCrossings 25 = .ok (.istore 4, 2) := by decide +kernel
theorem dX3_findCrossings_27 : decode cX3_findCrossings 27 = .ok (.aload_n 0, 1) := by decide +kernel
theorem dX3_findCrossings_28 : decode cX3_findCrossings 28 = .ok (.iload 4, 2) := by decide +kernel
theorem dX3_findCrossings_30 : decode cX3_findCrossings 30 = .ok (.invokevirtual 79, 3) := by decide +kernel
theorem dX3_findCrossings_33 : decode cX3_findCrossings 33 = .ok (.iconst 3, 1) := by decide +kernel
theorem dX3_findCrossings_34 : decode cX3_findCrossings 34 = .ok (.if_icmp .lt 36, 3) := by decide +kernel
theorem dX3_findCrossings_37 : decode cX3_findCrossings 37 = .ok (.aload_n 0, 1) := by decide +kernel
theorem dX3_findCrossings_38 : decode cX3_findCrossings 38 = .ok (.getfield 35, 3) := by decide +kernel
theorem dX3_findCrossings_41 : decode cX3_findCrossings 41 = .ok (.aload_n 0, 1) := by decide +kernel
theorem dX3_findCrossings_42 : decode cX3_findCrossings 42 = .ok (.getfield 28, 3) := by decide +kernel
theorem dX3_findCrossings_45 : decode cX3_findCrossings 45 = .ok (.arraylength, 1) := by decide +kernel
theorem dX3_findCrossings_46 : decode cX3_findCrossings 46 = .ok (.if_icmp .ge 24, 3) := by decide +kernel
theorem dX3_findCrossings_49 : decode cX3_findCrossings 49 = .ok (.aload_n 0, 1) := by decide +kernel
theorem dX3_findCrossings_50 : decode cX3_findCrossings 50 = .ok (.getfield 28, 3) := by decide +kernel
theorem dX3_findCrossings_53 : decode cX3_findCrossings 53 = .ok (.aload_n 0, 1) := by decide +kernel
theorem dX3_findCrossings_54 : decode cX3_findCrossings 54 = .ok (.getfield 35, 3) := by decide +kernel
theorem dX3_findCrossings_57 : decode cX3_findCrossings 57 = .ok (.iload 4, 2) := by decide +kernel
theorem dX3_findCrossings_59 : decode cX3_findCrossings 59 = .ok (.iastore, 1) := by decide +kernel
theorem dX3_findCrossings_60 : decode cX3_findCrossings 60 = .ok (.aload_n 0, 1) := by decide +kernel
theorem dX3_findCrossings_61 : decode cX3_findCrossings 61 = .ok (.dup, 1) := by decide +kernel
theorem dX3_findCrossings_62 : decode cX3_findCrossings 62 = .ok (.getfield 35, 3) := by decide +kernel
theorem dX3_findCrossings_65 : decode cX3_findCrossings 65 = .ok (.iconst 1, 1) := by decide +kernel
theorem dX3_findCrossings_66 : decode cX3_findCrossings 66 = .ok (.iadd, 1) := by decide +kernel
theorem dX3_findCrossings_67 : decode cX3_findCrossings 67 = .ok (.putfield 35, 3) := by decide +kernel
theorem dX3_findCrossings_70 : decode cX3_findCrossings 70 = .ok (.iinc 3 1, 3) := by decide +kernel
theorem dX3_findCrossings_73 : decode cX3_findCrossings 73 = .ok (.goto (-61), 3) := by decide +kernel
theorem dX3_findCrossings_76 : decode cX3_findCrossings 76 = .ok (.iinc 2 1, 3) := by decide +kernel
theorem dX3_findCrossings_79 : decode cX3_findCrossings 79 = .ok (.goto (-77), 3) := by decide +kernel
theorem dX3_findCrossings_82 : decode cX3_findCrossings 82 = .ok (.return_, 1) := by decide +kernel
theorem dX3_followFromNodes_0 : decode cX3_followFromNodes 0 = .ok (.iconst 0, 1) := by decide +kernel
theorem dX3_followFromNodes_1 : decode cX3_followFromNodes 1 = .ok (.istore_n 2, 1) := by decide +kernel
theorem dX3_followFromNodes_2 : decode cX3_followFromNodes 2 = .ok (.iload_n 2, 1) := by decide +kernel
theorem dX3_followFromNodes_3 : decode cX3_followFromNodes 3 = .ok (.aload_n 1, 1) := by decide +kernel
theorem dX3_followFromNodes_4 : decode cX3_followFromNodes 4 = .ok (.getfield 105, 3) := by decide +kernel
theorem dX3_followFromNodes_7 : decode cX3_followFromNodes 7 = .ok (.if_icmp .ge 56, 3) := by decide +kernel
theorem dX3_followFromNodes_10 : decode cX3_followFromNodes 10 = .ok (.iconst 0, 1) := by decide +kernel
theorem dX3_followFromNodes_11 : decode cX3_followFromNodes 11 = .ok (.istore_n 3, 1) := by decide +kernel
theorem dX3_followFromNodes_12 : decode cX3_followFromNodes 12 = .ok (.iload_n 3, 1) := by decide +kernel
theorem dX3_followFromNodes_13 : decode cX3_followFromNodes 13 = .ok (.aload_n 1, 1) := by decide +kernel
theorem dX3_followFromNodes_14 : decode cX3_followFromNodes 14 = .ok (.getfield 108, 3) := by decide +kernel
theorem dX3_followFromNodes_17 : decode cX3_followFromNodes 17 = .ok (.if_icmp .ge 40, 3) := by decide +kernel
theorem dX3_followFromNodes_20 : decode cX3_followFromNodes 20 = .ok (.aload_n 1, 1) := by decide +kernel
theorem dX3_followFromNodes_21 : decode cX3_followFromNodes 21 = .ok (.iload_n 3, 1) := by decide +kernel
theorem dX3_followFromNodes_22 : decode cX3_followFromNodes 22 = .ok (.iload_n 2, 1) := by decide +kernel
theorem dX3_followFromNodes_23 : decode cX3_followFromNodes 23 = .ok (.invokevirtual 114, 3) := by decide +kernel
theorem dX3_followFromNodes_26 : decode cX3_followFromNodes 26 = .ok (.ifCond .eq 25, 3) := by decide +kernel
theorem dX3_followFromNodes_29 : decode cX3_followFromNodes 29 = .ok (.aload_n 0, 1) := by decide +kernel
theorem dX3_followFromNodes_30 : decode cX3_followFromNodes 30 = .ok (.iload_n 3, 1) := by decide +kernel
theorem dX3_followFromNodes_31 : decode cX3_followFromNodes 31 = .ok (.iload_n 2, 1) := by decide +kernel
theorem dX3_followFromNodes_32 : decode cX3_followFromNodes 32 = .ok (.invokestatic 111, 3) := by decide +kernel
theorem dX3_followFromNodes_35 : decode cX3_followFromNodes 35 = .ok (.invokevirtual 79, 3) := by decide +kernel
theorem dX3_followFromNodes_38 : decode cX3_followFromNodes 38 = .ok (.iconst 2, 1) := by decide +kernel
theorem dX3_followFromNodes_39 : decode cX3_followFromNodes 39 = .ok (.if_icmp .eq 12, 3) := by decide +kernel
theorem dX3_followFromNodes_42 : decode cX3_followFromNodes 42 = .ok (.aload_n 0, 1) := by decide +kernel
theorem dX3_followFromNodes_43 : decode cX3_followFromNodes 43 = .ok (.iload_n 3, 1) := by decide +kernel
theorem dX3_followFromNodes_44 : decode cX3_followFromNodes 44 = .ok (.iload_n 2, 1) := by decide +kernel
theorem dX3_followFromNodes_45 : decode cX3_followFromNodes 45 = .ok (.invokestatic 111, 3) := by decide +kernel
theorem dX3_followFromNodes_48 : decode cX3_followFromNodes 48 = .ok (.invokevirtual 117, 3) := by decide +kernel
theorem dX3_followFromNodes_51 : decode cX3_followFromNodes 51 = .ok (.iinc 3 1, 3) := by decide +kernel
theorem dX3_followFromNodes_54 : decode cX3_followFromNodes 54 = .ok (.goto (-42), 3) := by decide +kernel
theorem dX3_followFromNodes_57 : decode cX3_followFromNodes 57 = .ok (.iinc 2 1, 3) := by decide +kernel
theorem dX3_followFromNodes_60 : decode cX3_followFromNodes 60 = .ok (.goto (-58), 3) := by decide +kernel
theorem dX3_followFromNodes_63 : decode cX3_followFromNodes 63 = .ok (.return_, 1) := by decide +kernel
theorem dX3_followFromNode_0 : decode cX3_followFromNode 0 = .ok (.aload_n 0, 1) := by decide +kernel
theorem dX3_followFromNode_1 : decode cX3_followFromNode 1 = .ok (.iload_n 1, 1) := by decide +kernel
theorem dX3_followFromNode_2 : decode cX3_followFromNode 2 = .ok (.invokevirtual 79, 3) := by decide +kernel
theorem dX3_followFromNode_5 : decode cX3_followFromNode 5 = .ok (.ifCond .ne 12, 3) := by decide +kernel
theorem dX3_followFromNode_8 : decode cX3_followFromNode 8 = .ok (.aload_n 0, 1) := by decide +kernel
theorem dX3_followFromNode_9 : decode cX3_followFromNode 9 = .ok (.iload_n 1, 1) := by decide +kernel
theorem dX3_followFromNode_10 : decode cX3_followFromNode 10 = .ok (.invokevirtual 121, 3) := by decide +kernel
theorem dX3_followFromNode_13 : decode cX3_followFromNode 13 = .ok (.aload_n 0, 1) := by decide +kernel
theorem dX3_followFromNode_14 : decode cX3_followFromNode 14 = .ok (.invokevirtual 124, 3) := by decide +kernel
theorem dX3_followFromNode_17 : decode cX3_followFromNode 17 = .ok (.iconst 0, 1) := by decide +kernel
theorem dX3_followFromNode_18 : decode cX3_followFromNode 18 = .ok (.istore_n 2, 1) := by decide +kernel
theorem dX3_followFromNode_19 : decode cX3_followFromNode 19 = .ok (.iload_n 2, 1) := by decide +kernel
theorem dX3_followFromNode_20 : decode cX3_followFromNode 20 = .ok (.bipush 8, 2) := by decide +kernel
theorem dX3_followFromNode_22 : decode cX3_followFromNode 22 = .ok (.if_icmp .ge 39, 3) := by decide +kernel
theorem dX3_followFromNode_25 : decode cX3_followFromNode 25 = .ok (.aload_n 0, 1) := by decide +kernel
theorem dX3_followFromNode_26 : decode cX3_followFromNode 26 = .ok (.iload_n 1, 1) := by decide +kernel
theorem dX3_followFromNode_27 : decode cX3_followFromNode 27 = .ok (.invokevirtual 41, 3) := by decide +kernel
theorem dX3_followFromNode_30 : decode cX3_followFromNode 30 = .ok (.iload_n 2, 1) := by decide +kernel
theorem dX3_followFromNode_31 : decode cX3_followFromNode 31 = .ok (.invokestatic 127, 3) := by decide +kernel
theorem dX3_followFromNode_34 : decode cX3_followFromNode 34 = .ok (.ifCond .eq 21, 3) := by decide +kernel
theorem dX3_followFromNode_37 : decode cX3_followFromNode 37 = .ok (.aload_n 0, 1) := by decide +kernel
theorem dX3_followFromNode_38 : decode cX3_followFromNode 38 = .ok (.iload_n 1, 1) := by decide +kernel
theorem dX3_followFromNode_39 : decode cX3_followFromNode 39 = .ok (.invokevirtual 130, 3) := by decide +kernel
theorem dX3_followFromNode_42 : decode cX3_followFromNode 42 = .ok (.iload_n 2, 1) := by decide +kernel
theorem dX3_followFromNode_43 : decode cX3_followFromNode 43 = .ok (.invokestatic 127, 3) := by decide +kernel
theorem dX3_followFromNode_46 : decode cX3_followFromNode 46 = .ok (.ifCond .ne 9, 3) := by decide +kernel
theorem dX3_followFromNode_49 : decode cX3_followFromNode 49 = .ok (.aload_n 0, 1) := by decide +kernel
theorem dX3_followFromNode_50 : decode cX3_followFromNode 50 = .ok (.iload_n 1, 1) := by decide +kernel
theorem dX3_followFromNode_51 : decode cX3_followFromNode 51 = .ok (.iload_n 2, 1) := by decide +kernel
theorem dX3_followFromNode_52 : decode cX3_followFromNode 52 = .ok (.invokevirtual 133, 3) := by decide +kernel
theorem dX3_followFromNode_55 : decode cX3_followFromNode 55 = .ok (.iinc 2 1, 3) := by decide +kernel
theorem dX3_followFromNode_58 : decode cX3_followFromNode 58 = .ok (.goto (-39), 3) := by decide +kernel
theorem dX3_followFromNode_61 : decode cX3_followFromNode 61 = .ok (.return_, 1) := by decide +kernel
theorem dX3_followRound_0 : decode cX3_followRound 0 = .ok (.iconst 0, 1) := by decide +kernel
theorem dX3_followRound_1 : decode cX3_followRound 1 = .ok (.istore_n 2, 1) := by decide +kernel
theorem dX3_followRound_2 : decode cX3_followRound 2 = .ok (.iload_n 2, 1) := by decide +kernel
theorem dX3_followRound_3 : decode cX3_followRound 3 = .ok (.aload_n 1, 1) := by decide +kernel
theorem dX3_followRound_4 : decode cX3_followRound 4 = .ok (.getfield 105, 3) := by decide +kernel
theorem dX3_followRound_7 : decode cX3_followRound 7 = .ok (.if_icmp .ge 66, 3) := by decide +kernel
theorem dX3_followRound_10 : decode cX3_followRound 10 = .ok (.iconst 0, 1) := by decide +kernel
theorem dX3_followRound_11 : decode cX3_followRound 11 = .ok (.istore_n 3, 1) := by decide +kernel
theorem dX3_followRound_12 : decode cX3_followRound 12 = .ok (.iload_n 3, 1) := by decide +kernel
theorem dX3_followRound_13 : decode cX3_followRound 13 = .ok (.aload_n 1, 1) := by decide +kernel
theorem dX3_followRound_14 : decode cX3_followRound 14 = .ok (.getfield 108, 3) := by decide +kernel
theorem dX3_followRound_17 : decode cX3_followRound 17 = .ok (.if_icmp .ge 50, 3) := by decide +kernel
theorem dX3_followRound_20 : decode cX3_followRound 20 = .ok (.iload_n 3, 1) := by decide +kernel
theorem dX3_followRound_21 : decode cX3_followRound 21 = .ok (.iload_n 2, 1) := by decide +kernel
theorem dX3_followRound_22 : decode cX3_followRound 22 = .ok (.invokestatic 111, 3) := by decide +kernel
theorem dX3_followRound_25 : decode cX3_followRound 25 = .ok (.istore 4, 2) := by decide +kernel
theorem dX3_followRound_27 : decode cX3_followRound 27 = .ok (.aload_n 0, 1) := by decide +kernel
theorem dX3_followRound_28 : decode cX3_followRound 28 = .ok (.iload 4, 2) := by decide +kernel
theorem dX3_followRound_30 : decode cX3_followRound 30 = .ok (.invokevirtual 79, 3) := by decide +kernel
theorem dX3_followRound_33 : decode cX3_followRound 33 = .ok (.iconst 2, 1) := by decide +kernel
theorem dX3_followRound_34 : decode cX3_followRound 34 = .ok (.if_icmp .ne 27, 3) := by decide +kernel
theorem dX3_followRound_37 : decode cX3_followRound 37 = .ok (.aload_n 0, 1) := by decide +kernel
theorem dX3_followRound_38 : decode cX3_followRound 38 = .ok (.iload 4, 2) := by decide +kernel
theorem dX3_followRound_40 : decode cX3_followRound 40 = .ok (.invokevirtual 130, 3) := by decide +kernel
theorem dX3_followRound_43 : decode cX3_followRound 43 = .ok (.ifCond .ne 18, 3) := by decide +kernel
theorem dX3_followRound_46 : decode cX3_followRound 46 = .ok (.aload_n 0, 1) := by decide +kernel
theorem dX3_followRound_47 : decode cX3_followRound 47 = .ok (.iload 4, 2) := by decide +kernel
theorem dX3_followRound_49 : decode cX3_followRound 49 = .ok (.aload_n 0, 1) := by decide +kernel
theorem dX3_followRound_50 : decode cX3_followRound 50 = .ok (.iload 4, 2) := by decide +kernel
theorem dX3_followRound_52 : decode cX3_followRound 52 = .ok (.invokevirtual 41, 3) := by decide +kernel
theorem dX3_followRound_55 : decode cX3_followRound 55 = .ok (.invokestatic 137, 3) := by decide +kernel
theorem dX3_followRound_58 : decode cX3_followRound 58 = .ok (.invokevirtual 133, 3) := by decide +kernel
theorem dX3_followRound_61 : decode cX3_followRound 61 = .ok (.iinc 3 1, 3) := by decide +kernel
theorem dX3_followRound_64 : decode cX3_followRound 64 = .ok (.goto (-52), 3) := by decide +kernel
theorem dX3_followRound_67 : decode cX3_followRound 67 = .ok (.iinc 2 1, 3) := by decide +kernel
theorem dX3_followRound_70 : decode cX3_followRound 70 = .ok (.goto (-68), 3) := by decide +kernel
theorem dX3_followRound_73 : decode cX3_followRound 73 = .ok (.return_, 1) := by decide +kernel
theorem dX3_follow_0 : decode cX3_follow 0 = .ok (.iload_n 1, 1) := by decide +kernel
theorem dX3_follow_1 : decode cX3_follow 1 = .ok (.istore_n 3, 1) := by decide +kernel
theorem dX3_follow_2 : decode cX3_follow 2 = .ok (.iload_n 2, 1) := by decide +kernel
theorem dX3_follow_3 : decode cX3_follow 3 = .ok (.istore 4, 2) := by decide +kernel
theorem dX3_follow_5 : decode cX3_follow 5 = .ok (.aload_n 0, 1) := by decide +kernel
theorem dX3_follow_6 : decode cX3_follow 6 = .ok (.iload_n 1, 1) := by decide +kernel
theorem dX3_follow_7 : decode cX3_follow 7 = .ok (.invokevirtual 121, 3) := by decide +kernel
theorem dX3_follow_10 : decode cX3_follow 10 = .ok (.iconst 0, 1) := by decide +kernel
theorem dX3_follow_11 : decode cX3_follow 11 = .ok (.istore 5, 2) := by decide +kernel
theorem dX3_follow_13 : decode cX3_follow 13 = .ok (.iload 5, 2) := by decide +kernel
theorem dX3_follow_15 : decode cX3_follow 15 = .ok (.aload_n 0, 1) := by decide +kernel
theorem dX3_follow_16 : decode cX3_follow 16 = .ok (.getfield 22, 3) := by decide +kernel
theorem dX3_follow_19 : decode cX3_follow 19 = .ok (.arraylength, 1) := by decide +kernel
theorem dX3_follow_20 : decode cX3_follow 20 = .ok (.if_icmp .ge 87, 3) := by decide +kernel
theorem dX3_follow_23 : decode cX3_follow 23 = .ok (.aload_n 0, 1) := by decide +kernel
theorem dX3_follow_24 : decode cX3_follow 24 = .ok (.iload_n 3, 1) := by decide +kernel
theorem dX3_follow_25 : decode cX3_follow 25 = .ok (.iload 4, 2) := by decide +kernel
theorem dX3_follow_27 : decode cX3_follow 27 = .ok (.invokevirtual 140, 3) := by decide +kernel
theorem dX3_follow_30 : decode cX3_follow 30 = .ok (.iload_n 3, 1) := by decide +kernel
theorem dX3_follow_31 : decode cX3_follow 31 = .ok (.iload 4, 2) := by decide +kernel
theorem dX3_follow_33 : decode cX3_follow 33 = .ok (.invokestatic 143, 3) := by decide +kernel
theorem dX3_follow_36 : decode cX3_follow 36 = .ok (.istore_n 3, 1) := by decide +kernel
theorem dX3_follow_37 : decode cX3_follow 37 = .ok (.aload_n 0, 1) := by decide +kernel
theorem dX3_follow_38 : decode cX3_follow 38 = .ok (.iload_n 3, 1) := by decide +kernel
theorem dX3_follow_39 : decode cX3_follow 39 = .ok (.iload 4, 2) := by decide +kernel
theorem dX3_follow_41 : decode cX3_follow 41 = .ok (.invokestatic 146, 3) := by decide +kernel
theorem dX3_follow_44 : decode cX3_follow 44 = .ok (.invokevirtual 140, 3) := by decide +kernel
theorem dX3_follow_47 : decode cX3_follow 47 = .ok (.iload_n 3, 1) := by decide +kernel
theorem dX3_follow_48 : decode cX3_follow 48 = .ok (.iload_n 1, 1) := by decide +kernel
theorem dX3_follow_49 : decode cX3_follow 49 = .ok (.if_icmp .ne 15, 3) := by decide +kernel
theorem dX3_follow_52 : decode cX3_follow 52 = .ok (.aload_n 0, 1) := by decide +kernel
theorem dX3_follow_53 : decode cX3_follow 53 = .ok (.iload_n 1, 1) := by decide +kernel
theorem dX3_follow_54 : decode cX3_follow 54 = .ok (.invokevirtual 79, 3) := by decide +kernel
theorem dX3_follow_57 : decode cX3_follow 57 = .ok (.iconst 2, 1) := by decide +kernel
theorem dX3_follow_58 : decode cX3_follow 58 = .ok (.if_icmp .ne 6, 3) := by decide +kernel
theorem dX3_follow_61 : decode cX3_follow 61 = .ok (.goto 46, 3) := by decide +kernel
theorem dX3_follow_64 : decode cX3_follow 64 = .ok (.aload_n 0, 1) := by decide +kernel
theorem dX3_follow_65 : decode cX3_follow 65 = .ok (.iload_n 3, 1) := by decide +kernel
theorem dX3_follow_66 : decode cX3_follow 66 = .ok (.invokevirtual 121, 3) := by decide +kernel
theorem dX3_follow_69 : decode cX3_follow 69 = .ok (.aload_n 0, 1) := by decide +kernel
theorem dX3_follow_70 : decode cX3_follow 70 = .ok (.iload_n 3, 1) := by decide +kernel
theorem dX3_follow_71 : decode cX3_follow 71 = .ok (.invokevirtual 79, 3) := by decide +kernel
theorem dX3_follow_74 : decode cX3_follow 74 = .ok (.iconst 2, 1) := by decide +kernel
theorem dX3_follow_75 : decode cX3_follow 75 = .ok (.if_icmp .eq 6, 3) := by decide +kernel
theorem dX3_follow_78 : decode cX3_follow 78 = .ok (.goto 29, 3) := by decide +kernel
theorem dX3_follow_81 : decode cX3_follow 81 = .ok (.aload_n 0, 1) := by decide +kernel
theorem dX3_follow_82 : decode cX3_follow 82 = .ok (.iload_n 3, 1) := by decide +kernel
theorem dX3_follow_83 : decode cX3_follow 83 = .ok (.invokevirtual 41, 3) := by decide +kernel
theorem dX3_follow_86 : decode cX3_follow 86 = .ok (.iconst 1, 1) := by decide +kernel
theorem dX3_follow_87 : decode cX3_follow 87 = .ok (.iload 4, 2) := by decide +kernel
theorem dX3_follow_89 : decode cX3_follow 89 = .ok (.invokestatic 146, 3) := by decide +kernel
theorem dX3_follow_92 : decode cX3_follow 92 = .ok (.ishl, 1) := by decide +kernel
theorem dX3_follow_93 : decode cX3_follow 93 = .ok (.iconst (-1), 1) := by decide +kernel
theorem dX3_follow_94 : decode cX3_follow 94 = .ok (.ixor, 1) := by decide +kernel
theorem dX3_follow_95 : decode cX3_follow 95 = .ok (.iand, 1) := by decide +kernel
theorem dX3_follow_96 : decode cX3_follow 96 = .ok (.invokestatic 137, 3) := by decide +kernel
theorem dX3_follow_99 : decode cX3_follow 99 = .ok (.istore 4, 2) := by decide +kernel
theorem dX3_follow_101 : decode cX3_follow 101 = .ok (.iinc 5 1, 3) := by decide +kernel
theorem dX3_follow_104 : decode cX3_follow 104 = .ok (.goto (-91), 3) := by decide +kernel
theorem dX3_follow_107 : decode cX3_follow 107 = .ok (.aload_n 0, 1) := by decide +kernel
theorem dX3_follow_108 : decode cX3_follow 108 = .ok (.invokevirtual 124, 3) := by decide +kernel
theorem dX3_follow_111 : decode cX3_follow 111 = .ok (.return_, 1) := by decide +kernel
theorem dX3_addSample_0 : decode cX3_addSample 0 = .ok (.aload_n 0, 1) := by decide +kernel
theorem dX3_addSample_1 : decode cX3_addSample 1 = .ok (.getfield 49, 3) := by decide +kernel
theorem dX3_addSample_4 : decode cX3_addSample 4 = .ok (.aload_n 0, 1) := by decide +kernel
theorem dX3_addSample_5 : decode cX3_addSample 5 = .ok (.getfield 22, 3) := by decide +kernel
theorem dX3_addSample_8 : decode cX3_addSample 8 = .ok (.arraylength, 1) := by decide +kernel
theorem dX3_addSample_9 : decode cX3_addSample 9 = .ok (.if_icmp .ge 23, 3) := by decide +kernel
theorem dX3_addSample_12 : decode cX3_addSample 12 = .ok (.aload_n 0, 1) := by decide +kernel
theorem dX3_addSample_13 : decode cX3_addSample 13 = .ok (.getfield 22, 3) := by decide +kernel
theorem dX3_addSample_16 : decode cX3_addSample 16 = .ok (.aload_n 0, 1) := by decide +kernel
theorem dX3_addSample_17 : decode cX3_addSample 17 = .ok (.getfield 49, 3) := by decide +kernel
theorem dX3_addSample_20 : decode cX3_addSample 20 = .ok (.iload_n 1, 1) := by decide +kernel
theorem dX3_addSample_21 : decode cX3_addSample 21 = .ok (.iastore, 1) := by decide +kernel
theorem dX3_addSample_22 : decode cX3_addSample 22 = .ok (.aload_n 0, 1) := by decide +kernel
theorem dX3_addSample_23 : decode cX3_addSample 23 = .ok (.dup, 1) := by decide +kernel
theorem dX3_addSample_24 : decode cX3_addSample 24 = .ok (.getfield 49, 3) := by decide +kernel
theorem dX3_addSample_27 : decode cX3_addSample 27 = .ok (.iconst 1, 1) := by decide +kernel
theorem dX3_addSample_28 : decode cX3_addSample 28 = .ok (.iadd, 1) := by decide +kernel
theorem dX3_addSample_29 : decode cX3_addSample 29 = .ok (.putfield 49, 3) := by decide +kernel
theorem dX3_addSample_32 : decode cX3_addSample 32 = .ok (.return_, 1) := by decide +kernel
theorem dX3_endStroke_0 : decode cX3_endStroke 0 = .ok (.aload_n 0, 1) := by decide +kernel
theorem dX3_endStroke_1 : decode cX3_endStroke 1 = .ok (.getfield 31, 3) := by decide +kernel
theorem dX3_endStroke_4 : decode cX3_endStroke 4 = .ok (.iconst 1, 1) := by decide +kernel
theorem dX3_endStroke_5 : decode cX3_endStroke 5 = .ok (.iadd, 1) := by decide +kernel
theorem dX3_endStroke_6 : decode cX3_endStroke 6 = .ok (.aload_n 0, 1) := by decide +kernel
theorem dX3_endStroke_7 : decode cX3_endStroke 7 = .ok (.getfield 25, 3) := by decide +kernel
theorem dX3_endStroke_10 : decode cX3_endStroke 10 = .ok (.arraylength, 1) := by decide +kernel
theorem dX3_endStroke_11 : decode cX3_endStroke 11 = .ok (.if_icmp .ge 26, 3) := by decide +kernel
theorem dX3_endStroke_14 : decode cX3_endStroke 14 = .ok (.aload_n 0, 1) := by decide +kernel
theorem dX3_endStroke_15 : decode cX3_endStroke 15 = .ok (.dup, 1) := by decide +kernel
theorem dX3_endStroke_16 : decode cX3_endStroke 16 = .ok (.getfield 31, 3) := by decide +kernel
theorem dX3_endStroke_19 : decode cX3_endStroke 19 = .ok (.iconst 1, 1) := by decide +kernel
theorem dX3_endStroke_20 : decode cX3_endStroke 20 = .ok (.iadd, 1) := by decide +kernel
theorem dX3_endStroke_21 : decode cX3_endStroke 21 = .ok (.putfield 31, 3) := by decide +kernel
theorem dX3_endStroke_24 : decode cX3_endStroke 24 = .ok (.aload_n 0, 1) := by decide +kernel
theorem dX3_endStroke_25 : decode cX3_endStroke 25 = .ok (.getfield 25, 3) := by decide +kernel
theorem dX3_endStroke_28 : decode cX3_endStroke 28 = .ok (.aload_n 0, 1) := by decide +kernel
theorem dX3_endStroke_29 : decode cX3_endStroke 29 = .ok (.getfield 31, 3) := by decide +kernel
theorem dX3_endStroke_32 : decode cX3_endStroke 32 = .ok (.aload_n 0, 1) := by decide +kernel
theorem dX3_endStroke_33 : decode cX3_endStroke 33 = .ok (.getfield 49, 3) := by decide +kernel
theorem dX3_endStroke_36 : decode cX3_endStroke 36 = .ok (.iastore, 1) := by decide +kernel
theorem dX3_endStroke_37 : decode cX3_endStroke 37 = .ok (.return_, 1) := by decide +kernel
theorem dX3_linksOf_0 : decode cX3_linksOf 0 = .ok (.iload_n 1, 1) := by decide +kernel
theorem dX3_linksOf_1 : decode cX3_linksOf 1 = .ok (.ifCond .lt 21, 3) := by decide +kernel
theorem dX3_linksOf_4 : decode cX3_linksOf 4 = .ok (.iload_n 1, 1) := by decide +kernel
theorem dX3_linksOf_5 : decode cX3_linksOf 5 = .ok (.aload_n 0, 1) := by decide +kernel
theorem dX3_linksOf_6 : decode cX3_linksOf 6 = .ok (.getfield 13, 3) := by decide +kernel
theorem dX3_linksOf_9 : decode cX3_linksOf 9 = .ok (.arraylength, 1) := by decide +kernel
theorem dX3_linksOf_10 : decode cX3_linksOf 10 = .ok (.if_icmp .ge 12, 3) := by decide +kernel
theorem dX3_linksOf_13 : decode cX3_linksOf 13 = .ok (.aload_n 0, 1) := by decide +kernel
theorem dX3_linksOf_14 : decode cX3_linksOf 14 = .ok (.getfield 13, 3) := by decide +kernel
theorem dX3_linksOf_17 : decode cX3_linksOf 17 = .ok (.iload_n 1, 1) := by decide +kernel
theorem dX3_linksOf_18 : decode cX3_linksOf 18 = .ok (.iaload, 1) := by decide +kernel
theorem dX3_linksOf_19 : decode cX3_linksOf 19 = .ok (.goto 4, 3) := by decide +kernel
theorem dX3_linksOf_22 : decode cX3_linksOf 22 = .ok (.iconst 0, 1) := by decide +kernel
theorem dX3_linksOf_23 : decode cX3_linksOf 23 = .ok (.ireturn, 1) := by decide +kernel
theorem dX3_takenOf_0 : decode cX3_takenOf 0 = .ok (.iload_n 1, 1) := by decide +kernel
theorem dX3_takenOf_1 : decode cX3_takenOf 1 = .ok (.ifCond .lt 21, 3) := by decide +kernel
theorem dX3_takenOf_4 : decode cX3_takenOf 4 = .ok (.iload_n 1, 1) := by decide +kernel
theorem dX3_takenOf_5 : decode cX3_takenOf 5 = .ok (.aload_n 0, 1) := by decide +kernel
theorem dX3_takenOf_6 : decode cX3_takenOf 6 = .ok (.getfield 19, 3) := by decide +kernel
theorem dX3_takenOf_9 : decode cX3_takenOf 9 = .ok (.arraylength, 1) := by decide +kernel
theorem dX3_takenOf_10 : decode cX3_takenOf 10 = .ok (.if_icmp .ge 12, 3) := by decide +kernel
theorem dX3_takenOf_13 : decode cX3_takenOf 13 = .ok (.aload_n 0, 1) := by decide +kernel
theorem dX3_takenOf_14 : decode cX3_takenOf 14 = .ok (.getfield 19, 3) := by decide +kernel
theorem dX3_takenOf_17 : decode cX3_takenOf 17 = .ok (.iload_n 1, 1) := by decide +kernel
theorem dX3_takenOf_18 : decode cX3_takenOf 18 = .ok (.iaload, 1) := by decide +kernel
theorem dX3_takenOf_19 : decode cX3_takenOf 19 = .ok (.goto 4, 3) := by decide +kernel
theorem dX3_takenOf_22 : decode cX3_takenOf 22 = .ok (.iconst 0, 1) := by decide +kernel
theorem dX3_takenOf_23 : decode cX3_takenOf 23 = .ok (.ireturn, 1) := by decide +kernel
theorem dX3_take_0 : decode cX3_take 0 = .ok (.iload_n 1, 1) := by decide +kernel
theorem dX3_take_1 : decode cX3_take 1 = .ok (.ifCond .lt 24, 3) := by decide +kernel
theorem dX3_take_4 : decode cX3_take 4 = .ok (.iload_n 1, 1) := by decide +kernel
theorem dX3_take_5 : decode cX3_take 5 = .ok (.aload_n 0, 1) := by decide +kernel
theorem dX3_take_6 : decode cX3_take 6 = .ok (.getfield 19, 3) := by decide +kernel
theorem dX3_take_9 : decode cX3_take 9 = .ok (.arraylength, 1) := by decide +kernel
theorem dX3_take_10 : decode cX3_take 10 = .ok (.if_icmp .ge 15, 3) := by decide +kernel
theorem dX3_take_13 : decode cX3_take 13 = .ok (.aload_n 0, 1) := by decide +kernel
theorem dX3_take_14 : decode cX3_take 14 = .ok (.getfield 19, 3) := by decide +kernel
theorem dX3_take_17 : decode cX3_take 17 = .ok (.iload_n 1, 1) := by decide +kernel
theorem dX3_take_18 : decode cX3_take 18 = .ok (.dup2, 1) := by decide +kernel
theorem dX3_take_19 : decode cX3_take 19 = .ok (.iaload, 1) := by decide +kernel
theorem dX3_take_20 : decode cX3_take 20 = .ok (.iconst 1, 1) := by decide +kernel
theorem dX3_take_21 : decode cX3_take 21 = .ok (.iload_n 2, 1) := by decide +kernel
theorem dX3_take_22 : decode cX3_take 22 = .ok (.ishl, 1) := by decide +kernel
theorem dX3_take_23 : decode cX3_take 23 = .ok (.ior, 1) := by decide +kernel
theorem dX3_take_24 : decode cX3_take 24 = .ok (.iastore, 1) := by decide +kernel
theorem dX3_take_25 : decode cX3_take 25 = .ok (.return_, 1) := by decide +kernel
theorem dX3_firstDirection_0 : decode cX3_firstDirection 0 = .ok (.iconst 0, 1) := by decide +kernel
theorem dX3_firstDirection_1 : decode cX3_firstDirection 1 = .ok (.istore_n 1, 1) := by decide +kernel
theorem dX3_firstDirection_2 : decode cX3_firstDirection 2 = .ok (.iload_n 1, 1) := by decide +kernel
theorem dX3_firstDirection_3 : decode cX3_firstDirection 3 = .ok (.bipush 8, 2) := by decide +kernel
theorem dX3_firstDirection_5 : decode cX3_firstDirection 5 = .ok (.if_icmp .ge 19, 3) := by decide +kernel
theorem dX3_firstDirection_8 : decode cX3_firstDirection 8 = .ok (.iload_n 0, 1) := by decide +kernel
theorem dX3_firstDirection_9 : decode cX3_firstDirection 9 = .ok (.iload_n 1, 1) := by decide +kernel
theorem dX3_firstDirection_10 : decode cX3_firstDirection 10 = .ok (.invokestatic 127, 3) := by decide +kernel
theorem dX3_firstDirection_13 : decode cX3_firstDirection 13 = .ok (.ifCond .eq 5, 3) := by decide +kernel
theorem dX3_firstDirection_16 : decode cX3_firstDirection 16 = .ok (.iload_n 1, 1) := by decide +kernel
theorem dX3_firstDirection_17 : decode cX3_firstDirection 17 = .ok (.ireturn, 1) := by decide +kernel
theorem dX3_firstDirection_18 : decode cX3_firstDirection 18 = .ok (.iinc 1 1, 3) := by decide +kernel
theorem dX3_firstDirection_21 : decode cX3_firstDirection 21 = .ok (.goto (-19), 3) := by decide +kernel
theorem dX3_firstDirection_24 : decode cX3_firstDirection 24 = .ok (.iconst 0, 1) := by decide +kernel
theorem dX3_firstDirection_25 : decode cX3_firstDirection 25 = .ok (.ireturn, 1) := by decide +kernel
theorem dX3_stepFrom_0 : decode cX3_stepFrom 0 = .ok (.iload_n 1, 1) := by decide +kernel
theorem dX3_stepFrom_1 : decode cX3_stepFrom 1 = .ok (.bipush 7, 2) := by decide +kernel
theorem dX3_stepFrom_3 : decode cX3_stepFrom 3 = .ok (.iand, 1) := by decide +kernel
theorem dX3_stepFrom_4 : decode cX3_stepFrom 4 = .ok (.istore_n 2, 1) := by decide +kernel
theorem dX3_stepFrom_5 : decode cX3_stepFrom 5 = .ok (.iload_n 0, 1) := by decide +kernel
theorem dX3_stepFrom_6 : decode cX3_stepFrom 6 = .ok (.invokestatic 94, 3) := by decide +kernel
theorem dX3_stepFrom_9 : decode cX3_stepFrom 9 = .ok (.getstatic 149, 3) := by decide +kernel
theorem dX3_stepFrom_12 : decode cX3_stepFrom 12 = .ok (.iload_n 2, 1) := by decide +kernel
theorem dX3_stepFrom_13 : decode cX3_stepFrom 13 = .ok (.iaload, 1) := by decide +kernel
theorem dX3_stepFrom_14 : decode cX3_stepFrom 14 = .ok (.iadd, 1) := by decide +kernel
theorem dX3_stepFrom_15 : decode cX3_stepFrom 15 = .ok (.iload_n 0, 1) := by decide +kernel
theorem dX3_stepFrom_16 : decode cX3_stepFrom 16 = .ok (.invokestatic 97, 3) := by decide +kernel
theorem dX3_stepFrom_19 : decode cX3_stepFrom 19 = .ok (.getstatic 152, 3) := by decide +kernel
theorem dX3_stepFrom_22 : decode cX3_stepFrom 22 = .ok (.iload_n 2, 1) := by decide +kernel
theorem dX3_stepFrom_23 : decode cX3_stepFrom 23 = .ok (.iaload, 1) := by decide +kernel
theorem dX3_stepFrom_24 : decode cX3_stepFrom 24 = .ok (.iadd, 1) := by decide +kernel
theorem dX3_stepFrom_25 : decode cX3_stepFrom 25 = .ok (.invokestatic 111, 3) := by decide +kernel
theorem dX3_stepFrom_28 : decode cX3_stepFrom 28 = .ok (.ireturn, 1) := by decide +kernel
theorem dX3_firstOf_0 : decode cX3_firstOf 0 = .ok (.aload_n 0, 1) := by decide +kernel
theorem dX3_firstOf_1 : decode cX3_firstOf 1 = .ok (.iload_n 1, 1) := by decide +kernel
theorem dX3_firstOf_2 : decode cX3_firstOf 2 = .ok (.iconst 0, 1) := by decide +kernel
theorem dX3_firstOf_3 : decode cX3_firstOf 3 = .ok (.invokevirtual 155, 3) := by decide +kernel
theorem dX3_firstOf_6 : decode cX3_firstOf 6 = .ok (.ireturn, 1) := by decide +kernel
theorem dX3_lastOf_0 : decode cX3_lastOf 0 = .ok (.aload_n 0, 1) := by decide +kernel
theorem dX3_lastOf_1 : decode cX3_lastOf 1 = .ok (.iload_n 1, 1) := by decide +kernel
theorem dX3_lastOf_2 : decode cX3_lastOf 2 = .ok (.aload_n 0, 1) := by decide +kernel
theorem dX3_lastOf_3 : decode cX3_lastOf 3 = .ok (.iload_n 1, 1) := by decide +kernel
theorem dX3_lastOf_4 : decode cX3_lastOf 4 = .ok (.invokevirtual 38, 3) := by decide +kernel
theorem dX3_lastOf_7 : decode cX3_lastOf 7 = .ok (.iconst 1, 1) := by decide +kernel
theorem dX3_lastOf_8 : decode cX3_lastOf 8 = .ok (.isub, 1) := by decide +kernel
theorem dX3_lastOf_9 : decode cX3_lastOf 9 = .ok (.invokevirtual 155, 3) := by decide +kernel
theorem dX3_lastOf_12 : decode cX3_lastOf 12 = .ok (.ireturn, 1) := by decide +kernel
theorem dX3_touches_0 : decode cX3_touches 0 = .ok (.aload_n 0, 1) := by decide +kernel
theorem dX3_touches_1 : decode cX3_touches 1 = .ok (.iload_n 1, 1) := by decide +kernel
theorem dX3_touches_2 : decode cX3_touches 2 = .ok (.invokevirtual 158, 3) := by decide +kernel
theorem dX3_touches_5 : decode cX3_touches 5 = .ok (.iload_n 2, 1) := by decide +kernel
theorem dX3_touches_6 : decode cX3_touches 6 = .ok (.if_icmp .eq 12, 3) := by decide +kernel
theorem dX3_touches_9 : decode cX3_touches 9 = .ok (.aload_n 0, 1) := by decide +kernel
theorem dX3_touches_10 : decode cX3_touches 10 = .ok (.iload_n 1, 1) := by decide +kernel
theorem dX3_touches_11 : decode cX3_touches 11 = .ok (.invokevirtual 76, 3) := by decide +kernel
theorem dX3_touches_14 : decode cX3_touches 14 = .ok (.iload_n 2, 1) := by decide +kernel
theorem dX3_touches_15 : decode cX3_touches 15 = .ok (.if_icmp .ne 7, 3) := by decide +kernel
theorem dX3_touches_18 : decode cX3_touches 18 = .ok (.iconst 1, 1) := by decide +kernel
theorem dX3_touches_19 : decode cX3_touches 19 = .ok (.goto 4, 3) := by decide +kernel
theorem dX3_touches_22 : decode cX3_touches 22 = .ok (.iconst 0, 1) := by decide +kernel
theorem dX3_touches_23 : decode cX3_touches 23 = .ok (.ireturn, 1) := by decide +kernel
theorem dX3_crossingOfLooseStroke_0 : decode cX3_crossingOfLooseStroke 0 = .ok (.aload_n 0, 1) := by decide +kernel
theorem dX3_crossingOfLooseStroke_1 : decode cX3_crossingOfLooseStroke 1 = .ok (.iload_n 1, 1) := by decide +kernel
theorem dX3_crossingOfLooseStroke_2 : decode cX3_crossingOfLooseStroke 2 = .ok (.invokevirtual 158, 3) := by decide +kernel
theorem dX3_crossingOfLooseStroke_5 : decode cX3_crossingOfLooseStroke 5 = .ok (.istore_n 2, 1) := by decide +kernel
theorem dX3_crossingOfLooseStroke_6 : decode cX3_crossingOfLooseStroke 6 = .ok (.aload_n 0, 1) := by decide +kernel
theorem dX3_crossingOfLooseStroke_7 : decode cX3_crossingOfLooseStroke 7 = .ok (.iload_n 1, 1) := by decide +kernel
theorem dX3_crossingOfLooseStroke_8 : decode cX3_crossingOfLooseStroke 8 = .ok (.invokevirtual 76, 3) := by decide +kernel
theorem dX3_crossingOfLooseStroke_11 : decode cX3_crossingOfLooseStroke 11 = .ok (.istore_n 3, 1) := by decide +kernel
theorem dX3_crossingOfLooseStroke_12 : decode cX3_crossingOfLooseStroke 12 = .ok (.aload_n 0, 1) := by decide +kernel
theorem dX3_crossingOfLooseStroke_13 : decode cX3_crossingOfLooseStroke 13 = .ok (.iload_n 2, 1) := by decide +kernel
theorem dX3_crossingOfLooseStroke_14 : decode cX3_crossingOfLooseStroke 14 = .ok (.invokevirtual 79, 3) := by decide +kernel
theorem dX3_crossingOfLooseStroke_17 : decode cX3_crossingOfLooseStroke 17 = .ok (.iconst 1, 1) := by decide +kernel
theorem dX3_crossingOfLooseStroke_18 : decode cX3_crossingOfLooseStroke 18 = .ok (.if_icmp .ne 14, 3) := by decide +kernel
theorem dX3_crossingOfLooseStroke_21 : decode cX3_crossingOfLooseStroke 21 = .ok (.aload_n 0, 1) := by decide +kernel
theorem dX3_crossingOfLooseStroke_22 : decode cX3_crossingOfLooseStroke 22 = .ok (.iload_n 3, 1) := by decide +kernel
theorem dX3_crossingOfLooseStroke_23 : decode cX3_crossingOfLooseStroke 23 = .ok (.invokevirtual 79, 3) := by decide +kernel
theorem dX3_crossingOfLooseStroke_26 : decode cX3_crossingOfLooseStroke 26 = .ok (.iconst 3, 1) := by decide +kernel
theorem dX3_crossingOfLooseStroke_27 : decode cX3_crossingOfLooseStroke 27 = .ok (.if_icmp .lt 5, 3) := by decide +kernel
theorem dX3_crossingOfLooseStroke_30 : decode cX3_crossingOfLooseStroke 30 = .ok (.iload_n 3, 1) := by decide +kernel
theorem dX3_crossingOfLooseStroke_31 : decode cX3_crossingOfLooseStroke 31 = .ok (.ireturn, 1) := by decide +kernel
theorem dX3_crossingOfLooseStroke_32 : decode cX3_crossingOfLooseStroke 32 = .ok (.aload_n 0, 1) := by decide +kernel
theorem dX3_crossingOfLooseStroke_33 : decode cX3_crossingOfLooseStroke 33 = .ok (.iload_n 3, 1) := by decide +kernel
theorem dX3_crossingOfLooseStroke_34 : decode cX3_crossingOfLooseStroke 34 = .ok (.invokevirtual 79, 3) := by decide +kernel
theorem dX3_crossingOfLooseStroke_37 : decode cX3_crossingOfLooseStroke 37 = .ok (.iconst 1, 1) := by decide +kernel
theorem dX3_crossingOfLooseStroke_38 : decode cX3_crossingOfLooseStroke 38 = .ok (.if_icmp .ne 14, 3) := by decide +kernel
theorem dX3_crossingOfLooseStroke_41 : decode cX3_crossingOfLooseStroke 41 = .ok (.aload_n 0, 1) := by decide +kernel
theorem dX3_crossingOfLooseStroke_42 : decode cX3_crossingOfLooseStroke 42 = .ok (.iload_n 2, 1) := by decide +kernel
theorem dX3_crossingOfLooseStroke_43 : decode cX3_crossingOfLooseStroke 43 = .ok (.invokevirtual 79, 3) := by decide +kernel
theorem dX3_crossingOfLooseStroke_46 : decode cX3_crossingOfLooseStroke 46 = .ok (.iconst 3, 1) := by decide +kernel
theorem dX3_crossingOfLooseStroke_47 : decode cX3_crossingOfLooseStroke 47 = .ok (.if_icmp .lt 5, 3) := by decide +kernel
theorem dX3_crossingOfLooseStroke_50 : decode cX3_crossingOfLooseStroke 50 = .ok (.iload_n 2, 1) := by decide +kernel
theorem dX3_crossingOfLooseStroke_51 : decode cX3_crossingOfLooseStroke 51 = .ok (.ireturn, 1) := by decide +kernel
theorem dX3_crossingOfLooseStroke_52 : decode cX3_crossingOfLooseStroke 52 = .ok (.iconst (-1), 1) := by decide +kernel
theorem dX3_crossingOfLooseStroke_53 : decode cX3_crossingOfLooseStroke 53 = .ok (.ireturn, 1) := by decide +kernel
theorem dX3_isCrossingIn_0 : decode cX3_isCrossingIn 0 = .ok (.aload_n 0, 1) := by decide +kernel
theorem dX3_isCrossingIn_1 : decode cX3_isCrossingIn 1 = .ok (.iload_n 1, 1) := by decide +kernel
theorem dX3_isCrossingIn_2 : decode cX3_isCrossingIn 2 = .ok (.invokestatic 94, 3) := by decide +kernel
theorem dX3_isCrossingIn_5 : decode cX3_isCrossingIn 5 = .ok (.iload_n 1, 1) := by decide +kernel
theorem dX3_isCrossingIn_6 : decode cX3_isCrossingIn 6 = .ok (.invokestatic 97, 3) := by decide +kernel
theorem dX3_isCrossingIn_9 : decode cX3_isCrossingIn 9 = .ok (.invokevirtual 100, 3) := by decide +kernel
theorem dX3_isCrossingIn_12 : decode cX3_isCrossingIn 12 = .ok (.istore_n 2, 1) := by decide +kernel
theorem dX3_isCrossingIn_13 : decode cX3_isCrossingIn 13 = .ok (.iload_n 2, 1) := by decide +kernel
theorem dX3_isCrossingIn_14 : decode cX3_isCrossingIn 14 = .ok (.invokestatic 44, 3) := by decide +kernel
theorem dX3_isCrossingIn_17 : decode cX3_isCrossingIn 17 = .ok (.iconst 3, 1) := by decide +kernel
theorem dX3_isCrossingIn_18 : decode cX3_isCrossingIn 18 = .ok (.if_icmp .lt 7, 3) := by decide +kernel
theorem dX3_isCrossingIn_21 : decode cX3_isCrossingIn 21 = .ok (.iconst 1, 1) := by decide +kernel
theorem dX3_isCrossingIn_22 : decode cX3_isCrossingIn 22 = .ok (.goto 4, 3) := by decide +kernel
theorem dX3_isCrossingIn_25 : decode cX3_isCrossingIn 25 = .ok (.iconst 0, 1) := by decide +kernel
theorem dX3_isCrossingIn_26 : decode cX3_isCrossingIn 26 = .ok (.ireturn, 1) := by decide +kernel
theorem dX3_cut_0 : decode cX3_cut 0 = .ok (.iconst 0, 1) := by decide +kernel
theorem dX3_cut_1 : decode cX3_cut 1 = .ok (.istore 4, 2) := by decide +kernel
theorem dX3_cut_3 : decode cX3_cut 3 = .ok (.iconst 0, 1) := by decide +kernel
theorem dX3_cut_4 : decode cX3_cut 4 = .ok (.istore 5, 2) := by decide +kernel
theorem dX3_cut_6 : decode cX3_cut 6 = .ok (.iload 5, 2) := by decide +kernel
theorem dX3_cut_8 : decode cX3_cut 8 = .ok (.aload_n 0, 1) := by decide +kernel
theorem dX3_cut_9 : decode cX3_cut 9 = .ok (.iload_n 2, 1) := by decide +kernel
theorem dX3_cut_10 : decode cX3_cut 10 = .ok (.invokevirtual 38, 3) := by decide +kernel
theorem dX3_cut_13 : decode cX3_cut 13 = .ok (.if_icmp .ge 42, 3) := by decide +kernel
theorem dX3_cut_16 : decode cX3_cut 16 = .ok (.aload_n 0, 1) := by decide +kernel
theorem dX3_cut_17 : decode cX3_cut 17 = .ok (.iload_n 2, 1) := by decide +kernel
theorem dX3_cut_18 : decode cX3_cut 18 = .ok (.iload 5, 2) := by decide +kernel
theorem dX3_cut_20 : decode cX3_cut 20 = .ok (.invokevirtual 155, 3) := by decide +kernel
theorem dX3_cut_23 : decode cX3_cut 23 = .ok (.istore 6, 2) := by decide +kernel
theorem dX3_cut_25 : decode cX3_cut 25 = .ok (.iload 6, 2) := by decide +kernel
theorem dX3_cut_27 : decode cX3_cut 27 = .ok (.iload_n 3, 1) := by decide +kernel
theorem dX3_cut_28 : decode cX3_cut 28 = .ok (.if_icmp .eq 21, 3) := by decide +kernel
theorem dX3_cut_31 : decode cX3_cut 31 = .ok (.aload_n 1, 1) := by decide +kernel
theorem dX3_cut_32 : decode cX3_cut 32 = .ok (.iload 6, 2) := by decide +kernel
theorem dX3_cut_34 : decode cX3_cut 34 = .ok (.invokestatic 94, 3) := by decide +kernel
theorem dX3_cut_37 : decode cX3_cut 37 = .ok (.iload 6, 2) := by decide +kernel
theorem dX3_cut_39 : decode cX3_cut 39 = .ok (.invokestatic 97, 3) := by decide +kernel
theorem dX3_cut_42 : decode cX3_cut 42 = .ok (.iconst 0, 1) := by decide +kernel
theorem dX3_cut_43 : decode cX3_cut 43 = .ok (.invokevirtual 161, 3) := by decide +kernel
theorem dX3_cut_46 : decode cX3_cut 46 = .ok (.iinc 4 1, 3) := by decide +kernel
theorem dX3_cut_49 : decode cX3_cut 49 = .ok (.iinc 5 1, 3) := by decide +kernel
theorem dX3_cut_52 : decode cX3_cut 52 = .ok (.goto (-46), 3) := by decide +kernel
theorem dX3_cut_55 : decode cX3_cut 55 = .ok (.iload 4, 2) := by decide +kernel
theorem dX3_cut_57 : decode cX3_cut 57 = .ok (.ireturn, 1) := by decide +kernel
theorem dX3_aheadOf_0 : decode cX3_aheadOf 0 = .ok (.aload_n 0, 1) := by decide +kernel
theorem dX3_aheadOf_1 : decode cX3_aheadOf 1 = .ok (.iload_n 1, 1) := by decide +kernel
theorem dX3_aheadOf_2 : decode cX3_aheadOf 2 = .ok (.invokevirtual 38, 3) := by decide +kernel
theorem dX3_aheadOf_5 : decode cX3_aheadOf 5 = .ok (.iconst 1, 1) := by decide +kernel
theorem dX3_aheadOf_6 : decode cX3_aheadOf 6 = .ok (.isub, 1) := by decide +kernel
theorem dX3_aheadOf_7 : decode cX3_aheadOf 7 = .ok (.istore_n 3, 1) := by decide +kernel
theorem dX3_aheadOf_8 : decode cX3_aheadOf 8 = .ok (.iconst 3, 1) := by decide +kernel
theorem dX3_aheadOf_9 : decode cX3_aheadOf 9 = .ok (.iload_n 3, 1) := by decide +kernel
theorem dX3_aheadOf_10 : decode cX3_aheadOf 10 = .ok (.invokestatic 165, 3) := by decide +kernel
theorem dX3_aheadOf_13 : decode cX3_aheadOf 13 = .ok (.istore 4, 2) := by decide +kernel
theorem dX3_aheadOf_15 : decode cX3_aheadOf 15 = .ok (.aload_n 0, 1) := by decide +kernel
theorem dX3_aheadOf_16 : decode cX3_aheadOf 16 = .ok (.iload_n 1, 1) := by decide +kernel
theorem dX3_aheadOf_17 : decode cX3_aheadOf 17 = .ok (.aload_n 0, 1) := by decide +kernel
theorem dX3_aheadOf_18 : decode cX3_aheadOf 18 = .ok (.iload_n 1, 1) := by decide +kernel
theorem dX3_aheadOf_19 : decode cX3_aheadOf 19 = .ok (.invokevirtual 158, 3) := by decide +kernel
theorem dX3_aheadOf_22 : decode cX3_aheadOf 22 = .ok (.iload_n 2, 1) := by decide +kernel
theorem dX3_aheadOf_23 : decode cX3_aheadOf 23 = .ok (.if_icmp .ne 8, 3) := by decide +kernel
theorem dX3_aheadOf_26 : decode cX3_aheadOf 26 = .ok (.iload 4, 2) := by decide +kernel
theorem dX3_aheadOf_28 : decode cX3_aheadOf 28 = .ok (.goto 7, 3) := by decide +kernel
theorem dX3_aheadOf_31 : decode cX3_aheadOf 31 = .ok (.iload_n 3, 1) := by decide +kernel
theorem dX3_aheadOf_32 : decode cX3_aheadOf 32 = .ok (.iload 4, 2) := by decide +kernel
theorem dX3_aheadOf_34 : decode cX3_aheadOf 34 = .ok (.isub, 1) := by decide +kernel
theorem dX3_aheadOf_35 : decode cX3_aheadOf 35 = .ok (.invokevirtual 155, 3) := by decide +kernel
theorem dX3_aheadOf_38 : decode cX3_aheadOf 38 = .ok (.ireturn, 1) := by decide +kernel
theorem dX3_dot_0 : decode cX3_dot 0 = .ok (.iload_n 1, 1) := by decide +kernel
theorem dX3_dot_1 : decode cX3_dot 1 = .ok (.invokestatic 94, 3) := by decide +kernel
theorem dX3_dot_4 : decode cX3_dot 4 = .ok (.iload_n 0, 1) := by decide +kernel
theorem dX3_dot_5 : decode cX3_dot 5 = .ok (.invokestatic 94, 3) := by decide +kernel
theorem dX3_dot_8 : decode cX3_dot 8 = .ok (.isub, 1) := by decide +kernel
theorem dX3_dot_9 : decode cX3_dot 9 = .ok (.iload_n 2, 1) := by decide +kernel
theorem dX3_dot_10 : decode cX3_dot 10 = .ok (.invokestatic 94, 3) := by decide +kernel
theorem dX3_dot_13 : decode cX3_dot 13 = .ok (.iload_n 0, 1) := by decide +kernel
theorem dX3_dot_14 : decode cX3_dot 14 = .ok (.invokestatic 94, 3) := by decide +kernel
theorem dX3_dot_17 : decode cX3_dot 17 = .ok (.isub, 1) := by decide +kernel
theorem dX3_dot_18 : decode cX3_dot 18 = .ok (.imul, 1) := by decide +kernel
theorem dX3_dot_19 : decode cX3_dot 19 = .ok (.istore_n 3, 1) := by decide +kernel
theorem dX3_dot_20 : decode cX3_dot 20 = .ok (.iload_n 1, 1) := by decide +kernel
theorem dX3_dot_21 : decode cX3_dot 21 = .ok (.invokestatic 97, 3) := by decide +kernel
theorem dX3_dot_24 : decode cX3_dot 24 = .ok (.iload_n 0, 1) := by decide +kernel
theorem dX3_dot_25 : decode cX3_dot 25 = .ok (.invokestatic 97, 3) := by decide +kernel
theorem dX3_dot_28 : decode cX3_dot 28 = .ok (.isub, 1) := by decide +kernel
theorem dX3_dot_29 : decode cX3_dot 29 = .ok (.iload_n 2, 1) := by decide +kernel
theorem dX3_dot_30 : decode cX3_dot 30 = .ok (.invokestatic 97, 3) := by decide +kernel
theorem dX3_dot_33 : decode cX3_dot 33 = .ok (.iload_n 0, 1) := by decide +kernel
theorem dX3_dot_34 : decode cX3_dot 34 = .ok (.invokestatic 97, 3) := by decide +kernel
theorem dX3_dot_37 : decode cX3_dot 37 = .ok (.isub, 1) := by decide +kernel
theorem dX3_dot_38 : decode cX3_dot 38 = .ok (.imul, 1) := by decide +kernel
theorem dX3_dot_39 : decode cX3_dot 39 = .ok (.istore 4, 2) := by decide +kernel
theorem dX3_dot_41 : decode cX3_dot 41 = .ok (.iload_n 3, 1) := by decide +kernel
theorem dX3_dot_42 : decode cX3_dot 42 = .ok (.iload 4, 2) := by decide +kernel
theorem dX3_dot_44 : decode cX3_dot 44 = .ok (.iadd, 1) := by decide +kernel
theorem dX3_dot_45 : decode cX3_dot 45 = .ok (.ireturn, 1) := by decide +kernel
theorem dX4_init_0 : decode cX4_init 0 = .ok (.aload_n 0, 1) := by decide +kernel
theorem dX4_init_1 : decode cX4_init 1 = .ok (.invokespecial 1, 3) := by decide +kernel
theorem dX4_init_4 : decode cX4_init 4 = .ok (.iload_n 1, 1) := by decide +kernel
theorem dX4_init_5 : decode cX4_init 5 = .ok (.invokestatic 7, 3) := by decide +kernel
theorem dX4_init_8 : decode cX4_init 8 = .ok (.istore_n 3, 1) := by decide +kernel
theorem dX4_init_9 : decode cX4_init 9 = .ok (.iload_n 2, 1) := by decide +kernel
theorem dX4_init_10 : decode cX4_init 10 = .ok (.invokestatic 7, 3) := by decide +kernel
theorem dX4_init_13 : decode cX4_init 13 = .ok (.istore 4, 2) := by decide +kernel
theorem dX4_init_15 : decode cX4_init 15 = .ok (.aload_n 0, 1) := by decide +kernel
theorem dX4_init_16 : decode cX4_init 16 = .ok (.new 13, 3) := by decide +kernel
theorem dX4_init_19 : decode cX4_init 19 = .ok (.dup, 1) := by decide +kernel
theorem dX4_init_20 : decode cX4_init 20 = .ok (.iload_n 3, 1) := by decide +kernel
theorem dX4_init_21 : decode cX4_init 21 = .ok (.iload 4, 2) := by decide +kernel
theorem dX4_init_23 : decode cX4_init 23 = .ok (.invokespecial 15, 3) := by decide +kernel
theorem dX4_init_26 : decode cX4_init 26 = .ok (.putfield 18, 3) := by decide +kernel
theorem dX4_init_29 : decode cX4_init 29 = .ok (.aload_n 0, 1) := by decide +kernel
theorem dX4_init_30 : decode cX4_init 30 = .ok (.new 13, 3) := by decide +kernel
theorem dX4_init_33 : decode cX4_init 33 = .ok (.dup, 1) := by decide +kernel
theorem dX4_init_34 : decode cX4_init 34 = .ok (.iload_n 3, 1) := by decide +kernel
theorem dX4_init_35 : decode cX4_init 35 = .ok (.iload 4, 2) := by decide +kernel
theorem dX4_init_37 : decode cX4_init 37 = .ok (.invokespecial 15, 3) := by decide +kernel
theorem dX4_init_40 : decode cX4_init 40 = .ok (.putfield 22, 3) := by decide +kernel
theorem dX4_init_43 : decode cX4_init 43 = .ok (.aload_n 0, 1) := by decide +kernel
theorem dX4_init_44 : decode cX4_init 44 = .ok (.new 13, 3) := by decide +kernel
theorem dX4_init_47 : decode cX4_init 47 = .ok (.dup, 1) := by decide +kernel
theorem dX4_init_48 : decode cX4_init 48 = .ok (.iload_n 3, 1) := by decide +kernel
theorem dX4_init_49 : decode cX4_init 49 = .ok (.iload 4, 2) := by decide +kernel
theorem dX4_init_51 : decode cX4_init 51 = .ok (.invokespecial 15, 3) := by decide +kernel
theorem dX4_init_54 : decode cX4_init 54 = .ok (.putfield 25, 3) := by decide +kernel
theorem dX4_init_57 : decode cX4_init 57 = .ok (.aload_n 0, 1) := by decide +kernel
theorem dX4_init_58 : decode cX4_init 58 = .ok (.new 28, 3) := by decide +kernel
theorem dX4_init_61 : decode cX4_init 61 = .ok (.dup, 1) := by decide +kernel
theorem dX4_init_62 : decode cX4_init 62 = .ok (.iload_n 3, 1) := by decide +kernel
theorem dX4_init_63 : decode cX4_init 63 = .ok (.iload 4, 2) := by decide +kernel
theorem dX4_init_65 : decode cX4_init 65 = .ok (.imul, 1) := by decide +kernel
theorem dX4_init_66 : decode cX4_init 66 = .ok (.invokespecial 30, 3) := by decide +kernel
theorem dX4_init_69 : decode cX4_init 69 = .ok (.putfield 33, 3) := by decide +kernel
theorem dX4_init_72 : decode cX4_init 72 = .ok (.aload_n 0, 1) := by decide +kernel
theorem dX4_init_73 : decode cX4_init 73 = .ok (.new 37, 3) := by decide +kernel
theorem dX4_init_76 : decode cX4_init 76 = .ok (.dup, 1) := by decide +kernel
theorem dX4_init_77 : decode cX4_init 77 = .ok (.iload_n 3, 1) := by decide +kernel
theorem dX4_init_78 : decode cX4_init 78 = .ok (.iload 4, 2) := by decide +kernel
theorem dX4_init_80 : decode cX4_init 80 = .ok (.invokespecial 39, 3) := by decide +kernel
theorem dX4_init_83 : decode cX4_init 83 = .ok (.putfield 40, 3) := by decide +kernel
theorem dX4_init_86 : decode cX4_init 86 = .ok (.aload_n 0, 1) := by decide +kernel
theorem dX4_init_87 : decode cX4_init 87 = .ok (.new 44, 3) := by decide +kernel
theorem dX4_init_90 : decode cX4_init 90 = .ok (.dup, 1) := by decide +kernel
theorem dX4_init_91 : decode cX4_init 91 = .ok (.iload_n 3, 1) := by decide +kernel
theorem dX4_init_92 : decode cX4_init 92 = .ok (.iload 4, 2) := by decide +kernel
theorem dX4_init_94 : decode cX4_init 94 = .ok (.invokespecial 46, 3) := by decide +kernel
theorem dX4_init_97 : decode cX4_init 97 = .ok (.putfield 47, 3) := by decide +kernel
theorem dX4_init_100 : decode cX4_init 100 = .ok (.aload_n 0, 1) := by decide +kernel
theorem dX4_init_101 : decode cX4_init 101 = .ok (.iconst 0, 1) := by decide +kernel
theorem dX4_init_102 : decode cX4_init 102 = .ok (.putfield 51, 3) := by decide +kernel
theorem dX4_init_105 : decode cX4_init 105 = .ok (.return_, 1) := by decide +kernel
theorem dX4_put_0 : decode cX4_put 0 = .ok (.aload_n 0, 1) := by decide +kernel
theorem dX4_put_1 : decode cX4_put 1 = .ok (.iload_n 1, 1) := by decide +kernel
theorem dX4_put_2 : decode cX4_put 2 = .ok (.iload_n 2, 1) := by decide +kernel
theorem dX4_put_3 : decode cX4_put 3 = .ok (.invokevirtual 55, 3) := by decide +kernel
theorem dX4_put_6 : decode cX4_put 6 = .ok (.aload_n 0, 1) := by decide +kernel
theorem dX4_put_7 : decode cX4_put 7 = .ok (.getfield 18, 3) := by decide +kernel
theorem dX4_put_10 : decode cX4_put 10 = .ok (.iload_n 1, 1) := by decide +kernel
theorem dX4_put_11 : decode cX4_put 11 = .ok (.iload_n 2, 1) := by decide +kernel
theorem dX4_put_12 : decode cX4_put 12 = .ok (.invokevirtual 58, 3) := by decide +kernel
theorem dX4_put_15 : decode cX4_put 15 = .ok (.istore 4, 2) := by decide +kernel
theorem dX4_put_17 : decode cX4_put 17 = .ok (.aload_n 0, 1) := by decide +kernel
theorem dX4_put_18 : decode cX4_put 18 = .ok (.getfield 18, 3) := by decide +kernel
theorem dX4_put_21 : decode cX4_put 21 = .ok (.iload_n 1, 1) := by decide +kernel
theorem dX4_put_22 : decode cX4_put 22 = .ok (.iload_n 2, 1) := by decide +kernel
theorem dX4_put_23 : decode cX4_put 23 = .ok (.iload_n 3, 1) := by decide +kernel
theorem dX4_put_24 : decode cX4_put 24 = .ok (.invokevirtual 62, 3) := by decide +kernel
theorem dX4_put_27 : decode cX4_put 27 = .ok (.aload_n 0, 1) := by decide +kernel
theorem dX4_put_28 : decode cX4_put 28 = .ok (.getfield 22, 3) := by decide +kernel
theorem dX4_put_31 : decode cX4_put 31 = .ok (.aload_n 0, 1) := by decide +kernel
theorem dX4_put_32 : decode cX4_put 32 = .ok (.getfield 18, 3) := by decide +kernel
theorem dX4_put_35 : decode cX4_put 35 = .ok (.invokevirtual 66, 3) := by decide +kernel
theorem dX4_put_38 : decode cX4_put 38 = .ok (.aload_n 0, 1) := by decide +kernel
theorem dX4_put_39 : decode cX4_put 39 = .ok (.iconst 0, 1) := by decide +kernel
theorem dX4_put_40 : decode cX4_put 40 = .ok (.putfield 51, 3) := by decide +kernel
theorem dX4_put_43 : decode cX4_put 43 = .ok (.iload 4, 2) := by decide +kernel
theorem dX4_put_45 : decode cX4_put 45 = .ok (.iload_n 3, 1) := by decide +kernel
theorem dX4_put_46 : decode cX4_put 46 = .ok (.if_icmp .eq 7, 3) := by decide +kernel
theorem dX4_put_49 : decode cX4_put 49 = .ok (.iconst 1, 1) := by decide +kernel
theorem dX4_put_50 : decode cX4_put 50 = .ok (.goto 4, 3) := by decide +kernel
theorem dX4_put_53 : decode cX4_put 53 = .ok (.iconst 0, 1) := by decide +kernel
theorem dX4_put_54 : decode cX4_put 54 = .ok (.ireturn, 1) := by decide +kernel
theorem dX4_thin_0 : decode cX4_thin 0 = .ok (.aload_n 0, 1) := by decide +kernel
theorem dX4_thin_1 : decode cX4_thin 1 = .ok (.getfield 33, 3) := by decide +kernel
theorem dX4_thin_4 : decode cX4_thin 4 = .ok (.aload_n 0, 1) := by decide +kernel
theorem dX4_thin_5 : decode cX4_thin 5 = .ok (.getfield 22, 3) := by decide +kernel
theorem dX4_thin_8 : decode cX4_thin 8 = .ok (.invokevirtual 70, 3) := by decide +kernel
theorem dX4_thin_11 : decode cX4_thin 11 = .ok (.istore_n 1, 1) := by decide +kernel
theorem dX4_thin_12 : decode cX4_thin 12 = .ok (.aload_n 0, 1) := by decide +kernel
theorem dX4_thin_13 : decode cX4_thin 13 = .ok (.getfield 40, 3) := by decide +kernel
theorem dX4_thin_16 : decode cX4_thin 16 = .ok (.aload_n 0, 1) := by decide +kernel
theorem dX4_thin_17 : decode cX4_thin 17 = .ok (.getfield 22, 3) := by decide +kernel
theorem dX4_thin_20 : decode cX4_thin 20 = .ok (.invokevirtual 74, 3) := by decide +kernel
theorem dX4_thin_23 : decode cX4_thin 23 = .ok (.aload_n 0, 1) := by decide +kernel
theorem dX4_thin_24 : decode cX4_thin 24 = .ok (.iconst 1, 1) := by decide +kernel
theorem dX4_thin_25 : decode cX4_thin 25 = .ok (.putfield 51, 3) := by decide +kernel
theorem dX4_thin_28 : decode cX4_thin 28 = .ok (.iload_n 1, 1) := by decide +kernel
theorem dX4_thin_29 : decode cX4_thin 29 = .ok (.ireturn, 1) := by decide +kernel
theorem dX4_at_0 : decode cX4_at 0 = .ok (.aload_n 0, 1) := by decide +kernel
theorem dX4_at_1 : decode cX4_at 1 = .ok (.iload_n 1, 1) := by decide +kernel
theorem dX4_at_2 : decode cX4_at 2 = .ok (.iload_n 2, 1) := by decide +kernel
theorem dX4_at_3 : decode cX4_at 3 = .ok (.invokevirtual 55, 3) := by decide +kernel
theorem dX4_at_6 : decode cX4_at 6 = .ok (.aload_n 0, 1) := by decide +kernel
theorem dX4_at_7 : decode cX4_at 7 = .ok (.getfield 22, 3) := by decide +kernel
theorem dX4_at_10 : decode cX4_at 10 = .ok (.iload_n 1, 1) := by decide +kernel
theorem dX4_at_11 : decode cX4_at 11 = .ok (.iload_n 2, 1) := by decide +kernel
theorem dX4_at_12 : decode cX4_at 12 = .ok (.invokevirtual 58, 3) := by decide +kernel
theorem dX4_at_15 : decode cX4_at 15 = .ok (.ireturn, 1) := by decide +kernel
theorem dX4_prune_0 : decode cX4_prune 0 = .ok (.aload_n 0, 1) := by decide +kernel
theorem dX4_prune_1 : decode cX4_prune 1 = .ok (.invokevirtual 77, 3) := by decide +kernel
theorem dX4_prune_4 : decode cX4_prune 4 = .ok (.iload_n 1, 1) := by decide +kernel
theorem dX4_prune_5 : decode cX4_prune 5 = .ok (.ifCond .lt 10, 3) := by decide +kernel
theorem dX4_prune_8 : decode cX4_prune 8 = .ok (.iload_n 1, 1) := by decide +kernel
theorem dX4_prune_9 : decode cX4_prune 9 = .ok (.sipush 600, 3) := by decide +kernel
theorem dX4_prune_12 : decode cX4_prune 12 = .ok (.if_icmp .le 13, 3) := by decide +kernel
theorem dX4_prune_15 : decode cX4_prune 15 = .ok (.new 80, 3) := by decide +kernel
theorem dX4_prune_18 : decode cX4_prune 18 = .ok (.dup, 1) := by decide +kernel
theorem dX4_prune_19 : decode cX4_prune 19 = .ok (.ldc 82, 2) := by decide +kernel
theorem dX4_prune_21 : decode cX4_prune 21 = .ok (.invokespecial 84, 3) := by decide +kernel
theorem dX4_prune_24 : decode cX4_prune 24 = .ok (.athrow, 1) := by decide +kernel
theorem dX4_prune_25 : decode cX4_prune 25 = .ok (.aload_n 0, 1) := by decide +kernel
theorem dX4_prune_26 : decode cX4_prune 26 = .ok (.getfield 40, 3) := by decide +kernel
theorem dX4_prune_29 : decode cX4_prune 29 = .ok (.aload_n 0, 1) := by decide +kernel
theorem dX4_prune_30 : decode cX4_prune 30 = .ok (.getfield 22, 3) := by decide +kernel
theorem dX4_prune_33 : decode cX4_prune 33 = .ok (.iload_n 1, 1) := by decide +kernel
theorem dX4_prune_34 : decode cX4_prune 34 = .ok (.invokevirtual 87, 3) := by decide +kernel
theorem dX4_prune_37 : decode cX4_prune 37 = .ok (.istore_n 2, 1) := by decide +kernel
theorem dX4_prune_38 : decode cX4_prune 38 = .ok (.aload_n 0, 1) := by decide +kernel
theorem dX4_prune_39 : decode cX4_prune 39 = .ok (.getfield 40, 3) := by decide +kernel
theorem dX4_prune_42 : decode cX4_prune 42 = .ok (.aload_n 0, 1) := by decide +kernel
theorem dX4_prune_43 : decode cX4_prune 43 = .ok (.getfield 22, 3) := by decide +kernel
theorem dX4_prune_46 : decode cX4_prune 46 = .ok (.invokevirtual 74, 3) := by decide +kernel
theorem dX4_prune_49 : decode cX4_prune 49 = .ok (.iload_n 2, 1) := by decide +kernel
theorem dX4_prune_50 : decode cX4_prune 50 = .ok (.ireturn, 1) := by decide +kernel
theorem dX4_strokes_0 : decode cX4_strokes 0 = .ok (.aload_n 0, 1) := by decide +kernel
theorem dX4_strokes_1 : decode cX4_strokes 1 = .ok (.invokevirtual 77, 3) := by decide +kernel
theorem dX4_strokes_4 : decode cX4_strokes 4 = .ok (.aload_n 0, 1) := by decide +kernel
theorem dX4_strokes_5 : decode cX4_strokes 5 = .ok (.getfield 40, 3) := by decide +kernel
theorem dX4_strokes_8 : decode cX4_strokes 8 = .ok (.invokevirtual 91, 3) := by decide +kernel
theorem dX4_strokes_11 : decode cX4_strokes 11 = .ok (.ireturn, 1) := by decide +kernel
theorem dX4_points_0 : decode cX4_points 0 = .ok (.aload_n 0, 1) := by decide +kernel
theorem dX4_points_1 : decode cX4_points 1 = .ok (.invokevirtual 77, 3) := by decide +kernel
theorem dX4_points_4 : decode cX4_points 4 = .ok (.aload_n 0, 1) := by decide +kernel
theorem dX4_points_5 : decode cX4_points 5 = .ok (.iload_n 1, 1) := by decide +kernel
theorem dX4_points_6 : decode cX4_points 6 = .ok (.invokevirtual 95, 3) := by decide +kernel
theorem dX4_points_9 : decode cX4_points 9 = .ok (.aload_n 0, 1) := by decide +kernel
theorem dX4_points_10 : decode cX4_points 10 = .ok (.getfield 40, 3) := by decide +kernel
theorem dX4_points_13 : decode cX4_points 13 = .ok (.iload_n 1, 1) := by decide +kernel
theorem dX4_points_14 : decode cX4_points 14 = .ok (.invokevirtual 98, 3) := by decide +kernel
theorem dX4_points_17 : decode cX4_points 17 = .ok (.ireturn, 1) := by decide +kernel
theorem dX4_place_0 : decode cX4_place 0 = .ok (.aload_n 0, 1) := by decide +kernel
theorem dX4_place_1 : decode cX4_place 1 = .ok (.invokevirtual 77, 3) := by decide +kernel
theorem dX4_place_4 : decode cX4_place 4 = .ok (.aload_n 0, 1) := by decide +kernel
theorem dX4_place_5 : decode cX4_place 5 = .ok (.iload_n 1, 1) := by decide +kernel
theorem dX4_place_6 : decode cX4_place 6 = .ok (.invokevirtual 95, 3) := by decide +kernel
theorem dX4_place_9 : decode cX4_place 9 = .ok (.iload_n 2, 1) := by decide +kernel
theorem dX4_place_10 : decode cX4_place 10 = .ok (.ifCond .lt 15, 3) := by decide +kernel
theorem dX4_place_13 : decode cX4_place 13 = .ok (.iload_n 2, 1) := by decide +kernel
theorem dX4_place_14 : decode cX4_place 14 = .ok (.aload_n 0, 1) := by decide +kernel
theorem dX4_place_15 : decode cX4_place 15 = .ok (.getfield 40, 3) := by decide +kernel
theorem dX4_place_18 : decode cX4_place 18 = .ok (.iload_n 1, 1) := by decide +kernel
theorem dX4_place_19 : decode cX4_place 19 = .ok (.invokevirtual 98, 3) := by decide +kernel
theorem dX4_place_22 : decode cX4_place 22 = .ok (.if_icmp .lt 13, 3) := by decide +kernel
theorem dX4_place_25 : decode cX4_place 25 = .ok (.new 101, 3) := by decide +kernel
theorem dX4_place_28 : decode cX4_place 28 = .ok (.dup, 1) := by decide +kernel
theorem dX4_place_29 : decode cX4_place 29 = .ok (.ldc 103, 2) := by decide +kernel
theorem dX4_place_31 : decode cX4_place 31 = .ok (.invokespecial 105, 3) := by decide +kernel
theorem dX4_place_34 : decode cX4_place 34 = .ok (.athrow, 1) := by decide +kernel
theorem dX4_place_35 : decode cX4_place 35 = .ok (.iload_n 3, 1) := by decide +kernel
theorem dX4_place_36 : decode cX4_place 36 = .ok (.ifCond .eq 18, 3) := by decide +kernel
theorem dX4_place_39 : decode cX4_place 39 = .ok (.iload_n 3, 1) := by decide +kernel
theorem dX4_place_40 : decode cX4_place 40 = .ok (.iconst 1, 1) := by decide +kernel
theorem dX4_place_41 : decode cX4_place 41 = .ok (.if_icmp .eq 13, 3) := by decide +kernel
theorem dX4_place_44 : decode cX4_place 44 = .ok (.new 101, 3) := by decide +kernel
theorem dX4_place_47 : decode cX4_place 47 = .ok (.dup, 1) := by decide +kernel
theorem dX4_place_48 : decode cX4_place 48 = .ok (.ldc 106, 2) := by decide +kernel
theorem dX4_place_50 : decode cX4_place 50 = .ok (.invokespecial 105, 3) := by decide +kernel
theorem dX4_place_53 : decode cX4_place 53 = .ok (.athrow, 1) := by decide +kernel
theorem dX4_place_54 : decode cX4_place 54 = .ok (.aload_n 0, 1) := by decide +kernel
theorem dX4_place_55 : decode cX4_place 55 = .ok (.getfield 40, 3) := by decide +kernel
theorem dX4_place_58 : decode cX4_place 58 = .ok (.iload_n 1, 1) := by decide +kernel
theorem dX4_place_59 : decode cX4_place 59 = .ok (.iload_n 2, 1) := by decide +kernel
theorem dX4_place_60 : decode cX4_place 60 = .ok (.invokevirtual 108, 3) := by decide +kernel
theorem dX4_place_63 : decode cX4_place 63 = .ok (.istore 4, 2) := by decide +kernel
theorem dX4_place_65 : decode cX4_place 65 = .ok (.iload_n 3, 1) := by decide +kernel
theorem dX4_place_66 : decode cX4_place 66 = .ok (.ifCond .ne 11, 3) := by decide +kernel
theorem dX4_place_69 : decode cX4_place 69 = .ok (.iload 4, 2) := by decide +kernel
theorem dX4_place_71 : decode cX4_place 71 = .ok (.invokestatic 112, 3) := by decide +kernel
theorem dX4_place_74 : decode cX4_place 74 = .ok (.goto 8, 3) := by decide +kernel
theorem dX4_place_77 : decode cX4_place 77 = .ok (.iload 4, 2) := by decide +kernel
theorem dX4_place_79 : decode cX4_place 79 = .ok (.invokestatic 115, 3) := by decide +kernel
theorem dX4_place_82 : decode cX4_place 82 = .ok (.ireturn, 1) := by decide +kernel
theorem dX4_distance2_0 : decode cX4_distance2 0 = .ok (.aload_n 0, 1) := by decide +kernel
theorem dX4_distance2_1 : decode cX4_distance2 1 = .ok (.iload_n 1, 1) := by decide +kernel
theorem dX4_distance2_2 : decode cX4_distance2 2 = .ok (.iload_n 2, 1) := by decide +kernel
theorem dX4_distance2_3 : decode cX4_distance2 3 = .ok (.invokevirtual 55, 3) := by decide +kernel
theorem dX4_distance2_6 : decode cX4_distance2 6 = .ok (.aload_n 0, 1) := by decide +kernel
theorem dX4_distance2_7 : decode cX4_distance2 7 = .ok (.getfield 18, 3) := by decide +kernel
theorem dX4_distance2_10 : decode cX4_distance2 10 = .ok (.iload_n 1, 1) := by decide +kernel
theorem dX4_distance2_11 : decode cX4_distance2 11 = .ok (.iload_n 2, 1) := by decide +kernel
theorem dX4_distance2_12 : decode cX4_distance2 12 = .ok (.invokevirtual 118, 3) := by decide +kernel
theorem dX4_distance2_15 : decode cX4_distance2 15 = .ok (.lreturn, 1) := by decide +kernel
theorem dX4_crossing_0 : decode cX4_crossing 0 = .ok (.aload_n 0, 1) := by decide +kernel
theorem dX4_crossing_1 : decode cX4_crossing 1 = .ok (.invokevirtual 77, 3) := by decide +kernel
theorem dX4_crossing_4 : decode cX4_crossing 4 = .ok (.iload_n 1, 1) := by decide +kernel
theorem dX4_crossing_5 : decode cX4_crossing 5 = .ok (.ifCond .lt 14, 3) := by decide +kernel
theorem dX4_crossing_8 : decode cX4_crossing 8 = .ok (.iload_n 1, 1) := by decide +kernel
theorem dX4_crossing_9 : decode cX4_crossing 9 = .ok (.aload_n 0, 1) := by decide +kernel
theorem dX4_crossing_10 : decode cX4_crossing 10 = .ok (.getfield 40, 3) := by decide +kernel
theorem dX4_crossing_13 : decode cX4_crossing 13 = .ok (.invokevirtual 122, 3) := by decide +kernel
theorem dX4_crossing_16 : decode cX4_crossing 16 = .ok (.if_icmp .lt 13, 3) := by decide +kernel
theorem dX4_crossing_19 : decode cX4_crossing 19 = .ok (.new 101, 3) := by decide +kernel
theorem dX4_crossing_22 : decode cX4_crossing 22 = .ok (.dup, 1) := by decide +kernel
theorem dX4_crossing_23 : decode cX4_crossing 23 = .ok (.ldc 125, 2) := by decide +kernel
theorem dX4_crossing_25 : decode cX4_crossing 25 = .ok (.invokespecial 105, 3) := by decide +kernel
theorem dX4_crossing_28 : decode cX4_crossing 28 = .ok (.athrow, 1) := by decide +kernel
theorem dX4_crossing_29 : decode cX4_crossing 29 = .ok (.aload_n 0, 1) := by decide +kernel
theorem dX4_crossing_30 : decode cX4_crossing 30 = .ok (.getfield 40, 3) := by decide +kernel
theorem dX4_crossing_33 : decode cX4_crossing 33 = .ok (.iload_n 1, 1) := by decide +kernel
theorem dX4_crossing_34 : decode cX4_crossing 34 = .ok (.invokevirtual 127, 3) := by decide +kernel
theorem dX4_crossing_37 : decode cX4_crossing 37 = .ok (.istore_n 3, 1) := by decide +kernel
theorem dX4_crossing_38 : decode cX4_crossing 38 = .ok (.iload_n 2, 1) := by decide +kernel
theorem dX4_crossing_39 : decode cX4_crossing 39 = .ok (.tableswitch 44 0 2 #[25, 30, 35], 25) := by decide +kernel
theorem dX4_crossing_64 : decode cX4_crossing 64 = .ok (.iload_n 3, 1) := by decide +kernel
theorem dX4_crossing_65 : decode cX4_crossing 65 = .ok (.invokestatic 112, 3) := by decide +kernel
theorem dX4_crossing_68 : decode cX4_crossing 68 = .ok (.ireturn, 1) := by decide +kernel
theorem dX4_crossing_69 : decode cX4_crossing 69 = .ok (.iload_n 3, 1) := by decide +kernel
theorem dX4_crossing_70 : decode cX4_crossing 70 = .ok (.invokestatic 115, 3) := by decide +kernel
theorem dX4_crossing_73 : decode cX4_crossing 73 = .ok (.ireturn, 1) := by decide +kernel
theorem dX4_crossing_74 : decode cX4_crossing 74 = .ok (.aload_n 0, 1) := by decide +kernel
theorem dX4_crossing_75 : decode cX4_crossing 75 = .ok (.getfield 40, 3) := by decide +kernel
theorem dX4_crossing_78 : decode cX4_crossing 78 = .ok (.iload_n 3, 1) := by decide +kernel
theorem dX4_crossing_79 : decode cX4_crossing 79 = .ok (.invokevirtual 130, 3) := by decide +kernel
theorem dX4_crossing_82 : decode cX4_crossing 82 = .ok (.ireturn, 1) := by decide +kernel
theorem dX4_crossing_83 : decode cX4_crossing 83 = .ok (.new 80, 3) := by decide +kernel
theorem dX4_crossing_86 : decode cX4_crossing 86 = .ok (.dup, 1) := by decide +kernel
theorem dX4_crossing_87 : decode cX4_crossing 87 = .ok (.ldc 133, 2) := by decide +kernel
theorem dX4_crossing_89 : decode cX4_crossing 89 = .ok (.invokespecial 84, 3) := by decide +kernel
theorem dX4_crossing_92 : decode cX4_crossing 92 = .ok (.athrow, 1) := by decide +kernel
theorem dX4_joined_0 : decode cX4_joined 0 = .ok (.aload_n 0, 1) := by decide +kernel
theorem dX4_joined_1 : decode cX4_joined 1 = .ok (.invokevirtual 77, 3) := by decide +kernel
theorem dX4_joined_4 : decode cX4_joined 4 = .ok (.aload_n 0, 1) := by decide +kernel
theorem dX4_joined_5 : decode cX4_joined 5 = .ok (.iload_n 1, 1) := by decide +kernel
theorem dX4_joined_6 : decode cX4_joined 6 = .ok (.invokevirtual 95, 3) := by decide +kernel
theorem dX4_joined_9 : decode cX4_joined 9 = .ok (.aload_n 0, 1) := by decide +kernel
theorem dX4_joined_10 : decode cX4_joined 10 = .ok (.getfield 40, 3) := by decide +kernel
theorem dX4_joined_13 : decode cX4_joined 13 = .ok (.iload_n 1, 1) := by decide +kernel
theorem dX4_joined_14 : decode cX4_joined 14 = .ok (.invokevirtual 135, 3) := by decide +kernel
theorem dX4_joined_17 : decode cX4_joined 17 = .ok (.ireturn, 1) := by decide +kernel
theorem dX4_parts_0 : decode cX4_parts 0 = .ok (.aload_n 0, 1) := by decide +kernel
theorem dX4_parts_1 : decode cX4_parts 1 = .ok (.getfield 47, 3) := by decide +kernel
theorem dX4_parts_4 : decode cX4_parts 4 = .ok (.aload_n 0, 1) := by decide +kernel
theorem dX4_parts_5 : decode cX4_parts 5 = .ok (.getfield 22, 3) := by decide +kernel
theorem dX4_parts_8 : decode cX4_parts 8 = .ok (.invokevirtual 138, 3) := by decide +kernel
theorem dX4_parts_11 : decode cX4_parts 11 = .ok (.ireturn, 1) := by decide +kernel
theorem dX4_holes_0 : decode cX4_holes 0 = .ok (.aload_n 0, 1) := by decide +kernel
theorem dX4_holes_1 : decode cX4_holes 1 = .ok (.getfield 47, 3) := by decide +kernel
theorem dX4_holes_4 : decode cX4_holes 4 = .ok (.aload_n 0, 1) := by decide +kernel
theorem dX4_holes_5 : decode cX4_holes 5 = .ok (.getfield 22, 3) := by decide +kernel
theorem dX4_holes_8 : decode cX4_holes 8 = .ok (.invokevirtual 141, 3) := by decide +kernel
theorem dX4_holes_11 : decode cX4_holes 11 = .ok (.ireturn, 1) := by decide +kernel
theorem dX4_draw_0 : decode cX4_draw 0 = .ok (.aload_n 0, 1) := by decide +kernel
theorem dX4_draw_1 : decode cX4_draw 1 = .ok (.invokevirtual 77, 3) := by decide +kernel
theorem dX4_draw_4 : decode cX4_draw 4 = .ok (.aload_n 0, 1) := by decide +kernel
theorem dX4_draw_5 : decode cX4_draw 5 = .ok (.getfield 25, 3) := by decide +kernel
theorem dX4_draw_8 : decode cX4_draw 8 = .ok (.aload_n 0, 1) := by decide +kernel
theorem dX4_draw_9 : decode cX4_draw 9 = .ok (.getfield 18, 3) := by decide +kernel
theorem dX4_draw_12 : decode cX4_draw 12 = .ok (.invokevirtual 66, 3) := by decide +kernel
theorem dX4_draw_15 : decode cX4_draw 15 = .ok (.iconst 0, 1) := by decide +kernel
theorem dX4_draw_16 : decode cX4_draw 16 = .ok (.istore_n 1, 1) := by decide +kernel
theorem dX4_draw_17 : decode cX4_draw 17 = .ok (.iload_n 1, 1) := by decide +kernel
theorem dX4_draw_18 : decode cX4_draw 18 = .ok (.aload_n 0, 1) := by decide +kernel
theorem dX4_draw_19 : decode cX4_draw 19 = .ok (.getfield 22, 3) := by decide +kernel
theorem dX4_draw_22 : decode cX4_draw 22 = .ok (.getfield 144, 3) := by decide +kernel
theorem dX4_draw_25 : decode cX4_draw 25 = .ok (.if_icmp .ge 58, 3) := by decide +kernel
theorem dX4_draw_28 : decode cX4_draw 28 = .ok (.iconst 0, 1) := by decide +kernel
theorem dX4_draw_29 : decode cX4_draw 29 = .ok (.istore_n 2, 1) := by decide +kernel
theorem dX4_draw_30 : decode cX4_draw 30 = .ok (.iload_n 2, 1) := by decide +kernel
theorem dX4_draw_31 : decode cX4_draw 31 = .ok (.aload_n 0, 1) := by decide +kernel
theorem dX4_draw_32 : decode cX4_draw 32 = .ok (.getfield 22, 3) := by decide +kernel
theorem dX4_draw_35 : decode cX4_draw 35 = .ok (.getfield 148, 3) := by decide +kernel
theorem dX4_draw_38 : decode cX4_draw 38 = .ok (.if_icmp .ge 39, 3) := by decide +kernel
theorem dX4_draw_41 : decode cX4_draw 41 = .ok (.aload_n 0, 1) := by decide +kernel
theorem dX4_draw_42 : decode cX4_draw 42 = .ok (.getfield 22, 3) := by decide +kernel
theorem dX4_draw_45 : decode cX4_draw 45 = .ok (.iload_n 2, 1) := by decide +kernel
theorem dX4_draw_46 : decode cX4_draw 46 = .ok (.iload_n 1, 1) := by decide +kernel
theorem dX4_draw_47 : decode cX4_draw 47 = .ok (.invokevirtual 58, 3) := by decide +kernel
theorem dX4_draw_50 : decode cX4_draw 50 = .ok (.ifCond .eq 21, 3) := by decide +kernel
theorem dX4_draw_53 : decode cX4_draw 53 = .ok (.aload_n 0, 1) := by decide +kernel
theorem dX4_draw_54 : decode cX4_draw 54 = .ok (.getfield 25, 3) := by decide +kernel
theorem dX4_draw_57 : decode cX4_draw 57 = .ok (.iload_n 2, 1) := by decide +kernel
theorem dX4_draw_58 : decode cX4_draw 58 = .ok (.iload_n 1, 1) := by decide +kernel
theorem dX4_draw_59 : decode cX4_draw 59 = .ok (.aload_n 0, 1) := by decide +kernel
theorem dX4_draw_60 : decode cX4_draw 60 = .ok (.getfield 18, 3) := by decide +kernel
theorem dX4_draw_63 : decode cX4_draw 63 = .ok (.iload_n 2, 1) := by decide +kernel
theorem dX4_draw_64 : decode cX4_draw 64 = .ok (.iload_n 1, 1) := by decide +kernel
theorem dX4_draw_65 : decode cX4_draw 65 = .ok (.invokevirtual 118, 3) := by decide +kernel
theorem dX4_draw_68 : decode cX4_draw 68 = .ok (.invokevirtual 151, 3) := by decide +kernel
theorem dX4_draw_71 : decode cX4_draw 71 = .ok (.iinc 2 1, 3) := by decide +kernel
theorem dX4_draw_74 : decode cX4_draw 74 = .ok (.goto (-44), 3) := by decide +kernel
theorem dX4_draw_77 : decode cX4_draw 77 = .ok (.iinc 1 1, 3) := by decide +kernel
theorem dX4_draw_80 : decode cX4_draw 80 = .ok (.goto (-63), 3) := by decide +kernel
theorem dX4_draw_83 : decode cX4_draw 83 = .ok (.aload_n 0, 1) := by decide +kernel
theorem dX4_draw_84 : decode cX4_draw 84 = .ok (.getfield 25, 3) := by decide +kernel
theorem dX4_draw_87 : decode cX4_draw 87 = .ok (.invokevirtual 155, 3) := by decide +kernel
theorem dX4_draw_90 : decode cX4_draw 90 = .ok (.ireturn, 1) := by decide +kernel
theorem dX4_told_0 : decode cX4_told 0 = .ok (.iload_n 1, 1) := by decide +kernel
theorem dX4_told_1 : decode cX4_told 1 = .ok (.tableswitch 80 0 4 #[35, 43, 51, 59, 67], 35) := by decide +kernel
theorem dX4_told_36 : decode cX4_told 36 = .ok (.aload_n 0, 1) := by decide +kernel
theorem dX4_told_37 : decode cX4_told 37 = .ok (.getfield 18, 3) := by decide +kernel
theorem dX4_told_40 : decode cX4_told 40 = .ok (.getfield 148, 3) := by decide +kernel
theorem dX4_told_43 : decode cX4_told 43 = .ok (.ireturn, 1) := by decide +kernel
theorem dX4_told_44 : decode cX4_told 44 = .ok (.aload_n 0, 1) := by decide +kernel
theorem dX4_told_45 : decode cX4_told 45 = .ok (.getfield 18, 3) := by decide +kernel
theorem dX4_told_48 : decode cX4_told 48 = .ok (.getfield 144, 3) := by decide +kernel
theorem dX4_told_51 : decode cX4_told 51 = .ok (.ireturn, 1) := by decide +kernel
theorem dX4_told_52 : decode cX4_told 52 = .ok (.aload_n 0, 1) := by decide +kernel
theorem dX4_told_53 : decode cX4_told 53 = .ok (.getfield 18, 3) := by decide +kernel
theorem dX4_told_56 : decode cX4_told 56 = .ok (.invokevirtual 155, 3) := by decide +kernel
theorem dX4_told_59 : decode cX4_told 59 = .ok (.ireturn, 1) := by decide +kernel
theorem dX4_told_60 : decode cX4_told 60 = .ok (.aload_n 0, 1) := by decide +kernel
theorem dX4_told_61 : decode cX4_told 61 = .ok (.getfield 22, 3) := by decide +kernel
theorem dX4_told_64 : decode cX4_told 64 = .ok (.invokevirtual 155, 3) := by decide +kernel
theorem dX4_told_67 : decode cX4_told 67 = .ok (.ireturn, 1) := by decide +kernel
theorem dX4_told_68 : decode cX4_told 68 = .ok (.aload_n 0, 1) := by decide +kernel
theorem dX4_told_69 : decode cX4_told 69 = .ok (.getfield 51, 3) := by decide +kernel
theorem dX4_told_72 : decode cX4_told 72 = .ok (.ifCond .eq 7, 3) := by decide +kernel
theorem dX4_told_75 : decode cX4_told 75 = .ok (.iconst 1, 1) := by decide +kernel
theorem dX4_told_76 : decode cX4_told 76 = .ok (.goto 4, 3) := by decide +kernel
theorem dX4_told_79 : decode cX4_told 79 = .ok (.iconst 0, 1) := by decide +kernel
theorem dX4_told_80 : decode cX4_told 80 = .ok (.ireturn, 1) := by decide +kernel
theorem dX4_told_81 : decode cX4_told 81 = .ok (.iconst (-1), 1) := by decide +kernel
theorem dX4_told_82 : decode cX4_told 82 = .ok (.ireturn, 1) := by decide +kernel
theorem dX4_clear_0 : decode cX4_clear 0 = .ok (.aload_n 0, 1) := by decide +kernel
theorem dX4_clear_1 : decode cX4_clear 1 = .ok (.getfield 18, 3) := by decide +kernel
theorem dX4_clear_4 : decode cX4_clear 4 = .ok (.invokevirtual 158, 3) := by decide +kernel
theorem dX4_clear_7 : decode cX4_clear 7 = .ok (.aload_n 0, 1) := by decide +kernel
theorem dX4_clear_8 : decode cX4_clear 8 = .ok (.getfield 22, 3) := by decide +kernel
theorem dX4_clear_11 : decode cX4_clear 11 = .ok (.invokevirtual 158, 3) := by decide +kernel
theorem dX4_clear_14 : decode cX4_clear 14 = .ok (.aload_n 0, 1) := by decide +kernel
theorem dX4_clear_15 : decode cX4_clear 15 = .ok (.iconst 0, 1) := by decide +kernel
theorem dX4_clear_16 : decode cX4_clear 16 = .ok (.putfield 51, 3) := by decide +kernel
theorem dX4_clear_19 : decode cX4_clear 19 = .ok (.return_, 1) := by decide +kernel
theorem dX4_requireSample_0 : decode cX4_requireSample 0 = .ok (.aload_n 0, 1) := by decide +kernel
theorem dX4_requireSample_1 : decode cX4_requireSample 1 = .ok (.getfield 18, 3) := by decide +kernel
theorem dX4_requireSample_4 : decode cX4_requireSample 4 = .ok (.iload_n 1, 1) := by decide +kernel
theorem dX4_requireSample_5 : decode cX4_requireSample 5 = .ok (.iload_n 2, 1) := by decide +kernel
theorem dX4_requireSample_6 : decode cX4_requireSample 6 = .ok (.invokevirtual 161, 3) := by decide +kernel
theorem dX4_requireSample_9 : decode cX4_requireSample 9 = .ok (.ifCond .ne 13, 3) := by decide +kernel
theorem dX4_requireSample_12 : decode cX4_requireSample 12 = .ok (.new 101, 3) := by decide +kernel
theorem dX4_requireSample_15 : decode cX4_requireSample 15 = .ok (.dup, 1) := by decide +kernel
theorem dX4_requireSample_16 : decode cX4_requireSample 16 = .ok (.ldc 164, 2) := by decide +kernel
theorem dX4_requireSample_18 : decode cX4_requireSample 18 = .ok (.invokespecial 105, 3) := by decide +kernel
theorem dX4_requireSample_21 : decode cX4_requireSample 21 = .ok (.athrow, 1) := by decide +kernel
theorem dX4_requireSample_22 : decode cX4_requireSample 22 = .ok (.return_, 1) := by decide +kernel
theorem dX4_requireThinned_0 : decode cX4_requireThinned 0 = .ok (.aload_n 0, 1) := by decide +kernel
theorem dX4_requireThinned_1 : decode cX4_requireThinned 1 = .ok (.getfield 51, 3) := by decide +kernel
theorem dX4_requireThinned_4 : decode cX4_requireThinned 4 = .ok (.ifCond .ne 13, 3) := by decide +kernel
theorem dX4_requireThinned_7 : decode cX4_requireThinned 7 = .ok (.new 166, 3) := by decide +kernel
theorem dX4_requireThinned_10 : decode cX4_requireThinned 10 = .ok (.dup, 1) := by decide +kernel
theorem dX4_requireThinned_11 : decode cX4_requireThinned 11 = .ok (.ldc 168, 2) := by decide +kernel
theorem dX4_requireThinned_13 : decode cX4_requireThinned 13 = .ok (.invokespecial 170, 3) := by decide +kernel
theorem dX4_requireThinned_16 : decode cX4_requireThinned 16 = .ok (.athrow, 1) := by decide +kernel
theorem dX4_requireThinned_17 : decode cX4_requireThinned 17 = .ok (.return_, 1) := by decide +kernel
theorem dX4_requireStroke_0 : decode cX4_requireStroke 0 = .ok (.iload_n 1, 1) := by decide +kernel
theorem dX4_requireStroke_1 : decode cX4_requireStroke 1 = .ok (.ifCond .lt 14, 3) := by decide +kernel
theorem dX4_requireStroke_4 : decode cX4_requireStroke 4 = .ok (.iload_n 1, 1) := by decide +kernel
theorem dX4_requireStroke_5 : decode cX4_requireStroke 5 = .ok (.aload_n 0, 1) := by decide +kernel
theorem dX4_requireStroke_6 : decode cX4_requireStroke 6 = .ok (.getfield 40, 3) := by decide +kernel
theorem dX4_requireStroke_9 : decode cX4_requireStroke 9 = .ok (.invokevirtual 91, 3) := by decide +kernel
theorem dX4_requireStroke_12 : decode cX4_requireStroke 12 = .ok (.if_icmp .lt 13, 3) := by decide +kernel
theorem dX4_requireStroke_15 : decode cX4_requireStroke 15 = .ok (.new 101, 3) := by decide +kernel
theorem dX4_requireStroke_18 : decode cX4_requireStroke 18 = .ok (.dup, 1) := by decide +kernel
theorem dX4_requireStroke_19 : decode cX4_requireStroke 19 = .ok (.ldc 171, 2) := by decide +kernel
theorem dX4_requireStroke_21 : decode cX4_requireStroke 21 = .ok (.invokespecial 105, 3) := by decide +kernel
theorem dX4_requireStroke_24 : decode cX4_requireStroke 24 = .ok (.athrow, 1) := by decide +kernel
theorem dX4_requireStroke_25 : decode cX4_requireStroke 25 = .ok (.return_, 1) := by decide +kernel
theorem dX4_nearestSize_0 : decode cX4_nearestSize 0 = .ok (.iconst 1, 1) := by decide +kernel
theorem dX4_nearestSize_1 : decode cX4_nearestSize 1 = .ok (.bipush 24, 2) := by decide +kernel
theorem dX4_nearestSize_3 : decode cX4_nearestSize 3 = .ok (.iload_n 0, 1) := by decide +kernel
theorem dX4_nearestSize_4 : decode cX4_nearestSize 4 = .ok (.invokestatic 173, 3) := by decide +kernel
theorem dX4_nearestSize_7 : decode cX4_nearestSize 7 = .ok (.invokestatic 178, 3) := by decide +kernel
theorem dX4_nearestSize_10 : decode cX4_nearestSize 10 = .ok (.ireturn, 1) := by decide +kernel
theorem dX4_placeOf_0 : decode cX4_placeOf 0 = .ok (.iload_n 1, 1) := by decide +kernel
theorem dX4_placeOf_1 : decode cX4_placeOf 1 = .ok (.iconst 5, 1) := by decide +kernel
theorem dX4_placeOf_2 : decode cX4_placeOf 2 = .ok (.ishl, 1) := by decide +kernel
theorem dX4_placeOf_3 : decode cX4_placeOf 3 = .ok (.iload_n 0, 1) := by decide +kernel
theorem dX4_placeOf_4 : decode cX4_placeOf 4 = .ok (.ior, 1) := by decide +kernel
theorem dX4_placeOf_5 : decode cX4_placeOf 5 = .ok (.ireturn, 1) := by decide +kernel
theorem dX4_columnOf_0 : decode cX4_columnOf 0 = .ok (.iload_n 0, 1) := by decide +kernel
theorem dX4_columnOf_1 : decode cX4_columnOf 1 = .ok (.bipush 31, 2) := by decide +kernel
theorem dX4_columnOf_3 : decode cX4_columnOf 3 = .ok (.iand, 1) := by decide +kernel
theorem dX4_columnOf_4 : decode cX4_columnOf 4 = .ok (.ireturn, 1) := by decide +kernel
theorem dX4_rowOf_0 : decode cX4_rowOf 0 = .ok (.iload_n 0, 1) := by decide +kernel
theorem dX4_rowOf_1 : decode cX4_rowOf 1 = .ok (.iconst 5, 1) := by decide +kernel
theorem dX4_rowOf_2 : decode cX4_rowOf 2 = .ok (.ishr, 1) := by decide +kernel
theorem dX4_rowOf_3 : decode cX4_rowOf 3 = .ok (.ireturn, 1) := by decide +kernel
theorem dX4_opposite_0 : decode cX4_opposite 0 = .ok (.iload_n 0, 1) := by decide +kernel
theorem dX4_opposite_1 : decode cX4_opposite 1 = .ok (.iconst 4, 1) := by decide +kernel
theorem dX4_opposite_2 : decode cX4_opposite 2 = .ok (.iadd, 1) := by decide +kernel
theorem dX4_opposite_3 : decode cX4_opposite 3 = .ok (.bipush 7, 2) := by decide +kernel
theorem dX4_opposite_5 : decode cX4_opposite 5 = .ok (.iand, 1) := by decide +kernel
theorem dX4_opposite_6 : decode cX4_opposite 6 = .ok (.ireturn, 1) := by decide +kernel
theorem dX4_hasBit_0 : decode cX4_hasBit 0 = .ok (.iload_n 0, 1) := by decide +kernel
theorem dX4_hasBit_1 : decode cX4_hasBit 1 = .ok (.iload_n 1, 1) := by decide +kernel
theorem dX4_hasBit_2 : decode cX4_hasBit 2 = .ok (.bipush 7, 2) := by decide +kernel
theorem dX4_hasBit_4 : decode cX4_hasBit 4 = .ok (.iand, 1) := by decide +kernel
theorem dX4_hasBit_5 : decode cX4_hasBit 5 = .ok (.ishr, 1) := by decide +kernel
theorem dX4_hasBit_6 : decode cX4_hasBit 6 = .ok (.iconst 1, 1) := by decide +kernel
theorem dX4_hasBit_7 : decode cX4_hasBit 7 = .ok (.iand, 1) := by decide +kernel
theorem dX4_hasBit_8 : decode cX4_hasBit 8 = .ok (.ifCond .eq 7, 3) := by decide +kernel
theorem dX4_hasBit_11 : decode cX4_hasBit 11 = .ok (.iconst 1, 1) := by decide +kernel
theorem dX4_hasBit_12 : decode cX4_hasBit 12 = .ok (.goto 4, 3) := by decide +kernel
theorem dX4_hasBit_15 : decode cX4_hasBit 15 = .ok (.iconst 0, 1) := by decide +kernel
theorem dX4_hasBit_16 : decode cX4_hasBit 16 = .ok (.ireturn, 1) := by decide +kernel
theorem dJ_bitCount_0 : decode cJ_bitCount 0 = .ok (.iload_n 0, 1) := by decide +kernel
theorem dJ_bitCount_1 : decode cJ_bitCount 1 = .ok (.iload_n 0, 1) := by decide +kernel
theorem dJ_bitCount_2 : decode cJ_bitCount 2 = .ok (.iconst 1, 1) := by decide +kernel
theorem dJ_bitCount_3 : decode cJ_bitCount 3 = .ok (.iushr, 1) := by decide +kernel
theorem dJ_bitCount_4 : decode cJ_bitCount 4 = .ok (.ldc_w 265, 3) := by decide +kernel
theorem dJ_bitCount_7 : decode cJ_bitCount 7 = .ok (.iand, 1) := by decide +kernel
theorem dJ_bitCount_8 : decode cJ_bitCount 8 = .ok (.isub, 1) := by decide +kernel
theorem dJ_bitCount_9 : decode cJ_bitCount 9 = .ok (.istore_n 0, 1) := by decide +kernel
theorem dJ_bitCount_10 : decode cJ_bitCount 10 = .ok (.iload_n 0, 1) := by decide +kernel
theorem dJ_bitCount_11 : decode cJ_bitCount 11 = .ok (.ldc_w 266, 3) := by decide +kernel
theorem dJ_bitCount_14 : decode cJ_bitCount 14 = .ok (.iand, 1) := by decide +kernel
theorem dJ_bitCount_15 : decode cJ_bitCount 15 = .ok (.iload_n 0, 1) := by decide +kernel
theorem dJ_bitCount_16 : decode cJ_bitCount 16 = .ok (.iconst 2, 1) := by decide +kernel
theorem dJ_bitCount_17 : decode cJ_bitCount 17 = .ok (.iushr, 1) := by decide +kernel
theorem dJ_bitCount_18 : decode cJ_bitCount 18 = .ok (.ldc_w 266, 3) := by decide +kernel
theorem dJ_bitCount_21 : decode cJ_bitCount 21 = .ok (.iand, 1) := by decide +kernel
theorem dJ_bitCount_22 : decode cJ_bitCount 22 = .ok (.iadd, 1) := by decide +kernel
theorem dJ_bitCount_23 : decode cJ_bitCount 23 = .ok (.istore_n 0, 1) := by decide +kernel
theorem dJ_bitCount_24 : decode cJ_bitCount 24 = .ok (.iload_n 0, 1) := by decide +kernel
theorem dJ_bitCount_25 : decode cJ_bitCount 25 = .ok (.iload_n 0, 1) := by decide +kernel
theorem dJ_bitCount_26 : decode cJ_bitCount 26 = .ok (.iconst 4, 1) := by decide +kernel
theorem dJ_bitCount_27 : decode cJ_bitCount 27 = .ok (.iushr, 1) := by decide +kernel
theorem dJ_bitCount_28 : decode cJ_bitCount 28 = .ok (.iadd, 1) := by decide +kernel
theorem dJ_bitCount_29 : decode cJ_bitCount 29 = .ok (.ldc_w 267, 3) := by decide +kernel
theorem dJ_bitCount_32 : decode cJ_bitCount 32 = .ok (.iand, 1) := by decide +kernel
theorem dJ_bitCount_33 : decode cJ_bitCount 33 = .ok (.istore_n 0, 1) := by decide +kernel
theorem dJ_bitCount_34 : decode cJ_bitCount 34 = .ok (.iload_n 0, 1) := by decide +kernel
theorem dJ_bitCount_35 : decode cJ_bitCount 35 = .ok (.iload_n 0, 1) := by decide +kernel
theorem dJ_bitCount_36 : decode cJ_bitCount 36 = .ok (.bipush 8, 2) := by decide +kernel
theorem dJ_bitCount_38 : decode cJ_bitCount 38 = .ok (.iushr, 1) := by decide +kernel
theorem dJ_bitCount_39 : decode cJ_bitCount 39 = .ok (.iadd, 1) := by decide +kernel
theorem dJ_bitCount_40 : decode cJ_bitCount 40 = .ok (.istore_n 0, 1) := by decide +kernel
theorem dJ_bitCount_41 : decode cJ_bitCount 41 = .ok (.iload_n 0, 1) := by decide +kernel
theorem dJ_bitCount_42 : decode cJ_bitCount 42 = .ok (.iload_n 0, 1) := by decide +kernel
theorem dJ_bitCount_43 : decode cJ_bitCount 43 = .ok (.bipush 16, 2) := by decide +kernel
theorem dJ_bitCount_45 : decode cJ_bitCount 45 = .ok (.iushr, 1) := by decide +kernel
theorem dJ_bitCount_46 : decode cJ_bitCount 46 = .ok (.iadd, 1) := by decide +kernel
theorem dJ_bitCount_47 : decode cJ_bitCount 47 = .ok (.istore_n 0, 1) := by decide +kernel
theorem dJ_bitCount_48 : decode cJ_bitCount 48 = .ok (.iload_n 0, 1) := by decide +kernel
theorem dJ_bitCount_49 : decode cJ_bitCount 49 = .ok (.bipush 63, 2) := by decide +kernel
theorem dJ_bitCount_51 : decode cJ_bitCount 51 = .ok (.iand, 1) := by decide +kernel
theorem dJ_bitCount_52 : decode cJ_bitCount 52 = .ok (.ireturn, 1) := by decide +kernel
