theorem dX7_apart_0 : decode cX7_apart 0 = .ok (.iload_n 0, 1) := by decide +kernel
theorem dX7_apart_1 : decode cX7_apart 1 = .ok (.iload_n 1, 1) := by decide +kernel
theorem dX7_apart_2 : decode cX7_apart 2 = .ok (.if_icmp .le 9, 3) := by decide +kernel
theorem dX7_apart_5 : decode cX7_apart 5 = .ok (.iload_n 0, 1) := by decide +kernel
theorem dX7_apart_6 : decode cX7_apart 6 = .ok (.iload_n 1, 1) := by decide +kernel
theorem dX7_apart_7 : decode cX7_apart 7 = .ok (.isub, 1) := by decide +kernel
theorem dX7_apart_8 : decode cX7_apart 8 = .ok (.goto 6, 3) := by decide +kernel
theorem dX7_apart_11 : decode cX7_apart 11 = .ok (.iload_n 1, 1) := by decide +kernel
theorem dX7_apart_12 : decode cX7_apart 12 = .ok (.iload_n 0, 1) := by decide +kernel
theorem dX7_apart_13 : decode cX7_apart 13 = .ok (.isub, 1) := by decide +kernel
theorem dX7_apart_14 : decode cX7_apart 14 = .ok (.ireturn, 1) := by decide +kernel
theorem dX7_looksOn_0 : decode cX7_looksOn 0 = .ok (.aload_n 0, 1) := by decide +kernel
theorem dX7_looksOn_1 : decode cX7_looksOn 1 = .ok (.getfield 7, 3) := by decide +kernel
theorem dX7_looksOn_4 : decode cX7_looksOn 4 = .ok (.iload_n 1, 1) := by decide +kernel
theorem dX7_looksOn_5 : decode cX7_looksOn 5 = .ok (.bipush 29, 2) := by decide +kernel
theorem dX7_looksOn_7 : decode cX7_looksOn 7 = .ok (.iadd, 1) := by decide +kernel
theorem dX7_looksOn_8 : decode cX7_looksOn 8 = .ok (.iload_n 2, 1) := by decide +kernel
theorem dX7_looksOn_9 : decode cX7_looksOn 9 = .ok (.iadd, 1) := by decide +kernel
theorem dX7_looksOn_10 : decode cX7_looksOn 10 = .ok (.iaload, 1) := by decide +kernel
theorem dX7_looksOn_11 : decode cX7_looksOn 11 = .ok (.istore 4, 2) := by decide +kernel
theorem dX7_looksOn_13 : decode cX7_looksOn 13 = .ok (.iload 4, 2) := by decide +kernel
theorem dX7_looksOn_15 : decode cX7_looksOn 15 = .ok (.ifCond .le 13, 3) := by decide +kernel
theorem dX7_looksOn_18 : decode cX7_looksOn 18 = .ok (.iload_n 3, 1) := by decide +kernel
theorem dX7_looksOn_19 : decode cX7_looksOn 19 = .ok (.iload 4, 2) := by decide +kernel
theorem dX7_looksOn_21 : decode cX7_looksOn 21 = .ok (.irem, 1) := by decide +kernel
theorem dX7_looksOn_22 : decode cX7_looksOn 22 = .ok (.ifCond .ne 6, 3) := by decide +kernel
theorem dX7_looksOn_25 : decode cX7_looksOn 25 = .ok (.bipush (-4), 2) := by decide +kernel
theorem dX7_looksOn_27 : decode cX7_looksOn 27 = .ok (.ireturn, 1) := by decide +kernel
theorem dX7_looksOn_28 : decode cX7_looksOn 28 = .ok (.bipush (-4), 2) := by decide +kernel
theorem dX7_looksOn_30 : decode cX7_looksOn 30 = .ok (.istore 5, 2) := by decide +kernel
theorem dX7_looksOn_32 : decode cX7_looksOn 32 = .ok (.bipush 12, 2) := by decide +kernel
theorem dX7_looksOn_34 : decode cX7_looksOn 34 = .ok (.istore 6, 2) := by decide +kernel
theorem dX7_looksOn_36 : decode cX7_looksOn 36 = .ok (.iconst 0, 1) := by decide +kernel
theorem dX7_looksOn_37 : decode cX7_looksOn 37 = .ok (.istore 7, 2) := by decide +kernel
theorem dX7_looksOn_39 : decode cX7_looksOn 39 = .ok (.iload 7, 2) := by decide +kernel
theorem dX7_looksOn_41 : decode cX7_looksOn 41 = .ok (.aload_n 0, 1) := by decide +kernel
theorem dX7_looksOn_42 : decode cX7_looksOn 42 = .ok (.getfield 7, 3) := by decide +kernel
theorem dX7_looksOn_45 : decode cX7_looksOn 45 = .ok (.iload_n 1, 1) := by decide +kernel
theorem dX7_looksOn_46 : decode cX7_looksOn 46 = .ok (.bipush 24, 2) := by decide +kernel
theorem dX7_looksOn_48 : decode cX7_looksOn 48 = .ok (.iadd, 1) := by decide +kernel
theorem dX7_looksOn_49 : decode cX7_looksOn 49 = .ok (.iaload, 1) := by decide +kernel
theorem dX7_looksOn_50 : decode cX7_looksOn 50 = .ok (.if_icmp .ge 70, 3) := by decide +kernel
theorem dX7_looksOn_53 : decode cX7_looksOn 53 = .ok (.aload_n 0, 1) := by decide +kernel
theorem dX7_looksOn_54 : decode cX7_looksOn 54 = .ok (.iload_n 1, 1) := by decide +kernel
theorem dX7_looksOn_55 : decode cX7_looksOn 55 = .ok (.iload 7, 2) := by decide +kernel
theorem dX7_looksOn_57 : decode cX7_looksOn 57 = .ok (.invokevirtual 129, 3) := by decide +kernel
theorem dX7_looksOn_60 : decode cX7_looksOn 60 = .ok (.aload_n 0, 1) := by decide +kernel
theorem dX7_looksOn_61 : decode cX7_looksOn 61 = .ok (.getfield 7, 3) := by decide +kernel
theorem dX7_looksOn_64 : decode cX7_looksOn 64 = .ok (.iload_n 1, 1) := by decide +kernel
theorem dX7_looksOn_65 : decode cX7_looksOn 65 = .ok (.bipush 25, 2) := by decide +kernel
theorem dX7_looksOn_67 : decode cX7_looksOn 67 = .ok (.iadd, 1) := by decide +kernel
theorem dX7_looksOn_68 : decode cX7_looksOn 68 = .ok (.iload_n 2, 1) := by decide +kernel
theorem dX7_looksOn_69 : decode cX7_looksOn 69 = .ok (.iadd, 1) := by decide +kernel
theorem dX7_looksOn_70 : decode cX7_looksOn 70 = .ok (.iaload, 1) := by decide +kernel
theorem dX7_looksOn_71 : decode cX7_looksOn 71 = .ok (.invokestatic 139, 3) := by decide +kernel
theorem dX7_looksOn_74 : decode cX7_looksOn 74 = .ok (.istore 8, 2) := by decide +kernel
theorem dX7_looksOn_76 : decode cX7_looksOn 76 = .ok (.iload 8, 2) := by decide +kernel
theorem dX7_looksOn_78 : decode cX7_looksOn 78 = .ok (.iload 6, 2) := by decide +kernel
theorem dX7_looksOn_80 : decode cX7_looksOn 80 = .ok (.if_icmp .ge 34, 3) := by decide +kernel
theorem dX7_looksOn_83 : decode cX7_looksOn 83 = .ok (.iload 8, 2) := by decide +kernel
theorem dX7_looksOn_85 : decode cX7_looksOn 85 = .ok (.aload_n 0, 1) := by decide +kernel
theorem dX7_looksOn_86 : decode cX7_looksOn 86 = .ok (.iload_n 1, 1) := by decide +kernel
theorem dX7_looksOn_87 : decode cX7_looksOn 87 = .ok (.iload 7, 2) := by decide +kernel
theorem dX7_looksOn_89 : decode cX7_looksOn 89 = .ok (.invokevirtual 142, 3) := by decide +kernel
theorem dX7_looksOn_92 : decode cX7_looksOn 92 = .ok (.if_icmp .gt 22, 3) := by decide +kernel
theorem dX7_looksOn_95 : decode cX7_looksOn 95 = .ok (.aload_n 0, 1) := by decide +kernel
theorem dX7_looksOn_96 : decode cX7_looksOn 96 = .ok (.iload_n 1, 1) := by decide +kernel
theorem dX7_looksOn_97 : decode cX7_looksOn 97 = .ok (.iload 7, 2) := by decide +kernel
theorem dX7_looksOn_99 : decode cX7_looksOn 99 = .ok (.iload_n 3, 1) := by decide +kernel
theorem dX7_looksOn_100 : decode cX7_looksOn 100 = .ok (.invokevirtual 145, 3) := by decide +kernel
theorem dX7_looksOn_103 : decode cX7_looksOn 103 = .ok (.ifCond .eq 11, 3) := by decide +kernel
theorem dX7_looksOn_106 : decode cX7_looksOn 106 = .ok (.iload 7, 2) := by decide +kernel
theorem dX7_looksOn_108 : decode cX7_looksOn 108 = .ok (.istore 5, 2) := by decide +kernel
theorem dX7_looksOn_110 : decode cX7_looksOn 110 = .ok (.iload 8, 2) := by decide +kernel
theorem dX7_looksOn_112 : decode cX7_looksOn 112 = .ok (.istore 6, 2) := by decide +kernel
theorem dX7_looksOn_114 : decode cX7_looksOn 114 = .ok (.iinc 7 1, 3) := by decide +kernel
theorem dX7_looksOn_117 : decode cX7_looksOn 117 = .ok (.goto (-78), 3) := by decide +kernel
theorem dX7_looksOn_120 : decode cX7_looksOn 120 = .ok (.iload 5, 2) := by decide +kernel
theorem dX7_looksOn_122 : decode cX7_looksOn 122 = .ok (.ireturn, 1) := by decide +kernel
theorem dX7_isWhole_0 : decode cX7_isWhole 0 = .ok (.aload_n 0, 1) := by decide +kernel
theorem dX7_isWhole_1 : decode cX7_isWhole 1 = .ok (.iload_n 1, 1) := by decide +kernel
theorem dX7_isWhole_2 : decode cX7_isWhole 2 = .ok (.iload_n 3, 1) := by decide +kernel
theorem dX7_isWhole_3 : decode cX7_isWhole 3 = .ok (.invokevirtual 126, 3) := by decide +kernel
theorem dX7_isWhole_6 : decode cX7_isWhole 6 = .ok (.istore 4, 2) := by decide +kernel
theorem dX7_isWhole_8 : decode cX7_isWhole 8 = .ok (.aload_n 0, 1) := by decide +kernel
theorem dX7_isWhole_9 : decode cX7_isWhole 9 = .ok (.iload_n 1, 1) := by decide +kernel
theorem dX7_isWhole_10 : decode cX7_isWhole 10 = .ok (.iload_n 3, 1) := by decide +kernel
theorem dX7_isWhole_11 : decode cX7_isWhole 11 = .ok (.invokevirtual 135, 3) := by decide +kernel
theorem dX7_isWhole_14 : decode cX7_isWhole 14 = .ok (.ifCond .eq 28, 3) := by decide +kernel
theorem dX7_isWhole_17 : decode cX7_isWhole 17 = .ok (.iload 4, 2) := by decide +kernel
theorem dX7_isWhole_19 : decode cX7_isWhole 19 = .ok (.ifCond .le 23, 3) := by decide +kernel
theorem dX7_isWhole_22 : decode cX7_isWhole 22 = .ok (.aload_n 0, 1) := by decide +kernel
theorem dX7_isWhole_23 : decode cX7_isWhole 23 = .ok (.getfield 25, 3) := by decide +kernel
theorem dX7_isWhole_26 : decode cX7_isWhole 26 = .ok (.bipush 6, 2) := by decide +kernel
theorem dX7_isWhole_28 : decode cX7_isWhole 28 = .ok (.iload_n 2, 1) := by decide +kernel
theorem dX7_isWhole_29 : decode cX7_isWhole 29 = .ok (.imul, 1) := by decide +kernel
theorem dX7_isWhole_30 : decode cX7_isWhole 30 = .ok (.iload_n 3, 1) := by decide +kernel
theorem dX7_isWhole_31 : decode cX7_isWhole 31 = .ok (.iadd, 1) := by decide +kernel
theorem dX7_isWhole_32 : decode cX7_isWhole 32 = .ok (.iaload, 1) := by decide +kernel
theorem dX7_isWhole_33 : decode cX7_isWhole 33 = .ok (.iload 4, 2) := by decide +kernel
theorem dX7_isWhole_35 : decode cX7_isWhole 35 = .ok (.if_icmp .ne 7, 3) := by decide +kernel
theorem dX7_isWhole_38 : decode cX7_isWhole 38 = .ok (.iconst 1, 1) := by decide +kernel
theorem dX7_isWhole_39 : decode cX7_isWhole 39 = .ok (.goto 4, 3) := by decide +kernel
theorem dX7_isWhole_42 : decode cX7_isWhole 42 = .ok (.iconst 0, 1) := by decide +kernel
theorem dX7_isWhole_43 : decode cX7_isWhole 43 = .ok (.ireturn, 1) := by decide +kernel
theorem dX7_nightOn_0 : decode cX7_nightOn 0 = .ok (.aload_n 0, 1) := by decide +kernel
theorem dX7_nightOn_1 : decode cX7_nightOn 1 = .ok (.iconst 0, 1) := by decide +kernel
theorem dX7_nightOn_2 : decode cX7_nightOn 2 = .ok (.putfield 149, 3) := by decide +kernel
theorem dX7_nightOn_5 : decode cX7_nightOn 5 = .ok (.aload_n 0, 1) := by decide +kernel
theorem dX7_nightOn_6 : decode cX7_nightOn 6 = .ok (.iconst 0, 1) := by decide +kernel
theorem dX7_nightOn_7 : decode cX7_nightOn 7 = .ok (.putfield 152, 3) := by decide +kernel
theorem dX7_nightOn_10 : decode cX7_nightOn 10 = .ok (.aload_n 0, 1) := by decide +kernel
theorem dX7_nightOn_11 : decode cX7_nightOn 11 = .ok (.iconst 0, 1) := by decide +kernel
theorem dX7_nightOn_12 : decode cX7_nightOn 12 = .ok (.putfield 155, 3) := by decide +kernel
theorem dX7_nightOn_15 : decode cX7_nightOn 15 = .ok (.iconst 0, 1) := by decide +kernel
theorem dX7_nightOn_16 : decode cX7_nightOn 16 = .ok (.istore_n 2, 1) := by decide +kernel
theorem dX7_nightOn_17 : decode cX7_nightOn 17 = .ok (.iload_n 2, 1) := by decide +kernel
theorem dX7_nightOn_18 : decode cX7_nightOn 18 = .ok (.bipush 24, 2) := by decide +kernel
theorem dX7_nightOn_20 : decode cX7_nightOn 20 = .ok (.if_icmp .ge 16, 3) := by decide +kernel
theorem dX7_nightOn_23 : decode cX7_nightOn 23 = .ok (.aload_n 0, 1) := by decide +kernel
theorem dX7_nightOn_24 : decode cX7_nightOn 24 = .ok (.getfield 25, 3) := by decide +kernel
theorem dX7_nightOn_27 : decode cX7_nightOn 27 = .ok (.iload_n 2, 1) := by decide +kernel
theorem dX7_nightOn_28 : decode cX7_nightOn 28 = .ok (.iconst 0, 1) := by decide +kernel
theorem dX7_nightOn_29 : decode cX7_nightOn 29 = .ok (.iastore, 1) := by decide +kernel
theorem dX7_nightOn_30 : decode cX7_nightOn 30 = .ok (.iinc 2 1, 3) := by decide +kernel
theorem dX7_nightOn_33 : decode cX7_nightOn 33 = .ok (.goto (-16), 3) := by decide +kernel
theorem dX7_nightOn_36 : decode cX7_nightOn 36 = .ok (.iconst 0, 1) := by decide +kernel
theorem dX7_nightOn_37 : decode cX7_nightOn 37 = .ok (.istore_n 2, 1) := by decide +kernel
theorem dX7_nightOn_38 : decode cX7_nightOn 38 = .ok (.iload_n 2, 1) := by decide +kernel
theorem dX7_nightOn_39 : decode cX7_nightOn 39 = .ok (.bipush 80, 2) := by decide +kernel
theorem dX7_nightOn_41 : decode cX7_nightOn 41 = .ok (.if_icmp .ge 103, 3) := by decide +kernel
theorem dX7_nightOn_44 : decode cX7_nightOn 44 = .ok (.aload_n 0, 1) := by decide +kernel
theorem dX7_nightOn_45 : decode cX7_nightOn 45 = .ok (.getfield 149, 3) := by decide +kernel
theorem dX7_nightOn_48 : decode cX7_nightOn 48 = .ok (.istore_n 3, 1) := by decide +kernel
theorem dX7_nightOn_49 : decode cX7_nightOn 49 = .ok (.iconst 0, 1) := by decide +kernel
theorem dX7_nightOn_50 : decode cX7_nightOn 50 = .ok (.istore 4, 2) := by decide +kernel
theorem dX7_nightOn_52 : decode cX7_nightOn 52 = .ok (.iload 4, 2) := by decide +kernel
theorem dX7_nightOn_54 : decode cX7_nightOn 54 = .ok (.aload_n 0, 1) := by decide +kernel
theorem dX7_nightOn_55 : decode cX7_nightOn 55 = .ok (.getfield 7, 3) := by decide +kernel
theorem dX7_nightOn_58 : decode cX7_nightOn 58 = .ok (.iload_n 1, 1) := by decide +kernel
theorem dX7_nightOn_59 : decode cX7_nightOn 59 = .ok (.bipush 33, 2) := by decide +kernel
theorem dX7_nightOn_61 : decode cX7_nightOn 61 = .ok (.iadd, 1) := by decide +kernel
theorem dX7_nightOn_62 : decode cX7_nightOn 62 = .ok (.iaload, 1) := by decide +kernel
theorem dX7_nightOn_63 : decode cX7_nightOn 63 = .ok (.if_icmp .ge 53, 3) := by decide +kernel
theorem dX7_nightOn_66 : decode cX7_nightOn 66 = .ok (.aload_n 0, 1) := by decide +kernel
theorem dX7_nightOn_67 : decode cX7_nightOn 67 = .ok (.iload_n 1, 1) := by decide +kernel
theorem dX7_nightOn_68 : decode cX7_nightOn 68 = .ok (.iload 4, 2) := by decide +kernel
theorem dX7_nightOn_70 : decode cX7_nightOn 70 = .ok (.iload_n 2, 1) := by decide +kernel
theorem dX7_nightOn_71 : decode cX7_nightOn 71 = .ok (.invokevirtual 158, 3) := by decide +kernel
theorem dX7_nightOn_74 : decode cX7_nightOn 74 = .ok (.istore 5, 2) := by decide +kernel
theorem dX7_nightOn_76 : decode cX7_nightOn 76 = .ok (.iload 5, 2) := by decide +kernel
theorem dX7_nightOn_78 : decode cX7_nightOn 78 = .ok (.bipush (-4), 2) := by decide +kernel
theorem dX7_nightOn_80 : decode cX7_nightOn 80 = .ok (.if_icmp .eq 30, 3) := by decide +kernel
theorem dX7_nightOn_83 : decode cX7_nightOn 83 = .ok (.aload_n 0, 1) := by decide +kernel
theorem dX7_nightOn_84 : decode cX7_nightOn 84 = .ok (.getfield 25, 3) := by decide +kernel
theorem dX7_nightOn_87 : decode cX7_nightOn 87 = .ok (.bipush 6, 2) := by decide +kernel
theorem dX7_nightOn_89 : decode cX7_nightOn 89 = .ok (.iload 4, 2) := by decide +kernel
theorem dX7_nightOn_91 : decode cX7_nightOn 91 = .ok (.imul, 1) := by decide +kernel
theorem dX7_nightOn_92 : decode cX7_nightOn 92 = .ok (.iload 5, 2) := by decide +kernel
theorem dX7_nightOn_94 : decode cX7_nightOn 94 = .ok (.iadd, 1) := by decide +kernel
theorem dX7_nightOn_95 : decode cX7_nightOn 95 = .ok (.dup2, 1) := by decide +kernel
theorem dX7_nightOn_96 : decode cX7_nightOn 96 = .ok (.iaload, 1) := by decide +kernel
theorem dX7_nightOn_97 : decode cX7_nightOn 97 = .ok (.iconst 1, 1) := by decide +kernel
theorem dX7_nightOn_98 : decode cX7_nightOn 98 = .ok (.iadd, 1) := by decide +kernel
theorem dX7_nightOn_99 : decode cX7_nightOn 99 = .ok (.iastore, 1) := by decide +kernel
theorem dX7_nightOn_100 : decode cX7_nightOn 100 = .ok (.aload_n 0, 1) := by decide +kernel
theorem dX7_nightOn_101 : decode cX7_nightOn 101 = .ok (.dup, 1) := by decide +kernel
theorem dX7_nightOn_102 : decode cX7_nightOn 102 = .ok (.getfield 149, 3) := by decide +kernel
theorem dX7_nightOn_105 : decode cX7_nightOn 105 = .ok (.iconst 1, 1) := by decide +kernel
theorem dX7_nightOn_106 : decode cX7_nightOn 106 = .ok (.iadd, 1) := by decide +kernel
theorem dX7_nightOn_107 : decode cX7_nightOn 107 = .ok (.putfield 149, 3) := by decide +kernel
theorem dX7_nightOn_110 : decode cX7_nightOn 110 = .ok (.iinc 4 1, 3) := by decide +kernel
theorem dX7_nightOn_113 : decode cX7_nightOn 113 = .ok (.goto (-61), 3) := by decide +kernel
theorem dX7_nightOn_116 : decode cX7_nightOn 116 = .ok (.aload_n 0, 1) := by decide +kernel
theorem dX7_nightOn_117 : decode cX7_nightOn 117 = .ok (.dup, 1) := by decide +kernel
theorem dX7_nightOn_118 : decode cX7_nightOn 118 = .ok (.getfield 152, 3) := by decide +kernel
theorem dX7_nightOn_121 : decode cX7_nightOn 121 = .ok (.aload_n 0, 1) := by decide +kernel
theorem dX7_nightOn_122 : decode cX7_nightOn 122 = .ok (.getfield 149, 3) := by decide +kernel
theorem dX7_nightOn_125 : decode cX7_nightOn 125 = .ok (.iload_n 3, 1) := by decide +kernel
theorem dX7_nightOn_126 : decode cX7_nightOn 126 = .ok (.if_icmp .ne 7, 3) := by decide +kernel
theorem dX7_nightOn_129 : decode cX7_nightOn 129 = .ok (.iconst 1, 1) := by decide +kernel
theorem dX7_nightOn_130 : decode cX7_nightOn 130 = .ok (.goto 4, 3) := by decide +kernel
theorem dX7_nightOn_133 : decode cX7_nightOn 133 = .ok (.iconst 0, 1) := by decide +kernel
theorem dX7_nightOn_134 : decode cX7_nightOn 134 = .ok (.iadd, 1) := by decide +kernel
theorem dX7_nightOn_135 : decode cX7_nightOn 135 = .ok (.putfield 152, 3) := by decide +kernel
theorem dX7_nightOn_138 : decode cX7_nightOn 138 = .ok (.iinc 2 1, 3) := by decide +kernel
theorem dX7_nightOn_141 : decode cX7_nightOn 141 = .ok (.goto (-103), 3) := by decide +kernel
theorem dX7_nightOn_144 : decode cX7_nightOn 144 = .ok (.iconst 0, 1) := by decide +kernel
theorem dX7_nightOn_145 : decode cX7_nightOn 145 = .ok (.istore_n 2, 1) := by decide +kernel
theorem dX7_nightOn_146 : decode cX7_nightOn 146 = .ok (.iload_n 2, 1) := by decide +kernel
theorem dX7_nightOn_147 : decode cX7_nightOn 147 = .ok (.aload_n 0, 1) := by decide +kernel
theorem dX7_nightOn_148 : decode cX7_nightOn 148 = .ok (.getfield 7, 3) := by decide +kernel
theorem dX7_nightOn_151 : decode cX7_nightOn 151 = .ok (.iload_n 1, 1) := by decide +kernel
theorem dX7_nightOn_152 : decode cX7_nightOn 152 = .ok (.bipush 33, 2) := by decide +kernel
theorem dX7_nightOn_154 : decode cX7_nightOn 154 = .ok (.iadd, 1) := by decide +kernel
theorem dX7_nightOn_155 : decode cX7_nightOn 155 = .ok (.iaload, 1) := by decide +kernel
theorem dX7_nightOn_156 : decode cX7_nightOn 156 = .ok (.if_icmp .ge 54, 3) := by decide +kernel
theorem dX7_nightOn_159 : decode cX7_nightOn 159 = .ok (.iconst 0, 1) := by decide +kernel
theorem dX7_nightOn_160 : decode cX7_nightOn 160 = .ok (.istore_n 3, 1) := by decide +kernel
theorem dX7_nightOn_161 : decode cX7_nightOn 161 = .ok (.iload_n 3, 1) := by decide +kernel
theorem dX7_nightOn_162 : decode cX7_nightOn 162 = .ok (.aload_n 0, 1) := by decide +kernel
theorem dX7_nightOn_163 : decode cX7_nightOn 163 = .ok (.getfield 7, 3) := by decide +kernel
theorem dX7_nightOn_166 : decode cX7_nightOn 166 = .ok (.iload_n 1, 1) := by decide +kernel
theorem dX7_nightOn_167 : decode cX7_nightOn 167 = .ok (.bipush 24, 2) := by decide +kernel
theorem dX7_nightOn_169 : decode cX7_nightOn 169 = .ok (.iadd, 1) := by decide +kernel
theorem dX7_nightOn_170 : decode cX7_nightOn 170 = .ok (.iaload, 1) := by decide +kernel
theorem dX7_nightOn_171 : decode cX7_nightOn 171 = .ok (.if_icmp .ge 33, 3) := by decide +kernel
theorem dX7_nightOn_174 : decode cX7_nightOn 174 = .ok (.aload_n 0, 1) := by decide +kernel
theorem dX7_nightOn_175 : decode cX7_nightOn 175 = .ok (.dup, 1) := by decide +kernel
theorem dX7_nightOn_176 : decode cX7_nightOn 176 = .ok (.getfield 155, 3) := by decide +kernel
theorem dX7_nightOn_179 : decode cX7_nightOn 179 = .ok (.aload_n 0, 1) := by decide +kernel
theorem dX7_nightOn_180 : decode cX7_nightOn 180 = .ok (.iload_n 1, 1) := by decide +kernel
theorem dX7_nightOn_181 : decode cX7_nightOn 181 = .ok (.iload_n 2, 1) := by decide +kernel
theorem dX7_nightOn_182 : decode cX7_nightOn 182 = .ok (.iload_n 3, 1) := by decide +kernel
theorem dX7_nightOn_183 : decode cX7_nightOn 183 = .ok (.invokevirtual 162, 3) := by decide +kernel
theorem dX7_nightOn_186 : decode cX7_nightOn 186 = .ok (.ifCond .eq 7, 3) := by decide +kernel
theorem dX7_nightOn_189 : decode cX7_nightOn 189 = .ok (.iconst 1, 1) := by decide +kernel
theorem dX7_nightOn_190 : decode cX7_nightOn 190 = .ok (.goto 4, 3) := by decide +kernel
theorem dX7_nightOn_193 : decode cX7_nightOn 193 = .ok (.iconst 0, 1) := by decide +kernel
theorem dX7_nightOn_194 : decode cX7_nightOn 194 = .ok (.iadd, 1) := by decide +kernel
theorem dX7_nightOn_195 : decode cX7_nightOn 195 = .ok (.putfield 155, 3) := by decide +kernel
theorem dX7_nightOn_198 : decode cX7_nightOn 198 = .ok (.iinc 3 1, 3) := by decide +kernel
theorem dX7_nightOn_201 : decode cX7_nightOn 201 = .ok (.goto (-40), 3) := by decide +kernel
theorem dX7_nightOn_204 : decode cX7_nightOn 204 = .ok (.iinc 2 1, 3) := by decide +kernel
theorem dX7_nightOn_207 : decode cX7_nightOn 207 = .ok (.goto (-61), 3) := by decide +kernel
theorem dX7_nightOn_210 : decode cX7_nightOn 210 = .ok (.return_, 1) := by decide +kernel
theorem dX7_rule_0 : decode cX7_rule 0 = .ok (.aload_n 0, 1) := by decide +kernel
theorem dX7_rule_1 : decode cX7_rule 1 = .ok (.iconst 0, 1) := by decide +kernel
theorem dX7_rule_2 : decode cX7_rule 2 = .ok (.invokevirtual 165, 3) := by decide +kernel
theorem dX7_rule_5 : decode cX7_rule 5 = .ok (.iload_n 1, 1) := by decide +kernel
theorem dX7_rule_6 : decode cX7_rule 6 = .ok (.tableswitch 82 0 5 #[38, 46, 54, 64, 72, 77], 38) := by decide +kernel
theorem dX7_rule_44 : decode cX7_rule 44 = .ok (.aload_n 0, 1) := by decide +kernel
theorem dX7_rule_45 : decode cX7_rule 45 = .ok (.getfield 7, 3) := by decide +kernel
theorem dX7_rule_48 : decode cX7_rule 48 = .ok (.bipush 24, 2) := by decide +kernel
theorem dX7_rule_50 : decode cX7_rule 50 = .ok (.iaload, 1) := by decide +kernel
theorem dX7_rule_51 : decode cX7_rule 51 = .ok (.ireturn, 1) := by decide +kernel
theorem dX7_rule_52 : decode cX7_rule 52 = .ok (.aload_n 0, 1) := by decide +kernel
theorem dX7_rule_53 : decode cX7_rule 53 = .ok (.getfield 7, 3) := by decide +kernel
theorem dX7_rule_56 : decode cX7_rule 56 = .ok (.bipush 33, 2) := by decide +kernel
theorem dX7_rule_58 : decode cX7_rule 58 = .ok (.iaload, 1) := by decide +kernel
theorem dX7_rule_59 : decode cX7_rule 59 = .ok (.ireturn, 1) := by decide +kernel
theorem dX7_rule_60 : decode cX7_rule 60 = .ok (.aload_n 0, 1) := by decide +kernel
theorem dX7_rule_61 : decode cX7_rule 61 = .ok (.getfield 7, 3) := by decide +kernel
theorem dX7_rule_64 : decode cX7_rule 64 = .ok (.bipush 34, 2) := by decide +kernel
theorem dX7_rule_66 : decode cX7_rule 66 = .ok (.iaload, 1) := by decide +kernel
theorem dX7_rule_67 : decode cX7_rule 67 = .ok (.iconst 4, 1) := by decide +kernel
theorem dX7_rule_68 : decode cX7_rule 68 = .ok (.iadd, 1) := by decide +kernel
theorem dX7_rule_69 : decode cX7_rule 69 = .ok (.ireturn, 1) := by decide +kernel
theorem dX7_rule_70 : decode cX7_rule 70 = .ok (.aload_n 0, 1) := by decide +kernel
theorem dX7_rule_71 : decode cX7_rule 71 = .ok (.getfield 7, 3) := by decide +kernel
theorem dX7_rule_74 : decode cX7_rule 74 = .ok (.bipush 35, 2) := by decide +kernel
theorem dX7_rule_76 : decode cX7_rule 76 = .ok (.iaload, 1) := by decide +kernel
theorem dX7_rule_77 : decode cX7_rule 77 = .ok (.ireturn, 1) := by decide +kernel
theorem dX7_rule_78 : decode cX7_rule 78 = .ok (.aload_n 0, 1) := by decide +kernel
theorem dX7_rule_79 : decode cX7_rule 79 = .ok (.getfield 149, 3) := by decide +kernel
theorem dX7_rule_82 : decode cX7_rule 82 = .ok (.ireturn, 1) := by decide +kernel
theorem dX7_rule_83 : decode cX7_rule 83 = .ok (.aload_n 0, 1) := by decide +kernel
theorem dX7_rule_84 : decode cX7_rule 84 = .ok (.getfield 155, 3) := by decide +kernel
theorem dX7_rule_87 : decode cX7_rule 87 = .ok (.ireturn, 1) := by decide +kernel
theorem dX7_rule_88 : decode cX7_rule 88 = .ok (.iconst (-1), 1) := by decide +kernel
theorem dX7_rule_89 : decode cX7_rule 89 = .ok (.ireturn, 1) := by decide +kernel
theorem dX7_wholeBy_0 : decode cX7_wholeBy 0 = .ok (.iconst 0, 1) := by decide +kernel
theorem dX7_wholeBy_1 : decode cX7_wholeBy 1 = .ok (.istore_n 3, 1) := by decide +kernel
theorem dX7_wholeBy_2 : decode cX7_wholeBy 2 = .ok (.iconst 0, 1) := by decide +kernel
theorem dX7_wholeBy_3 : decode cX7_wholeBy 3 = .ok (.istore 4, 2) := by decide +kernel
theorem dX7_wholeBy_5 : decode cX7_wholeBy 5 = .ok (.iload 4, 2) := by decide +kernel
theorem dX7_wholeBy_7 : decode cX7_wholeBy 7 = .ok (.aload_n 0, 1) := by decide +kernel
theorem dX7_wholeBy_8 : decode cX7_wholeBy 8 = .ok (.getfield 7, 3) := by decide +kernel
theorem dX7_wholeBy_11 : decode cX7_wholeBy 11 = .ok (.iload_n 1, 1) := by decide +kernel
theorem dX7_wholeBy_12 : decode cX7_wholeBy 12 = .ok (.bipush 33, 2) := by decide +kernel
theorem dX7_wholeBy_14 : decode cX7_wholeBy 14 = .ok (.iadd, 1) := by decide +kernel
theorem dX7_wholeBy_15 : decode cX7_wholeBy 15 = .ok (.iaload, 1) := by decide +kernel
theorem dX7_wholeBy_16 : decode cX7_wholeBy 16 = .ok (.if_icmp .ge 31, 3) := by decide +kernel
theorem dX7_wholeBy_19 : decode cX7_wholeBy 19 = .ok (.iload_n 3, 1) := by decide +kernel
theorem dX7_wholeBy_20 : decode cX7_wholeBy 20 = .ok (.aload_n 0, 1) := by decide +kernel
theorem dX7_wholeBy_21 : decode cX7_wholeBy 21 = .ok (.iload_n 1, 1) := by decide +kernel
theorem dX7_wholeBy_22 : decode cX7_wholeBy 22 = .ok (.iload 4, 2) := by decide +kernel
theorem dX7_wholeBy_24 : decode cX7_wholeBy 24 = .ok (.iload_n 2, 1) := by decide +kernel
theorem dX7_wholeBy_25 : decode cX7_wholeBy 25 = .ok (.invokevirtual 162, 3) := by decide +kernel
theorem dX7_wholeBy_28 : decode cX7_wholeBy 28 = .ok (.ifCond .eq 10, 3) := by decide +kernel
theorem dX7_wholeBy_31 : decode cX7_wholeBy 31 = .ok (.iconst 1, 1) := by decide +kernel
theorem dX7_wholeBy_32 : decode cX7_wholeBy 32 = .ok (.iload 4, 2) := by decide +kernel
theorem dX7_wholeBy_34 : decode cX7_wholeBy 34 = .ok (.ishl, 1) := by decide +kernel
theorem dX7_wholeBy_35 : decode cX7_wholeBy 35 = .ok (.goto 4, 3) := by decide +kernel
theorem dX7_wholeBy_38 : decode cX7_wholeBy 38 = .ok (.iconst 0, 1) := by decide +kernel
theorem dX7_wholeBy_39 : decode cX7_wholeBy 39 = .ok (.ior, 1) := by decide +kernel
theorem dX7_wholeBy_40 : decode cX7_wholeBy 40 = .ok (.istore_n 3, 1) := by decide +kernel
theorem dX7_wholeBy_41 : decode cX7_wholeBy 41 = .ok (.iinc 4 1, 3) := by decide +kernel
theorem dX7_wholeBy_44 : decode cX7_wholeBy 44 = .ok (.goto (-39), 3) := by decide +kernel
theorem dX7_wholeBy_47 : decode cX7_wholeBy 47 = .ok (.iload_n 3, 1) := by decide +kernel
theorem dX7_wholeBy_48 : decode cX7_wholeBy 48 = .ok (.ireturn, 1) := by decide +kernel
theorem dX7_minutesOf_0 : decode cX7_minutesOf 0 = .ok (.iconst 0, 1) := by decide +kernel
theorem dX7_minutesOf_1 : decode cX7_minutesOf 1 = .ok (.istore_n 2, 1) := by decide +kernel
theorem dX7_minutesOf_2 : decode cX7_minutesOf 2 = .ok (.iconst 0, 1) := by decide +kernel
theorem dX7_minutesOf_3 : decode cX7_minutesOf 3 = .ok (.istore_n 3, 1) := by decide +kernel
theorem dX7_minutesOf_4 : decode cX7_minutesOf 4 = .ok (.iload_n 3, 1) := by decide +kernel
theorem dX7_minutesOf_5 : decode cX7_minutesOf 5 = .ok (.bipush 6, 2) := by decide +kernel
theorem dX7_minutesOf_7 : decode cX7_minutesOf 7 = .ok (.if_icmp .ge 23, 3) := by decide +kernel
theorem dX7_minutesOf_10 : decode cX7_minutesOf 10 = .ok (.iload_n 2, 1) := by decide +kernel
theorem dX7_minutesOf_11 : decode cX7_minutesOf 11 = .ok (.aload_n 0, 1) := by decide +kernel
theorem dX7_minutesOf_12 : decode cX7_minutesOf 12 = .ok (.getfield 25, 3) := by decide +kernel
theorem dX7_minutesOf_15 : decode cX7_minutesOf 15 = .ok (.bipush 6, 2) := by decide +kernel
theorem dX7_minutesOf_17 : decode cX7_minutesOf 17 = .ok (.iload_n 1, 1) := by decide +kernel
theorem dX7_minutesOf_18 : decode cX7_minutesOf 18 = .ok (.imul, 1) := by decide +kernel
theorem dX7_minutesOf_19 : decode cX7_minutesOf 19 = .ok (.iload_n 3, 1) := by decide +kernel
theorem dX7_minutesOf_20 : decode cX7_minutesOf 20 = .ok (.iadd, 1) := by decide +kernel
theorem dX7_minutesOf_21 : decode cX7_minutesOf 21 = .ok (.iaload, 1) := by decide +kernel
theorem dX7_minutesOf_22 : decode cX7_minutesOf 22 = .ok (.iadd, 1) := by decide +kernel
theorem dX7_minutesOf_23 : decode cX7_minutesOf 23 = .ok (.istore_n 2, 1) := by decide +kernel
theorem dX7_minutesOf_24 : decode cX7_minutesOf 24 = .ok (.iinc 3 1, 3) := by decide +kernel
theorem dX7_minutesOf_27 : decode cX7_minutesOf 27 = .ok (.goto (-23), 3) := by decide +kernel
theorem dX7_minutesOf_30 : decode cX7_minutesOf 30 = .ok (.iload_n 2, 1) := by decide +kernel
theorem dX7_minutesOf_31 : decode cX7_minutesOf 31 = .ok (.ireturn, 1) := by decide +kernel
theorem dX7_work_0 : decode cX7_work 0 = .ok (.aload_n 0, 1) := by decide +kernel
theorem dX7_work_1 : decode cX7_work 1 = .ok (.iload_n 1, 1) := by decide +kernel
theorem dX7_work_2 : decode cX7_work 2 = .ok (.invokevirtual 168, 3) := by decide +kernel
theorem dX7_work_5 : decode cX7_work 5 = .ok (.ifCond .ne 5, 3) := by decide +kernel
theorem dX7_work_8 : decode cX7_work 8 = .ok (.iconst (-1), 1) := by decide +kernel
theorem dX7_work_9 : decode cX7_work 9 = .ok (.ireturn, 1) := by decide +kernel
theorem dX7_work_10 : decode cX7_work 10 = .ok (.iload_n 2, 1) := by decide +kernel
theorem dX7_work_11 : decode cX7_work 11 = .ok (.tableswitch 101 0 8 #[49, 49, 49, 49, 61, 68, 75, 82, 89], 49) := by decide +kernel
theorem dX7_work_60 : decode cX7_work 60 = .ok (.aload_n 0, 1) := by decide +kernel
theorem dX7_work_61 : decode cX7_work 61 = .ok (.getfield 7, 3) := by decide +kernel
theorem dX7_work_64 : decode cX7_work 64 = .ok (.bipush 6, 2) := by decide +kernel
theorem dX7_work_66 : decode cX7_work 66 = .ok (.iload_n 2, 1) := by decide +kernel
theorem dX7_work_67 : decode cX7_work 67 = .ok (.imul, 1) := by decide +kernel
theorem dX7_work_68 : decode cX7_work 68 = .ok (.iload_n 1, 1) := by decide +kernel
theorem dX7_work_69 : decode cX7_work 69 = .ok (.iadd, 1) := by decide +kernel
theorem dX7_work_70 : decode cX7_work 70 = .ok (.iaload, 1) := by decide +kernel
theorem dX7_work_71 : decode cX7_work 71 = .ok (.ireturn, 1) := by decide +kernel
theorem dX7_work_72 : decode cX7_work 72 = .ok (.aload_n 0, 1) := by decide +kernel
theorem dX7_work_73 : decode cX7_work 73 = .ok (.iconst 0, 1) := by decide +kernel
theorem dX7_work_74 : decode cX7_work 74 = .ok (.iload_n 1, 1) := by decide +kernel
theorem dX7_work_75 : decode cX7_work 75 = .ok (.invokevirtual 126, 3) := by decide +kernel
theorem dX7_work_78 : decode cX7_work 78 = .ok (.ireturn, 1) := by decide +kernel
theorem dX7_work_79 : decode cX7_work 79 = .ok (.aload_n 0, 1) := by decide +kernel
theorem dX7_work_80 : decode cX7_work 80 = .ok (.iconst 0, 1) := by decide +kernel
theorem dX7_work_81 : decode cX7_work 81 = .ok (.iload_n 1, 1) := by decide +kernel
theorem dX7_work_82 : decode cX7_work 82 = .ok (.invokevirtual 142, 3) := by decide +kernel
theorem dX7_work_85 : decode cX7_work 85 = .ok (.ireturn, 1) := by decide +kernel
theorem dX7_work_86 : decode cX7_work 86 = .ok (.aload_n 0, 1) := by decide +kernel
theorem dX7_work_87 : decode cX7_work 87 = .ok (.iconst 0, 1) := by decide +kernel
theorem dX7_work_88 : decode cX7_work 88 = .ok (.iload_n 1, 1) := by decide +kernel
theorem dX7_work_89 : decode cX7_work 89 = .ok (.invokevirtual 129, 3) := by decide +kernel
theorem dX7_work_92 : decode cX7_work 92 = .ok (.ireturn, 1) := by decide +kernel
theorem dX7_work_93 : decode cX7_work 93 = .ok (.aload_n 0, 1) := by decide +kernel
theorem dX7_work_94 : decode cX7_work 94 = .ok (.iconst 0, 1) := by decide +kernel
theorem dX7_work_95 : decode cX7_work 95 = .ok (.iload_n 1, 1) := by decide +kernel
theorem dX7_work_96 : decode cX7_work 96 = .ok (.invokevirtual 172, 3) := by decide +kernel
theorem dX7_work_99 : decode cX7_work 99 = .ok (.ireturn, 1) := by decide +kernel
theorem dX7_work_100 : decode cX7_work 100 = .ok (.aload_n 0, 1) := by decide +kernel
theorem dX7_work_101 : decode cX7_work 101 = .ok (.iconst 0, 1) := by decide +kernel
theorem dX7_work_102 : decode cX7_work 102 = .ok (.invokevirtual 165, 3) := by decide +kernel
theorem dX7_work_105 : decode cX7_work 105 = .ok (.aload_n 0, 1) := by decide +kernel
theorem dX7_work_106 : decode cX7_work 106 = .ok (.iconst 0, 1) := by decide +kernel
theorem dX7_work_107 : decode cX7_work 107 = .ok (.iload_n 1, 1) := by decide +kernel
theorem dX7_work_108 : decode cX7_work 108 = .ok (.invokevirtual 175, 3) := by decide +kernel
theorem dX7_work_111 : decode cX7_work 111 = .ok (.ireturn, 1) := by decide +kernel
theorem dX7_work_112 : decode cX7_work 112 = .ok (.iconst (-1), 1) := by decide +kernel
theorem dX7_work_113 : decode cX7_work 113 = .ok (.ireturn, 1) := by decide +kernel
theorem dX7_reader_0 : decode cX7_reader 0 = .ok (.aload_n 0, 1) := by decide +kernel
theorem dX7_reader_1 : decode cX7_reader 1 = .ok (.iload_n 1, 1) := by decide +kernel
theorem dX7_reader_2 : decode cX7_reader 2 = .ok (.invokevirtual 178, 3) := by decide +kernel
theorem dX7_reader_5 : decode cX7_reader 5 = .ok (.ifCond .eq 15, 3) := by decide +kernel
theorem dX7_reader_8 : decode cX7_reader 8 = .ok (.iload_n 2, 1) := by decide +kernel
theorem dX7_reader_9 : decode cX7_reader 9 = .ok (.i2l, 1) := by decide +kernel
theorem dX7_reader_10 : decode cX7_reader 10 = .ok (.lconst 0, 1) := by decide +kernel
theorem dX7_reader_11 : decode cX7_reader 11 = .ok (.ldc2_w 181, 3) := by decide +kernel
theorem dX7_reader_14 : decode cX7_reader 14 = .ok (.invokestatic 49, 3) := by decide +kernel
theorem dX7_reader_17 : decode cX7_reader 17 = .ok (.ifCond .ne 5, 3) := by decide +kernel
theorem dX7_reader_20 : decode cX7_reader 20 = .ok (.iconst (-1), 1) := by decide +kernel
theorem dX7_reader_21 : decode cX7_reader 21 = .ok (.ireturn, 1) := by decide +kernel
theorem dX7_reader_22 : decode cX7_reader 22 = .ok (.aload_n 0, 1) := by decide +kernel
theorem dX7_reader_23 : decode cX7_reader 23 = .ok (.iconst 0, 1) := by decide +kernel
theorem dX7_reader_24 : decode cX7_reader 24 = .ok (.invokevirtual 165, 3) := by decide +kernel
theorem dX7_reader_27 : decode cX7_reader 27 = .ok (.iconst 0, 1) := by decide +kernel
theorem dX7_reader_28 : decode cX7_reader 28 = .ok (.istore_n 3, 1) := by decide +kernel
theorem dX7_reader_29 : decode cX7_reader 29 = .ok (.iconst 0, 1) := by decide +kernel
theorem dX7_reader_30 : decode cX7_reader 30 = .ok (.istore 4, 2) := by decide +kernel
theorem dX7_reader_32 : decode cX7_reader 32 = .ok (.iload 4, 2) := by decide +kernel
theorem dX7_reader_34 : decode cX7_reader 34 = .ok (.aload_n 0, 1) := by decide +kernel
theorem dX7_reader_35 : decode cX7_reader 35 = .ok (.getfield 7, 3) := by decide +kernel
theorem dX7_reader_38 : decode cX7_reader 38 = .ok (.bipush 24, 2) := by decide +kernel
theorem dX7_reader_40 : decode cX7_reader 40 = .ok (.iaload, 1) := by decide +kernel
theorem dX7_reader_41 : decode cX7_reader 41 = .ok (.if_icmp .ge 31, 3) := by decide +kernel
theorem dX7_reader_44 : decode cX7_reader 44 = .ok (.iload_n 3, 1) := by decide +kernel
theorem dX7_reader_45 : decode cX7_reader 45 = .ok (.aload_n 0, 1) := by decide +kernel
theorem dX7_reader_46 : decode cX7_reader 46 = .ok (.iconst 0, 1) := by decide +kernel
theorem dX7_reader_47 : decode cX7_reader 47 = .ok (.iload_n 1, 1) := by decide +kernel
theorem dX7_reader_48 : decode cX7_reader 48 = .ok (.iload 4, 2) := by decide +kernel
theorem dX7_reader_50 : decode cX7_reader 50 = .ok (.invokevirtual 162, 3) := by decide +kernel
theorem dX7_reader_53 : decode cX7_reader 53 = .ok (.ifCond .eq 10, 3) := by decide +kernel
theorem dX7_reader_56 : decode cX7_reader 56 = .ok (.iconst 1, 1) := by decide +kernel
theorem dX7_reader_57 : decode cX7_reader 57 = .ok (.iload 4, 2) := by decide +kernel
theorem dX7_reader_59 : decode cX7_reader 59 = .ok (.ishl, 1) := by decide +kernel
theorem dX7_reader_60 : decode cX7_reader 60 = .ok (.goto 4, 3) := by decide +kernel
theorem dX7_reader_63 : decode cX7_reader 63 = .ok (.iconst 0, 1) := by decide +kernel
theorem dX7_reader_64 : decode cX7_reader 64 = .ok (.ior, 1) := by decide +kernel
theorem dX7_reader_65 : decode cX7_reader 65 = .ok (.istore_n 3, 1) := by decide +kernel
theorem dX7_reader_66 : decode cX7_reader 66 = .ok (.iinc 4 1, 3) := by decide +kernel
theorem dX7_reader_69 : decode cX7_reader 69 = .ok (.goto (-37), 3) := by decide +kernel
theorem dX7_reader_72 : decode cX7_reader 72 = .ok (.iload_n 2, 1) := by decide +kernel
theorem dX7_reader_73 : decode cX7_reader 73 = .ok (.iconst 2, 1) := by decide +kernel
theorem dX7_reader_74 : decode cX7_reader 74 = .ok (.if_icmp .ge 19, 3) := by decide +kernel
theorem dX7_reader_77 : decode cX7_reader 77 = .ok (.aload_n 0, 1) := by decide +kernel
theorem dX7_reader_78 : decode cX7_reader 78 = .ok (.getfield 7, 3) := by decide +kernel
theorem dX7_reader_81 : decode cX7_reader 81 = .ok (.bipush 25, 2) := by decide +kernel
theorem dX7_reader_83 : decode cX7_reader 83 = .ok (.iconst 4, 1) := by decide +kernel
theorem dX7_reader_84 : decode cX7_reader 84 = .ok (.iload_n 2, 1) := by decide +kernel
theorem dX7_reader_85 : decode cX7_reader 85 = .ok (.imul, 1) := by decide +kernel
theorem dX7_reader_86 : decode cX7_reader 86 = .ok (.iadd, 1) := by decide +kernel
theorem dX7_reader_87 : decode cX7_reader 87 = .ok (.iload_n 1, 1) := by decide +kernel
theorem dX7_reader_88 : decode cX7_reader 88 = .ok (.iadd, 1) := by decide +kernel
theorem dX7_reader_89 : decode cX7_reader 89 = .ok (.iaload, 1) := by decide +kernel
theorem dX7_reader_90 : decode cX7_reader 90 = .ok (.goto 17, 3) := by decide +kernel
theorem dX7_reader_93 : decode cX7_reader 93 = .ok (.iload_n 2, 1) := by decide +kernel
theorem dX7_reader_94 : decode cX7_reader 94 = .ok (.iconst 2, 1) := by decide +kernel
theorem dX7_reader_95 : decode cX7_reader 95 = .ok (.if_icmp .ne 7, 3) := by decide +kernel
theorem dX7_reader_98 : decode cX7_reader 98 = .ok (.iload_n 3, 1) := by decide +kernel
theorem dX7_reader_99 : decode cX7_reader 99 = .ok (.goto 8, 3) := by decide +kernel
theorem dX7_reader_102 : decode cX7_reader 102 = .ok (.aload_n 0, 1) := by decide +kernel
theorem dX7_reader_103 : decode cX7_reader 103 = .ok (.iload_n 1, 1) := by decide +kernel
theorem dX7_reader_104 : decode cX7_reader 104 = .ok (.invokevirtual 183, 3) := by decide +kernel
theorem dX7_reader_107 : decode cX7_reader 107 = .ok (.ireturn, 1) := by decide +kernel
theorem dX7_reads_0 : decode cX7_reads 0 = .ok (.aload_n 0, 1) := by decide +kernel
theorem dX7_reads_1 : decode cX7_reads 1 = .ok (.iload_n 1, 1) := by decide +kernel
theorem dX7_reads_2 : decode cX7_reads 2 = .ok (.invokevirtual 178, 3) := by decide +kernel
theorem dX7_reads_5 : decode cX7_reads 5 = .ok (.ifCond .eq 11, 3) := by decide +kernel
theorem dX7_reads_8 : decode cX7_reads 8 = .ok (.aload_n 0, 1) := by decide +kernel
theorem dX7_reads_9 : decode cX7_reads 9 = .ok (.iload_n 2, 1) := by decide +kernel
theorem dX7_reads_10 : decode cX7_reads 10 = .ok (.invokevirtual 168, 3) := by decide +kernel
theorem dX7_reads_13 : decode cX7_reads 13 = .ok (.ifCond .ne 5, 3) := by decide +kernel
theorem dX7_reads_16 : decode cX7_reads 16 = .ok (.iconst (-1), 1) := by decide +kernel
theorem dX7_reads_17 : decode cX7_reads 17 = .ok (.ireturn, 1) := by decide +kernel
theorem dX7_reads_18 : decode cX7_reads 18 = .ok (.aload_n 0, 1) := by decide +kernel
theorem dX7_reads_19 : decode cX7_reads 19 = .ok (.iconst 0, 1) := by decide +kernel
theorem dX7_reads_20 : decode cX7_reads 20 = .ok (.invokevirtual 165, 3) := by decide +kernel
theorem dX7_reads_23 : decode cX7_reads 23 = .ok (.aload_n 0, 1) := by decide +kernel
theorem dX7_reads_24 : decode cX7_reads 24 = .ok (.getfield 25, 3) := by decide +kernel
theorem dX7_reads_27 : decode cX7_reads 27 = .ok (.bipush 6, 2) := by decide +kernel
theorem dX7_reads_29 : decode cX7_reads 29 = .ok (.iload_n 1, 1) := by decide +kernel
theorem dX7_reads_30 : decode cX7_reads 30 = .ok (.imul, 1) := by decide +kernel
theorem dX7_reads_31 : decode cX7_reads 31 = .ok (.iload_n 2, 1) := by decide +kernel
theorem dX7_reads_32 : decode cX7_reads 32 = .ok (.iadd, 1) := by decide +kernel
theorem dX7_reads_33 : decode cX7_reads 33 = .ok (.iaload, 1) := by decide +kernel
theorem dX7_reads_34 : decode cX7_reads 34 = .ok (.ireturn, 1) := by decide +kernel
theorem dX7_looks_0 : decode cX7_looks 0 = .ok (.aload_n 0, 1) := by decide +kernel
theorem dX7_looks_1 : decode cX7_looks 1 = .ok (.iload_n 1, 1) := by decide +kernel
theorem dX7_looks_2 : decode cX7_looks 2 = .ok (.invokevirtual 178, 3) := by decide +kernel
theorem dX7_looks_5 : decode cX7_looks 5 = .ok (.ifCond .eq 20, 3) := by decide +kernel
theorem dX7_looks_8 : decode cX7_looks 8 = .ok (.iload_n 2, 1) := by decide +kernel
theorem dX7_looks_9 : decode cX7_looks 9 = .ok (.invokestatic 186, 3) := by decide +kernel
theorem dX7_looks_12 : decode cX7_looks 12 = .ok (.ifCond .eq 13, 3) := by decide +kernel
theorem dX7_looks_15 : decode cX7_looks 15 = .ok (.aload_n 0, 1) := by decide +kernel
theorem dX7_looks_16 : decode cX7_looks 16 = .ok (.iconst 0, 1) := by decide +kernel
theorem dX7_looks_17 : decode cX7_looks 17 = .ok (.iload_n 1, 1) := by decide +kernel
theorem dX7_looks_18 : decode cX7_looks 18 = .ok (.iload_n 2, 1) := by decide +kernel
theorem dX7_looks_19 : decode cX7_looks 19 = .ok (.invokevirtual 158, 3) := by decide +kernel
theorem dX7_looks_22 : decode cX7_looks 22 = .ok (.goto 4, 3) := by decide +kernel
theorem dX7_looks_25 : decode cX7_looks 25 = .ok (.iconst (-1), 1) := by decide +kernel
theorem dX7_looks_26 : decode cX7_looks 26 = .ok (.ireturn, 1) := by decide +kernel
theorem dX7_sky_0 : decode cX7_sky 0 = .ok (.iload_n 1, 1) := by decide +kernel
theorem dX7_sky_1 : decode cX7_sky 1 = .ok (.invokestatic 186, 3) := by decide +kernel
theorem dX7_sky_4 : decode cX7_sky 4 = .ok (.ifCond .ne 5, 3) := by decide +kernel
theorem dX7_sky_7 : decode cX7_sky 7 = .ok (.iconst (-1), 1) := by decide +kernel
theorem dX7_sky_8 : decode cX7_sky 8 = .ok (.ireturn, 1) := by decide +kernel
theorem dX7_sky_9 : decode cX7_sky 9 = .ok (.iconst 0, 1) := by decide +kernel
theorem dX7_sky_10 : decode cX7_sky 10 = .ok (.istore_n 2, 1) := by decide +kernel
theorem dX7_sky_11 : decode cX7_sky 11 = .ok (.iconst 0, 1) := by decide +kernel
theorem dX7_sky_12 : decode cX7_sky 12 = .ok (.istore_n 3, 1) := by decide +kernel
theorem dX7_sky_13 : decode cX7_sky 13 = .ok (.iload_n 3, 1) := by decide +kernel
theorem dX7_sky_14 : decode cX7_sky 14 = .ok (.aload_n 0, 1) := by decide +kernel
theorem dX7_sky_15 : decode cX7_sky 15 = .ok (.getfield 7, 3) := by decide +kernel
theorem dX7_sky_18 : decode cX7_sky 18 = .ok (.bipush 24, 2) := by decide +kernel
theorem dX7_sky_20 : decode cX7_sky 20 = .ok (.iaload, 1) := by decide +kernel
theorem dX7_sky_21 : decode cX7_sky 21 = .ok (.if_icmp .ge 29, 3) := by decide +kernel
theorem dX7_sky_24 : decode cX7_sky 24 = .ok (.iload_n 2, 1) := by decide +kernel
theorem dX7_sky_25 : decode cX7_sky 25 = .ok (.aload_n 0, 1) := by decide +kernel
theorem dX7_sky_26 : decode cX7_sky 26 = .ok (.iconst 0, 1) := by decide +kernel
theorem dX7_sky_27 : decode cX7_sky 27 = .ok (.iload_n 3, 1) := by decide +kernel
theorem dX7_sky_28 : decode cX7_sky 28 = .ok (.iload_n 1, 1) := by decide +kernel
theorem dX7_sky_29 : decode cX7_sky 29 = .ok (.invokevirtual 145, 3) := by decide +kernel
theorem dX7_sky_32 : decode cX7_sky 32 = .ok (.ifCond .eq 9, 3) := by decide +kernel
theorem dX7_sky_35 : decode cX7_sky 35 = .ok (.iconst 1, 1) := by decide +kernel
theorem dX7_sky_36 : decode cX7_sky 36 = .ok (.iload_n 3, 1) := by decide +kernel
theorem dX7_sky_37 : decode cX7_sky 37 = .ok (.ishl, 1) := by decide +kernel
theorem dX7_sky_38 : decode cX7_sky 38 = .ok (.goto 4, 3) := by decide +kernel
theorem dX7_sky_41 : decode cX7_sky 41 = .ok (.iconst 0, 1) := by decide +kernel
theorem dX7_sky_42 : decode cX7_sky 42 = .ok (.ior, 1) := by decide +kernel
theorem dX7_sky_43 : decode cX7_sky 43 = .ok (.istore_n 2, 1) := by decide +kernel
theorem dX7_sky_44 : decode cX7_sky 44 = .ok (.iinc 3 1, 3) := by decide +kernel
theorem dX7_sky_47 : decode cX7_sky 47 = .ok (.goto (-34), 3) := by decide +kernel
theorem dX7_sky_50 : decode cX7_sky 50 = .ok (.iload_n 2, 1) := by decide +kernel
theorem dX7_sky_51 : decode cX7_sky 51 = .ok (.ireturn, 1) := by decide +kernel
theorem dX7_puts_0 : decode cX7_puts 0 = .ok (.iload_n 1, 1) := by decide +kernel
theorem dX7_puts_1 : decode cX7_puts 1 = .ok (.ifCond .ne 5, 3) := by decide +kernel
theorem dX7_puts_4 : decode cX7_puts 4 = .ok (.iconst (-1), 1) := by decide +kernel
theorem dX7_puts_5 : decode cX7_puts 5 = .ok (.ireturn, 1) := by decide +kernel
theorem dX7_puts_6 : decode cX7_puts 6 = .ok (.aload_n 0, 1) := by decide +kernel
theorem dX7_puts_7 : decode cX7_puts 7 = .ok (.getfield 7, 3) := by decide +kernel
theorem dX7_puts_10 : decode cX7_puts 10 = .ok (.iload_n 2, 1) := by decide +kernel
theorem dX7_puts_11 : decode cX7_puts 11 = .ok (.iaload, 1) := by decide +kernel
theorem dX7_puts_12 : decode cX7_puts 12 = .ok (.iload 4, 2) := by decide +kernel
theorem dX7_puts_14 : decode cX7_puts 14 = .ok (.iadd, 1) := by decide +kernel
theorem dX7_puts_15 : decode cX7_puts 15 = .ok (.istore 5, 2) := by decide +kernel
theorem dX7_puts_17 : decode cX7_puts 17 = .ok (.aload_n 0, 1) := by decide +kernel
theorem dX7_puts_18 : decode cX7_puts 18 = .ok (.getfield 7, 3) := by decide +kernel
theorem dX7_puts_21 : decode cX7_puts 21 = .ok (.iload_n 2, 1) := by decide +kernel
theorem dX7_puts_22 : decode cX7_puts 22 = .ok (.iload_n 3, 1) := by decide +kernel
theorem dX7_puts_23 : decode cX7_puts 23 = .ok (.iload 4, 2) := by decide +kernel
theorem dX7_puts_25 : decode cX7_puts 25 = .ok (.isub, 1) := by decide +kernel
theorem dX7_puts_26 : decode cX7_puts 26 = .ok (.iastore, 1) := by decide +kernel
theorem dX7_puts_27 : decode cX7_puts 27 = .ok (.iload 5, 2) := by decide +kernel
theorem dX7_puts_29 : decode cX7_puts 29 = .ok (.ireturn, 1) := by decide +kernel
theorem dX7_isGood_0 : decode cX7_isGood 0 = .ok (.iload_n 0, 1) := by decide +kernel
theorem dX7_isGood_1 : decode cX7_isGood 1 = .ok (.ifCond .ne 15, 3) := by decide +kernel
theorem dX7_isGood_4 : decode cX7_isGood 4 = .ok (.iload_n 1, 1) := by decide +kernel
theorem dX7_isGood_5 : decode cX7_isGood 5 = .ok (.i2l, 1) := by decide +kernel
theorem dX7_isGood_6 : decode cX7_isGood 6 = .ok (.lconst 0, 1) := by decide +kernel
theorem dX7_isGood_7 : decode cX7_isGood 7 = .ok (.ldc2_w 181, 3) := by decide +kernel
theorem dX7_isGood_10 : decode cX7_isGood 10 = .ok (.invokestatic 49, 3) := by decide +kernel
theorem dX7_isGood_13 : decode cX7_isGood 13 = .ok (.goto 54, 3) := by decide +kernel
theorem dX7_isGood_16 : decode cX7_isGood 16 = .ok (.iload_n 0, 1) := by decide +kernel
theorem dX7_isGood_17 : decode cX7_isGood 17 = .ok (.iconst 1, 1) := by decide +kernel
theorem dX7_isGood_18 : decode cX7_isGood 18 = .ok (.if_icmp .ne 10, 3) := by decide +kernel
theorem dX7_isGood_21 : decode cX7_isGood 21 = .ok (.iload_n 1, 1) := by decide +kernel
theorem dX7_isGood_22 : decode cX7_isGood 22 = .ok (.invokestatic 189, 3) := by decide +kernel
theorem dX7_isGood_25 : decode cX7_isGood 25 = .ok (.goto 42, 3) := by decide +kernel
theorem dX7_isGood_28 : decode cX7_isGood 28 = .ok (.iload_n 0, 1) := by decide +kernel
theorem dX7_isGood_29 : decode cX7_isGood 29 = .ok (.iconst 2, 1) := by decide +kernel
theorem dX7_isGood_30 : decode cX7_isGood 30 = .ok (.if_icmp .ne 15, 3) := by decide +kernel
theorem dX7_isGood_33 : decode cX7_isGood 33 = .ok (.iload_n 1, 1) := by decide +kernel
theorem dX7_isGood_34 : decode cX7_isGood 34 = .ok (.i2l, 1) := by decide +kernel
theorem dX7_isGood_35 : decode cX7_isGood 35 = .ok (.lconst 0, 1) := by decide +kernel
theorem dX7_isGood_36 : decode cX7_isGood 36 = .ok (.ldc2_w 192, 3) := by decide +kernel
theorem dX7_isGood_39 : decode cX7_isGood 39 = .ok (.invokestatic 49, 3) := by decide +kernel
theorem dX7_isGood_42 : decode cX7_isGood 42 = .ok (.goto 25, 3) := by decide +kernel
theorem dX7_isGood_45 : decode cX7_isGood 45 = .ok (.iload_n 0, 1) := by decide +kernel
theorem dX7_isGood_46 : decode cX7_isGood 46 = .ok (.iconst 3, 1) := by decide +kernel
theorem dX7_isGood_47 : decode cX7_isGood 47 = .ok (.if_icmp .ne 19, 3) := by decide +kernel
theorem dX7_isGood_50 : decode cX7_isGood 50 = .ok (.iload_n 1, 1) := by decide +kernel
theorem dX7_isGood_51 : decode cX7_isGood 51 = .ok (.i2l, 1) := by decide +kernel
theorem dX7_isGood_52 : decode cX7_isGood 52 = .ok (.lconst 1, 1) := by decide +kernel
theorem dX7_isGood_53 : decode cX7_isGood 53 = .ok (.ldc2_w 194, 3) := by decide +kernel
theorem dX7_isGood_56 : decode cX7_isGood 56 = .ok (.invokestatic 49, 3) := by decide +kernel
theorem dX7_isGood_59 : decode cX7_isGood 59 = .ok (.ifCond .eq 7, 3) := by decide +kernel
theorem dX7_isGood_62 : decode cX7_isGood 62 = .ok (.iconst 1, 1) := by decide +kernel
theorem dX7_isGood_63 : decode cX7_isGood 63 = .ok (.goto 4, 3) := by decide +kernel
theorem dX7_isGood_66 : decode cX7_isGood 66 = .ok (.iconst 0, 1) := by decide +kernel
theorem dX7_isGood_67 : decode cX7_isGood 67 = .ok (.ireturn, 1) := by decide +kernel
theorem dX7_alter_0 : decode cX7_alter 0 = .ok (.aload_n 0, 1) := by decide +kernel
theorem dX7_alter_1 : decode cX7_alter 1 = .ok (.aload_n 0, 1) := by decide +kernel
theorem dX7_alter_2 : decode cX7_alter 2 = .ok (.iload_n 1, 1) := by decide +kernel
theorem dX7_alter_3 : decode cX7_alter 3 = .ok (.invokevirtual 168, 3) := by decide +kernel
theorem dX7_alter_6 : decode cX7_alter 6 = .ok (.ifCond .eq 15, 3) := by decide +kernel
theorem dX7_alter_9 : decode cX7_alter 9 = .ok (.iload_n 2, 1) := by decide +kernel
theorem dX7_alter_10 : decode cX7_alter 10 = .ok (.iload_n 3, 1) := by decide +kernel
theorem dX7_alter_11 : decode cX7_alter 11 = .ok (.invokestatic 196, 3) := by decide +kernel
theorem dX7_alter_14 : decode cX7_alter 14 = .ok (.ifCond .eq 7, 3) := by decide +kernel
theorem dX7_alter_17 : decode cX7_alter 17 = .ok (.iconst 1, 1) := by decide +kernel
theorem dX7_alter_18 : decode cX7_alter 18 = .ok (.goto 4, 3) := by decide +kernel
theorem dX7_alter_21 : decode cX7_alter 21 = .ok (.iconst 0, 1) := by decide +kernel
theorem dX7_alter_22 : decode cX7_alter 22 = .ok (.bipush 6, 2) := by decide +kernel
theorem dX7_alter_24 : decode cX7_alter 24 = .ok (.iload_n 2, 1) := by decide +kernel
theorem dX7_alter_25 : decode cX7_alter 25 = .ok (.imul, 1) := by decide +kernel
theorem dX7_alter_26 : decode cX7_alter 26 = .ok (.iload_n 1, 1) := by decide +kernel
theorem dX7_alter_27 : decode cX7_alter 27 = .ok (.iadd, 1) := by decide +kernel
theorem dX7_alter_28 : decode cX7_alter 28 = .ok (.iload_n 3, 1) := by decide +kernel
theorem dX7_alter_29 : decode cX7_alter 29 = .ok (.iconst 0, 1) := by decide +kernel
theorem dX7_alter_30 : decode cX7_alter 30 = .ok (.invokevirtual 199, 3) := by decide +kernel
theorem dX7_alter_33 : decode cX7_alter 33 = .ok (.ireturn, 1) := by decide +kernel
theorem dX7_move_0 : decode cX7_move 0 = .ok (.iload_n 2, 1) := by decide +kernel
theorem dX7_move_1 : decode cX7_move 1 = .ok (.ifCond .ne 10, 3) := by decide +kernel
theorem dX7_move_4 : decode cX7_move 4 = .ok (.iload_n 3, 1) := by decide +kernel
theorem dX7_move_5 : decode cX7_move 5 = .ok (.invokestatic 189, 3) := by decide +kernel
theorem dX7_move_8 : decode cX7_move 8 = .ok (.goto 25, 3) := by decide +kernel
theorem dX7_move_11 : decode cX7_move 11 = .ok (.iload_n 2, 1) := by decide +kernel
theorem dX7_move_12 : decode cX7_move 12 = .ok (.iconst 1, 1) := by decide +kernel
theorem dX7_move_13 : decode cX7_move 13 = .ok (.if_icmp .ne 19, 3) := by decide +kernel
theorem dX7_move_16 : decode cX7_move 16 = .ok (.iload_n 3, 1) := by decide +kernel
theorem dX7_move_17 : decode cX7_move 17 = .ok (.i2l, 1) := by decide +kernel
theorem dX7_move_18 : decode cX7_move 18 = .ok (.lconst 0, 1) := by decide +kernel
theorem dX7_move_19 : decode cX7_move 19 = .ok (.ldc2_w 194, 3) := by decide +kernel
theorem dX7_move_22 : decode cX7_move 22 = .ok (.invokestatic 49, 3) := by decide +kernel
theorem dX7_move_25 : decode cX7_move 25 = .ok (.ifCond .eq 7, 3) := by decide +kernel
theorem dX7_move_28 : decode cX7_move 28 = .ok (.iconst 1, 1) := by decide +kernel
theorem dX7_move_29 : decode cX7_move 29 = .ok (.goto 4, 3) := by decide +kernel
theorem dX7_move_32 : decode cX7_move 32 = .ok (.iconst 0, 1) := by decide +kernel
theorem dX7_move_33 : decode cX7_move 33 = .ok (.istore 4, 2) := by decide +kernel
theorem dX7_move_35 : decode cX7_move 35 = .ok (.aload_n 0, 1) := by decide +kernel
theorem dX7_move_36 : decode cX7_move 36 = .ok (.aload_n 0, 1) := by decide +kernel
theorem dX7_move_37 : decode cX7_move 37 = .ok (.iload_n 1, 1) := by decide +kernel
theorem dX7_move_38 : decode cX7_move 38 = .ok (.invokevirtual 178, 3) := by decide +kernel
theorem dX7_move_41 : decode cX7_move 41 = .ok (.ifCond .eq 12, 3) := by decide +kernel
theorem dX7_move_44 : decode cX7_move 44 = .ok (.iload 4, 2) := by decide +kernel
theorem dX7_move_46 : decode cX7_move 46 = .ok (.ifCond .eq 7, 3) := by decide +kernel
theorem dX7_move_49 : decode cX7_move 49 = .ok (.iconst 1, 1) := by decide +kernel
theorem dX7_move_50 : decode cX7_move 50 = .ok (.goto 4, 3) := by decide +kernel
theorem dX7_move_53 : decode cX7_move 53 = .ok (.iconst 0, 1) := by decide +kernel
theorem dX7_move_54 : decode cX7_move 54 = .ok (.bipush 25, 2) := by decide +kernel
theorem dX7_move_56 : decode cX7_move 56 = .ok (.iconst 4, 1) := by decide +kernel
theorem dX7_move_57 : decode cX7_move 57 = .ok (.iload_n 2, 1) := by decide +kernel
theorem dX7_move_58 : decode cX7_move 58 = .ok (.imul, 1) := by decide +kernel
theorem dX7_move_59 : decode cX7_move 59 = .ok (.iadd, 1) := by decide +kernel
theorem dX7_move_60 : decode cX7_move 60 = .ok (.iload_n 1, 1) := by decide +kernel
theorem dX7_move_61 : decode cX7_move 61 = .ok (.iadd, 1) := by decide +kernel
theorem dX7_move_62 : decode cX7_move 62 = .ok (.iload_n 3, 1) := by decide +kernel
theorem dX7_move_63 : decode cX7_move 63 = .ok (.iconst 0, 1) := by decide +kernel
theorem dX7_move_64 : decode cX7_move 64 = .ok (.invokevirtual 199, 3) := by decide +kernel
theorem dX7_move_67 : decode cX7_move 67 = .ok (.ireturn, 1) := by decide +kernel
theorem dX7_blow_0 : decode cX7_blow 0 = .ok (.aload_n 0, 1) := by decide +kernel
theorem dX7_blow_1 : decode cX7_blow 1 = .ok (.iload_n 1, 1) := by decide +kernel
theorem dX7_blow_2 : decode cX7_blow 2 = .ok (.i2l, 1) := by decide +kernel
theorem dX7_blow_3 : decode cX7_blow 3 = .ok (.lconst 0, 1) := by decide +kernel
theorem dX7_blow_4 : decode cX7_blow 4 = .ok (.ldc2_w 203, 3) := by decide +kernel
theorem dX7_blow_7 : decode cX7_blow 7 = .ok (.invokestatic 49, 3) := by decide +kernel
theorem dX7_blow_10 : decode cX7_blow 10 = .ok (.bipush 34, 2) := by decide +kernel
theorem dX7_blow_12 : decode cX7_blow 12 = .ok (.iload_n 1, 1) := by decide +kernel
theorem dX7_blow_13 : decode cX7_blow 13 = .ok (.iconst 4, 1) := by decide +kernel
theorem dX7_blow_14 : decode cX7_blow 14 = .ok (.invokevirtual 199, 3) := by decide +kernel
theorem dX7_blow_17 : decode cX7_blow 17 = .ok (.ireturn, 1) := by decide +kernel
theorem dX7_damp_0 : decode cX7_damp 0 = .ok (.aload_n 0, 1) := by decide +kernel
theorem dX7_damp_1 : decode cX7_damp 1 = .ok (.iload_n 1, 1) := by decide +kernel
theorem dX7_damp_2 : decode cX7_damp 2 = .ok (.i2l, 1) := by decide +kernel
theorem dX7_damp_3 : decode cX7_damp 3 = .ok (.lconst 0, 1) := by decide +kernel
theorem dX7_damp_4 : decode cX7_damp 4 = .ok (.ldc2_w 194, 3) := by decide +kernel
theorem dX7_damp_7 : decode cX7_damp 7 = .ok (.invokestatic 49, 3) := by decide +kernel
theorem dX7_damp_10 : decode cX7_damp 10 = .ok (.bipush 35, 2) := by decide +kernel
theorem dX7_damp_12 : decode cX7_damp 12 = .ok (.iload_n 1, 1) := by decide +kernel
theorem dX7_damp_13 : decode cX7_damp 13 = .ok (.iconst 0, 1) := by decide +kernel
theorem dX7_damp_14 : decode cX7_damp 14 = .ok (.invokevirtual 199, 3) := by decide +kernel
theorem dX7_damp_17 : decode cX7_damp 17 = .ok (.ireturn, 1) := by decide +kernel
theorem dX7_writes_0 : decode cX7_writes 0 = .ok (.iconst 0, 1) := by decide +kernel
theorem dX7_writes_1 : decode cX7_writes 1 = .ok (.iload_n 1, 1) := by decide +kernel
theorem dX7_writes_2 : decode cX7_writes 2 = .ok (.invokestatic 196, 3) := by decide +kernel
theorem dX7_writes_5 : decode cX7_writes 5 = .ok (.ifCond .eq 28, 3) := by decide +kernel
theorem dX7_writes_8 : decode cX7_writes 8 = .ok (.iconst 1, 1) := by decide +kernel
theorem dX7_writes_9 : decode cX7_writes 9 = .ok (.iload_n 2, 1) := by decide +kernel
theorem dX7_writes_10 : decode cX7_writes 10 = .ok (.invokestatic 196, 3) := by decide +kernel
theorem dX7_writes_13 : decode cX7_writes 13 = .ok (.ifCond .eq 20, 3) := by decide +kernel
theorem dX7_writes_16 : decode cX7_writes 16 = .ok (.iconst 2, 1) := by decide +kernel
theorem dX7_writes_17 : decode cX7_writes 17 = .ok (.iload_n 3, 1) := by decide +kernel
theorem dX7_writes_18 : decode cX7_writes 18 = .ok (.invokestatic 196, 3) := by decide +kernel
theorem dX7_writes_21 : decode cX7_writes 21 = .ok (.ifCond .eq 12, 3) := by decide +kernel
theorem dX7_writes_24 : decode cX7_writes 24 = .ok (.iconst 3, 1) := by decide +kernel
theorem dX7_writes_25 : decode cX7_writes 25 = .ok (.iload 4, 2) := by decide +kernel
theorem dX7_writes_27 : decode cX7_writes 27 = .ok (.invokestatic 196, 3) := by decide +kernel
theorem dX7_writes_30 : decode cX7_writes 30 = .ok (.ifCond .ne 5, 3) := by decide +kernel
theorem dX7_writes_33 : decode cX7_writes 33 = .ok (.iconst (-1), 1) := by decide +kernel
theorem dX7_writes_34 : decode cX7_writes 34 = .ok (.ireturn, 1) := by decide +kernel
theorem dX7_writes_35 : decode cX7_writes 35 = .ok (.aload_n 0, 1) := by decide +kernel
theorem dX7_writes_36 : decode cX7_writes 36 = .ok (.getfield 7, 3) := by decide +kernel
theorem dX7_writes_39 : decode cX7_writes 39 = .ok (.bipush 24, 2) := by decide +kernel
theorem dX7_writes_41 : decode cX7_writes 41 = .ok (.iaload, 1) := by decide +kernel
theorem dX7_writes_42 : decode cX7_writes 42 = .ok (.istore 5, 2) := by decide +kernel
theorem dX7_writes_44 : decode cX7_writes 44 = .ok (.iload 5, 2) := by decide +kernel
theorem dX7_writes_46 : decode cX7_writes 46 = .ok (.bipush 6, 2) := by decide +kernel
theorem dX7_writes_48 : decode cX7_writes 48 = .ok (.if_icmp .ne 6, 3) := by decide +kernel
theorem dX7_writes_51 : decode cX7_writes 51 = .ok (.bipush (-3), 2) := by decide +kernel
theorem dX7_writes_53 : decode cX7_writes 53 = .ok (.ireturn, 1) := by decide +kernel
theorem dX7_writes_54 : decode cX7_writes 54 = .ok (.aload_n 0, 1) := by decide +kernel
theorem dX7_writes_55 : decode cX7_writes 55 = .ok (.getfield 7, 3) := by decide +kernel
theorem dX7_writes_58 : decode cX7_writes 58 = .ok (.iload 5, 2) := by decide +kernel
theorem dX7_writes_60 : decode cX7_writes 60 = .ok (.iload_n 1, 1) := by decide +kernel
theorem dX7_writes_61 : decode cX7_writes 61 = .ok (.iastore, 1) := by decide +kernel
theorem dX7_writes_62 : decode cX7_writes 62 = .ok (.aload_n 0, 1) := by decide +kernel
theorem dX7_writes_63 : decode cX7_writes 63 = .ok (.getfield 7, 3) := by decide +kernel
theorem dX7_writes_66 : decode cX7_writes 66 = .ok (.bipush 6, 2) := by decide +kernel
theorem dX7_writes_68 : decode cX7_writes 68 = .ok (.iload 5, 2) := by decide +kernel
theorem dX7_writes_70 : decode cX7_writes 70 = .ok (.iadd, 1) := by decide +kernel
theorem dX7_writes_71 : decode cX7_writes 71 = .ok (.iload_n 2, 1) := by decide +kernel
theorem dX7_writes_72 : decode cX7_writes 72 = .ok (.iastore, 1) := by decide +kernel
theorem dX7_writes_73 : decode cX7_writes 73 = .ok (.aload_n 0, 1) := by decide +kernel
theorem dX7_writes_74 : decode cX7_writes 74 = .ok (.getfield 7, 3) := by decide +kernel
theorem dX7_writes_77 : decode cX7_writes 77 = .ok (.bipush 12, 2) := by decide +kernel
theorem dX7_writes_79 : decode cX7_writes 79 = .ok (.iload 5, 2) := by decide +kernel
theorem dX7_writes_81 : decode cX7_writes 81 = .ok (.iadd, 1) := by decide +kernel
theorem dX7_writes_82 : decode cX7_writes 82 = .ok (.iload_n 3, 1) := by decide +kernel
theorem dX7_writes_83 : decode cX7_writes 83 = .ok (.iastore, 1) := by decide +kernel
theorem dX7_writes_84 : decode cX7_writes 84 = .ok (.aload_n 0, 1) := by decide +kernel
theorem dX7_writes_85 : decode cX7_writes 85 = .ok (.getfield 7, 3) := by decide +kernel
theorem dX7_writes_88 : decode cX7_writes 88 = .ok (.bipush 18, 2) := by decide +kernel
theorem dX7_writes_90 : decode cX7_writes 90 = .ok (.iload 5, 2) := by decide +kernel
theorem dX7_writes_92 : decode cX7_writes 92 = .ok (.iadd, 1) := by decide +kernel
theorem dX7_writes_93 : decode cX7_writes 93 = .ok (.iload 4, 2) := by decide +kernel
theorem dX7_writes_95 : decode cX7_writes 95 = .ok (.iastore, 1) := by decide +kernel
theorem dX7_writes_96 : decode cX7_writes 96 = .ok (.aload_n 0, 1) := by decide +kernel
theorem dX7_writes_97 : decode cX7_writes 97 = .ok (.getfield 7, 3) := by decide +kernel
theorem dX7_writes_100 : decode cX7_writes 100 = .ok (.bipush 24, 2) := by decide +kernel
theorem dX7_writes_102 : decode cX7_writes 102 = .ok (.dup2, 1) := by decide +kernel
theorem dX7_writes_103 : decode cX7_writes 103 = .ok (.iaload, 1) := by decide +kernel
theorem dX7_writes_104 : decode cX7_writes 104 = .ok (.iconst 1, 1) := by decide +kernel
theorem dX7_writes_105 : decode cX7_writes 105 = .ok (.iadd, 1) := by decide +kernel
theorem dX7_writes_106 : decode cX7_writes 106 = .ok (.iastore, 1) := by decide +kernel
theorem dX7_writes_107 : decode cX7_writes 107 = .ok (.aload_n 0, 1) := by decide +kernel
theorem dX7_writes_108 : decode cX7_writes 108 = .ok (.getfield 7, 3) := by decide +kernel
theorem dX7_writes_111 : decode cX7_writes 111 = .ok (.bipush 24, 2) := by decide +kernel
theorem dX7_writes_113 : decode cX7_writes 113 = .ok (.iaload, 1) := by decide +kernel
theorem dX7_writes_114 : decode cX7_writes 114 = .ok (.ireturn, 1) := by decide +kernel
theorem dX7_write_0 : decode cX7_write 0 = .ok (.aload_n 0, 1) := by decide +kernel
theorem dX7_write_1 : decode cX7_write 1 = .ok (.iload_n 1, 1) := by decide +kernel
theorem dX7_write_2 : decode cX7_write 2 = .ok (.iload_n 2, 1) := by decide +kernel
theorem dX7_write_3 : decode cX7_write 3 = .ok (.iload_n 3, 1) := by decide +kernel
theorem dX7_write_4 : decode cX7_write 4 = .ok (.iload 4, 2) := by decide +kernel
theorem dX7_write_6 : decode cX7_write 6 = .ok (.invokevirtual 205, 3) := by decide +kernel
theorem dX7_write_9 : decode cX7_write 9 = .ok (.ireturn, 1) := by decide +kernel
theorem dX7_come_0 : decode cX7_come 0 = .ok (.iload_n 1, 1) := by decide +kernel
theorem dX7_come_1 : decode cX7_come 1 = .ok (.invokestatic 189, 3) := by decide +kernel
theorem dX7_come_4 : decode cX7_come 4 = .ok (.ifCond .eq 15, 3) := by decide +kernel
theorem dX7_come_7 : decode cX7_come 7 = .ok (.iload_n 2, 1) := by decide +kernel
theorem dX7_come_8 : decode cX7_come 8 = .ok (.i2l, 1) := by decide +kernel
theorem dX7_come_9 : decode cX7_come 9 = .ok (.lconst 0, 1) := by decide +kernel
theorem dX7_come_10 : decode cX7_come 10 = .ok (.ldc2_w 194, 3) := by decide +kernel
theorem dX7_come_13 : decode cX7_come 13 = .ok (.invokestatic 49, 3) := by decide +kernel
theorem dX7_come_16 : decode cX7_come 16 = .ok (.ifCond .ne 5, 3) := by decide +kernel
theorem dX7_come_19 : decode cX7_come 19 = .ok (.iconst (-1), 1) := by decide +kernel
theorem dX7_come_20 : decode cX7_come 20 = .ok (.ireturn, 1) := by decide +kernel
theorem dX7_come_21 : decode cX7_come 21 = .ok (.aload_n 0, 1) := by decide +kernel
theorem dX7_come_22 : decode cX7_come 22 = .ok (.getfield 7, 3) := by decide +kernel
theorem dX7_come_25 : decode cX7_come 25 = .ok (.bipush 33, 2) := by decide +kernel
theorem dX7_come_27 : decode cX7_come 27 = .ok (.iaload, 1) := by decide +kernel
theorem dX7_come_28 : decode cX7_come 28 = .ok (.istore_n 3, 1) := by decide +kernel
theorem dX7_come_29 : decode cX7_come 29 = .ok (.iload_n 3, 1) := by decide +kernel
theorem dX7_come_30 : decode cX7_come 30 = .ok (.iconst 4, 1) := by decide +kernel
theorem dX7_come_31 : decode cX7_come 31 = .ok (.if_icmp .ne 6, 3) := by decide +kernel
theorem dX7_come_34 : decode cX7_come 34 = .ok (.bipush (-3), 2) := by decide +kernel
theorem dX7_come_36 : decode cX7_come 36 = .ok (.ireturn, 1) := by decide +kernel
theorem dX7_come_37 : decode cX7_come 37 = .ok (.aload_n 0, 1) := by decide +kernel
theorem dX7_come_38 : decode cX7_come 38 = .ok (.getfield 7, 3) := by decide +kernel
theorem dX7_come_41 : decode cX7_come 41 = .ok (.bipush 25, 2) := by decide +kernel
theorem dX7_come_43 : decode cX7_come 43 = .ok (.iload_n 3, 1) := by decide +kernel
theorem dX7_come_44 : decode cX7_come 44 = .ok (.iadd, 1) := by decide +kernel
theorem dX7_come_45 : decode cX7_come 45 = .ok (.iload_n 1, 1) := by decide +kernel
theorem dX7_come_46 : decode cX7_come 46 = .ok (.iastore, 1) := by decide +kernel
theorem dX7_come_47 : decode cX7_come 47 = .ok (.aload_n 0, 1) := by decide +kernel
theorem dX7_come_48 : decode cX7_come 48 = .ok (.getfield 7, 3) := by decide +kernel
theorem dX7_come_51 : decode cX7_come 51 = .ok (.bipush 29, 2) := by decide +kernel
theorem dX7_come_53 : decode cX7_come 53 = .ok (.iload_n 3, 1) := by decide +kernel
theorem dX7_come_54 : decode cX7_come 54 = .ok (.iadd, 1) := by decide +kernel
theorem dX7_come_55 : decode cX7_come 55 = .ok (.iload_n 2, 1) := by decide +kernel
theorem dX7_come_56 : decode cX7_come 56 = .ok (.iastore, 1) := by decide +kernel
theorem dX7_come_57 : decode cX7_come 57 = .ok (.aload_n 0, 1) := by decide +kernel
theorem dX7_come_58 : decode cX7_come 58 = .ok (.getfield 7, 3) := by decide +kernel
theorem dX7_come_61 : decode cX7_come 61 = .ok (.bipush 33, 2) := by decide +kernel
theorem dX7_come_63 : decode cX7_come 63 = .ok (.dup2, 1) := by decide +kernel
theorem dX7_come_64 : decode cX7_come 64 = .ok (.iaload, 1) := by decide +kernel
theorem dX7_come_65 : decode cX7_come 65 = .ok (.iconst 1, 1) := by decide +kernel
theorem dX7_come_66 : decode cX7_come 66 = .ok (.iadd, 1) := by decide +kernel
theorem dX7_come_67 : decode cX7_come 67 = .ok (.iastore, 1) := by decide +kernel
theorem dX7_come_68 : decode cX7_come 68 = .ok (.aload_n 0, 1) := by decide +kernel
theorem dX7_come_69 : decode cX7_come 69 = .ok (.getfield 7, 3) := by decide +kernel
theorem dX7_come_72 : decode cX7_come 72 = .ok (.bipush 33, 2) := by decide +kernel
theorem dX7_come_74 : decode cX7_come 74 = .ok (.iaload, 1) := by decide +kernel
theorem dX7_come_75 : decode cX7_come 75 = .ok (.ireturn, 1) := by decide +kernel
theorem dX7_burn_0 : decode cX7_burn 0 = .ok (.aload_n 0, 1) := by decide +kernel
theorem dX7_burn_1 : decode cX7_burn 1 = .ok (.iload_n 1, 1) := by decide +kernel
theorem dX7_burn_2 : decode cX7_burn 2 = .ok (.i2l, 1) := by decide +kernel
theorem dX7_burn_3 : decode cX7_burn 3 = .ok (.lconst 0, 1) := by decide +kernel
theorem dX7_burn_4 : decode cX7_burn 4 = .ok (.aload_n 0, 1) := by decide +kernel
theorem dX7_burn_5 : decode cX7_burn 5 = .ok (.getfield 7, 3) := by decide +kernel
theorem dX7_burn_8 : decode cX7_burn 8 = .ok (.bipush 24, 2) := by decide +kernel
theorem dX7_burn_10 : decode cX7_burn 10 = .ok (.iaload, 1) := by decide +kernel
theorem dX7_burn_11 : decode cX7_burn 11 = .ok (.i2l, 1) := by decide +kernel
theorem dX7_burn_12 : decode cX7_burn 12 = .ok (.invokestatic 49, 3) := by decide +kernel
theorem dX7_burn_15 : decode cX7_burn 15 = .ok (.bipush 24, 2) := by decide +kernel
theorem dX7_burn_17 : decode cX7_burn 17 = .ok (.iload_n 1, 1) := by decide +kernel
theorem dX7_burn_18 : decode cX7_burn 18 = .ok (.iconst 0, 1) := by decide +kernel
theorem dX7_burn_19 : decode cX7_burn 19 = .ok (.invokevirtual 199, 3) := by decide +kernel
theorem dX7_burn_22 : decode cX7_burn 22 = .ok (.ireturn, 1) := by decide +kernel
theorem dX7_leave_0 : decode cX7_leave 0 = .ok (.aload_n 0, 1) := by decide +kernel
theorem dX7_leave_1 : decode cX7_leave 1 = .ok (.iload_n 1, 1) := by decide +kernel
theorem dX7_leave_2 : decode cX7_leave 2 = .ok (.i2l, 1) := by decide +kernel
theorem dX7_leave_3 : decode cX7_leave 3 = .ok (.lconst 0, 1) := by decide +kernel
theorem dX7_leave_4 : decode cX7_leave 4 = .ok (.aload_n 0, 1) := by decide +kernel
theorem dX7_leave_5 : decode cX7_leave 5 = .ok (.getfield 7, 3) := by decide +kernel
theorem dX7_leave_8 : decode cX7_leave 8 = .ok (.bipush 33, 2) := by decide +kernel
theorem dX7_leave_10 : decode cX7_leave 10 = .ok (.iaload, 1) := by decide +kernel
theorem dX7_leave_11 : decode cX7_leave 11 = .ok (.i2l, 1) := by decide +kernel
theorem dX7_leave_12 : decode cX7_leave 12 = .ok (.invokestatic 49, 3) := by decide +kernel
theorem dX7_leave_15 : decode cX7_leave 15 = .ok (.bipush 33, 2) := by decide +kernel
theorem dX7_leave_17 : decode cX7_leave 17 = .ok (.iload_n 1, 1) := by decide +kernel
theorem dX7_leave_18 : decode cX7_leave 18 = .ok (.iconst 0, 1) := by decide +kernel
theorem dX7_leave_19 : decode cX7_leave 19 = .ok (.invokevirtual 199, 3) := by decide +kernel
theorem dX7_leave_22 : decode cX7_leave 22 = .ok (.ireturn, 1) := by decide +kernel
theorem dX7_first_0 : decode cX7_first 0 = .ok (.aload_n 0, 1) := by decide +kernel
theorem dX7_first_1 : decode cX7_first 1 = .ok (.iload_n 1, 1) := by decide +kernel
theorem dX7_first_2 : decode cX7_first 2 = .ok (.invokevirtual 178, 3) := by decide +kernel
theorem dX7_first_5 : decode cX7_first 5 = .ok (.ifCond .ne 5, 3) := by decide +kernel
theorem dX7_first_8 : decode cX7_first 8 = .ok (.iconst (-1), 1) := by decide +kernel
theorem dX7_first_9 : decode cX7_first 9 = .ok (.ireturn, 1) := by decide +kernel
theorem dX7_first_10 : decode cX7_first 10 = .ok (.iconst 0, 1) := by decide +kernel
theorem dX7_first_11 : decode cX7_first 11 = .ok (.istore_n 2, 1) := by decide +kernel
theorem dX7_first_12 : decode cX7_first 12 = .ok (.iload_n 2, 1) := by decide +kernel
theorem dX7_first_13 : decode cX7_first 13 = .ok (.bipush 80, 2) := by decide +kernel
theorem dX7_first_15 : decode cX7_first 15 = .ok (.if_icmp .ge 23, 3) := by decide +kernel
theorem dX7_first_18 : decode cX7_first 18 = .ok (.aload_n 0, 1) := by decide +kernel
theorem dX7_first_19 : decode cX7_first 19 = .ok (.iconst 0, 1) := by decide +kernel
theorem dX7_first_20 : decode cX7_first 20 = .ok (.iload_n 1, 1) := by decide +kernel
theorem dX7_first_21 : decode cX7_first 21 = .ok (.iload_n 2, 1) := by decide +kernel
theorem dX7_first_22 : decode cX7_first 22 = .ok (.invokevirtual 158, 3) := by decide +kernel
theorem dX7_first_25 : decode cX7_first 25 = .ok (.bipush (-4), 2) := by decide +kernel
theorem dX7_first_27 : decode cX7_first 27 = .ok (.if_icmp .eq 5, 3) := by decide +kernel
theorem dX7_first_30 : decode cX7_first 30 = .ok (.iload_n 2, 1) := by decide +kernel
theorem dX7_first_31 : decode cX7_first 31 = .ok (.ireturn, 1) := by decide +kernel
theorem dX7_first_32 : decode cX7_first 32 = .ok (.iinc 2 1, 3) := by decide +kernel
theorem dX7_first_35 : decode cX7_first 35 = .ok (.goto (-23), 3) := by decide +kernel
theorem dX7_first_38 : decode cX7_first 38 = .ok (.bipush (-4), 2) := by decide +kernel
theorem dX7_first_40 : decode cX7_first 40 = .ok (.ireturn, 1) := by decide +kernel
theorem dX7_dark_0 : decode cX7_dark 0 = .ok (.aload_n 0, 1) := by decide +kernel
theorem dX7_dark_1 : decode cX7_dark 1 = .ok (.iconst 0, 1) := by decide +kernel
theorem dX7_dark_2 : decode cX7_dark 2 = .ok (.invokevirtual 165, 3) := by decide +kernel
theorem dX7_dark_5 : decode cX7_dark 5 = .ok (.aload_n 0, 1) := by decide +kernel
theorem dX7_dark_6 : decode cX7_dark 6 = .ok (.getfield 152, 3) := by decide +kernel
theorem dX7_dark_9 : decode cX7_dark 9 = .ok (.ireturn, 1) := by decide +kernel
theorem dX7_peak_0 : decode cX7_peak 0 = .ok (.aload_n 0, 1) := by decide +kernel
theorem dX7_peak_1 : decode cX7_peak 1 = .ok (.iload_n 1, 1) := by decide +kernel
theorem dX7_peak_2 : decode cX7_peak 2 = .ok (.invokevirtual 168, 3) := by decide +kernel
theorem dX7_peak_5 : decode cX7_peak 5 = .ok (.ifCond .eq 13, 3) := by decide +kernel
theorem dX7_peak_8 : decode cX7_peak 8 = .ok (.iload_n 2, 1) := by decide +kernel
theorem dX7_peak_9 : decode cX7_peak 9 = .ok (.i2l, 1) := by decide +kernel
theorem dX7_peak_10 : decode cX7_peak 10 = .ok (.lconst 0, 1) := by decide +kernel
theorem dX7_peak_11 : decode cX7_peak 11 = .ok (.lconst 1, 1) := by decide +kernel
theorem dX7_peak_12 : decode cX7_peak 12 = .ok (.invokestatic 49, 3) := by decide +kernel
theorem dX7_peak_15 : decode cX7_peak 15 = .ok (.ifCond .ne 5, 3) := by decide +kernel
theorem dX7_peak_18 : decode cX7_peak 18 = .ok (.iconst (-1), 1) := by decide +kernel
theorem dX7_peak_19 : decode cX7_peak 19 = .ok (.ireturn, 1) := by decide +kernel
theorem dX7_peak_20 : decode cX7_peak 20 = .ok (.iconst 0, 1) := by decide +kernel
theorem dX7_peak_21 : decode cX7_peak 21 = .ok (.istore_n 3, 1) := by decide +kernel
theorem dX7_peak_22 : decode cX7_peak 22 = .ok (.bipush (-4), 2) := by decide +kernel
theorem dX7_peak_24 : decode cX7_peak 24 = .ok (.istore 4, 2) := by decide +kernel
theorem dX7_peak_26 : decode cX7_peak 26 = .ok (.iconst 0, 1) := by decide +kernel
theorem dX7_peak_27 : decode cX7_peak 27 = .ok (.istore 5, 2) := by decide +kernel
theorem dX7_peak_29 : decode cX7_peak 29 = .ok (.iload 5, 2) := by decide +kernel
theorem dX7_peak_31 : decode cX7_peak 31 = .ok (.bipush 80, 2) := by decide +kernel
theorem dX7_peak_33 : decode cX7_peak 33 = .ok (.if_icmp .ge 84, 3) := by decide +kernel
theorem dX7_peak_36 : decode cX7_peak 36 = .ok (.iconst 0, 1) := by decide +kernel
theorem dX7_peak_37 : decode cX7_peak 37 = .ok (.istore 6, 2) := by decide +kernel
theorem dX7_peak_39 : decode cX7_peak 39 = .ok (.iconst 0, 1) := by decide +kernel
theorem dX7_peak_40 : decode cX7_peak 40 = .ok (.istore 7, 2) := by decide +kernel
theorem dX7_peak_42 : decode cX7_peak 42 = .ok (.iload 7, 2) := by decide +kernel
theorem dX7_peak_44 : decode cX7_peak 44 = .ok (.aload_n 0, 1) := by decide +kernel
theorem dX7_peak_45 : decode cX7_peak 45 = .ok (.getfield 7, 3) := by decide +kernel
theorem dX7_peak_48 : decode cX7_peak 48 = .ok (.bipush 33, 2) := by decide +kernel
theorem dX7_peak_50 : decode cX7_peak 50 = .ok (.iaload, 1) := by decide +kernel
theorem dX7_peak_51 : decode cX7_peak 51 = .ok (.if_icmp .ge 32, 3) := by decide +kernel
theorem dX7_peak_54 : decode cX7_peak 54 = .ok (.iload 6, 2) := by decide +kernel
theorem dX7_peak_56 : decode cX7_peak 56 = .ok (.aload_n 0, 1) := by decide +kernel
theorem dX7_peak_57 : decode cX7_peak 57 = .ok (.iconst 0, 1) := by decide +kernel
theorem dX7_peak_58 : decode cX7_peak 58 = .ok (.iload 7, 2) := by decide +kernel
theorem dX7_peak_60 : decode cX7_peak 60 = .ok (.iload 5, 2) := by decide +kernel
theorem dX7_peak_62 : decode cX7_peak 62 = .ok (.invokevirtual 158, 3) := by decide +kernel
theorem dX7_peak_65 : decode cX7_peak 65 = .ok (.iload_n 1, 1) := by decide +kernel
theorem dX7_peak_66 : decode cX7_peak 66 = .ok (.if_icmp .ne 7, 3) := by decide +kernel
theorem dX7_peak_69 : decode cX7_peak 69 = .ok (.iconst 1, 1) := by decide +kernel
theorem dX7_peak_70 : decode cX7_peak 70 = .ok (.goto 4, 3) := by decide +kernel
theorem dX7_peak_73 : decode cX7_peak 73 = .ok (.iconst 0, 1) := by decide +kernel
theorem dX7_peak_74 : decode cX7_peak 74 = .ok (.iadd, 1) := by decide +kernel
theorem dX7_peak_75 : decode cX7_peak 75 = .ok (.istore 6, 2) := by decide +kernel
theorem dX7_peak_77 : decode cX7_peak 77 = .ok (.iinc 7 1, 3) := by decide +kernel
theorem dX7_peak_80 : decode cX7_peak 80 = .ok (.goto (-38), 3) := by decide +kernel
theorem dX7_peak_83 : decode cX7_peak 83 = .ok (.iload 6, 2) := by decide +kernel
theorem dX7_peak_85 : decode cX7_peak 85 = .ok (.iload_n 3, 1) := by decide +kernel
theorem dX7_peak_86 : decode cX7_peak 86 = .ok (.if_icmp .le 8, 3) := by decide +kernel
theorem dX7_peak_89 : decode cX7_peak 89 = .ok (.iload 5, 2) := by decide +kernel
theorem dX7_peak_91 : decode cX7_peak 91 = .ok (.goto 5, 3) := by decide +kernel
theorem dX7_peak_94 : decode cX7_peak 94 = .ok (.iload 4, 2) := by decide +kernel
theorem dX7_peak_96 : decode cX7_peak 96 = .ok (.istore 4, 2) := by decide +kernel
theorem dX7_peak_98 : decode cX7_peak 98 = .ok (.iload 6, 2) := by decide +kernel
theorem dX7_peak_100 : decode cX7_peak 100 = .ok (.iload_n 3, 1) := by decide +kernel
theorem dX7_peak_101 : decode cX7_peak 101 = .ok (.if_icmp .le 8, 3) := by decide +kernel
theorem dX7_peak_104 : decode cX7_peak 104 = .ok (.iload 6, 2) := by decide +kernel
theorem dX7_peak_106 : decode cX7_peak 106 = .ok (.goto 4, 3) := by decide +kernel
theorem dX7_peak_109 : decode cX7_peak 109 = .ok (.iload_n 3, 1) := by decide +kernel
theorem dX7_peak_110 : decode cX7_peak 110 = .ok (.istore_n 3, 1) := by decide +kernel
theorem dX7_peak_111 : decode cX7_peak 111 = .ok (.iinc 5 1, 3) := by decide +kernel
theorem dX7_peak_114 : decode cX7_peak 114 = .ok (.goto (-85), 3) := by decide +kernel
theorem dX7_peak_117 : decode cX7_peak 117 = .ok (.iload 4, 2) := by decide +kernel
theorem dX7_peak_119 : decode cX7_peak 119 = .ok (.bipush (-4), 2) := by decide +kernel
theorem dX7_peak_121 : decode cX7_peak 121 = .ok (.if_icmp .eq 7, 3) := by decide +kernel
theorem dX7_peak_124 : decode cX7_peak 124 = .ok (.iload_n 2, 1) := by decide +kernel
theorem dX7_peak_125 : decode cX7_peak 125 = .ok (.ifCond .ne 8, 3) := by decide +kernel
theorem dX7_peak_128 : decode cX7_peak 128 = .ok (.iload 4, 2) := by decide +kernel
theorem dX7_peak_130 : decode cX7_peak 130 = .ok (.goto 4, 3) := by decide +kernel
theorem dX7_peak_133 : decode cX7_peak 133 = .ok (.iload_n 3, 1) := by decide +kernel
theorem dX7_peak_134 : decode cX7_peak 134 = .ok (.ireturn, 1) := by decide +kernel
theorem dX7_copies_0 : decode cX7_copies 0 = .ok (.iconst 0, 1) := by decide +kernel
theorem dX7_copies_1 : decode cX7_copies 1 = .ok (.istore_n 3, 1) := by decide +kernel
theorem dX7_copies_2 : decode cX7_copies 2 = .ok (.iload_n 3, 1) := by decide +kernel
theorem dX7_copies_3 : decode cX7_copies 3 = .ok (.bipush 36, 2) := by decide +kernel
theorem dX7_copies_5 : decode cX7_copies 5 = .ok (.if_icmp .ge 25, 3) := by decide +kernel
theorem dX7_copies_8 : decode cX7_copies 8 = .ok (.aload_n 0, 1) := by decide +kernel
theorem dX7_copies_9 : decode cX7_copies 9 = .ok (.getfield 7, 3) := by decide +kernel
theorem dX7_copies_12 : decode cX7_copies 12 = .ok (.iload_n 2, 1) := by decide +kernel
theorem dX7_copies_13 : decode cX7_copies 13 = .ok (.iload_n 3, 1) := by decide +kernel
theorem dX7_copies_14 : decode cX7_copies 14 = .ok (.iadd, 1) := by decide +kernel
theorem dX7_copies_15 : decode cX7_copies 15 = .ok (.aload_n 0, 1) := by decide +kernel
theorem dX7_copies_16 : decode cX7_copies 16 = .ok (.getfield 7, 3) := by decide +kernel
theorem dX7_copies_19 : decode cX7_copies 19 = .ok (.iload_n 1, 1) := by decide +kernel
theorem dX7_copies_20 : decode cX7_copies 20 = .ok (.iload_n 3, 1) := by decide +kernel
theorem dX7_copies_21 : decode cX7_copies 21 = .ok (.iadd, 1) := by decide +kernel
theorem dX7_copies_22 : decode cX7_copies 22 = .ok (.iaload, 1) := by decide +kernel
theorem dX7_copies_23 : decode cX7_copies 23 = .ok (.iastore, 1) := by decide +kernel
theorem dX7_copies_24 : decode cX7_copies 24 = .ok (.iinc 3 1, 3) := by decide +kernel
theorem dX7_copies_27 : decode cX7_copies 27 = .ok (.goto (-25), 3) := by decide +kernel
theorem dX7_copies_30 : decode cX7_copies 30 = .ok (.return_, 1) := by decide +kernel
theorem dX7_bitsOf_0 : decode cX7_bitsOf 0 = .ok (.iconst 0, 1) := by decide +kernel
theorem dX7_bitsOf_1 : decode cX7_bitsOf 1 = .ok (.istore_n 1, 1) := by decide +kernel
theorem dX7_bitsOf_2 : decode cX7_bitsOf 2 = .ok (.iload_n 0, 1) := by decide +kernel
theorem dX7_bitsOf_3 : decode cX7_bitsOf 3 = .ok (.istore_n 2, 1) := by decide +kernel
theorem dX7_bitsOf_4 : decode cX7_bitsOf 4 = .ok (.iload_n 2, 1) := by decide +kernel
theorem dX7_bitsOf_5 : decode cX7_bitsOf 5 = .ok (.ifCond .le 16, 3) := by decide +kernel
theorem dX7_bitsOf_8 : decode cX7_bitsOf 8 = .ok (.iload_n 1, 1) := by decide +kernel
theorem dX7_bitsOf_9 : decode cX7_bitsOf 9 = .ok (.iload_n 2, 1) := by decide +kernel
theorem dX7_bitsOf_10 : decode cX7_bitsOf 10 = .ok (.iconst 1, 1) := by decide +kernel
theorem dX7_bitsOf_11 : decode cX7_bitsOf 11 = .ok (.iand, 1) := by decide +kernel
theorem dX7_bitsOf_12 : decode cX7_bitsOf 12 = .ok (.iadd, 1) := by decide +kernel
theorem dX7_bitsOf_13 : decode cX7_bitsOf 13 = .ok (.istore_n 1, 1) := by decide +kernel
theorem dX7_bitsOf_14 : decode cX7_bitsOf 14 = .ok (.iload_n 2, 1) := by decide +kernel
theorem dX7_bitsOf_15 : decode cX7_bitsOf 15 = .ok (.iconst 1, 1) := by decide +kernel
theorem dX7_bitsOf_16 : decode cX7_bitsOf 16 = .ok (.ishr, 1) := by decide +kernel
theorem dX7_bitsOf_17 : decode cX7_bitsOf 17 = .ok (.istore_n 2, 1) := by decide +kernel
theorem dX7_bitsOf_18 : decode cX7_bitsOf 18 = .ok (.goto (-14), 3) := by decide +kernel
theorem dX7_bitsOf_21 : decode cX7_bitsOf 21 = .ok (.iload_n 1, 1) := by decide +kernel
theorem dX7_bitsOf_22 : decode cX7_bitsOf 22 = .ok (.ireturn, 1) := by decide +kernel
theorem dX7_when_0 : decode cX7_when 0 = .ok (.aload_n 0, 1) := by decide +kernel
theorem dX7_when_1 : decode cX7_when 1 = .ok (.iload_n 1, 1) := by decide +kernel
theorem dX7_when_2 : decode cX7_when 2 = .ok (.invokevirtual 168, 3) := by decide +kernel
theorem dX7_when_5 : decode cX7_when 5 = .ok (.ifCond .eq 13, 3) := by decide +kernel
theorem dX7_when_8 : decode cX7_when 8 = .ok (.iload_n 2, 1) := by decide +kernel
theorem dX7_when_9 : decode cX7_when 9 = .ok (.i2l, 1) := by decide +kernel
theorem dX7_when_10 : decode cX7_when 10 = .ok (.lconst 0, 1) := by decide +kernel
theorem dX7_when_11 : decode cX7_when 11 = .ok (.lconst 1, 1) := by decide +kernel
theorem dX7_when_12 : decode cX7_when 12 = .ok (.invokestatic 49, 3) := by decide +kernel
theorem dX7_when_15 : decode cX7_when 15 = .ok (.ifCond .ne 5, 3) := by decide +kernel
theorem dX7_when_18 : decode cX7_when 18 = .ok (.iconst (-1), 1) := by decide +kernel
theorem dX7_when_19 : decode cX7_when 19 = .ok (.ireturn, 1) := by decide +kernel
theorem dX7_when_20 : decode cX7_when 20 = .ok (.iconst (-1), 1) := by decide +kernel
theorem dX7_when_21 : decode cX7_when 21 = .ok (.istore_n 3, 1) := by decide +kernel
theorem dX7_when_22 : decode cX7_when 22 = .ok (.iconst 0, 1) := by decide +kernel
theorem dX7_when_23 : decode cX7_when 23 = .ok (.istore 4, 2) := by decide +kernel
theorem dX7_when_25 : decode cX7_when 25 = .ok (.aload_n 0, 1) := by decide +kernel
theorem dX7_when_26 : decode cX7_when 26 = .ok (.iconst 0, 1) := by decide +kernel
theorem dX7_when_27 : decode cX7_when 27 = .ok (.sipush 144, 3) := by decide +kernel
theorem dX7_when_30 : decode cX7_when 30 = .ok (.invokevirtual 209, 3) := by decide +kernel
theorem dX7_when_33 : decode cX7_when 33 = .ok (.iconst 0, 1) := by decide +kernel
theorem dX7_when_34 : decode cX7_when 34 = .ok (.istore 5, 2) := by decide +kernel
theorem dX7_when_36 : decode cX7_when 36 = .ok (.iload 5, 2) := by decide +kernel
theorem dX7_when_38 : decode cX7_when 38 = .ok (.bipush 59, 2) := by decide +kernel
theorem dX7_when_40 : decode cX7_when 40 = .ok (.if_icmp .gt 69, 3) := by decide +kernel
theorem dX7_when_43 : decode cX7_when 43 = .ok (.aload_n 0, 1) := by decide +kernel
theorem dX7_when_44 : decode cX7_when 44 = .ok (.getfield 7, 3) := by decide +kernel
theorem dX7_when_47 : decode cX7_when 47 = .ok (.sipush 156, 3) := by decide +kernel
theorem dX7_when_50 : decode cX7_when 50 = .ok (.iload_n 1, 1) := by decide +kernel
theorem dX7_when_51 : decode cX7_when 51 = .ok (.iadd, 1) := by decide +kernel
theorem dX7_when_52 : decode cX7_when 52 = .ok (.iload 5, 2) := by decide +kernel
theorem dX7_when_54 : decode cX7_when 54 = .ok (.iastore, 1) := by decide +kernel
theorem dX7_when_55 : decode cX7_when 55 = .ok (.aload_n 0, 1) := by decide +kernel
theorem dX7_when_56 : decode cX7_when 56 = .ok (.sipush 144, 3) := by decide +kernel
theorem dX7_when_59 : decode cX7_when 59 = .ok (.invokevirtual 165, 3) := by decide +kernel
theorem dX7_when_62 : decode cX7_when 62 = .ok (.aload_n 0, 1) := by decide +kernel
theorem dX7_when_63 : decode cX7_when 63 = .ok (.sipush 144, 3) := by decide +kernel
theorem dX7_when_66 : decode cX7_when 66 = .ok (.iload_n 1, 1) := by decide +kernel
theorem dX7_when_67 : decode cX7_when 67 = .ok (.invokevirtual 175, 3) := by decide +kernel
theorem dX7_when_70 : decode cX7_when 70 = .ok (.invokestatic 213, 3) := by decide +kernel
theorem dX7_when_73 : decode cX7_when 73 = .ok (.istore 6, 2) := by decide +kernel
theorem dX7_when_75 : decode cX7_when 75 = .ok (.iload 6, 2) := by decide +kernel
theorem dX7_when_77 : decode cX7_when 77 = .ok (.iload_n 3, 1) := by decide +kernel
theorem dX7_when_78 : decode cX7_when 78 = .ok (.if_icmp .le 8, 3) := by decide +kernel
theorem dX7_when_81 : decode cX7_when 81 = .ok (.iload 5, 2) := by decide +kernel
theorem dX7_when_83 : decode cX7_when 83 = .ok (.goto 5, 3) := by decide +kernel
theorem dX7_when_86 : decode cX7_when 86 = .ok (.iload 4, 2) := by decide +kernel
theorem dX7_when_88 : decode cX7_when 88 = .ok (.istore 4, 2) := by decide +kernel
theorem dX7_when_90 : decode cX7_when 90 = .ok (.iload 6, 2) := by decide +kernel
theorem dX7_when_92 : decode cX7_when 92 = .ok (.iload_n 3, 1) := by decide +kernel
theorem dX7_when_93 : decode cX7_when 93 = .ok (.if_icmp .le 8, 3) := by decide +kernel
theorem dX7_when_96 : decode cX7_when 96 = .ok (.iload 6, 2) := by decide +kernel
theorem dX7_when_98 : decode cX7_when 98 = .ok (.goto 4, 3) := by decide +kernel
theorem dX7_when_101 : decode cX7_when 101 = .ok (.iload_n 3, 1) := by decide +kernel
theorem dX7_when_102 : decode cX7_when 102 = .ok (.istore_n 3, 1) := by decide +kernel
theorem dX7_when_103 : decode cX7_when 103 = .ok (.iinc 5 1, 3) := by decide +kernel
theorem dX7_when_106 : decode cX7_when 106 = .ok (.goto (-70), 3) := by decide +kernel
theorem dX7_when_109 : decode cX7_when 109 = .ok (.iload_n 2, 1) := by decide +kernel
theorem dX7_when_110 : decode cX7_when 110 = .ok (.ifCond .ne 8, 3) := by decide +kernel
theorem dX7_when_113 : decode cX7_when 113 = .ok (.iload 4, 2) := by decide +kernel
theorem dX7_when_115 : decode cX7_when 115 = .ok (.goto 4, 3) := by decide +kernel
theorem dX7_when_118 : decode cX7_when 118 = .ok (.iload_n 3, 1) := by decide +kernel
theorem dX7_when_119 : decode cX7_when 119 = .ok (.ireturn, 1) := by decide +kernel
theorem dX7_stand_0 : decode cX7_stand 0 = .ok (.aload_n 0, 1) := by decide +kernel
theorem dX7_stand_1 : decode cX7_stand 1 = .ok (.iload_n 1, 1) := by decide +kernel
theorem dX7_stand_2 : decode cX7_stand 2 = .ok (.invokevirtual 178, 3) := by decide +kernel
theorem dX7_stand_5 : decode cX7_stand 5 = .ok (.ifCond .eq 13, 3) := by decide +kernel
theorem dX7_stand_8 : decode cX7_stand 8 = .ok (.iload_n 2, 1) := by decide +kernel
theorem dX7_stand_9 : decode cX7_stand 9 = .ok (.i2l, 1) := by decide +kernel
theorem dX7_stand_10 : decode cX7_stand 10 = .ok (.lconst 0, 1) := by decide +kernel
theorem dX7_stand_11 : decode cX7_stand 11 = .ok (.lconst 1, 1) := by decide +kernel
theorem dX7_stand_12 : decode cX7_stand 12 = .ok (.invokestatic 49, 3) := by decide +kernel
theorem dX7_stand_15 : decode cX7_stand 15 = .ok (.ifCond .ne 5, 3) := by decide +kernel
theorem dX7_stand_18 : decode cX7_stand 18 = .ok (.iconst (-1), 1) := by decide +kernel
theorem dX7_stand_19 : decode cX7_stand 19 = .ok (.ireturn, 1) := by decide +kernel
theorem dX7_stand_20 : decode cX7_stand 20 = .ok (.iconst (-1), 1) := by decide +kernel
theorem dX7_stand_21 : decode cX7_stand 21 = .ok (.istore_n 3, 1) := by decide +kernel
theorem dX7_stand_22 : decode cX7_stand 22 = .ok (.iconst 0, 1) := by decide +kernel
theorem dX7_stand_23 : decode cX7_stand 23 = .ok (.istore 4, 2) := by decide +kernel
theorem dX7_stand_25 : decode cX7_stand 25 = .ok (.aload_n 0, 1) := by decide +kernel
theorem dX7_stand_26 : decode cX7_stand 26 = .ok (.iconst 0, 1) := by decide +kernel
theorem dX7_stand_27 : decode cX7_stand 27 = .ok (.sipush 144, 3) := by decide +kernel
theorem dX7_stand_30 : decode cX7_stand 30 = .ok (.invokevirtual 209, 3) := by decide +kernel
theorem dX7_stand_33 : decode cX7_stand 33 = .ok (.iconst 0, 1) := by decide +kernel
theorem dX7_stand_34 : decode cX7_stand 34 = .ok (.istore 5, 2) := by decide +kernel
theorem dX7_stand_36 : decode cX7_stand 36 = .ok (.iload 5, 2) := by decide +kernel
theorem dX7_stand_38 : decode cX7_stand 38 = .ok (.bipush 12, 2) := by decide +kernel
theorem dX7_stand_40 : decode cX7_stand 40 = .ok (.if_icmp .ge 63, 3) := by decide +kernel
theorem dX7_stand_43 : decode cX7_stand 43 = .ok (.aload_n 0, 1) := by decide +kernel
theorem dX7_stand_44 : decode cX7_stand 44 = .ok (.getfield 7, 3) := by decide +kernel
theorem dX7_stand_47 : decode cX7_stand 47 = .ok (.sipush 169, 3) := by decide +kernel
theorem dX7_stand_50 : decode cX7_stand 50 = .ok (.iload_n 1, 1) := by decide +kernel
theorem dX7_stand_51 : decode cX7_stand 51 = .ok (.iadd, 1) := by decide +kernel
theorem dX7_stand_52 : decode cX7_stand 52 = .ok (.iload 5, 2) := by decide +kernel
theorem dX7_stand_54 : decode cX7_stand 54 = .ok (.iastore, 1) := by decide +kernel
theorem dX7_stand_55 : decode cX7_stand 55 = .ok (.aload_n 0, 1) := by decide +kernel
theorem dX7_stand_56 : decode cX7_stand 56 = .ok (.sipush 144, 3) := by decide +kernel
theorem dX7_stand_59 : decode cX7_stand 59 = .ok (.invokevirtual 165, 3) := by decide +kernel
theorem dX7_stand_62 : decode cX7_stand 62 = .ok (.aload_n 0, 1) := by decide +kernel
theorem dX7_stand_63 : decode cX7_stand 63 = .ok (.iload_n 1, 1) := by decide +kernel
theorem dX7_stand_64 : decode cX7_stand 64 = .ok (.invokevirtual 183, 3) := by decide +kernel
theorem dX7_stand_67 : decode cX7_stand 67 = .ok (.istore 6, 2) := by decide +kernel
theorem dX7_stand_69 : decode cX7_stand 69 = .ok (.iload 6, 2) := by decide +kernel
theorem dX7_stand_71 : decode cX7_stand 71 = .ok (.iload_n 3, 1) := by decide +kernel
theorem dX7_stand_72 : decode cX7_stand 72 = .ok (.if_icmp .le 8, 3) := by decide +kernel
theorem dX7_stand_75 : decode cX7_stand 75 = .ok (.iload 5, 2) := by decide +kernel
theorem dX7_stand_77 : decode cX7_stand 77 = .ok (.goto 5, 3) := by decide +kernel
theorem dX7_stand_80 : decode cX7_stand 80 = .ok (.iload 4, 2) := by decide +kernel
theorem dX7_stand_82 : decode cX7_stand 82 = .ok (.istore 4, 2) := by decide +kernel
theorem dX7_stand_84 : decode cX7_stand 84 = .ok (.iload 6, 2) := by decide +kernel
theorem dX7_stand_86 : decode cX7_stand 86 = .ok (.iload_n 3, 1) := by decide +kernel
theorem dX7_stand_87 : decode cX7_stand 87 = .ok (.if_icmp .le 8, 3) := by decide +kernel
theorem dX7_stand_90 : decode cX7_stand 90 = .ok (.iload 6, 2) := by decide +kernel
theorem dX7_stand_92 : decode cX7_stand 92 = .ok (.goto 4, 3) := by decide +kernel
theorem dX7_stand_95 : decode cX7_stand 95 = .ok (.iload_n 3, 1) := by decide +kernel
theorem dX7_stand_96 : decode cX7_stand 96 = .ok (.istore_n 3, 1) := by decide +kernel
theorem dX7_stand_97 : decode cX7_stand 97 = .ok (.iinc 5 1, 3) := by decide +kernel
theorem dX7_stand_100 : decode cX7_stand 100 = .ok (.goto (-64), 3) := by decide +kernel
theorem dX7_stand_103 : decode cX7_stand 103 = .ok (.iload_n 2, 1) := by decide +kernel
theorem dX7_stand_104 : decode cX7_stand 104 = .ok (.ifCond .ne 8, 3) := by decide +kernel
theorem dX7_stand_107 : decode cX7_stand 107 = .ok (.iload 4, 2) := by decide +kernel
theorem dX7_stand_109 : decode cX7_stand 109 = .ok (.goto 4, 3) := by decide +kernel
theorem dX7_stand_112 : decode cX7_stand 112 = .ok (.iload_n 3, 1) := by decide +kernel
theorem dX7_stand_113 : decode cX7_stand 113 = .ok (.ireturn, 1) := by decide +kernel
theorem dX7_swap_0 : decode cX7_swap 0 = .ok (.iload_n 1, 1) := by decide +kernel
theorem dX7_swap_1 : decode cX7_swap 1 = .ok (.i2l, 1) := by decide +kernel
theorem dX7_swap_2 : decode cX7_swap 2 = .ok (.lconst 0, 1) := by decide +kernel
theorem dX7_swap_3 : decode cX7_swap 3 = .ok (.lconst 1, 1) := by decide +kernel
theorem dX7_swap_4 : decode cX7_swap 4 = .ok (.invokestatic 49, 3) := by decide +kernel
theorem dX7_swap_7 : decode cX7_swap 7 = .ok (.ifCond .ne 5, 3) := by decide +kernel
theorem dX7_swap_10 : decode cX7_swap 10 = .ok (.iconst (-1), 1) := by decide +kernel
theorem dX7_swap_11 : decode cX7_swap 11 = .ok (.ireturn, 1) := by decide +kernel
theorem dX7_swap_12 : decode cX7_swap 12 = .ok (.aload_n 0, 1) := by decide +kernel
theorem dX7_swap_13 : decode cX7_swap 13 = .ok (.iconst 0, 1) := by decide +kernel
theorem dX7_swap_14 : decode cX7_swap 14 = .ok (.invokevirtual 165, 3) := by decide +kernel
theorem dX7_swap_17 : decode cX7_swap 17 = .ok (.aload_n 0, 1) := by decide +kernel
theorem dX7_swap_18 : decode cX7_swap 18 = .ok (.getfield 149, 3) := by decide +kernel
theorem dX7_swap_21 : decode cX7_swap 21 = .ok (.istore_n 2, 1) := by decide +kernel
theorem dX7_swap_22 : decode cX7_swap 22 = .ok (.bipush (-4), 2) := by decide +kernel
theorem dX7_swap_24 : decode cX7_swap 24 = .ok (.istore_n 3, 1) := by decide +kernel
theorem dX7_swap_25 : decode cX7_swap 25 = .ok (.iconst 0, 1) := by decide +kernel
theorem dX7_swap_26 : decode cX7_swap 26 = .ok (.istore 4, 2) := by decide +kernel
theorem dX7_swap_28 : decode cX7_swap 28 = .ok (.iload 4, 2) := by decide +kernel
theorem dX7_swap_30 : decode cX7_swap 30 = .ok (.aload_n 0, 1) := by decide +kernel
theorem dX7_swap_31 : decode cX7_swap 31 = .ok (.getfield 7, 3) := by decide +kernel
theorem dX7_swap_34 : decode cX7_swap 34 = .ok (.bipush 24, 2) := by decide +kernel
theorem dX7_swap_36 : decode cX7_swap 36 = .ok (.iaload, 1) := by decide +kernel
theorem dX7_swap_37 : decode cX7_swap 37 = .ok (.if_icmp .ge 128, 3) := by decide +kernel
theorem dX7_swap_40 : decode cX7_swap 40 = .ok (.iload 4, 2) := by decide +kernel
theorem dX7_swap_42 : decode cX7_swap 42 = .ok (.iconst 1, 1) := by decide +kernel
theorem dX7_swap_43 : decode cX7_swap 43 = .ok (.iadd, 1) := by decide +kernel
theorem dX7_swap_44 : decode cX7_swap 44 = .ok (.istore 5, 2) := by decide +kernel
theorem dX7_swap_46 : decode cX7_swap 46 = .ok (.iload 5, 2) := by decide +kernel
theorem dX7_swap_48 : decode cX7_swap 48 = .ok (.aload_n 0, 1) := by decide +kernel
theorem dX7_swap_49 : decode cX7_swap 49 = .ok (.getfield 7, 3) := by decide +kernel
theorem dX7_swap_52 : decode cX7_swap 52 = .ok (.bipush 24, 2) := by decide +kernel
theorem dX7_swap_54 : decode cX7_swap 54 = .ok (.iaload, 1) := by decide +kernel
theorem dX7_swap_55 : decode cX7_swap 55 = .ok (.if_icmp .ge 104, 3) := by decide +kernel
theorem dX7_swap_58 : decode cX7_swap 58 = .ok (.aload_n 0, 1) := by decide +kernel
theorem dX7_swap_59 : decode cX7_swap 59 = .ok (.iconst 0, 1) := by decide +kernel
theorem dX7_swap_60 : decode cX7_swap 60 = .ok (.sipush 144, 3) := by decide +kernel
theorem dX7_swap_63 : decode cX7_swap 63 = .ok (.invokevirtual 209, 3) := by decide +kernel
theorem dX7_swap_66 : decode cX7_swap 66 = .ok (.aload_n 0, 1) := by decide +kernel
theorem dX7_swap_67 : decode cX7_swap 67 = .ok (.getfield 7, 3) := by decide +kernel
theorem dX7_swap_70 : decode cX7_swap 70 = .ok (.sipush 156, 3) := by decide +kernel
theorem dX7_swap_73 : decode cX7_swap 73 = .ok (.iload 4, 2) := by decide +kernel
theorem dX7_swap_75 : decode cX7_swap 75 = .ok (.iadd, 1) := by decide +kernel
theorem dX7_swap_76 : decode cX7_swap 76 = .ok (.aload_n 0, 1) := by decide +kernel
theorem dX7_swap_77 : decode cX7_swap 77 = .ok (.getfield 7, 3) := by decide +kernel
theorem dX7_swap_80 : decode cX7_swap 80 = .ok (.bipush 12, 2) := by decide +kernel
theorem dX7_swap_82 : decode cX7_swap 82 = .ok (.iload 5, 2) := by decide +kernel
theorem dX7_swap_84 : decode cX7_swap 84 = .ok (.iadd, 1) := by decide +kernel
theorem dX7_swap_85 : decode cX7_swap 85 = .ok (.iaload, 1) := by decide +kernel
theorem dX7_swap_86 : decode cX7_swap 86 = .ok (.iastore, 1) := by decide +kernel
theorem dX7_swap_87 : decode cX7_swap 87 = .ok (.aload_n 0, 1) := by decide +kernel
theorem dX7_swap_88 : decode cX7_swap 88 = .ok (.getfield 7, 3) := by decide +kernel
theorem dX7_swap_91 : decode cX7_swap 91 = .ok (.sipush 156, 3) := by decide +kernel
theorem dX7_swap_94 : decode cX7_swap 94 = .ok (.iload 5, 2) := by decide +kernel
theorem dX7_swap_96 : decode cX7_swap 96 = .ok (.iadd, 1) := by decide +kernel
theorem dX7_swap_97 : decode cX7_swap 97 = .ok (.aload_n 0, 1) := by decide +kernel
theorem dX7_swap_98 : decode cX7_swap 98 = .ok (.getfield 7, 3) := by decide +kernel
theorem dX7_swap_101 : decode cX7_swap 101 = .ok (.bipush 12, 2) := by decide +kernel
theorem dX7_swap_103 : decode cX7_swap 103 = .ok (.iload 4, 2) := by decide +kernel
theorem dX7_swap_105 : decode cX7_swap 105 = .ok (.iadd, 1) := by decide +kernel
theorem dX7_swap_106 : decode cX7_swap 106 = .ok (.iaload, 1) := by decide +kernel
theorem dX7_swap_107 : decode cX7_swap 107 = .ok (.iastore, 1) := by decide +kernel
theorem dX7_swap_108 : decode cX7_swap 108 = .ok (.aload_n 0, 1) := by decide +kernel
theorem dX7_swap_109 : decode cX7_swap 109 = .ok (.sipush 144, 3) := by decide +kernel
theorem dX7_swap_112 : decode cX7_swap 112 = .ok (.invokevirtual 165, 3) := by decide +kernel
theorem dX7_swap_115 : decode cX7_swap 115 = .ok (.aload_n 0, 1) := by decide +kernel
theorem dX7_swap_116 : decode cX7_swap 116 = .ok (.getfield 149, 3) := by decide +kernel
theorem dX7_swap_119 : decode cX7_swap 119 = .ok (.iload_n 2, 1) := by decide +kernel
theorem dX7_swap_120 : decode cX7_swap 120 = .ok (.if_icmp .le 14, 3) := by decide +kernel
theorem dX7_swap_123 : decode cX7_swap 123 = .ok (.bipush 10, 2) := by decide +kernel
theorem dX7_swap_125 : decode cX7_swap 125 = .ok (.iload 4, 2) := by decide +kernel
theorem dX7_swap_127 : decode cX7_swap 127 = .ok (.imul, 1) := by decide +kernel
theorem dX7_swap_128 : decode cX7_swap 128 = .ok (.iload 5, 2) := by decide +kernel
theorem dX7_swap_130 : decode cX7_swap 130 = .ok (.iadd, 1) := by decide +kernel
theorem dX7_swap_131 : decode cX7_swap 131 = .ok (.goto 4, 3) := by decide +kernel
theorem dX7_swap_134 : decode cX7_swap 134 = .ok (.iload_n 3, 1) := by decide +kernel
theorem dX7_swap_135 : decode cX7_swap 135 = .ok (.istore_n 3, 1) := by decide +kernel
theorem dX7_swap_136 : decode cX7_swap 136 = .ok (.aload_n 0, 1) := by decide +kernel
theorem dX7_swap_137 : decode cX7_swap 137 = .ok (.getfield 149, 3) := by decide +kernel
theorem dX7_swap_140 : decode cX7_swap 140 = .ok (.iload_n 2, 1) := by decide +kernel
theorem dX7_swap_141 : decode cX7_swap 141 = .ok (.if_icmp .le 10, 3) := by decide +kernel
theorem dX7_swap_144 : decode cX7_swap 144 = .ok (.aload_n 0, 1) := by decide +kernel
theorem dX7_swap_145 : decode cX7_swap 145 = .ok (.getfield 149, 3) := by decide +kernel
theorem dX7_swap_148 : decode cX7_swap 148 = .ok (.goto 4, 3) := by decide +kernel
theorem dX7_swap_151 : decode cX7_swap 151 = .ok (.iload_n 2, 1) := by decide +kernel
theorem dX7_swap_152 : decode cX7_swap 152 = .ok (.istore_n 2, 1) := by decide +kernel
theorem dX7_swap_153 : decode cX7_swap 153 = .ok (.iinc 5 1, 3) := by decide +kernel
theorem dX7_swap_156 : decode cX7_swap 156 = .ok (.goto (-110), 3) := by decide +kernel
theorem dX7_swap_159 : decode cX7_swap 159 = .ok (.iinc 4 1, 3) := by decide +kernel
theorem dX7_swap_162 : decode cX7_swap 162 = .ok (.goto (-134), 3) := by decide +kernel
theorem dX7_swap_165 : decode cX7_swap 165 = .ok (.iload_n 3, 1) := by decide +kernel
theorem dX7_swap_166 : decode cX7_swap 166 = .ok (.bipush (-4), 2) := by decide +kernel
theorem dX7_swap_168 : decode cX7_swap 168 = .ok (.if_icmp .eq 7, 3) := by decide +kernel
theorem dX7_swap_171 : decode cX7_swap 171 = .ok (.iload_n 1, 1) := by decide +kernel
theorem dX7_swap_172 : decode cX7_swap 172 = .ok (.ifCond .ne 7, 3) := by decide +kernel
theorem dX7_swap_175 : decode cX7_swap 175 = .ok (.iload_n 3, 1) := by decide +kernel
theorem dX7_swap_176 : decode cX7_swap 176 = .ok (.goto 4, 3) := by decide +kernel
theorem dX7_swap_179 : decode cX7_swap 179 = .ok (.iload_n 2, 1) := by decide +kernel
theorem dX7_swap_180 : decode cX7_swap 180 = .ok (.ireturn, 1) := by decide +kernel
