theorem dX7_lose_0 : decode cX7_lose 0 = .ok (.iload_n 1, 1) := by decide +kernel
theorem dX7_lose_1 : decode cX7_lose 1 = .ok (.i2l, 1) := by decide +kernel
theorem dX7_lose_2 : decode cX7_lose 2 = .ok (.lconst 0, 1) := by decide +kernel
theorem dX7_lose_3 : decode cX7_lose 3 = .ok (.lconst 1, 1) := by decide +kernel
theorem dX7_lose_4 : decode cX7_lose 4 = .ok (.invokestatic 49, 3) := by decide +kernel
theorem dX7_lose_7 : decode cX7_lose 7 = .ok (.ifCond .ne 5, 3) := by decide +kernel
theorem dX7_lose_10 : decode cX7_lose 10 = .ok (.iconst (-1), 1) := by decide +kernel
theorem dX7_lose_11 : decode cX7_lose 11 = .ok (.ireturn, 1) := by decide +kernel
theorem dX7_lose_12 : decode cX7_lose 12 = .ok (.aload_n 0, 1) := by decide +kernel
theorem dX7_lose_13 : decode cX7_lose 13 = .ok (.iconst 0, 1) := by decide +kernel
theorem dX7_lose_14 : decode cX7_lose 14 = .ok (.invokevirtual 165, 3) := by decide +kernel
theorem dX7_lose_17 : decode cX7_lose 17 = .ok (.aload_n 0, 1) := by decide +kernel
theorem dX7_lose_18 : decode cX7_lose 18 = .ok (.getfield 155, 3) := by decide +kernel
theorem dX7_lose_21 : decode cX7_lose 21 = .ok (.istore_n 2, 1) := by decide +kernel
theorem dX7_lose_22 : decode cX7_lose 22 = .ok (.bipush (-4), 2) := by decide +kernel
theorem dX7_lose_24 : decode cX7_lose 24 = .ok (.istore_n 3, 1) := by decide +kernel
theorem dX7_lose_25 : decode cX7_lose 25 = .ok (.iconst 0, 1) := by decide +kernel
theorem dX7_lose_26 : decode cX7_lose 26 = .ok (.istore 4, 2) := by decide +kernel
theorem dX7_lose_28 : decode cX7_lose 28 = .ok (.iload 4, 2) := by decide +kernel
theorem dX7_lose_30 : decode cX7_lose 30 = .ok (.aload_n 0, 1) := by decide +kernel
theorem dX7_lose_31 : decode cX7_lose 31 = .ok (.getfield 7, 3) := by decide +kernel
theorem dX7_lose_34 : decode cX7_lose 34 = .ok (.bipush 24, 2) := by decide +kernel
theorem dX7_lose_36 : decode cX7_lose 36 = .ok (.iaload, 1) := by decide +kernel
theorem dX7_lose_37 : decode cX7_lose 37 = .ok (.if_icmp .ge 59, 3) := by decide +kernel
theorem dX7_lose_40 : decode cX7_lose 40 = .ok (.aload_n 0, 1) := by decide +kernel
theorem dX7_lose_41 : decode cX7_lose 41 = .ok (.iconst 1, 1) := by decide +kernel
theorem dX7_lose_42 : decode cX7_lose 42 = .ok (.iload 4, 2) := by decide +kernel
theorem dX7_lose_44 : decode cX7_lose 44 = .ok (.ishl, 1) := by decide +kernel
theorem dX7_lose_45 : decode cX7_lose 45 = .ok (.putfield 132, 3) := by decide +kernel
theorem dX7_lose_48 : decode cX7_lose 48 = .ok (.aload_n 0, 1) := by decide +kernel
theorem dX7_lose_49 : decode cX7_lose 49 = .ok (.iconst 0, 1) := by decide +kernel
theorem dX7_lose_50 : decode cX7_lose 50 = .ok (.invokevirtual 165, 3) := by decide +kernel
theorem dX7_lose_53 : decode cX7_lose 53 = .ok (.aload_n 0, 1) := by decide +kernel
theorem dX7_lose_54 : decode cX7_lose 54 = .ok (.iconst 0, 1) := by decide +kernel
theorem dX7_lose_55 : decode cX7_lose 55 = .ok (.putfield 132, 3) := by decide +kernel
theorem dX7_lose_58 : decode cX7_lose 58 = .ok (.aload_n 0, 1) := by decide +kernel
theorem dX7_lose_59 : decode cX7_lose 59 = .ok (.getfield 155, 3) := by decide +kernel
theorem dX7_lose_62 : decode cX7_lose 62 = .ok (.iload_n 2, 1) := by decide +kernel
theorem dX7_lose_63 : decode cX7_lose 63 = .ok (.if_icmp .le 8, 3) := by decide +kernel
theorem dX7_lose_66 : decode cX7_lose 66 = .ok (.iload 4, 2) := by decide +kernel
theorem dX7_lose_68 : decode cX7_lose 68 = .ok (.goto 4, 3) := by decide +kernel
theorem dX7_lose_71 : decode cX7_lose 71 = .ok (.iload_n 3, 1) := by decide +kernel
theorem dX7_lose_72 : decode cX7_lose 72 = .ok (.istore_n 3, 1) := by decide +kernel
theorem dX7_lose_73 : decode cX7_lose 73 = .ok (.aload_n 0, 1) := by decide +kernel
theorem dX7_lose_74 : decode cX7_lose 74 = .ok (.getfield 155, 3) := by decide +kernel
theorem dX7_lose_77 : decode cX7_lose 77 = .ok (.iload_n 2, 1) := by decide +kernel
theorem dX7_lose_78 : decode cX7_lose 78 = .ok (.if_icmp .le 10, 3) := by decide +kernel
theorem dX7_lose_81 : decode cX7_lose 81 = .ok (.aload_n 0, 1) := by decide +kernel
theorem dX7_lose_82 : decode cX7_lose 82 = .ok (.getfield 155, 3) := by decide +kernel
theorem dX7_lose_85 : decode cX7_lose 85 = .ok (.goto 4, 3) := by decide +kernel
theorem dX7_lose_88 : decode cX7_lose 88 = .ok (.iload_n 2, 1) := by decide +kernel
theorem dX7_lose_89 : decode cX7_lose 89 = .ok (.istore_n 2, 1) := by decide +kernel
theorem dX7_lose_90 : decode cX7_lose 90 = .ok (.iinc 4 1, 3) := by decide +kernel
theorem dX7_lose_93 : decode cX7_lose 93 = .ok (.goto (-65), 3) := by decide +kernel
theorem dX7_lose_96 : decode cX7_lose 96 = .ok (.iload_n 3, 1) := by decide +kernel
theorem dX7_lose_97 : decode cX7_lose 97 = .ok (.bipush (-4), 2) := by decide +kernel
theorem dX7_lose_99 : decode cX7_lose 99 = .ok (.if_icmp .eq 7, 3) := by decide +kernel
theorem dX7_lose_102 : decode cX7_lose 102 = .ok (.iload_n 1, 1) := by decide +kernel
theorem dX7_lose_103 : decode cX7_lose 103 = .ok (.ifCond .ne 7, 3) := by decide +kernel
theorem dX7_lose_106 : decode cX7_lose 106 = .ok (.iload_n 3, 1) := by decide +kernel
theorem dX7_lose_107 : decode cX7_lose 107 = .ok (.goto 4, 3) := by decide +kernel
theorem dX7_lose_110 : decode cX7_lose 110 = .ok (.iload_n 2, 1) := by decide +kernel
theorem dX7_lose_111 : decode cX7_lose 111 = .ok (.ireturn, 1) := by decide +kernel
theorem dX7_need_0 : decode cX7_need 0 = .ok (.aload_n 0, 1) := by decide +kernel
theorem dX7_need_1 : decode cX7_need 1 = .ok (.iload_n 1, 1) := by decide +kernel
theorem dX7_need_2 : decode cX7_need 2 = .ok (.invokevirtual 168, 3) := by decide +kernel
theorem dX7_need_5 : decode cX7_need 5 = .ok (.ifCond .eq 11, 3) := by decide +kernel
theorem dX7_need_8 : decode cX7_need 8 = .ok (.aload_n 0, 1) := by decide +kernel
theorem dX7_need_9 : decode cX7_need 9 = .ok (.iload_n 2, 1) := by decide +kernel
theorem dX7_need_10 : decode cX7_need 10 = .ok (.invokevirtual 178, 3) := by decide +kernel
theorem dX7_need_13 : decode cX7_need 13 = .ok (.ifCond .ne 5, 3) := by decide +kernel
theorem dX7_need_16 : decode cX7_need 16 = .ok (.iconst (-1), 1) := by decide +kernel
theorem dX7_need_17 : decode cX7_need 17 = .ok (.ireturn, 1) := by decide +kernel
theorem dX7_need_18 : decode cX7_need 18 = .ok (.aload_n 0, 1) := by decide +kernel
theorem dX7_need_19 : decode cX7_need 19 = .ok (.iconst 0, 1) := by decide +kernel
theorem dX7_need_20 : decode cX7_need 20 = .ok (.sipush 144, 3) := by decide +kernel
theorem dX7_need_23 : decode cX7_need 23 = .ok (.invokevirtual 209, 3) := by decide +kernel
theorem dX7_need_26 : decode cX7_need 26 = .ok (.iconst 1, 1) := by decide +kernel
theorem dX7_need_27 : decode cX7_need 27 = .ok (.istore_n 3, 1) := by decide +kernel
theorem dX7_need_28 : decode cX7_need 28 = .ok (.iload_n 3, 1) := by decide +kernel
theorem dX7_need_29 : decode cX7_need 29 = .ok (.bipush 9, 2) := by decide +kernel
theorem dX7_need_31 : decode cX7_need 31 = .ok (.if_icmp .gt 41, 3) := by decide +kernel
theorem dX7_need_34 : decode cX7_need 34 = .ok (.aload_n 0, 1) := by decide +kernel
theorem dX7_need_35 : decode cX7_need 35 = .ok (.getfield 7, 3) := by decide +kernel
theorem dX7_need_38 : decode cX7_need 38 = .ok (.sipush 162, 3) := by decide +kernel
theorem dX7_need_41 : decode cX7_need 41 = .ok (.iload_n 1, 1) := by decide +kernel
theorem dX7_need_42 : decode cX7_need 42 = .ok (.iadd, 1) := by decide +kernel
theorem dX7_need_43 : decode cX7_need 43 = .ok (.iload_n 3, 1) := by decide +kernel
theorem dX7_need_44 : decode cX7_need 44 = .ok (.iastore, 1) := by decide +kernel
theorem dX7_need_45 : decode cX7_need 45 = .ok (.aload_n 0, 1) := by decide +kernel
theorem dX7_need_46 : decode cX7_need 46 = .ok (.sipush 144, 3) := by decide +kernel
theorem dX7_need_49 : decode cX7_need 49 = .ok (.invokevirtual 165, 3) := by decide +kernel
theorem dX7_need_52 : decode cX7_need 52 = .ok (.aload_n 0, 1) := by decide +kernel
theorem dX7_need_53 : decode cX7_need 53 = .ok (.sipush 144, 3) := by decide +kernel
theorem dX7_need_56 : decode cX7_need 56 = .ok (.iload_n 2, 1) := by decide +kernel
theorem dX7_need_57 : decode cX7_need 57 = .ok (.iload_n 1, 1) := by decide +kernel
theorem dX7_need_58 : decode cX7_need 58 = .ok (.invokevirtual 162, 3) := by decide +kernel
theorem dX7_need_61 : decode cX7_need 61 = .ok (.ifCond .eq 5, 3) := by decide +kernel
theorem dX7_need_64 : decode cX7_need 64 = .ok (.iload_n 3, 1) := by decide +kernel
theorem dX7_need_65 : decode cX7_need 65 = .ok (.ireturn, 1) := by decide +kernel
theorem dX7_need_66 : decode cX7_need 66 = .ok (.iinc 3 1, 3) := by decide +kernel
theorem dX7_need_69 : decode cX7_need 69 = .ok (.goto (-41), 3) := by decide +kernel
theorem dX7_need_72 : decode cX7_need 72 = .ok (.bipush (-4), 2) := by decide +kernel
theorem dX7_need_74 : decode cX7_need 74 = .ok (.ireturn, 1) := by decide +kernel
theorem dX7_dry_0 : decode cX7_dry 0 = .ok (.aload_n 0, 1) := by decide +kernel
theorem dX7_dry_1 : decode cX7_dry 1 = .ok (.iload_n 1, 1) := by decide +kernel
theorem dX7_dry_2 : decode cX7_dry 2 = .ok (.invokevirtual 178, 3) := by decide +kernel
theorem dX7_dry_5 : decode cX7_dry 5 = .ok (.ifCond .ne 5, 3) := by decide +kernel
theorem dX7_dry_8 : decode cX7_dry 8 = .ok (.iconst (-1), 1) := by decide +kernel
theorem dX7_dry_9 : decode cX7_dry 9 = .ok (.ireturn, 1) := by decide +kernel
theorem dX7_dry_10 : decode cX7_dry 10 = .ok (.aload_n 0, 1) := by decide +kernel
theorem dX7_dry_11 : decode cX7_dry 11 = .ok (.iconst 0, 1) := by decide +kernel
theorem dX7_dry_12 : decode cX7_dry 12 = .ok (.sipush 144, 3) := by decide +kernel
theorem dX7_dry_15 : decode cX7_dry 15 = .ok (.invokevirtual 209, 3) := by decide +kernel
theorem dX7_dry_18 : decode cX7_dry 18 = .ok (.bipush 9, 2) := by decide +kernel
theorem dX7_dry_20 : decode cX7_dry 20 = .ok (.istore_n 2, 1) := by decide +kernel
theorem dX7_dry_21 : decode cX7_dry 21 = .ok (.iload_n 2, 1) := by decide +kernel
theorem dX7_dry_22 : decode cX7_dry 22 = .ok (.ifCond .lt 35, 3) := by decide +kernel
theorem dX7_dry_25 : decode cX7_dry 25 = .ok (.aload_n 0, 1) := by decide +kernel
theorem dX7_dry_26 : decode cX7_dry 26 = .ok (.getfield 7, 3) := by decide +kernel
theorem dX7_dry_29 : decode cX7_dry 29 = .ok (.sipush 179, 3) := by decide +kernel
theorem dX7_dry_32 : decode cX7_dry 32 = .ok (.iload_n 2, 1) := by decide +kernel
theorem dX7_dry_33 : decode cX7_dry 33 = .ok (.iastore, 1) := by decide +kernel
theorem dX7_dry_34 : decode cX7_dry 34 = .ok (.aload_n 0, 1) := by decide +kernel
theorem dX7_dry_35 : decode cX7_dry 35 = .ok (.sipush 144, 3) := by decide +kernel
theorem dX7_dry_38 : decode cX7_dry 38 = .ok (.invokevirtual 165, 3) := by decide +kernel
theorem dX7_dry_41 : decode cX7_dry 41 = .ok (.aload_n 0, 1) := by decide +kernel
theorem dX7_dry_42 : decode cX7_dry 42 = .ok (.iload_n 1, 1) := by decide +kernel
theorem dX7_dry_43 : decode cX7_dry 43 = .ok (.invokevirtual 183, 3) := by decide +kernel
theorem dX7_dry_46 : decode cX7_dry 46 = .ok (.ifCond .le 5, 3) := by decide +kernel
theorem dX7_dry_49 : decode cX7_dry 49 = .ok (.iload_n 2, 1) := by decide +kernel
theorem dX7_dry_50 : decode cX7_dry 50 = .ok (.ireturn, 1) := by decide +kernel
theorem dX7_dry_51 : decode cX7_dry 51 = .ok (.iinc 2 (-1), 3) := by decide +kernel
theorem dX7_dry_54 : decode cX7_dry 54 = .ok (.goto (-33), 3) := by decide +kernel
theorem dX7_dry_57 : decode cX7_dry 57 = .ok (.bipush (-4), 2) := by decide +kernel
theorem dX7_dry_59 : decode cX7_dry 59 = .ok (.ireturn, 1) := by decide +kernel
theorem dX7_kind_0 : decode cX7_kind 0 = .ok (.aload_n 0, 1) := by decide +kernel
theorem dX7_kind_1 : decode cX7_kind 1 = .ok (.iload_n 1, 1) := by decide +kernel
theorem dX7_kind_2 : decode cX7_kind 2 = .ok (.invokevirtual 168, 3) := by decide +kernel
theorem dX7_kind_5 : decode cX7_kind 5 = .ok (.ifCond .eq 13, 3) := by decide +kernel
theorem dX7_kind_8 : decode cX7_kind 8 = .ok (.iload_n 2, 1) := by decide +kernel
theorem dX7_kind_9 : decode cX7_kind 9 = .ok (.i2l, 1) := by decide +kernel
theorem dX7_kind_10 : decode cX7_kind 10 = .ok (.lconst 0, 1) := by decide +kernel
theorem dX7_kind_11 : decode cX7_kind 11 = .ok (.lconst 1, 1) := by decide +kernel
theorem dX7_kind_12 : decode cX7_kind 12 = .ok (.invokestatic 49, 3) := by decide +kernel
theorem dX7_kind_15 : decode cX7_kind 15 = .ok (.ifCond .ne 5, 3) := by decide +kernel
theorem dX7_kind_18 : decode cX7_kind 18 = .ok (.iconst (-1), 1) := by decide +kernel
theorem dX7_kind_19 : decode cX7_kind 19 = .ok (.ireturn, 1) := by decide +kernel
theorem dX7_kind_20 : decode cX7_kind 20 = .ok (.iconst (-1), 1) := by decide +kernel
theorem dX7_kind_21 : decode cX7_kind 21 = .ok (.istore_n 3, 1) := by decide +kernel
theorem dX7_kind_22 : decode cX7_kind 22 = .ok (.iconst 0, 1) := by decide +kernel
theorem dX7_kind_23 : decode cX7_kind 23 = .ok (.istore 4, 2) := by decide +kernel
theorem dX7_kind_25 : decode cX7_kind 25 = .ok (.aload_n 0, 1) := by decide +kernel
theorem dX7_kind_26 : decode cX7_kind 26 = .ok (.iconst 0, 1) := by decide +kernel
theorem dX7_kind_27 : decode cX7_kind 27 = .ok (.sipush 144, 3) := by decide +kernel
theorem dX7_kind_30 : decode cX7_kind 30 = .ok (.invokevirtual 209, 3) := by decide +kernel
theorem dX7_kind_33 : decode cX7_kind 33 = .ok (.iconst 0, 1) := by decide +kernel
theorem dX7_kind_34 : decode cX7_kind 34 = .ok (.istore 5, 2) := by decide +kernel
theorem dX7_kind_36 : decode cX7_kind 36 = .ok (.iload 5, 2) := by decide +kernel
theorem dX7_kind_38 : decode cX7_kind 38 = .ok (.iconst 4, 1) := by decide +kernel
theorem dX7_kind_39 : decode cX7_kind 39 = .ok (.if_icmp .ge 97, 3) := by decide +kernel
theorem dX7_kind_42 : decode cX7_kind 42 = .ok (.aload_n 0, 1) := by decide +kernel
theorem dX7_kind_43 : decode cX7_kind 43 = .ok (.getfield 7, 3) := by decide +kernel
theorem dX7_kind_46 : decode cX7_kind 46 = .ok (.sipush 144, 3) := by decide +kernel
theorem dX7_kind_49 : decode cX7_kind 49 = .ok (.iload_n 1, 1) := by decide +kernel
theorem dX7_kind_50 : decode cX7_kind 50 = .ok (.iadd, 1) := by decide +kernel
theorem dX7_kind_51 : decode cX7_kind 51 = .ok (.iload 5, 2) := by decide +kernel
theorem dX7_kind_53 : decode cX7_kind 53 = .ok (.iastore, 1) := by decide +kernel
theorem dX7_kind_54 : decode cX7_kind 54 = .ok (.aload_n 0, 1) := by decide +kernel
theorem dX7_kind_55 : decode cX7_kind 55 = .ok (.sipush 144, 3) := by decide +kernel
theorem dX7_kind_58 : decode cX7_kind 58 = .ok (.invokevirtual 165, 3) := by decide +kernel
theorem dX7_kind_61 : decode cX7_kind 61 = .ok (.iconst 0, 1) := by decide +kernel
theorem dX7_kind_62 : decode cX7_kind 62 = .ok (.istore 6, 2) := by decide +kernel
theorem dX7_kind_64 : decode cX7_kind 64 = .ok (.iconst 0, 1) := by decide +kernel
theorem dX7_kind_65 : decode cX7_kind 65 = .ok (.istore 7, 2) := by decide +kernel
theorem dX7_kind_67 : decode cX7_kind 67 = .ok (.iload 7, 2) := by decide +kernel
theorem dX7_kind_69 : decode cX7_kind 69 = .ok (.aload_n 0, 1) := by decide +kernel
theorem dX7_kind_70 : decode cX7_kind 70 = .ok (.getfield 7, 3) := by decide +kernel
theorem dX7_kind_73 : decode cX7_kind 73 = .ok (.bipush 33, 2) := by decide +kernel
theorem dX7_kind_75 : decode cX7_kind 75 = .ok (.iaload, 1) := by decide +kernel
theorem dX7_kind_76 : decode cX7_kind 76 = .ok (.if_icmp .ge 26, 3) := by decide +kernel
theorem dX7_kind_79 : decode cX7_kind 79 = .ok (.iload 6, 2) := by decide +kernel
theorem dX7_kind_81 : decode cX7_kind 81 = .ok (.aload_n 0, 1) := by decide +kernel
theorem dX7_kind_82 : decode cX7_kind 82 = .ok (.getfield 25, 3) := by decide +kernel
theorem dX7_kind_85 : decode cX7_kind 85 = .ok (.bipush 6, 2) := by decide +kernel
theorem dX7_kind_87 : decode cX7_kind 87 = .ok (.iload 7, 2) := by decide +kernel
theorem dX7_kind_89 : decode cX7_kind 89 = .ok (.imul, 1) := by decide +kernel
theorem dX7_kind_90 : decode cX7_kind 90 = .ok (.iload_n 1, 1) := by decide +kernel
theorem dX7_kind_91 : decode cX7_kind 91 = .ok (.iadd, 1) := by decide +kernel
theorem dX7_kind_92 : decode cX7_kind 92 = .ok (.iaload, 1) := by decide +kernel
theorem dX7_kind_93 : decode cX7_kind 93 = .ok (.iadd, 1) := by decide +kernel
theorem dX7_kind_94 : decode cX7_kind 94 = .ok (.istore 6, 2) := by decide +kernel
theorem dX7_kind_96 : decode cX7_kind 96 = .ok (.iinc 7 1, 3) := by decide +kernel
theorem dX7_kind_99 : decode cX7_kind 99 = .ok (.goto (-32), 3) := by decide +kernel
theorem dX7_kind_102 : decode cX7_kind 102 = .ok (.iload 6, 2) := by decide +kernel
theorem dX7_kind_104 : decode cX7_kind 104 = .ok (.iload_n 3, 1) := by decide +kernel
theorem dX7_kind_105 : decode cX7_kind 105 = .ok (.if_icmp .le 8, 3) := by decide +kernel
theorem dX7_kind_108 : decode cX7_kind 108 = .ok (.iload 5, 2) := by decide +kernel
theorem dX7_kind_110 : decode cX7_kind 110 = .ok (.goto 5, 3) := by decide +kernel
theorem dX7_kind_113 : decode cX7_kind 113 = .ok (.iload 4, 2) := by decide +kernel
theorem dX7_kind_115 : decode cX7_kind 115 = .ok (.istore 4, 2) := by decide +kernel
theorem dX7_kind_117 : decode cX7_kind 117 = .ok (.iload 6, 2) := by decide +kernel
theorem dX7_kind_119 : decode cX7_kind 119 = .ok (.iload_n 3, 1) := by decide +kernel
theorem dX7_kind_120 : decode cX7_kind 120 = .ok (.if_icmp .le 8, 3) := by decide +kernel
theorem dX7_kind_123 : decode cX7_kind 123 = .ok (.iload 6, 2) := by decide +kernel
theorem dX7_kind_125 : decode cX7_kind 125 = .ok (.goto 4, 3) := by decide +kernel
theorem dX7_kind_128 : decode cX7_kind 128 = .ok (.iload_n 3, 1) := by decide +kernel
theorem dX7_kind_129 : decode cX7_kind 129 = .ok (.istore_n 3, 1) := by decide +kernel
theorem dX7_kind_130 : decode cX7_kind 130 = .ok (.iinc 5 1, 3) := by decide +kernel
theorem dX7_kind_133 : decode cX7_kind 133 = .ok (.goto (-97), 3) := by decide +kernel
theorem dX7_kind_136 : decode cX7_kind 136 = .ok (.iload_n 2, 1) := by decide +kernel
theorem dX7_kind_137 : decode cX7_kind 137 = .ok (.ifCond .ne 8, 3) := by decide +kernel
theorem dX7_kind_140 : decode cX7_kind 140 = .ok (.iload 4, 2) := by decide +kernel
theorem dX7_kind_142 : decode cX7_kind 142 = .ok (.goto 4, 3) := by decide +kernel
theorem dX7_kind_145 : decode cX7_kind 145 = .ok (.iload_n 3, 1) := by decide +kernel
theorem dX7_kind_146 : decode cX7_kind 146 = .ok (.ireturn, 1) := by decide +kernel
theorem dX7_lowest_0 : decode cX7_lowest 0 = .ok (.lload_n 0, 1) := by decide +kernel
theorem dX7_lowest_1 : decode cX7_lowest 1 = .ok (.lstore 5, 2) := by decide +kernel
theorem dX7_lowest_3 : decode cX7_lowest 3 = .ok (.lload_n 2, 1) := by decide +kernel
theorem dX7_lowest_4 : decode cX7_lowest 4 = .ok (.lstore 7, 2) := by decide +kernel
theorem dX7_lowest_6 : decode cX7_lowest 6 = .ok (.lload 7, 2) := by decide +kernel
theorem dX7_lowest_8 : decode cX7_lowest 8 = .ok (.lconst 0, 1) := by decide +kernel
theorem dX7_lowest_9 : decode cX7_lowest 9 = .ok (.lcmp, 1) := by decide +kernel
theorem dX7_lowest_10 : decode cX7_lowest 10 = .ok (.ifCond .eq 21, 3) := by decide +kernel
theorem dX7_lowest_13 : decode cX7_lowest 13 = .ok (.lload 5, 2) := by decide +kernel
theorem dX7_lowest_15 : decode cX7_lowest 15 = .ok (.lload 7, 2) := by decide +kernel
theorem dX7_lowest_17 : decode cX7_lowest 17 = .ok (.lrem, 1) := by decide +kernel
theorem dX7_lowest_18 : decode cX7_lowest 18 = .ok (.lstore 9, 2) := by decide +kernel
theorem dX7_lowest_20 : decode cX7_lowest 20 = .ok (.lload 7, 2) := by decide +kernel
theorem dX7_lowest_22 : decode cX7_lowest 22 = .ok (.lstore 5, 2) := by decide +kernel
theorem dX7_lowest_24 : decode cX7_lowest 24 = .ok (.lload 9, 2) := by decide +kernel
theorem dX7_lowest_26 : decode cX7_lowest 26 = .ok (.lstore 7, 2) := by decide +kernel
theorem dX7_lowest_28 : decode cX7_lowest 28 = .ok (.goto (-22), 3) := by decide +kernel
theorem dX7_lowest_31 : decode cX7_lowest 31 = .ok (.iload 4, 2) := by decide +kernel
theorem dX7_lowest_33 : decode cX7_lowest 33 = .ok (.ifCond .ne 7, 3) := by decide +kernel
theorem dX7_lowest_36 : decode cX7_lowest 36 = .ok (.lload_n 0, 1) := by decide +kernel
theorem dX7_lowest_37 : decode cX7_lowest 37 = .ok (.goto 4, 3) := by decide +kernel
theorem dX7_lowest_40 : decode cX7_lowest 40 = .ok (.lload_n 2, 1) := by decide +kernel
theorem dX7_lowest_41 : decode cX7_lowest 41 = .ok (.lload 5, 2) := by decide +kernel
theorem dX7_lowest_43 : decode cX7_lowest 43 = .ok (.ldiv, 1) := by decide +kernel
theorem dX7_lowest_44 : decode cX7_lowest 44 = .ok (.lreturn, 1) := by decide +kernel
theorem dX7_byDamp_0 : decode cX7_byDamp 0 = .ok (.lconst 0, 1) := by decide +kernel
theorem dX7_byDamp_1 : decode cX7_byDamp 1 = .ok (.lstore 5, 2) := by decide +kernel
theorem dX7_byDamp_3 : decode cX7_byDamp 3 = .ok (.lconst 1, 1) := by decide +kernel
theorem dX7_byDamp_4 : decode cX7_byDamp 4 = .ok (.lstore 7, 2) := by decide +kernel
theorem dX7_byDamp_6 : decode cX7_byDamp 6 = .ok (.iconst 0, 1) := by decide +kernel
theorem dX7_byDamp_7 : decode cX7_byDamp 7 = .ok (.istore 9, 2) := by decide +kernel
theorem dX7_byDamp_9 : decode cX7_byDamp 9 = .ok (.iload 9, 2) := by decide +kernel
theorem dX7_byDamp_11 : decode cX7_byDamp 11 = .ok (.aload_n 0, 1) := by decide +kernel
theorem dX7_byDamp_12 : decode cX7_byDamp 12 = .ok (.getfield 7, 3) := by decide +kernel
theorem dX7_byDamp_15 : decode cX7_byDamp 15 = .ok (.bipush 24, 2) := by decide +kernel
theorem dX7_byDamp_17 : decode cX7_byDamp 17 = .ok (.iaload, 1) := by decide +kernel
theorem dX7_byDamp_18 : decode cX7_byDamp 18 = .ok (.if_icmp .ge 17, 3) := by decide +kernel
theorem dX7_byDamp_21 : decode cX7_byDamp 21 = .ok (.lload 7, 2) := by decide +kernel
theorem dX7_byDamp_23 : decode cX7_byDamp 23 = .ok (.ldc2_w 216, 3) := by decide +kernel
theorem dX7_byDamp_26 : decode cX7_byDamp 26 = .ok (.lmul, 1) := by decide +kernel
theorem dX7_byDamp_27 : decode cX7_byDamp 27 = .ok (.lstore 7, 2) := by decide +kernel
theorem dX7_byDamp_29 : decode cX7_byDamp 29 = .ok (.iinc 9 1, 3) := by decide +kernel
theorem dX7_byDamp_32 : decode cX7_byDamp 32 = .ok (.goto (-23), 3) := by decide +kernel
theorem dX7_byDamp_35 : decode cX7_byDamp 35 = .ok (.iconst 0, 1) := by decide +kernel
theorem dX7_byDamp_36 : decode cX7_byDamp 36 = .ok (.istore 9, 2) := by decide +kernel
theorem dX7_byDamp_38 : decode cX7_byDamp 38 = .ok (.iload 9, 2) := by decide +kernel
theorem dX7_byDamp_40 : decode cX7_byDamp 40 = .ok (.iconst 1, 1) := by decide +kernel
theorem dX7_byDamp_41 : decode cX7_byDamp 41 = .ok (.aload_n 0, 1) := by decide +kernel
theorem dX7_byDamp_42 : decode cX7_byDamp 42 = .ok (.getfield 7, 3) := by decide +kernel
theorem dX7_byDamp_45 : decode cX7_byDamp 45 = .ok (.bipush 24, 2) := by decide +kernel
theorem dX7_byDamp_47 : decode cX7_byDamp 47 = .ok (.iaload, 1) := by decide +kernel
theorem dX7_byDamp_48 : decode cX7_byDamp 48 = .ok (.ishl, 1) := by decide +kernel
theorem dX7_byDamp_49 : decode cX7_byDamp 49 = .ok (.if_icmp .ge 114, 3) := by decide +kernel
theorem dX7_byDamp_52 : decode cX7_byDamp 52 = .ok (.lconst 1, 1) := by decide +kernel
theorem dX7_byDamp_53 : decode cX7_byDamp 53 = .ok (.lstore 10, 2) := by decide +kernel
theorem dX7_byDamp_55 : decode cX7_byDamp 55 = .ok (.iconst 0, 1) := by decide +kernel
theorem dX7_byDamp_56 : decode cX7_byDamp 56 = .ok (.istore 12, 2) := by decide +kernel
theorem dX7_byDamp_58 : decode cX7_byDamp 58 = .ok (.iload 12, 2) := by decide +kernel
theorem dX7_byDamp_60 : decode cX7_byDamp 60 = .ok (.aload_n 0, 1) := by decide +kernel
theorem dX7_byDamp_61 : decode cX7_byDamp 61 = .ok (.getfield 7, 3) := by decide +kernel
theorem dX7_byDamp_64 : decode cX7_byDamp 64 = .ok (.bipush 24, 2) := by decide +kernel
theorem dX7_byDamp_66 : decode cX7_byDamp 66 = .ok (.iaload, 1) := by decide +kernel
theorem dX7_byDamp_67 : decode cX7_byDamp 67 = .ok (.if_icmp .ge 35, 3) := by decide +kernel
theorem dX7_byDamp_70 : decode cX7_byDamp 70 = .ok (.lload 10, 2) := by decide +kernel
theorem dX7_byDamp_72 : decode cX7_byDamp 72 = .ok (.iload 9, 2) := by decide +kernel
theorem dX7_byDamp_74 : decode cX7_byDamp 74 = .ok (.iload 12, 2) := by decide +kernel
theorem dX7_byDamp_76 : decode cX7_byDamp 76 = .ok (.ishr, 1) := by decide +kernel
theorem dX7_byDamp_77 : decode cX7_byDamp 77 = .ok (.iconst 1, 1) := by decide +kernel
theorem dX7_byDamp_78 : decode cX7_byDamp 78 = .ok (.iand, 1) := by decide +kernel
theorem dX7_byDamp_79 : decode cX7_byDamp 79 = .ok (.iconst 1, 1) := by decide +kernel
theorem dX7_byDamp_80 : decode cX7_byDamp 80 = .ok (.if_icmp .ne 8, 3) := by decide +kernel
theorem dX7_byDamp_83 : decode cX7_byDamp 83 = .ok (.iload_n 1, 1) := by decide +kernel
theorem dX7_byDamp_84 : decode cX7_byDamp 84 = .ok (.i2l, 1) := by decide +kernel
theorem dX7_byDamp_85 : decode cX7_byDamp 85 = .ok (.goto 8, 3) := by decide +kernel
theorem dX7_byDamp_88 : decode cX7_byDamp 88 = .ok (.bipush 10, 2) := by decide +kernel
theorem dX7_byDamp_90 : decode cX7_byDamp 90 = .ok (.iload_n 1, 1) := by decide +kernel
theorem dX7_byDamp_91 : decode cX7_byDamp 91 = .ok (.isub, 1) := by decide +kernel
theorem dX7_byDamp_92 : decode cX7_byDamp 92 = .ok (.i2l, 1) := by decide +kernel
theorem dX7_byDamp_93 : decode cX7_byDamp 93 = .ok (.lmul, 1) := by decide +kernel
theorem dX7_byDamp_94 : decode cX7_byDamp 94 = .ok (.lstore 10, 2) := by decide +kernel
theorem dX7_byDamp_96 : decode cX7_byDamp 96 = .ok (.iinc 12 1, 3) := by decide +kernel
theorem dX7_byDamp_99 : decode cX7_byDamp 99 = .ok (.goto (-41), 3) := by decide +kernel
theorem dX7_byDamp_102 : decode cX7_byDamp 102 = .ok (.lload 10, 2) := by decide +kernel
theorem dX7_byDamp_104 : decode cX7_byDamp 104 = .ok (.lconst 0, 1) := by decide +kernel
theorem dX7_byDamp_105 : decode cX7_byDamp 105 = .ok (.lcmp, 1) := by decide +kernel
theorem dX7_byDamp_106 : decode cX7_byDamp 106 = .ok (.ifCond .le 51, 3) := by decide +kernel
theorem dX7_byDamp_109 : decode cX7_byDamp 109 = .ok (.aload_n 0, 1) := by decide +kernel
theorem dX7_byDamp_110 : decode cX7_byDamp 110 = .ok (.iload 9, 2) := by decide +kernel
theorem dX7_byDamp_112 : decode cX7_byDamp 112 = .ok (.putfield 132, 3) := by decide +kernel
theorem dX7_byDamp_115 : decode cX7_byDamp 115 = .ok (.aload_n 0, 1) := by decide +kernel
theorem dX7_byDamp_116 : decode cX7_byDamp 116 = .ok (.iconst 0, 1) := by decide +kernel
theorem dX7_byDamp_117 : decode cX7_byDamp 117 = .ok (.invokevirtual 165, 3) := by decide +kernel
theorem dX7_byDamp_120 : decode cX7_byDamp 120 = .ok (.lload 5, 2) := by decide +kernel
theorem dX7_byDamp_122 : decode cX7_byDamp 122 = .ok (.lload 10, 2) := by decide +kernel
theorem dX7_byDamp_124 : decode cX7_byDamp 124 = .ok (.iload_n 2, 1) := by decide +kernel
theorem dX7_byDamp_125 : decode cX7_byDamp 125 = .ok (.bipush (-4), 2) := by decide +kernel
theorem dX7_byDamp_127 : decode cX7_byDamp 127 = .ok (.if_icmp .ne 10, 3) := by decide +kernel
theorem dX7_byDamp_130 : decode cX7_byDamp 130 = .ok (.aload_n 0, 1) := by decide +kernel
theorem dX7_byDamp_131 : decode cX7_byDamp 131 = .ok (.getfield 149, 3) := by decide +kernel
theorem dX7_byDamp_134 : decode cX7_byDamp 134 = .ok (.goto 18, 3) := by decide +kernel
theorem dX7_byDamp_137 : decode cX7_byDamp 137 = .ok (.aload_n 0, 1) := by decide +kernel
theorem dX7_byDamp_138 : decode cX7_byDamp 138 = .ok (.iconst 0, 1) := by decide +kernel
theorem dX7_byDamp_139 : decode cX7_byDamp 139 = .ok (.iload_n 2, 1) := by decide +kernel
theorem dX7_byDamp_140 : decode cX7_byDamp 140 = .ok (.iload_n 3, 1) := by decide +kernel
theorem dX7_byDamp_141 : decode cX7_byDamp 141 = .ok (.invokevirtual 162, 3) := by decide +kernel
theorem dX7_byDamp_144 : decode cX7_byDamp 144 = .ok (.ifCond .eq 7, 3) := by decide +kernel
theorem dX7_byDamp_147 : decode cX7_byDamp 147 = .ok (.iconst 1, 1) := by decide +kernel
theorem dX7_byDamp_148 : decode cX7_byDamp 148 = .ok (.goto 4, 3) := by decide +kernel
theorem dX7_byDamp_151 : decode cX7_byDamp 151 = .ok (.iconst 0, 1) := by decide +kernel
theorem dX7_byDamp_152 : decode cX7_byDamp 152 = .ok (.i2l, 1) := by decide +kernel
theorem dX7_byDamp_153 : decode cX7_byDamp 153 = .ok (.lmul, 1) := by decide +kernel
theorem dX7_byDamp_154 : decode cX7_byDamp 154 = .ok (.ladd, 1) := by decide +kernel
theorem dX7_byDamp_155 : decode cX7_byDamp 155 = .ok (.lstore 5, 2) := by decide +kernel
theorem dX7_byDamp_157 : decode cX7_byDamp 157 = .ok (.iinc 9 1, 3) := by decide +kernel
theorem dX7_byDamp_160 : decode cX7_byDamp 160 = .ok (.goto (-122), 3) := by decide +kernel
theorem dX7_byDamp_163 : decode cX7_byDamp 163 = .ok (.aload_n 0, 1) := by decide +kernel
theorem dX7_byDamp_164 : decode cX7_byDamp 164 = .ok (.iconst 0, 1) := by decide +kernel
theorem dX7_byDamp_165 : decode cX7_byDamp 165 = .ok (.putfield 132, 3) := by decide +kernel
theorem dX7_byDamp_168 : decode cX7_byDamp 168 = .ok (.lload 5, 2) := by decide +kernel
theorem dX7_byDamp_170 : decode cX7_byDamp 170 = .ok (.lload 7, 2) := by decide +kernel
theorem dX7_byDamp_172 : decode cX7_byDamp 172 = .ok (.iload 4, 2) := by decide +kernel
theorem dX7_byDamp_174 : decode cX7_byDamp 174 = .ok (.invokestatic 218, 3) := by decide +kernel
theorem dX7_byDamp_177 : decode cX7_byDamp 177 = .ok (.lreturn, 1) := by decide +kernel
theorem dX7_luck_0 : decode cX7_luck 0 = .ok (.iload_n 1, 1) := by decide +kernel
theorem dX7_luck_1 : decode cX7_luck 1 = .ok (.i2l, 1) := by decide +kernel
theorem dX7_luck_2 : decode cX7_luck 2 = .ok (.lconst 0, 1) := by decide +kernel
theorem dX7_luck_3 : decode cX7_luck 3 = .ok (.ldc2_w 216, 3) := by decide +kernel
theorem dX7_luck_6 : decode cX7_luck 6 = .ok (.invokestatic 49, 3) := by decide +kernel
theorem dX7_luck_9 : decode cX7_luck 9 = .ok (.ifCond .eq 42, 3) := by decide +kernel
theorem dX7_luck_12 : decode cX7_luck 12 = .ok (.aload_n 0, 1) := by decide +kernel
theorem dX7_luck_13 : decode cX7_luck 13 = .ok (.iload_n 2, 1) := by decide +kernel
theorem dX7_luck_14 : decode cX7_luck 14 = .ok (.invokevirtual 178, 3) := by decide +kernel
theorem dX7_luck_17 : decode cX7_luck 17 = .ok (.ifCond .eq 34, 3) := by decide +kernel
theorem dX7_luck_20 : decode cX7_luck 20 = .ok (.aload_n 0, 1) := by decide +kernel
theorem dX7_luck_21 : decode cX7_luck 21 = .ok (.iload_n 3, 1) := by decide +kernel
theorem dX7_luck_22 : decode cX7_luck 22 = .ok (.invokevirtual 168, 3) := by decide +kernel
theorem dX7_luck_25 : decode cX7_luck 25 = .ok (.ifCond .eq 26, 3) := by decide +kernel
theorem dX7_luck_28 : decode cX7_luck 28 = .ok (.iload 4, 2) := by decide +kernel
theorem dX7_luck_30 : decode cX7_luck 30 = .ok (.i2l, 1) := by decide +kernel
theorem dX7_luck_31 : decode cX7_luck 31 = .ok (.lconst 0, 1) := by decide +kernel
theorem dX7_luck_32 : decode cX7_luck 32 = .ok (.lconst 1, 1) := by decide +kernel
theorem dX7_luck_33 : decode cX7_luck 33 = .ok (.invokestatic 49, 3) := by decide +kernel
theorem dX7_luck_36 : decode cX7_luck 36 = .ok (.ifCond .eq 15, 3) := by decide +kernel
theorem dX7_luck_39 : decode cX7_luck 39 = .ok (.aload_n 0, 1) := by decide +kernel
theorem dX7_luck_40 : decode cX7_luck 40 = .ok (.iload_n 1, 1) := by decide +kernel
theorem dX7_luck_41 : decode cX7_luck 41 = .ok (.iload_n 2, 1) := by decide +kernel
theorem dX7_luck_42 : decode cX7_luck 42 = .ok (.iload_n 3, 1) := by decide +kernel
theorem dX7_luck_43 : decode cX7_luck 43 = .ok (.iload 4, 2) := by decide +kernel
theorem dX7_luck_45 : decode cX7_luck 45 = .ok (.invokevirtual 222, 3) := by decide +kernel
theorem dX7_luck_48 : decode cX7_luck 48 = .ok (.goto 6, 3) := by decide +kernel
theorem dX7_luck_51 : decode cX7_luck 51 = .ok (.ldc2_w 226, 3) := by decide +kernel
theorem dX7_luck_54 : decode cX7_luck 54 = .ok (.lreturn, 1) := by decide +kernel
theorem dX7_mean_0 : decode cX7_mean 0 = .ok (.iload_n 1, 1) := by decide +kernel
theorem dX7_mean_1 : decode cX7_mean 1 = .ok (.i2l, 1) := by decide +kernel
theorem dX7_mean_2 : decode cX7_mean 2 = .ok (.lconst 0, 1) := by decide +kernel
theorem dX7_mean_3 : decode cX7_mean 3 = .ok (.ldc2_w 216, 3) := by decide +kernel
theorem dX7_mean_6 : decode cX7_mean 6 = .ok (.invokestatic 49, 3) := by decide +kernel
theorem dX7_mean_9 : decode cX7_mean 9 = .ok (.ifCond .eq 25, 3) := by decide +kernel
theorem dX7_mean_12 : decode cX7_mean 12 = .ok (.iload_n 2, 1) := by decide +kernel
theorem dX7_mean_13 : decode cX7_mean 13 = .ok (.i2l, 1) := by decide +kernel
theorem dX7_mean_14 : decode cX7_mean 14 = .ok (.lconst 0, 1) := by decide +kernel
theorem dX7_mean_15 : decode cX7_mean 15 = .ok (.lconst 1, 1) := by decide +kernel
theorem dX7_mean_16 : decode cX7_mean 16 = .ok (.invokestatic 49, 3) := by decide +kernel
theorem dX7_mean_19 : decode cX7_mean 19 = .ok (.ifCond .eq 15, 3) := by decide +kernel
theorem dX7_mean_22 : decode cX7_mean 22 = .ok (.aload_n 0, 1) := by decide +kernel
theorem dX7_mean_23 : decode cX7_mean 23 = .ok (.iload_n 1, 1) := by decide +kernel
theorem dX7_mean_24 : decode cX7_mean 24 = .ok (.bipush (-4), 2) := by decide +kernel
theorem dX7_mean_26 : decode cX7_mean 26 = .ok (.iconst 0, 1) := by decide +kernel
theorem dX7_mean_27 : decode cX7_mean 27 = .ok (.iload_n 2, 1) := by decide +kernel
theorem dX7_mean_28 : decode cX7_mean 28 = .ok (.invokevirtual 222, 3) := by decide +kernel
theorem dX7_mean_31 : decode cX7_mean 31 = .ok (.goto 6, 3) := by decide +kernel
theorem dX7_mean_34 : decode cX7_mean 34 = .ok (.ldc2_w 226, 3) := by decide +kernel
theorem dX7_mean_37 : decode cX7_mean 37 = .ok (.lreturn, 1) := by decide +kernel
theorem dX7_see_0 : decode cX7_see 0 = .ok (.aload_n 0, 1) := by decide +kernel
theorem dX7_see_1 : decode cX7_see 1 = .ok (.iload_n 1, 1) := by decide +kernel
theorem dX7_see_2 : decode cX7_see 2 = .ok (.invokevirtual 168, 3) := by decide +kernel
theorem dX7_see_5 : decode cX7_see 5 = .ok (.ifCond .eq 10, 3) := by decide +kernel
theorem dX7_see_8 : decode cX7_see 8 = .ok (.iload_n 2, 1) := by decide +kernel
theorem dX7_see_9 : decode cX7_see 9 = .ok (.invokestatic 189, 3) := by decide +kernel
theorem dX7_see_12 : decode cX7_see 12 = .ok (.ifCond .ne 5, 3) := by decide +kernel
theorem dX7_see_15 : decode cX7_see 15 = .ok (.iconst (-1), 1) := by decide +kernel
theorem dX7_see_16 : decode cX7_see 16 = .ok (.ireturn, 1) := by decide +kernel
theorem dX7_see_17 : decode cX7_see 17 = .ok (.aload_n 0, 1) := by decide +kernel
theorem dX7_see_18 : decode cX7_see 18 = .ok (.getfield 116, 3) := by decide +kernel
theorem dX7_see_21 : decode cX7_see 21 = .ok (.bipush 6, 2) := by decide +kernel
theorem dX7_see_23 : decode cX7_see 23 = .ok (.if_icmp .ne 6, 3) := by decide +kernel
theorem dX7_see_26 : decode cX7_see 26 = .ok (.bipush (-3), 2) := by decide +kernel
theorem dX7_see_28 : decode cX7_see 28 = .ok (.ireturn, 1) := by decide +kernel
theorem dX7_see_29 : decode cX7_see 29 = .ok (.aload_n 0, 1) := by decide +kernel
theorem dX7_see_30 : decode cX7_see 30 = .ok (.getfield 28, 3) := by decide +kernel
theorem dX7_see_33 : decode cX7_see 33 = .ok (.iconst 2, 1) := by decide +kernel
theorem dX7_see_34 : decode cX7_see 34 = .ok (.aload_n 0, 1) := by decide +kernel
theorem dX7_see_35 : decode cX7_see 35 = .ok (.getfield 116, 3) := by decide +kernel
theorem dX7_see_38 : decode cX7_see 38 = .ok (.imul, 1) := by decide +kernel
theorem dX7_see_39 : decode cX7_see 39 = .ok (.iload_n 1, 1) := by decide +kernel
theorem dX7_see_40 : decode cX7_see 40 = .ok (.iastore, 1) := by decide +kernel
theorem dX7_see_41 : decode cX7_see 41 = .ok (.aload_n 0, 1) := by decide +kernel
theorem dX7_see_42 : decode cX7_see 42 = .ok (.getfield 28, 3) := by decide +kernel
theorem dX7_see_45 : decode cX7_see 45 = .ok (.iconst 2, 1) := by decide +kernel
theorem dX7_see_46 : decode cX7_see 46 = .ok (.aload_n 0, 1) := by decide +kernel
theorem dX7_see_47 : decode cX7_see 47 = .ok (.getfield 116, 3) := by decide +kernel
theorem dX7_see_50 : decode cX7_see 50 = .ok (.imul, 1) := by decide +kernel
theorem dX7_see_51 : decode cX7_see 51 = .ok (.iconst 1, 1) := by decide +kernel
theorem dX7_see_52 : decode cX7_see 52 = .ok (.iadd, 1) := by decide +kernel
theorem dX7_see_53 : decode cX7_see 53 = .ok (.iload_n 2, 1) := by decide +kernel
theorem dX7_see_54 : decode cX7_see 54 = .ok (.iastore, 1) := by decide +kernel
theorem dX7_see_55 : decode cX7_see 55 = .ok (.aload_n 0, 1) := by decide +kernel
theorem dX7_see_56 : decode cX7_see 56 = .ok (.dup, 1) := by decide +kernel
theorem dX7_see_57 : decode cX7_see 57 = .ok (.getfield 116, 3) := by decide +kernel
theorem dX7_see_60 : decode cX7_see 60 = .ok (.iconst 1, 1) := by decide +kernel
theorem dX7_see_61 : decode cX7_see 61 = .ok (.iadd, 1) := by decide +kernel
theorem dX7_see_62 : decode cX7_see 62 = .ok (.putfield 116, 3) := by decide +kernel
theorem dX7_see_65 : decode cX7_see 65 = .ok (.aload_n 0, 1) := by decide +kernel
theorem dX7_see_66 : decode cX7_see 66 = .ok (.getfield 116, 3) := by decide +kernel
theorem dX7_see_69 : decode cX7_see 69 = .ok (.ireturn, 1) := by decide +kernel
theorem dX7_forget_0 : decode cX7_forget 0 = .ok (.iload_n 1, 1) := by decide +kernel
theorem dX7_forget_1 : decode cX7_forget 1 = .ok (.i2l, 1) := by decide +kernel
theorem dX7_forget_2 : decode cX7_forget 2 = .ok (.lconst 0, 1) := by decide +kernel
theorem dX7_forget_3 : decode cX7_forget 3 = .ok (.aload_n 0, 1) := by decide +kernel
theorem dX7_forget_4 : decode cX7_forget 4 = .ok (.getfield 116, 3) := by decide +kernel
theorem dX7_forget_7 : decode cX7_forget 7 = .ok (.i2l, 1) := by decide +kernel
theorem dX7_forget_8 : decode cX7_forget 8 = .ok (.invokestatic 49, 3) := by decide +kernel
theorem dX7_forget_11 : decode cX7_forget 11 = .ok (.ifCond .ne 5, 3) := by decide +kernel
theorem dX7_forget_14 : decode cX7_forget 14 = .ok (.iconst (-1), 1) := by decide +kernel
theorem dX7_forget_15 : decode cX7_forget 15 = .ok (.ireturn, 1) := by decide +kernel
theorem dX7_forget_16 : decode cX7_forget 16 = .ok (.aload_n 0, 1) := by decide +kernel
theorem dX7_forget_17 : decode cX7_forget 17 = .ok (.getfield 116, 3) := by decide +kernel
theorem dX7_forget_20 : decode cX7_forget 20 = .ok (.istore_n 2, 1) := by decide +kernel
theorem dX7_forget_21 : decode cX7_forget 21 = .ok (.aload_n 0, 1) := by decide +kernel
theorem dX7_forget_22 : decode cX7_forget 22 = .ok (.iload_n 1, 1) := by decide +kernel
theorem dX7_forget_23 : decode cX7_forget 23 = .ok (.putfield 116, 3) := by decide +kernel
theorem dX7_forget_26 : decode cX7_forget 26 = .ok (.iload_n 2, 1) := by decide +kernel
theorem dX7_forget_27 : decode cX7_forget 27 = .ok (.ireturn, 1) := by decide +kernel
theorem dX7_isAsSeen_0 : decode cX7_isAsSeen 0 = .ok (.iconst 1, 1) := by decide +kernel
theorem dX7_isAsSeen_1 : decode cX7_isAsSeen 1 = .ok (.istore_n 2, 1) := by decide +kernel
theorem dX7_isAsSeen_2 : decode cX7_isAsSeen 2 = .ok (.iconst 0, 1) := by decide +kernel
theorem dX7_isAsSeen_3 : decode cX7_isAsSeen 3 = .ok (.istore_n 3, 1) := by decide +kernel
theorem dX7_isAsSeen_4 : decode cX7_isAsSeen 4 = .ok (.iload_n 3, 1) := by decide +kernel
theorem dX7_isAsSeen_5 : decode cX7_isAsSeen 5 = .ok (.aload_n 0, 1) := by decide +kernel
theorem dX7_isAsSeen_6 : decode cX7_isAsSeen 6 = .ok (.getfield 116, 3) := by decide +kernel
theorem dX7_isAsSeen_9 : decode cX7_isAsSeen 9 = .ok (.if_icmp .ge 60, 3) := by decide +kernel
theorem dX7_isAsSeen_12 : decode cX7_isAsSeen 12 = .ok (.iload_n 2, 1) := by decide +kernel
theorem dX7_isAsSeen_13 : decode cX7_isAsSeen 13 = .ok (.ifCond .eq 48, 3) := by decide +kernel
theorem dX7_isAsSeen_16 : decode cX7_isAsSeen 16 = .ok (.aload_n 0, 1) := by decide +kernel
theorem dX7_isAsSeen_17 : decode cX7_isAsSeen 17 = .ok (.aload_n 0, 1) := by decide +kernel
theorem dX7_isAsSeen_18 : decode cX7_isAsSeen 18 = .ok (.getfield 28, 3) := by decide +kernel
theorem dX7_isAsSeen_21 : decode cX7_isAsSeen 21 = .ok (.iconst 2, 1) := by decide +kernel
theorem dX7_isAsSeen_22 : decode cX7_isAsSeen 22 = .ok (.iload_n 3, 1) := by decide +kernel
theorem dX7_isAsSeen_23 : decode cX7_isAsSeen 23 = .ok (.imul, 1) := by decide +kernel
theorem dX7_isAsSeen_24 : decode cX7_isAsSeen 24 = .ok (.iaload, 1) := by decide +kernel
theorem dX7_isAsSeen_25 : decode cX7_isAsSeen 25 = .ok (.invokevirtual 168, 3) := by decide +kernel
theorem dX7_isAsSeen_28 : decode cX7_isAsSeen 28 = .ok (.ifCond .eq 33, 3) := by decide +kernel
theorem dX7_isAsSeen_31 : decode cX7_isAsSeen 31 = .ok (.aload_n 0, 1) := by decide +kernel
theorem dX7_isAsSeen_32 : decode cX7_isAsSeen 32 = .ok (.iload_n 1, 1) := by decide +kernel
theorem dX7_isAsSeen_33 : decode cX7_isAsSeen 33 = .ok (.aload_n 0, 1) := by decide +kernel
theorem dX7_isAsSeen_34 : decode cX7_isAsSeen 34 = .ok (.getfield 28, 3) := by decide +kernel
theorem dX7_isAsSeen_37 : decode cX7_isAsSeen 37 = .ok (.iconst 2, 1) := by decide +kernel
theorem dX7_isAsSeen_38 : decode cX7_isAsSeen 38 = .ok (.iload_n 3, 1) := by decide +kernel
theorem dX7_isAsSeen_39 : decode cX7_isAsSeen 39 = .ok (.imul, 1) := by decide +kernel
theorem dX7_isAsSeen_40 : decode cX7_isAsSeen 40 = .ok (.iaload, 1) := by decide +kernel
theorem dX7_isAsSeen_41 : decode cX7_isAsSeen 41 = .ok (.invokevirtual 172, 3) := by decide +kernel
theorem dX7_isAsSeen_44 : decode cX7_isAsSeen 44 = .ok (.aload_n 0, 1) := by decide +kernel
theorem dX7_isAsSeen_45 : decode cX7_isAsSeen 45 = .ok (.getfield 28, 3) := by decide +kernel
theorem dX7_isAsSeen_48 : decode cX7_isAsSeen 48 = .ok (.iconst 2, 1) := by decide +kernel
theorem dX7_isAsSeen_49 : decode cX7_isAsSeen 49 = .ok (.iload_n 3, 1) := by decide +kernel
theorem dX7_isAsSeen_50 : decode cX7_isAsSeen 50 = .ok (.imul, 1) := by decide +kernel
theorem dX7_isAsSeen_51 : decode cX7_isAsSeen 51 = .ok (.iconst 1, 1) := by decide +kernel
theorem dX7_isAsSeen_52 : decode cX7_isAsSeen 52 = .ok (.iadd, 1) := by decide +kernel
theorem dX7_isAsSeen_53 : decode cX7_isAsSeen 53 = .ok (.iaload, 1) := by decide +kernel
theorem dX7_isAsSeen_54 : decode cX7_isAsSeen 54 = .ok (.if_icmp .ne 7, 3) := by decide +kernel
theorem dX7_isAsSeen_57 : decode cX7_isAsSeen 57 = .ok (.iconst 1, 1) := by decide +kernel
theorem dX7_isAsSeen_58 : decode cX7_isAsSeen 58 = .ok (.goto 4, 3) := by decide +kernel
theorem dX7_isAsSeen_61 : decode cX7_isAsSeen 61 = .ok (.iconst 0, 1) := by decide +kernel
theorem dX7_isAsSeen_62 : decode cX7_isAsSeen 62 = .ok (.istore_n 2, 1) := by decide +kernel
theorem dX7_isAsSeen_63 : decode cX7_isAsSeen 63 = .ok (.iinc 3 1, 3) := by decide +kernel
theorem dX7_isAsSeen_66 : decode cX7_isAsSeen 66 = .ok (.goto (-62), 3) := by decide +kernel
theorem dX7_isAsSeen_69 : decode cX7_isAsSeen 69 = .ok (.iload_n 2, 1) := by decide +kernel
theorem dX7_isAsSeen_70 : decode cX7_isAsSeen 70 = .ok (.ireturn, 1) := by decide +kernel
theorem dX7_windsNow_0 : decode cX7_windsNow 0 = .ok (.iconst 0, 1) := by decide +kernel
theorem dX7_windsNow_1 : decode cX7_windsNow 1 = .ok (.istore_n 1, 1) := by decide +kernel
theorem dX7_windsNow_2 : decode cX7_windsNow 2 = .ok (.aload_n 0, 1) := by decide +kernel
theorem dX7_windsNow_3 : decode cX7_windsNow 3 = .ok (.iconst 0, 1) := by decide +kernel
theorem dX7_windsNow_4 : decode cX7_windsNow 4 = .ok (.sipush 144, 3) := by decide +kernel
theorem dX7_windsNow_7 : decode cX7_windsNow 7 = .ok (.invokevirtual 209, 3) := by decide +kernel
theorem dX7_windsNow_10 : decode cX7_windsNow 10 = .ok (.iconst 0, 1) := by decide +kernel
theorem dX7_windsNow_11 : decode cX7_windsNow 11 = .ok (.istore_n 2, 1) := by decide +kernel
theorem dX7_windsNow_12 : decode cX7_windsNow 12 = .ok (.iload_n 2, 1) := by decide +kernel
theorem dX7_windsNow_13 : decode cX7_windsNow 13 = .ok (.bipush 8, 2) := by decide +kernel
theorem dX7_windsNow_15 : decode cX7_windsNow 15 = .ok (.if_icmp .gt 78, 3) := by decide +kernel
theorem dX7_windsNow_18 : decode cX7_windsNow 18 = .ok (.aload_n 0, 1) := by decide +kernel
theorem dX7_windsNow_19 : decode cX7_windsNow 19 = .ok (.getfield 7, 3) := by decide +kernel
theorem dX7_windsNow_22 : decode cX7_windsNow 22 = .ok (.sipush 178, 3) := by decide +kernel
theorem dX7_windsNow_25 : decode cX7_windsNow 25 = .ok (.iload_n 2, 1) := by decide +kernel
theorem dX7_windsNow_26 : decode cX7_windsNow 26 = .ok (.iconst 4, 1) := by decide +kernel
theorem dX7_windsNow_27 : decode cX7_windsNow 27 = .ok (.isub, 1) := by decide +kernel
theorem dX7_windsNow_28 : decode cX7_windsNow 28 = .ok (.iastore, 1) := by decide +kernel
theorem dX7_windsNow_29 : decode cX7_windsNow 29 = .ok (.iload_n 1, 1) := by decide +kernel
theorem dX7_windsNow_30 : decode cX7_windsNow 30 = .ok (.aload_n 0, 1) := by decide +kernel
theorem dX7_windsNow_31 : decode cX7_windsNow 31 = .ok (.sipush 144, 3) := by decide +kernel
theorem dX7_windsNow_34 : decode cX7_windsNow 34 = .ok (.invokevirtual 228, 3) := by decide +kernel
theorem dX7_windsNow_37 : decode cX7_windsNow 37 = .ok (.ifCond .eq 9, 3) := by decide +kernel
theorem dX7_windsNow_40 : decode cX7_windsNow 40 = .ok (.iconst 1, 1) := by decide +kernel
theorem dX7_windsNow_41 : decode cX7_windsNow 41 = .ok (.iload_n 2, 1) := by decide +kernel
theorem dX7_windsNow_42 : decode cX7_windsNow 42 = .ok (.ishl, 1) := by decide +kernel
theorem dX7_windsNow_43 : decode cX7_windsNow 43 = .ok (.goto 4, 3) := by decide +kernel
theorem dX7_windsNow_46 : decode cX7_windsNow 46 = .ok (.iconst 0, 1) := by decide +kernel
theorem dX7_windsNow_47 : decode cX7_windsNow 47 = .ok (.ior, 1) := by decide +kernel
theorem dX7_windsNow_48 : decode cX7_windsNow 48 = .ok (.istore_n 1, 1) := by decide +kernel
theorem dX7_windsNow_49 : decode cX7_windsNow 49 = .ok (.iconst 0, 1) := by decide +kernel
theorem dX7_windsNow_50 : decode cX7_windsNow 50 = .ok (.istore_n 3, 1) := by decide +kernel
theorem dX7_windsNow_51 : decode cX7_windsNow 51 = .ok (.iload_n 3, 1) := by decide +kernel
theorem dX7_windsNow_52 : decode cX7_windsNow 52 = .ok (.aload_n 0, 1) := by decide +kernel
theorem dX7_windsNow_53 : decode cX7_windsNow 53 = .ok (.getfield 7, 3) := by decide +kernel
theorem dX7_windsNow_56 : decode cX7_windsNow 56 = .ok (.bipush 24, 2) := by decide +kernel
theorem dX7_windsNow_58 : decode cX7_windsNow 58 = .ok (.iaload, 1) := by decide +kernel
theorem dX7_windsNow_59 : decode cX7_windsNow 59 = .ok (.if_icmp .ge 28, 3) := by decide +kernel
theorem dX7_windsNow_62 : decode cX7_windsNow 62 = .ok (.aload_n 0, 1) := by decide +kernel
theorem dX7_windsNow_63 : decode cX7_windsNow 63 = .ok (.getfield 31, 3) := by decide +kernel
theorem dX7_windsNow_66 : decode cX7_windsNow 66 = .ok (.bipush 6, 2) := by decide +kernel
theorem dX7_windsNow_68 : decode cX7_windsNow 68 = .ok (.iload_n 2, 1) := by decide +kernel
theorem dX7_windsNow_69 : decode cX7_windsNow 69 = .ok (.imul, 1) := by decide +kernel
theorem dX7_windsNow_70 : decode cX7_windsNow 70 = .ok (.iload_n 3, 1) := by decide +kernel
theorem dX7_windsNow_71 : decode cX7_windsNow 71 = .ok (.iadd, 1) := by decide +kernel
theorem dX7_windsNow_72 : decode cX7_windsNow 72 = .ok (.aload_n 0, 1) := by decide +kernel
theorem dX7_windsNow_73 : decode cX7_windsNow 73 = .ok (.sipush 144, 3) := by decide +kernel
theorem dX7_windsNow_76 : decode cX7_windsNow 76 = .ok (.iload_n 3, 1) := by decide +kernel
theorem dX7_windsNow_77 : decode cX7_windsNow 77 = .ok (.invokevirtual 172, 3) := by decide +kernel
theorem dX7_windsNow_80 : decode cX7_windsNow 80 = .ok (.iastore, 1) := by decide +kernel
theorem dX7_windsNow_81 : decode cX7_windsNow 81 = .ok (.iinc 3 1, 3) := by decide +kernel
theorem dX7_windsNow_84 : decode cX7_windsNow 84 = .ok (.goto (-33), 3) := by decide +kernel
theorem dX7_windsNow_87 : decode cX7_windsNow 87 = .ok (.iinc 2 1, 3) := by decide +kernel
theorem dX7_windsNow_90 : decode cX7_windsNow 90 = .ok (.goto (-78), 3) := by decide +kernel
theorem dX7_windsNow_93 : decode cX7_windsNow 93 = .ok (.iload_n 1, 1) := by decide +kernel
theorem dX7_windsNow_94 : decode cX7_windsNow 94 = .ok (.ireturn, 1) := by decide +kernel
theorem dX7_winds_0 : decode cX7_winds 0 = .ok (.aload_n 0, 1) := by decide +kernel
theorem dX7_winds_1 : decode cX7_winds 1 = .ok (.invokevirtual 231, 3) := by decide +kernel
theorem dX7_winds_4 : decode cX7_winds 4 = .ok (.ireturn, 1) := by decide +kernel
theorem dX7_froms_0 : decode cX7_froms 0 = .ok (.aload_n 0, 1) := by decide +kernel
theorem dX7_froms_1 : decode cX7_froms 1 = .ok (.iload_n 1, 1) := by decide +kernel
theorem dX7_froms_2 : decode cX7_froms 2 = .ok (.invokevirtual 168, 3) := by decide +kernel
theorem dX7_froms_5 : decode cX7_froms 5 = .ok (.ifCond .ne 5, 3) := by decide +kernel
theorem dX7_froms_8 : decode cX7_froms 8 = .ok (.iconst (-1), 1) := by decide +kernel
theorem dX7_froms_9 : decode cX7_froms 9 = .ok (.ireturn, 1) := by decide +kernel
theorem dX7_froms_10 : decode cX7_froms 10 = .ok (.iconst 0, 1) := by decide +kernel
theorem dX7_froms_11 : decode cX7_froms 11 = .ok (.istore_n 2, 1) := by decide +kernel
theorem dX7_froms_12 : decode cX7_froms 12 = .ok (.aload_n 0, 1) := by decide +kernel
theorem dX7_froms_13 : decode cX7_froms 13 = .ok (.iconst 0, 1) := by decide +kernel
theorem dX7_froms_14 : decode cX7_froms 14 = .ok (.sipush 144, 3) := by decide +kernel
theorem dX7_froms_17 : decode cX7_froms 17 = .ok (.invokevirtual 209, 3) := by decide +kernel
theorem dX7_froms_20 : decode cX7_froms 20 = .ok (.iconst 0, 1) := by decide +kernel
theorem dX7_froms_21 : decode cX7_froms 21 = .ok (.istore_n 3, 1) := by decide +kernel
theorem dX7_froms_22 : decode cX7_froms 22 = .ok (.iload_n 3, 1) := by decide +kernel
theorem dX7_froms_23 : decode cX7_froms 23 = .ok (.bipush 12, 2) := by decide +kernel
theorem dX7_froms_25 : decode cX7_froms 25 = .ok (.if_icmp .ge 40, 3) := by decide +kernel
theorem dX7_froms_28 : decode cX7_froms 28 = .ok (.aload_n 0, 1) := by decide +kernel
theorem dX7_froms_29 : decode cX7_froms 29 = .ok (.getfield 7, 3) := by decide +kernel
theorem dX7_froms_32 : decode cX7_froms 32 = .ok (.sipush 150, 3) := by decide +kernel
theorem dX7_froms_35 : decode cX7_froms 35 = .ok (.iload_n 1, 1) := by decide +kernel
theorem dX7_froms_36 : decode cX7_froms 36 = .ok (.iadd, 1) := by decide +kernel
theorem dX7_froms_37 : decode cX7_froms 37 = .ok (.iload_n 3, 1) := by decide +kernel
theorem dX7_froms_38 : decode cX7_froms 38 = .ok (.iastore, 1) := by decide +kernel
theorem dX7_froms_39 : decode cX7_froms 39 = .ok (.iload_n 2, 1) := by decide +kernel
theorem dX7_froms_40 : decode cX7_froms 40 = .ok (.aload_n 0, 1) := by decide +kernel
theorem dX7_froms_41 : decode cX7_froms 41 = .ok (.sipush 144, 3) := by decide +kernel
theorem dX7_froms_44 : decode cX7_froms 44 = .ok (.invokevirtual 228, 3) := by decide +kernel
theorem dX7_froms_47 : decode cX7_froms 47 = .ok (.ifCond .eq 9, 3) := by decide +kernel
theorem dX7_froms_50 : decode cX7_froms 50 = .ok (.iconst 1, 1) := by decide +kernel
theorem dX7_froms_51 : decode cX7_froms 51 = .ok (.iload_n 3, 1) := by decide +kernel
theorem dX7_froms_52 : decode cX7_froms 52 = .ok (.ishl, 1) := by decide +kernel
theorem dX7_froms_53 : decode cX7_froms 53 = .ok (.goto 4, 3) := by decide +kernel
theorem dX7_froms_56 : decode cX7_froms 56 = .ok (.iconst 0, 1) := by decide +kernel
theorem dX7_froms_57 : decode cX7_froms 57 = .ok (.ior, 1) := by decide +kernel
theorem dX7_froms_58 : decode cX7_froms 58 = .ok (.istore_n 2, 1) := by decide +kernel
theorem dX7_froms_59 : decode cX7_froms 59 = .ok (.iinc 3 1, 3) := by decide +kernel
theorem dX7_froms_62 : decode cX7_froms 62 = .ok (.goto (-40), 3) := by decide +kernel
theorem dX7_froms_65 : decode cX7_froms 65 = .ok (.iload_n 2, 1) := by decide +kernel
theorem dX7_froms_66 : decode cX7_froms 66 = .ok (.ireturn, 1) := by decide +kernel
theorem dX7_kinds_0 : decode cX7_kinds 0 = .ok (.aload_n 0, 1) := by decide +kernel
theorem dX7_kinds_1 : decode cX7_kinds 1 = .ok (.iload_n 1, 1) := by decide +kernel
theorem dX7_kinds_2 : decode cX7_kinds 2 = .ok (.invokevirtual 168, 3) := by decide +kernel
theorem dX7_kinds_5 : decode cX7_kinds 5 = .ok (.ifCond .ne 5, 3) := by decide +kernel
theorem dX7_kinds_8 : decode cX7_kinds 8 = .ok (.iconst (-1), 1) := by decide +kernel
theorem dX7_kinds_9 : decode cX7_kinds 9 = .ok (.ireturn, 1) := by decide +kernel
theorem dX7_kinds_10 : decode cX7_kinds 10 = .ok (.iconst 0, 1) := by decide +kernel
theorem dX7_kinds_11 : decode cX7_kinds 11 = .ok (.istore_n 2, 1) := by decide +kernel
theorem dX7_kinds_12 : decode cX7_kinds 12 = .ok (.aload_n 0, 1) := by decide +kernel
theorem dX7_kinds_13 : decode cX7_kinds 13 = .ok (.iconst 0, 1) := by decide +kernel
theorem dX7_kinds_14 : decode cX7_kinds 14 = .ok (.sipush 144, 3) := by decide +kernel
theorem dX7_kinds_17 : decode cX7_kinds 17 = .ok (.invokevirtual 209, 3) := by decide +kernel
theorem dX7_kinds_20 : decode cX7_kinds 20 = .ok (.iconst 0, 1) := by decide +kernel
theorem dX7_kinds_21 : decode cX7_kinds 21 = .ok (.istore_n 3, 1) := by decide +kernel
theorem dX7_kinds_22 : decode cX7_kinds 22 = .ok (.iload_n 3, 1) := by decide +kernel
theorem dX7_kinds_23 : decode cX7_kinds 23 = .ok (.iconst 4, 1) := by decide +kernel
theorem dX7_kinds_24 : decode cX7_kinds 24 = .ok (.if_icmp .ge 40, 3) := by decide +kernel
theorem dX7_kinds_27 : decode cX7_kinds 27 = .ok (.aload_n 0, 1) := by decide +kernel
theorem dX7_kinds_28 : decode cX7_kinds 28 = .ok (.getfield 7, 3) := by decide +kernel
theorem dX7_kinds_31 : decode cX7_kinds 31 = .ok (.sipush 144, 3) := by decide +kernel
theorem dX7_kinds_34 : decode cX7_kinds 34 = .ok (.iload_n 1, 1) := by decide +kernel
theorem dX7_kinds_35 : decode cX7_kinds 35 = .ok (.iadd, 1) := by decide +kernel
theorem dX7_kinds_36 : decode cX7_kinds 36 = .ok (.iload_n 3, 1) := by decide +kernel
theorem dX7_kinds_37 : decode cX7_kinds 37 = .ok (.iastore, 1) := by decide +kernel
theorem dX7_kinds_38 : decode cX7_kinds 38 = .ok (.iload_n 2, 1) := by decide +kernel
theorem dX7_kinds_39 : decode cX7_kinds 39 = .ok (.aload_n 0, 1) := by decide +kernel
theorem dX7_kinds_40 : decode cX7_kinds 40 = .ok (.sipush 144, 3) := by decide +kernel
theorem dX7_kinds_43 : decode cX7_kinds 43 = .ok (.invokevirtual 228, 3) := by decide +kernel
theorem dX7_kinds_46 : decode cX7_kinds 46 = .ok (.ifCond .eq 9, 3) := by decide +kernel
theorem dX7_kinds_49 : decode cX7_kinds 49 = .ok (.iconst 1, 1) := by decide +kernel
theorem dX7_kinds_50 : decode cX7_kinds 50 = .ok (.iload_n 3, 1) := by decide +kernel
theorem dX7_kinds_51 : decode cX7_kinds 51 = .ok (.ishl, 1) := by decide +kernel
theorem dX7_kinds_52 : decode cX7_kinds 52 = .ok (.goto 4, 3) := by decide +kernel
theorem dX7_kinds_55 : decode cX7_kinds 55 = .ok (.iconst 0, 1) := by decide +kernel
theorem dX7_kinds_56 : decode cX7_kinds 56 = .ok (.ior, 1) := by decide +kernel
theorem dX7_kinds_57 : decode cX7_kinds 57 = .ok (.istore_n 2, 1) := by decide +kernel
theorem dX7_kinds_58 : decode cX7_kinds 58 = .ok (.iinc 3 1, 3) := by decide +kernel
theorem dX7_kinds_61 : decode cX7_kinds 61 = .ok (.goto (-39), 3) := by decide +kernel
theorem dX7_kinds_64 : decode cX7_kinds 64 = .ok (.iload_n 2, 1) := by decide +kernel
theorem dX7_kinds_65 : decode cX7_kinds 65 = .ok (.ireturn, 1) := by decide +kernel
theorem dX7_ask_0 : decode cX7_ask 0 = .ok (.iload_n 1, 1) := by decide +kernel
theorem dX7_ask_1 : decode cX7_ask 1 = .ok (.i2l, 1) := by decide +kernel
theorem dX7_ask_2 : decode cX7_ask 2 = .ok (.lconst 0, 1) := by decide +kernel
theorem dX7_ask_3 : decode cX7_ask 3 = .ok (.lconst 1, 1) := by decide +kernel
theorem dX7_ask_4 : decode cX7_ask 4 = .ok (.invokestatic 49, 3) := by decide +kernel
theorem dX7_ask_7 : decode cX7_ask 7 = .ok (.ifCond .ne 5, 3) := by decide +kernel
theorem dX7_ask_10 : decode cX7_ask 10 = .ok (.iconst (-1), 1) := by decide +kernel
theorem dX7_ask_11 : decode cX7_ask 11 = .ok (.ireturn, 1) := by decide +kernel
theorem dX7_ask_12 : decode cX7_ask 12 = .ok (.aload_n 0, 1) := by decide +kernel
theorem dX7_ask_13 : decode cX7_ask 13 = .ok (.invokevirtual 231, 3) := by decide +kernel
theorem dX7_ask_16 : decode cX7_ask 16 = .ok (.istore_n 2, 1) := by decide +kernel
theorem dX7_ask_17 : decode cX7_ask 17 = .ok (.iload_n 2, 1) := by decide +kernel
theorem dX7_ask_18 : decode cX7_ask 18 = .ok (.invokestatic 213, 3) := by decide +kernel
theorem dX7_ask_21 : decode cX7_ask 21 = .ok (.istore_n 3, 1) := by decide +kernel
theorem dX7_ask_22 : decode cX7_ask 22 = .ok (.bipush (-4), 2) := by decide +kernel
theorem dX7_ask_24 : decode cX7_ask 24 = .ok (.istore 4, 2) := by decide +kernel
theorem dX7_ask_26 : decode cX7_ask 26 = .ok (.iconst 0, 1) := by decide +kernel
theorem dX7_ask_27 : decode cX7_ask 27 = .ok (.istore 5, 2) := by decide +kernel
theorem dX7_ask_29 : decode cX7_ask 29 = .ok (.iload 5, 2) := by decide +kernel
theorem dX7_ask_31 : decode cX7_ask 31 = .ok (.aload_n 0, 1) := by decide +kernel
theorem dX7_ask_32 : decode cX7_ask 32 = .ok (.getfield 7, 3) := by decide +kernel
theorem dX7_ask_35 : decode cX7_ask 35 = .ok (.bipush 24, 2) := by decide +kernel
theorem dX7_ask_37 : decode cX7_ask 37 = .ok (.iaload, 1) := by decide +kernel
theorem dX7_ask_38 : decode cX7_ask 38 = .ok (.if_icmp .ge 150, 3) := by decide +kernel
theorem dX7_ask_41 : decode cX7_ask 41 = .ok (.iconst 0, 1) := by decide +kernel
theorem dX7_ask_42 : decode cX7_ask 42 = .ok (.istore 6, 2) := by decide +kernel
theorem dX7_ask_44 : decode cX7_ask 44 = .ok (.iconst 0, 1) := by decide +kernel
theorem dX7_ask_45 : decode cX7_ask 45 = .ok (.istore 7, 2) := by decide +kernel
theorem dX7_ask_47 : decode cX7_ask 47 = .ok (.iload 7, 2) := by decide +kernel
theorem dX7_ask_49 : decode cX7_ask 49 = .ok (.bipush 8, 2) := by decide +kernel
theorem dX7_ask_51 : decode cX7_ask 51 = .ok (.if_icmp .gt 103, 3) := by decide +kernel
theorem dX7_ask_54 : decode cX7_ask 54 = .ok (.iconst 0, 1) := by decide +kernel
theorem dX7_ask_55 : decode cX7_ask 55 = .ok (.istore 8, 2) := by decide +kernel
theorem dX7_ask_57 : decode cX7_ask 57 = .ok (.iconst 0, 1) := by decide +kernel
theorem dX7_ask_58 : decode cX7_ask 58 = .ok (.istore 9, 2) := by decide +kernel
theorem dX7_ask_60 : decode cX7_ask 60 = .ok (.iload 9, 2) := by decide +kernel
theorem dX7_ask_62 : decode cX7_ask 62 = .ok (.bipush 8, 2) := by decide +kernel
theorem dX7_ask_64 : decode cX7_ask 64 = .ok (.if_icmp .gt 68, 3) := by decide +kernel
theorem dX7_ask_67 : decode cX7_ask 67 = .ok (.iload_n 2, 1) := by decide +kernel
theorem dX7_ask_68 : decode cX7_ask 68 = .ok (.iload 7, 2) := by decide +kernel
theorem dX7_ask_70 : decode cX7_ask 70 = .ok (.ishr, 1) := by decide +kernel
theorem dX7_ask_71 : decode cX7_ask 71 = .ok (.iconst 1, 1) := by decide +kernel
theorem dX7_ask_72 : decode cX7_ask 72 = .ok (.iand, 1) := by decide +kernel
theorem dX7_ask_73 : decode cX7_ask 73 = .ok (.iconst 1, 1) := by decide +kernel
theorem dX7_ask_74 : decode cX7_ask 74 = .ok (.if_icmp .ne 58, 3) := by decide +kernel
theorem dX7_ask_77 : decode cX7_ask 77 = .ok (.iload 8, 2) := by decide +kernel
theorem dX7_ask_79 : decode cX7_ask 79 = .ok (.iload_n 2, 1) := by decide +kernel
theorem dX7_ask_80 : decode cX7_ask 80 = .ok (.iload 9, 2) := by decide +kernel
theorem dX7_ask_82 : decode cX7_ask 82 = .ok (.ishr, 1) := by decide +kernel
theorem dX7_ask_83 : decode cX7_ask 83 = .ok (.iconst 1, 1) := by decide +kernel
theorem dX7_ask_84 : decode cX7_ask 84 = .ok (.iand, 1) := by decide +kernel
theorem dX7_ask_85 : decode cX7_ask 85 = .ok (.iconst 1, 1) := by decide +kernel
theorem dX7_ask_86 : decode cX7_ask 86 = .ok (.if_icmp .ne 36, 3) := by decide +kernel
theorem dX7_ask_89 : decode cX7_ask 89 = .ok (.aload_n 0, 1) := by decide +kernel
theorem dX7_ask_90 : decode cX7_ask 90 = .ok (.getfield 31, 3) := by decide +kernel
theorem dX7_ask_93 : decode cX7_ask 93 = .ok (.bipush 6, 2) := by decide +kernel
theorem dX7_ask_95 : decode cX7_ask 95 = .ok (.iload 7, 2) := by decide +kernel
theorem dX7_ask_97 : decode cX7_ask 97 = .ok (.imul, 1) := by decide +kernel
theorem dX7_ask_98 : decode cX7_ask 98 = .ok (.iload 5, 2) := by decide +kernel
theorem dX7_ask_100 : decode cX7_ask 100 = .ok (.iadd, 1) := by decide +kernel
theorem dX7_ask_101 : decode cX7_ask 101 = .ok (.iaload, 1) := by decide +kernel
theorem dX7_ask_102 : decode cX7_ask 102 = .ok (.aload_n 0, 1) := by decide +kernel
theorem dX7_ask_103 : decode cX7_ask 103 = .ok (.getfield 31, 3) := by decide +kernel
theorem dX7_ask_106 : decode cX7_ask 106 = .ok (.bipush 6, 2) := by decide +kernel
theorem dX7_ask_108 : decode cX7_ask 108 = .ok (.iload 9, 2) := by decide +kernel
theorem dX7_ask_110 : decode cX7_ask 110 = .ok (.imul, 1) := by decide +kernel
theorem dX7_ask_111 : decode cX7_ask 111 = .ok (.iload 5, 2) := by decide +kernel
theorem dX7_ask_113 : decode cX7_ask 113 = .ok (.iadd, 1) := by decide +kernel
theorem dX7_ask_114 : decode cX7_ask 114 = .ok (.iaload, 1) := by decide +kernel
theorem dX7_ask_115 : decode cX7_ask 115 = .ok (.if_icmp .ne 7, 3) := by decide +kernel
theorem dX7_ask_118 : decode cX7_ask 118 = .ok (.iconst 1, 1) := by decide +kernel
theorem dX7_ask_119 : decode cX7_ask 119 = .ok (.goto 4, 3) := by decide +kernel
theorem dX7_ask_122 : decode cX7_ask 122 = .ok (.iconst 0, 1) := by decide +kernel
theorem dX7_ask_123 : decode cX7_ask 123 = .ok (.iadd, 1) := by decide +kernel
theorem dX7_ask_124 : decode cX7_ask 124 = .ok (.istore 8, 2) := by decide +kernel
theorem dX7_ask_126 : decode cX7_ask 126 = .ok (.iinc 9 1, 3) := by decide +kernel
theorem dX7_ask_129 : decode cX7_ask 129 = .ok (.goto (-69), 3) := by decide +kernel
theorem dX7_ask_132 : decode cX7_ask 132 = .ok (.iload 8, 2) := by decide +kernel
theorem dX7_ask_134 : decode cX7_ask 134 = .ok (.iload 6, 2) := by decide +kernel
theorem dX7_ask_136 : decode cX7_ask 136 = .ok (.if_icmp .le 8, 3) := by decide +kernel
theorem dX7_ask_139 : decode cX7_ask 139 = .ok (.iload 8, 2) := by decide +kernel
theorem dX7_ask_141 : decode cX7_ask 141 = .ok (.goto 5, 3) := by decide +kernel
theorem dX7_ask_144 : decode cX7_ask 144 = .ok (.iload 6, 2) := by decide +kernel
theorem dX7_ask_146 : decode cX7_ask 146 = .ok (.istore 6, 2) := by decide +kernel
theorem dX7_ask_148 : decode cX7_ask 148 = .ok (.iinc 7 1, 3) := by decide +kernel
theorem dX7_ask_151 : decode cX7_ask 151 = .ok (.goto (-104), 3) := by decide +kernel
theorem dX7_ask_154 : decode cX7_ask 154 = .ok (.iload 6, 2) := by decide +kernel
theorem dX7_ask_156 : decode cX7_ask 156 = .ok (.iload_n 3, 1) := by decide +kernel
theorem dX7_ask_157 : decode cX7_ask 157 = .ok (.if_icmp .ge 8, 3) := by decide +kernel
theorem dX7_ask_160 : decode cX7_ask 160 = .ok (.iload 5, 2) := by decide +kernel
theorem dX7_ask_162 : decode cX7_ask 162 = .ok (.goto 5, 3) := by decide +kernel
theorem dX7_ask_165 : decode cX7_ask 165 = .ok (.iload 4, 2) := by decide +kernel
theorem dX7_ask_167 : decode cX7_ask 167 = .ok (.istore 4, 2) := by decide +kernel
theorem dX7_ask_169 : decode cX7_ask 169 = .ok (.iload 6, 2) := by decide +kernel
theorem dX7_ask_171 : decode cX7_ask 171 = .ok (.iload_n 3, 1) := by decide +kernel
theorem dX7_ask_172 : decode cX7_ask 172 = .ok (.if_icmp .ge 8, 3) := by decide +kernel
theorem dX7_ask_175 : decode cX7_ask 175 = .ok (.iload 6, 2) := by decide +kernel
theorem dX7_ask_177 : decode cX7_ask 177 = .ok (.goto 4, 3) := by decide +kernel
theorem dX7_ask_180 : decode cX7_ask 180 = .ok (.iload_n 3, 1) := by decide +kernel
theorem dX7_ask_181 : decode cX7_ask 181 = .ok (.istore_n 3, 1) := by decide +kernel
theorem dX7_ask_182 : decode cX7_ask 182 = .ok (.iinc 5 1, 3) := by decide +kernel
theorem dX7_ask_185 : decode cX7_ask 185 = .ok (.goto (-156), 3) := by decide +kernel
theorem dX7_ask_188 : decode cX7_ask 188 = .ok (.iload 4, 2) := by decide +kernel
theorem dX7_ask_190 : decode cX7_ask 190 = .ok (.bipush (-4), 2) := by decide +kernel
theorem dX7_ask_192 : decode cX7_ask 192 = .ok (.if_icmp .eq 7, 3) := by decide +kernel
theorem dX7_ask_195 : decode cX7_ask 195 = .ok (.iload_n 1, 1) := by decide +kernel
theorem dX7_ask_196 : decode cX7_ask 196 = .ok (.ifCond .ne 8, 3) := by decide +kernel
theorem dX7_ask_199 : decode cX7_ask 199 = .ok (.iload 4, 2) := by decide +kernel
theorem dX7_ask_201 : decode cX7_ask 201 = .ok (.goto 4, 3) := by decide +kernel
theorem dX7_ask_204 : decode cX7_ask 204 = .ok (.iload_n 3, 1) := by decide +kernel
theorem dX7_ask_205 : decode cX7_ask 205 = .ok (.ireturn, 1) := by decide +kernel
theorem dX7_drift_0 : decode cX7_drift 0 = .ok (.iload_n 2, 1) := by decide +kernel
theorem dX7_drift_1 : decode cX7_drift 1 = .ok (.i2l, 1) := by decide +kernel
theorem dX7_drift_2 : decode cX7_drift 2 = .ok (.lconst 1, 1) := by decide +kernel
theorem dX7_drift_3 : decode cX7_drift 3 = .ok (.ldc2_w 234, 3) := by decide +kernel
theorem dX7_drift_6 : decode cX7_drift 6 = .ok (.invokestatic 49, 3) := by decide +kernel
theorem dX7_drift_9 : decode cX7_drift 9 = .ok (.ifCond .eq 13, 3) := by decide +kernel
theorem dX7_drift_12 : decode cX7_drift 12 = .ok (.iload_n 3, 1) := by decide +kernel
theorem dX7_drift_13 : decode cX7_drift 13 = .ok (.i2l, 1) := by decide +kernel
theorem dX7_drift_14 : decode cX7_drift 14 = .ok (.lconst 0, 1) := by decide +kernel
theorem dX7_drift_15 : decode cX7_drift 15 = .ok (.lconst 1, 1) := by decide +kernel
theorem dX7_drift_16 : decode cX7_drift 16 = .ok (.invokestatic 49, 3) := by decide +kernel
theorem dX7_drift_19 : decode cX7_drift 19 = .ok (.ifCond .ne 5, 3) := by decide +kernel
theorem dX7_drift_22 : decode cX7_drift 22 = .ok (.iconst (-1), 1) := by decide +kernel
theorem dX7_drift_23 : decode cX7_drift 23 = .ok (.ireturn, 1) := by decide +kernel
theorem dX7_drift_24 : decode cX7_drift 24 = .ok (.aload_n 0, 1) := by decide +kernel
theorem dX7_drift_25 : decode cX7_drift 25 = .ok (.iconst 0, 1) := by decide +kernel
theorem dX7_drift_26 : decode cX7_drift 26 = .ok (.sipush 144, 3) := by decide +kernel
theorem dX7_drift_29 : decode cX7_drift 29 = .ok (.invokevirtual 209, 3) := by decide +kernel
theorem dX7_drift_32 : decode cX7_drift 32 = .ok (.iload_n 1, 1) := by decide +kernel
theorem dX7_drift_33 : decode cX7_drift 33 = .ok (.istore 4, 2) := by decide +kernel
theorem dX7_drift_35 : decode cX7_drift 35 = .ok (.iconst 0, 1) := by decide +kernel
theorem dX7_drift_36 : decode cX7_drift 36 = .ok (.istore 5, 2) := by decide +kernel
theorem dX7_drift_38 : decode cX7_drift 38 = .ok (.iconst 0, 1) := by decide +kernel
theorem dX7_drift_39 : decode cX7_drift 39 = .ok (.istore 6, 2) := by decide +kernel
theorem dX7_drift_41 : decode cX7_drift 41 = .ok (.iconst 0, 1) := by decide +kernel
theorem dX7_drift_42 : decode cX7_drift 42 = .ok (.istore 7, 2) := by decide +kernel
theorem dX7_drift_44 : decode cX7_drift 44 = .ok (.iload 7, 2) := by decide +kernel
theorem dX7_drift_46 : decode cX7_drift 46 = .ok (.iload_n 2, 1) := by decide +kernel
theorem dX7_drift_47 : decode cX7_drift 47 = .ok (.if_icmp .ge 87, 3) := by decide +kernel
theorem dX7_drift_50 : decode cX7_drift 50 = .ok (.iload 4, 2) := by decide +kernel
theorem dX7_drift_52 : decode cX7_drift 52 = .ok (.ldc 236, 2) := by decide +kernel
theorem dX7_drift_54 : decode cX7_drift 54 = .ok (.imul, 1) := by decide +kernel
theorem dX7_drift_55 : decode cX7_drift 55 = .ok (.sipush 12345, 3) := by decide +kernel
theorem dX7_drift_58 : decode cX7_drift 58 = .ok (.iadd, 1) := by decide +kernel
theorem dX7_drift_59 : decode cX7_drift 59 = .ok (.istore 4, 2) := by decide +kernel
theorem dX7_drift_61 : decode cX7_drift 61 = .ok (.iload 4, 2) := by decide +kernel
theorem dX7_drift_63 : decode cX7_drift 63 = .ok (.bipush 16, 2) := by decide +kernel
theorem dX7_drift_65 : decode cX7_drift 65 = .ok (.ishr, 1) := by decide +kernel
theorem dX7_drift_66 : decode cX7_drift 66 = .ok (.sipush 32767, 3) := by decide +kernel
theorem dX7_drift_69 : decode cX7_drift 69 = .ok (.iand, 1) := by decide +kernel
theorem dX7_drift_70 : decode cX7_drift 70 = .ok (.istore 8, 2) := by decide +kernel
theorem dX7_drift_72 : decode cX7_drift 72 = .ok (.aload_n 0, 1) := by decide +kernel
theorem dX7_drift_73 : decode cX7_drift 73 = .ok (.getfield 7, 3) := by decide +kernel
theorem dX7_drift_76 : decode cX7_drift 76 = .ok (.sipush 178, 3) := by decide +kernel
theorem dX7_drift_79 : decode cX7_drift 79 = .ok (.iload 8, 2) := by decide +kernel
theorem dX7_drift_81 : decode cX7_drift 81 = .ok (.bipush 9, 2) := by decide +kernel
theorem dX7_drift_83 : decode cX7_drift 83 = .ok (.irem, 1) := by decide +kernel
theorem dX7_drift_84 : decode cX7_drift 84 = .ok (.iconst 4, 1) := by decide +kernel
theorem dX7_drift_85 : decode cX7_drift 85 = .ok (.isub, 1) := by decide +kernel
theorem dX7_drift_86 : decode cX7_drift 86 = .ok (.iastore, 1) := by decide +kernel
theorem dX7_drift_87 : decode cX7_drift 87 = .ok (.aload_n 0, 1) := by decide +kernel
theorem dX7_drift_88 : decode cX7_drift 88 = .ok (.getfield 7, 3) := by decide +kernel
theorem dX7_drift_91 : decode cX7_drift 91 = .ok (.sipush 179, 3) := by decide +kernel
theorem dX7_drift_94 : decode cX7_drift 94 = .ok (.iload 8, 2) := by decide +kernel
theorem dX7_drift_96 : decode cX7_drift 96 = .ok (.bipush 16, 2) := by decide +kernel
theorem dX7_drift_98 : decode cX7_drift 98 = .ok (.idiv, 1) := by decide +kernel
theorem dX7_drift_99 : decode cX7_drift 99 = .ok (.bipush 10, 2) := by decide +kernel
theorem dX7_drift_101 : decode cX7_drift 101 = .ok (.irem, 1) := by decide +kernel
theorem dX7_drift_102 : decode cX7_drift 102 = .ok (.iastore, 1) := by decide +kernel
theorem dX7_drift_103 : decode cX7_drift 103 = .ok (.aload_n 0, 1) := by decide +kernel
theorem dX7_drift_104 : decode cX7_drift 104 = .ok (.sipush 144, 3) := by decide +kernel
theorem dX7_drift_107 : decode cX7_drift 107 = .ok (.invokevirtual 165, 3) := by decide +kernel
theorem dX7_drift_110 : decode cX7_drift 110 = .ok (.iload 5, 2) := by decide +kernel
theorem dX7_drift_112 : decode cX7_drift 112 = .ok (.aload_n 0, 1) := by decide +kernel
theorem dX7_drift_113 : decode cX7_drift 113 = .ok (.getfield 155, 3) := by decide +kernel
theorem dX7_drift_116 : decode cX7_drift 116 = .ok (.iadd, 1) := by decide +kernel
theorem dX7_drift_117 : decode cX7_drift 117 = .ok (.istore 5, 2) := by decide +kernel
theorem dX7_drift_119 : decode cX7_drift 119 = .ok (.iload 6, 2) := by decide +kernel
theorem dX7_drift_121 : decode cX7_drift 121 = .ok (.aload_n 0, 1) := by decide +kernel
theorem dX7_drift_122 : decode cX7_drift 122 = .ok (.getfield 149, 3) := by decide +kernel
theorem dX7_drift_125 : decode cX7_drift 125 = .ok (.iadd, 1) := by decide +kernel
theorem dX7_drift_126 : decode cX7_drift 126 = .ok (.istore 6, 2) := by decide +kernel
theorem dX7_drift_128 : decode cX7_drift 128 = .ok (.iinc 7 1, 3) := by decide +kernel
theorem dX7_drift_131 : decode cX7_drift 131 = .ok (.goto (-87), 3) := by decide +kernel
theorem dX7_drift_134 : decode cX7_drift 134 = .ok (.iload_n 3, 1) := by decide +kernel
theorem dX7_drift_135 : decode cX7_drift 135 = .ok (.ifCond .ne 8, 3) := by decide +kernel
theorem dX7_drift_138 : decode cX7_drift 138 = .ok (.iload 5, 2) := by decide +kernel
theorem dX7_drift_140 : decode cX7_drift 140 = .ok (.goto 5, 3) := by decide +kernel
theorem dX7_drift_143 : decode cX7_drift 143 = .ok (.iload 6, 2) := by decide +kernel
theorem dX7_drift_145 : decode cX7_drift 145 = .ok (.ireturn, 1) := by decide +kernel
theorem dX7_keep_0 : decode cX7_keep 0 = .ok (.iload_n 1, 1) := by decide +kernel
theorem dX7_keep_1 : decode cX7_keep 1 = .ok (.i2l, 1) := by decide +kernel
theorem dX7_keep_2 : decode cX7_keep 2 = .ok (.lconst 0, 1) := by decide +kernel
theorem dX7_keep_3 : decode cX7_keep 3 = .ok (.lconst 1, 1) := by decide +kernel
theorem dX7_keep_4 : decode cX7_keep 4 = .ok (.invokestatic 49, 3) := by decide +kernel
theorem dX7_keep_7 : decode cX7_keep 7 = .ok (.ifCond .ne 5, 3) := by decide +kernel
theorem dX7_keep_10 : decode cX7_keep 10 = .ok (.iconst (-1), 1) := by decide +kernel
theorem dX7_keep_11 : decode cX7_keep 11 = .ok (.ireturn, 1) := by decide +kernel
theorem dX7_keep_12 : decode cX7_keep 12 = .ok (.aload_n 0, 1) := by decide +kernel
theorem dX7_keep_13 : decode cX7_keep 13 = .ok (.iconst 0, 1) := by decide +kernel
theorem dX7_keep_14 : decode cX7_keep 14 = .ok (.bipush 36, 2) := by decide +kernel
theorem dX7_keep_16 : decode cX7_keep 16 = .ok (.iload_n 1, 1) := by decide +kernel
theorem dX7_keep_17 : decode cX7_keep 17 = .ok (.iconst 1, 1) := by decide +kernel
theorem dX7_keep_18 : decode cX7_keep 18 = .ok (.iadd, 1) := by decide +kernel
theorem dX7_keep_19 : decode cX7_keep 19 = .ok (.imul, 1) := by decide +kernel
theorem dX7_keep_20 : decode cX7_keep 20 = .ok (.invokevirtual 209, 3) := by decide +kernel
theorem dX7_keep_23 : decode cX7_keep 23 = .ok (.aload_n 0, 1) := by decide +kernel
theorem dX7_keep_24 : decode cX7_keep 24 = .ok (.getfield 34, 3) := by decide +kernel
theorem dX7_keep_27 : decode cX7_keep 27 = .ok (.iload_n 1, 1) := by decide +kernel
theorem dX7_keep_28 : decode cX7_keep 28 = .ok (.baload, 1) := by decide +kernel
theorem dX7_keep_29 : decode cX7_keep 29 = .ok (.ifCond .eq 7, 3) := by decide +kernel
theorem dX7_keep_32 : decode cX7_keep 32 = .ok (.iconst 1, 1) := by decide +kernel
theorem dX7_keep_33 : decode cX7_keep 33 = .ok (.goto 4, 3) := by decide +kernel
theorem dX7_keep_36 : decode cX7_keep 36 = .ok (.iconst 0, 1) := by decide +kernel
theorem dX7_keep_37 : decode cX7_keep 37 = .ok (.istore_n 2, 1) := by decide +kernel
theorem dX7_keep_38 : decode cX7_keep 38 = .ok (.aload_n 0, 1) := by decide +kernel
theorem dX7_keep_39 : decode cX7_keep 39 = .ok (.getfield 34, 3) := by decide +kernel
theorem dX7_keep_42 : decode cX7_keep 42 = .ok (.iload_n 1, 1) := by decide +kernel
theorem dX7_keep_43 : decode cX7_keep 43 = .ok (.iconst 1, 1) := by decide +kernel
theorem dX7_keep_44 : decode cX7_keep 44 = .ok (.bastore, 1) := by decide +kernel
theorem dX7_keep_45 : decode cX7_keep 45 = .ok (.iload_n 2, 1) := by decide +kernel
theorem dX7_keep_46 : decode cX7_keep 46 = .ok (.ireturn, 1) := by decide +kernel
theorem dX7_back_0 : decode cX7_back 0 = .ok (.iload_n 1, 1) := by decide +kernel
theorem dX7_back_1 : decode cX7_back 1 = .ok (.i2l, 1) := by decide +kernel
theorem dX7_back_2 : decode cX7_back 2 = .ok (.lconst 0, 1) := by decide +kernel
theorem dX7_back_3 : decode cX7_back 3 = .ok (.lconst 1, 1) := by decide +kernel
theorem dX7_back_4 : decode cX7_back 4 = .ok (.invokestatic 49, 3) := by decide +kernel
theorem dX7_back_7 : decode cX7_back 7 = .ok (.ifCond .ne 5, 3) := by decide +kernel
theorem dX7_back_10 : decode cX7_back 10 = .ok (.iconst (-1), 1) := by decide +kernel
theorem dX7_back_11 : decode cX7_back 11 = .ok (.ireturn, 1) := by decide +kernel
theorem dX7_back_12 : decode cX7_back 12 = .ok (.aload_n 0, 1) := by decide +kernel
theorem dX7_back_13 : decode cX7_back 13 = .ok (.getfield 34, 3) := by decide +kernel
theorem dX7_back_16 : decode cX7_back 16 = .ok (.iload_n 1, 1) := by decide +kernel
theorem dX7_back_17 : decode cX7_back 17 = .ok (.baload, 1) := by decide +kernel
theorem dX7_back_18 : decode cX7_back 18 = .ok (.ifCond .ne 6, 3) := by decide +kernel
theorem dX7_back_21 : decode cX7_back 21 = .ok (.bipush (-2), 2) := by decide +kernel
theorem dX7_back_23 : decode cX7_back 23 = .ok (.ireturn, 1) := by decide +kernel
theorem dX7_back_24 : decode cX7_back 24 = .ok (.aload_n 0, 1) := by decide +kernel
theorem dX7_back_25 : decode cX7_back 25 = .ok (.bipush 36, 2) := by decide +kernel
theorem dX7_back_27 : decode cX7_back 27 = .ok (.iload_n 1, 1) := by decide +kernel
theorem dX7_back_28 : decode cX7_back 28 = .ok (.iconst 1, 1) := by decide +kernel
theorem dX7_back_29 : decode cX7_back 29 = .ok (.iadd, 1) := by decide +kernel
theorem dX7_back_30 : decode cX7_back 30 = .ok (.imul, 1) := by decide +kernel
theorem dX7_back_31 : decode cX7_back 31 = .ok (.iconst 0, 1) := by decide +kernel
theorem dX7_back_32 : decode cX7_back 32 = .ok (.invokevirtual 209, 3) := by decide +kernel
theorem dX7_back_35 : decode cX7_back 35 = .ok (.aload_n 0, 1) := by decide +kernel
theorem dX7_back_36 : decode cX7_back 36 = .ok (.getfield 7, 3) := by decide +kernel
theorem dX7_back_39 : decode cX7_back 39 = .ok (.bipush 24, 2) := by decide +kernel
theorem dX7_back_41 : decode cX7_back 41 = .ok (.iaload, 1) := by decide +kernel
theorem dX7_back_42 : decode cX7_back 42 = .ok (.ireturn, 1) := by decide +kernel
theorem dX7_sheet_0 : decode cX7_sheet 0 = .ok (.iload_n 1, 1) := by decide +kernel
theorem dX7_sheet_1 : decode cX7_sheet 1 = .ok (.i2l, 1) := by decide +kernel
theorem dX7_sheet_2 : decode cX7_sheet 2 = .ok (.lconst 0, 1) := by decide +kernel
theorem dX7_sheet_3 : decode cX7_sheet 3 = .ok (.ldc2_w 181, 3) := by decide +kernel
theorem dX7_sheet_6 : decode cX7_sheet 6 = .ok (.invokestatic 49, 3) := by decide +kernel
theorem dX7_sheet_9 : decode cX7_sheet 9 = .ok (.ifCond .eq 21, 3) := by decide +kernel
theorem dX7_sheet_12 : decode cX7_sheet 12 = .ok (.iload_n 2, 1) := by decide +kernel
theorem dX7_sheet_13 : decode cX7_sheet 13 = .ok (.i2l, 1) := by decide +kernel
theorem dX7_sheet_14 : decode cX7_sheet 14 = .ok (.lconst 0, 1) := by decide +kernel
theorem dX7_sheet_15 : decode cX7_sheet 15 = .ok (.ldc2_w 237, 3) := by decide +kernel
theorem dX7_sheet_18 : decode cX7_sheet 18 = .ok (.invokestatic 49, 3) := by decide +kernel
theorem dX7_sheet_21 : decode cX7_sheet 21 = .ok (.ifCond .eq 9, 3) := by decide +kernel
theorem dX7_sheet_24 : decode cX7_sheet 24 = .ok (.iload_n 3, 1) := by decide +kernel
theorem dX7_sheet_25 : decode cX7_sheet 25 = .ok (.bipush 40, 2) := by decide +kernel
theorem dX7_sheet_27 : decode cX7_sheet 27 = .ok (.if_icmp .le 5, 3) := by decide +kernel
theorem dX7_sheet_30 : decode cX7_sheet 30 = .ok (.iconst (-1), 1) := by decide +kernel
theorem dX7_sheet_31 : decode cX7_sheet 31 = .ok (.ireturn, 1) := by decide +kernel
theorem dX7_sheet_32 : decode cX7_sheet 32 = .ok (.iload_n 3, 1) := by decide +kernel
theorem dX7_sheet_33 : decode cX7_sheet 33 = .ok (.ifCond .ge 6, 3) := by decide +kernel
theorem dX7_sheet_36 : decode cX7_sheet 36 = .ok (.bipush (-14), 2) := by decide +kernel
theorem dX7_sheet_38 : decode cX7_sheet 38 = .ok (.ireturn, 1) := by decide +kernel
theorem dX7_sheet_39 : decode cX7_sheet 39 = .ok (.aload_n 0, 1) := by decide +kernel
theorem dX7_sheet_40 : decode cX7_sheet 40 = .ok (.getfield 38, 3) := by decide +kernel
theorem dX7_sheet_43 : decode cX7_sheet 43 = .ok (.iload_n 1, 1) := by decide +kernel
theorem dX7_sheet_44 : decode cX7_sheet 44 = .ok (.iload_n 2, 1) := by decide +kernel
theorem dX7_sheet_45 : decode cX7_sheet 45 = .ok (.iastore, 1) := by decide +kernel
theorem dX7_sheet_46 : decode cX7_sheet 46 = .ok (.aload_n 0, 1) := by decide +kernel
theorem dX7_sheet_47 : decode cX7_sheet 47 = .ok (.getfield 41, 3) := by decide +kernel
theorem dX7_sheet_50 : decode cX7_sheet 50 = .ok (.iload_n 1, 1) := by decide +kernel
theorem dX7_sheet_51 : decode cX7_sheet 51 = .ok (.iload_n 3, 1) := by decide +kernel
theorem dX7_sheet_52 : decode cX7_sheet 52 = .ok (.iastore, 1) := by decide +kernel
theorem dX7_sheet_53 : decode cX7_sheet 53 = .ok (.iconst 0, 1) := by decide +kernel
theorem dX7_sheet_54 : decode cX7_sheet 54 = .ok (.istore 4, 2) := by decide +kernel
theorem dX7_sheet_56 : decode cX7_sheet 56 = .ok (.iload 4, 2) := by decide +kernel
theorem dX7_sheet_58 : decode cX7_sheet 58 = .ok (.bipush 40, 2) := by decide +kernel
theorem dX7_sheet_60 : decode cX7_sheet 60 = .ok (.if_icmp .ge 22, 3) := by decide +kernel
theorem dX7_sheet_63 : decode cX7_sheet 63 = .ok (.aload_n 0, 1) := by decide +kernel
theorem dX7_sheet_64 : decode cX7_sheet 64 = .ok (.getfield 44, 3) := by decide +kernel
theorem dX7_sheet_67 : decode cX7_sheet 67 = .ok (.bipush 40, 2) := by decide +kernel
theorem dX7_sheet_69 : decode cX7_sheet 69 = .ok (.iload_n 1, 1) := by decide +kernel
theorem dX7_sheet_70 : decode cX7_sheet 70 = .ok (.imul, 1) := by decide +kernel
theorem dX7_sheet_71 : decode cX7_sheet 71 = .ok (.iload 4, 2) := by decide +kernel
theorem dX7_sheet_73 : decode cX7_sheet 73 = .ok (.iadd, 1) := by decide +kernel
theorem dX7_sheet_74 : decode cX7_sheet 74 = .ok (.iconst 0, 1) := by decide +kernel
theorem dX7_sheet_75 : decode cX7_sheet 75 = .ok (.iastore, 1) := by decide +kernel
theorem dX7_sheet_76 : decode cX7_sheet 76 = .ok (.iinc 4 1, 3) := by decide +kernel
theorem dX7_sheet_79 : decode cX7_sheet 79 = .ok (.goto (-23), 3) := by decide +kernel
theorem dX7_sheet_82 : decode cX7_sheet 82 = .ok (.iconst 1, 1) := by decide +kernel
theorem dX7_sheet_83 : decode cX7_sheet 83 = .ok (.ireturn, 1) := by decide +kernel
theorem dX7_lay_0 : decode cX7_lay 0 = .ok (.iload_n 1, 1) := by decide +kernel
theorem dX7_lay_1 : decode cX7_lay 1 = .ok (.i2l, 1) := by decide +kernel
theorem dX7_lay_2 : decode cX7_lay 2 = .ok (.lconst 0, 1) := by decide +kernel
theorem dX7_lay_3 : decode cX7_lay 3 = .ok (.ldc2_w 181, 3) := by decide +kernel
theorem dX7_lay_6 : decode cX7_lay 6 = .ok (.invokestatic 49, 3) := by decide +kernel
theorem dX7_lay_9 : decode cX7_lay 9 = .ok (.ifCond .ne 5, 3) := by decide +kernel
theorem dX7_lay_12 : decode cX7_lay 12 = .ok (.iconst (-1), 1) := by decide +kernel
theorem dX7_lay_13 : decode cX7_lay 13 = .ok (.ireturn, 1) := by decide +kernel
theorem dX7_lay_14 : decode cX7_lay 14 = .ok (.aload_n 0, 1) := by decide +kernel
theorem dX7_lay_15 : decode cX7_lay 15 = .ok (.getfield 38, 3) := by decide +kernel
theorem dX7_lay_18 : decode cX7_lay 18 = .ok (.iload_n 1, 1) := by decide +kernel
theorem dX7_lay_19 : decode cX7_lay 19 = .ok (.iaload, 1) := by decide +kernel
theorem dX7_lay_20 : decode cX7_lay 20 = .ok (.bipush (-4), 2) := by decide +kernel
theorem dX7_lay_22 : decode cX7_lay 22 = .ok (.if_icmp .ne 6, 3) := by decide +kernel
theorem dX7_lay_25 : decode cX7_lay 25 = .ok (.bipush (-11), 2) := by decide +kernel
theorem dX7_lay_27 : decode cX7_lay 27 = .ok (.ireturn, 1) := by decide +kernel
theorem dX7_lay_28 : decode cX7_lay 28 = .ok (.iload_n 2, 1) := by decide +kernel
theorem dX7_lay_29 : decode cX7_lay 29 = .ok (.i2l, 1) := by decide +kernel
theorem dX7_lay_30 : decode cX7_lay 30 = .ok (.lconst 0, 1) := by decide +kernel
theorem dX7_lay_31 : decode cX7_lay 31 = .ok (.aload_n 0, 1) := by decide +kernel
theorem dX7_lay_32 : decode cX7_lay 32 = .ok (.getfield 41, 3) := by decide +kernel
theorem dX7_lay_35 : decode cX7_lay 35 = .ok (.iload_n 1, 1) := by decide +kernel
theorem dX7_lay_36 : decode cX7_lay 36 = .ok (.iaload, 1) := by decide +kernel
theorem dX7_lay_37 : decode cX7_lay 37 = .ok (.iconst 1, 1) := by decide +kernel
theorem dX7_lay_38 : decode cX7_lay 38 = .ok (.isub, 1) := by decide +kernel
theorem dX7_lay_39 : decode cX7_lay 39 = .ok (.i2l, 1) := by decide +kernel
theorem dX7_lay_40 : decode cX7_lay 40 = .ok (.invokestatic 49, 3) := by decide +kernel
theorem dX7_lay_43 : decode cX7_lay 43 = .ok (.ifCond .ne 6, 3) := by decide +kernel
theorem dX7_lay_46 : decode cX7_lay 46 = .ok (.bipush (-12), 2) := by decide +kernel
theorem dX7_lay_48 : decode cX7_lay 48 = .ok (.ireturn, 1) := by decide +kernel
theorem dX7_lay_49 : decode cX7_lay 49 = .ok (.aload_n 0, 1) := by decide +kernel
theorem dX7_lay_50 : decode cX7_lay 50 = .ok (.getfield 44, 3) := by decide +kernel
theorem dX7_lay_53 : decode cX7_lay 53 = .ok (.bipush 40, 2) := by decide +kernel
theorem dX7_lay_55 : decode cX7_lay 55 = .ok (.iload_n 1, 1) := by decide +kernel
theorem dX7_lay_56 : decode cX7_lay 56 = .ok (.imul, 1) := by decide +kernel
theorem dX7_lay_57 : decode cX7_lay 57 = .ok (.iload_n 2, 1) := by decide +kernel
theorem dX7_lay_58 : decode cX7_lay 58 = .ok (.iadd, 1) := by decide +kernel
theorem dX7_lay_59 : decode cX7_lay 59 = .ok (.aload_n 0, 1) := by decide +kernel
theorem dX7_lay_60 : decode cX7_lay 60 = .ok (.getfield 38, 3) := by decide +kernel
theorem dX7_lay_63 : decode cX7_lay 63 = .ok (.iload_n 1, 1) := by decide +kernel
theorem dX7_lay_64 : decode cX7_lay 64 = .ok (.iaload, 1) := by decide +kernel
theorem dX7_lay_65 : decode cX7_lay 65 = .ok (.ifCond .ne 13, 3) := by decide +kernel
theorem dX7_lay_68 : decode cX7_lay 68 = .ok (.iload_n 3, 1) := by decide +kernel
theorem dX7_lay_69 : decode cX7_lay 69 = .ok (.bipush 24, 2) := by decide +kernel
theorem dX7_lay_71 : decode cX7_lay 71 = .ok (.ishl, 1) := by decide +kernel
theorem dX7_lay_72 : decode cX7_lay 72 = .ok (.bipush 24, 2) := by decide +kernel
theorem dX7_lay_74 : decode cX7_lay 74 = .ok (.ishr, 1) := by decide +kernel
theorem dX7_lay_75 : decode cX7_lay 75 = .ok (.goto 24, 3) := by decide +kernel
theorem dX7_lay_78 : decode cX7_lay 78 = .ok (.aload_n 0, 1) := by decide +kernel
theorem dX7_lay_79 : decode cX7_lay 79 = .ok (.getfield 38, 3) := by decide +kernel
theorem dX7_lay_82 : decode cX7_lay 82 = .ok (.iload_n 1, 1) := by decide +kernel
theorem dX7_lay_83 : decode cX7_lay 83 = .ok (.iaload, 1) := by decide +kernel
theorem dX7_lay_84 : decode cX7_lay 84 = .ok (.iconst 1, 1) := by decide +kernel
theorem dX7_lay_85 : decode cX7_lay 85 = .ok (.if_icmp .ne 13, 3) := by decide +kernel
theorem dX7_lay_88 : decode cX7_lay 88 = .ok (.iload_n 3, 1) := by decide +kernel
theorem dX7_lay_89 : decode cX7_lay 89 = .ok (.bipush 16, 2) := by decide +kernel
theorem dX7_lay_91 : decode cX7_lay 91 = .ok (.ishl, 1) := by decide +kernel
theorem dX7_lay_92 : decode cX7_lay 92 = .ok (.bipush 16, 2) := by decide +kernel
theorem dX7_lay_94 : decode cX7_lay 94 = .ok (.ishr, 1) := by decide +kernel
theorem dX7_lay_95 : decode cX7_lay 95 = .ok (.goto 4, 3) := by decide +kernel
theorem dX7_lay_98 : decode cX7_lay 98 = .ok (.iload_n 3, 1) := by decide +kernel
theorem dX7_lay_99 : decode cX7_lay 99 = .ok (.iastore, 1) := by decide +kernel
theorem dX7_lay_100 : decode cX7_lay 100 = .ok (.iconst 1, 1) := by decide +kernel
theorem dX7_lay_101 : decode cX7_lay 101 = .ok (.ireturn, 1) := by decide +kernel
theorem dX7_read_0 : decode cX7_read 0 = .ok (.iload_n 1, 1) := by decide +kernel
theorem dX7_read_1 : decode cX7_read 1 = .ok (.i2l, 1) := by decide +kernel
theorem dX7_read_2 : decode cX7_read 2 = .ok (.lconst 0, 1) := by decide +kernel
theorem dX7_read_3 : decode cX7_read 3 = .ok (.ldc2_w 181, 3) := by decide +kernel
theorem dX7_read_6 : decode cX7_read 6 = .ok (.invokestatic 49, 3) := by decide +kernel
theorem dX7_read_9 : decode cX7_read 9 = .ok (.ifCond .eq 28, 3) := by decide +kernel
theorem dX7_read_12 : decode cX7_read 12 = .ok (.iload_n 2, 1) := by decide +kernel
theorem dX7_read_13 : decode cX7_read 13 = .ok (.i2l, 1) := by decide +kernel
theorem dX7_read_14 : decode cX7_read 14 = .ok (.lconst 0, 1) := by decide +kernel
theorem dX7_read_15 : decode cX7_read 15 = .ok (.ldc2_w 237, 3) := by decide +kernel
theorem dX7_read_18 : decode cX7_read 18 = .ok (.invokestatic 49, 3) := by decide +kernel
theorem dX7_read_21 : decode cX7_read 21 = .ok (.ifCond .eq 16, 3) := by decide +kernel
theorem dX7_read_24 : decode cX7_read 24 = .ok (.iload 4, 2) := by decide +kernel
theorem dX7_read_26 : decode cX7_read 26 = .ok (.i2l, 1) := by decide +kernel
theorem dX7_read_27 : decode cX7_read 27 = .ok (.lconst 0, 1) := by decide +kernel
theorem dX7_read_28 : decode cX7_read 28 = .ok (.ldc2_w 216, 3) := by decide +kernel
theorem dX7_read_31 : decode cX7_read 31 = .ok (.invokestatic 49, 3) := by decide +kernel
theorem dX7_read_34 : decode cX7_read 34 = .ok (.ifCond .ne 5, 3) := by decide +kernel
theorem dX7_read_37 : decode cX7_read 37 = .ok (.iconst (-1), 1) := by decide +kernel
theorem dX7_read_38 : decode cX7_read 38 = .ok (.ireturn, 1) := by decide +kernel
theorem dX7_read_39 : decode cX7_read 39 = .ok (.aload_n 0, 1) := by decide +kernel
theorem dX7_read_40 : decode cX7_read 40 = .ok (.iconst 0, 1) := by decide +kernel
theorem dX7_read_41 : decode cX7_read 41 = .ok (.bipush 108, 2) := by decide +kernel
theorem dX7_read_43 : decode cX7_read 43 = .ok (.invokevirtual 209, 3) := by decide +kernel
theorem dX7_read_46 : decode cX7_read 46 = .ok (.iconst 0, 1) := by decide +kernel
theorem dX7_read_47 : decode cX7_read 47 = .ok (.istore 5, 2) := by decide +kernel
theorem dX7_read_49 : decode cX7_read 49 = .ok (.iconst 0, 1) := by decide +kernel
theorem dX7_read_50 : decode cX7_read 50 = .ok (.istore 6, 2) := by decide +kernel
theorem dX7_read_52 : decode cX7_read 52 = .ok (.iconst 0, 1) := by decide +kernel
theorem dX7_read_53 : decode cX7_read 53 = .ok (.istore 7, 2) := by decide +kernel
theorem dX7_read_55 : decode cX7_read 55 = .ok (.iload 7, 2) := by decide +kernel
theorem dX7_read_57 : decode cX7_read 57 = .ok (.iconst 4, 1) := by decide +kernel
theorem dX7_read_58 : decode cX7_read 58 = .ok (.iload 4, 2) := by decide +kernel
theorem dX7_read_60 : decode cX7_read 60 = .ok (.imul, 1) := by decide +kernel
theorem dX7_read_61 : decode cX7_read 61 = .ok (.if_icmp .ge 153, 3) := by decide +kernel
theorem dX7_read_64 : decode cX7_read 64 = .ok (.iload 5, 2) := by decide +kernel
theorem dX7_read_66 : decode cX7_read 66 = .ok (.ifCond .ne 148, 3) := by decide +kernel
theorem dX7_read_69 : decode cX7_read 69 = .ok (.aload_n 0, 1) := by decide +kernel
theorem dX7_read_70 : decode cX7_read 70 = .ok (.getfield 38, 3) := by decide +kernel
theorem dX7_read_73 : decode cX7_read 73 = .ok (.iload_n 1, 1) := by decide +kernel
theorem dX7_read_74 : decode cX7_read 74 = .ok (.iaload, 1) := by decide +kernel
theorem dX7_read_75 : decode cX7_read 75 = .ok (.bipush (-4), 2) := by decide +kernel
theorem dX7_read_77 : decode cX7_read 77 = .ok (.if_icmp .ne 7, 3) := by decide +kernel
theorem dX7_read_80 : decode cX7_read 80 = .ok (.iconst 1, 1) := by decide +kernel
theorem dX7_read_81 : decode cX7_read 81 = .ok (.goto 44, 3) := by decide +kernel
theorem dX7_read_84 : decode cX7_read 84 = .ok (.aload_n 0, 1) := by decide +kernel
theorem dX7_read_85 : decode cX7_read 85 = .ok (.getfield 38, 3) := by decide +kernel
theorem dX7_read_88 : decode cX7_read 88 = .ok (.iload_n 1, 1) := by decide +kernel
theorem dX7_read_89 : decode cX7_read 89 = .ok (.iaload, 1) := by decide +kernel
theorem dX7_read_90 : decode cX7_read 90 = .ok (.iload_n 2, 1) := by decide +kernel
theorem dX7_read_91 : decode cX7_read 91 = .ok (.if_icmp .eq 7, 3) := by decide +kernel
theorem dX7_read_94 : decode cX7_read 94 = .ok (.iconst 3, 1) := by decide +kernel
theorem dX7_read_95 : decode cX7_read 95 = .ok (.goto 30, 3) := by decide +kernel
theorem dX7_read_98 : decode cX7_read 98 = .ok (.iload_n 3, 1) := by decide +kernel
theorem dX7_read_99 : decode cX7_read 99 = .ok (.i2l, 1) := by decide +kernel
theorem dX7_read_100 : decode cX7_read 100 = .ok (.iload 7, 2) := by decide +kernel
theorem dX7_read_102 : decode cX7_read 102 = .ok (.i2l, 1) := by decide +kernel
theorem dX7_read_103 : decode cX7_read 103 = .ok (.ladd, 1) := by decide +kernel
theorem dX7_read_104 : decode cX7_read 104 = .ok (.lconst 0, 1) := by decide +kernel
theorem dX7_read_105 : decode cX7_read 105 = .ok (.aload_n 0, 1) := by decide +kernel
theorem dX7_read_106 : decode cX7_read 106 = .ok (.getfield 41, 3) := by decide +kernel
theorem dX7_read_109 : decode cX7_read 109 = .ok (.iload_n 1, 1) := by decide +kernel
theorem dX7_read_110 : decode cX7_read 110 = .ok (.iaload, 1) := by decide +kernel
theorem dX7_read_111 : decode cX7_read 111 = .ok (.iconst 1, 1) := by decide +kernel
theorem dX7_read_112 : decode cX7_read 112 = .ok (.isub, 1) := by decide +kernel
theorem dX7_read_113 : decode cX7_read 113 = .ok (.i2l, 1) := by decide +kernel
theorem dX7_read_114 : decode cX7_read 114 = .ok (.invokestatic 49, 3) := by decide +kernel
theorem dX7_read_117 : decode cX7_read 117 = .ok (.ifCond .ne 7, 3) := by decide +kernel
theorem dX7_read_120 : decode cX7_read 120 = .ok (.iconst 2, 1) := by decide +kernel
theorem dX7_read_121 : decode cX7_read 121 = .ok (.goto 4, 3) := by decide +kernel
theorem dX7_read_124 : decode cX7_read 124 = .ok (.iconst 0, 1) := by decide +kernel
theorem dX7_read_125 : decode cX7_read 125 = .ok (.istore 5, 2) := by decide +kernel
theorem dX7_read_127 : decode cX7_read 127 = .ok (.iload 5, 2) := by decide +kernel
theorem dX7_read_129 : decode cX7_read 129 = .ok (.ifCond .ne 79, 3) := by decide +kernel
theorem dX7_read_132 : decode cX7_read 132 = .ok (.iload 7, 2) := by decide +kernel
theorem dX7_read_134 : decode cX7_read 134 = .ok (.iconst 4, 1) := by decide +kernel
theorem dX7_read_135 : decode cX7_read 135 = .ok (.irem, 1) := by decide +kernel
theorem dX7_read_136 : decode cX7_read 136 = .ok (.iconst 3, 1) := by decide +kernel
theorem dX7_read_137 : decode cX7_read 137 = .ok (.if_icmp .ne 71, 3) := by decide +kernel
theorem dX7_read_140 : decode cX7_read 140 = .ok (.bipush 40, 2) := by decide +kernel
theorem dX7_read_142 : decode cX7_read 142 = .ok (.iload_n 1, 1) := by decide +kernel
theorem dX7_read_143 : decode cX7_read 143 = .ok (.imul, 1) := by decide +kernel
theorem dX7_read_144 : decode cX7_read 144 = .ok (.iload_n 3, 1) := by decide +kernel
theorem dX7_read_145 : decode cX7_read 145 = .ok (.iadd, 1) := by decide +kernel
theorem dX7_read_146 : decode cX7_read 146 = .ok (.iload 7, 2) := by decide +kernel
theorem dX7_read_148 : decode cX7_read 148 = .ok (.iadd, 1) := by decide +kernel
theorem dX7_read_149 : decode cX7_read 149 = .ok (.istore 8, 2) := by decide +kernel
theorem dX7_read_151 : decode cX7_read 151 = .ok (.aload_n 0, 1) := by decide +kernel
theorem dX7_read_152 : decode cX7_read 152 = .ok (.aload_n 0, 1) := by decide +kernel
theorem dX7_read_153 : decode cX7_read 153 = .ok (.getfield 44, 3) := by decide +kernel
theorem dX7_read_156 : decode cX7_read 156 = .ok (.iload 8, 2) := by decide +kernel
theorem dX7_read_158 : decode cX7_read 158 = .ok (.iconst 3, 1) := by decide +kernel
theorem dX7_read_159 : decode cX7_read 159 = .ok (.isub, 1) := by decide +kernel
theorem dX7_read_160 : decode cX7_read 160 = .ok (.iaload, 1) := by decide +kernel
theorem dX7_read_161 : decode cX7_read 161 = .ok (.aload_n 0, 1) := by decide +kernel
theorem dX7_read_162 : decode cX7_read 162 = .ok (.getfield 44, 3) := by decide +kernel
theorem dX7_read_165 : decode cX7_read 165 = .ok (.iload 8, 2) := by decide +kernel
theorem dX7_read_167 : decode cX7_read 167 = .ok (.iconst 2, 1) := by decide +kernel
theorem dX7_read_168 : decode cX7_read 168 = .ok (.isub, 1) := by decide +kernel
theorem dX7_read_169 : decode cX7_read 169 = .ok (.iaload, 1) := by decide +kernel
theorem dX7_read_170 : decode cX7_read 170 = .ok (.aload_n 0, 1) := by decide +kernel
theorem dX7_read_171 : decode cX7_read 171 = .ok (.getfield 44, 3) := by decide +kernel
theorem dX7_read_174 : decode cX7_read 174 = .ok (.iload 8, 2) := by decide +kernel
theorem dX7_read_176 : decode cX7_read 176 = .ok (.iconst 1, 1) := by decide +kernel
theorem dX7_read_177 : decode cX7_read 177 = .ok (.isub, 1) := by decide +kernel
theorem dX7_read_178 : decode cX7_read 178 = .ok (.iaload, 1) := by decide +kernel
theorem dX7_read_179 : decode cX7_read 179 = .ok (.aload_n 0, 1) := by decide +kernel
theorem dX7_read_180 : decode cX7_read 180 = .ok (.getfield 44, 3) := by decide +kernel
theorem dX7_read_183 : decode cX7_read 183 = .ok (.iload 8, 2) := by decide +kernel
theorem dX7_read_185 : decode cX7_read 185 = .ok (.iaload, 1) := by decide +kernel
theorem dX7_read_186 : decode cX7_read 186 = .ok (.invokevirtual 205, 3) := by decide +kernel
theorem dX7_read_189 : decode cX7_read 189 = .ok (.ifCond .ge 16, 3) := by decide +kernel
theorem dX7_read_192 : decode cX7_read 192 = .ok (.aload_n 0, 1) := by decide +kernel
theorem dX7_read_193 : decode cX7_read 193 = .ok (.bipush 108, 2) := by decide +kernel
theorem dX7_read_195 : decode cX7_read 195 = .ok (.iconst 0, 1) := by decide +kernel
theorem dX7_read_196 : decode cX7_read 196 = .ok (.invokevirtual 209, 3) := by decide +kernel
theorem dX7_read_199 : decode cX7_read 199 = .ok (.bipush (-20), 2) := by decide +kernel
theorem dX7_read_201 : decode cX7_read 201 = .ok (.iload 6, 2) := by decide +kernel
theorem dX7_read_203 : decode cX7_read 203 = .ok (.isub, 1) := by decide +kernel
theorem dX7_read_204 : decode cX7_read 204 = .ok (.ireturn, 1) := by decide +kernel
theorem dX7_read_205 : decode cX7_read 205 = .ok (.iinc 6 1, 3) := by decide +kernel
theorem dX7_read_208 : decode cX7_read 208 = .ok (.iinc 7 1, 3) := by decide +kernel
theorem dX7_read_211 : decode cX7_read 211 = .ok (.goto (-156), 3) := by decide +kernel
theorem dX7_read_214 : decode cX7_read 214 = .ok (.aload_n 0, 1) := by decide +kernel
theorem dX7_read_215 : decode cX7_read 215 = .ok (.iload 5, 2) := by decide +kernel
theorem dX7_read_217 : decode cX7_read 217 = .ok (.putfield 239, 3) := by decide +kernel
theorem dX7_read_220 : decode cX7_read 220 = .ok (.iload 6, 2) := by decide +kernel
theorem dX7_read_222 : decode cX7_read 222 = .ok (.ireturn, 1) := by decide +kernel
