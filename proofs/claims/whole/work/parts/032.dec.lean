theorem dX6_stand_0 : decode cX6_stand 0 = .ok (.aload_n 0, 1) := by decide +kernel
theorem dX6_stand_1 : decode cX6_stand 1 = .ok (.getfield 10, 3) := by decide +kernel
theorem dX6_stand_4 : decode cX6_stand 4 = .ok (.iload_n 1, 1) := by decide +kernel
theorem dX6_stand_5 : decode cX6_stand 5 = .ok (.invokevirtual 138, 3) := by decide +kernel
theorem dX6_stand_8 : decode cX6_stand 8 = .ok (.ifCond .eq 12, 3) := by decide +kernel
theorem dX6_stand_11 : decode cX6_stand 11 = .ok (.iload_n 2, 1) := by decide +kernel
theorem dX6_stand_12 : decode cX6_stand 12 = .ok (.iconst 0, 1) := by decide +kernel
theorem dX6_stand_13 : decode cX6_stand 13 = .ok (.iconst 1, 1) := by decide +kernel
theorem dX6_stand_14 : decode cX6_stand 14 = .ok (.invokestatic 57, 3) := by decide +kernel
theorem dX6_stand_17 : decode cX6_stand 17 = .ok (.ifCond .ne 5, 3) := by decide +kernel
theorem dX6_stand_20 : decode cX6_stand 20 = .ok (.iconst (-1), 1) := by decide +kernel
theorem dX6_stand_21 : decode cX6_stand 21 = .ok (.ireturn, 1) := by decide +kernel
theorem dX6_stand_22 : decode cX6_stand 22 = .ok (.aload_n 0, 1) := by decide +kernel
theorem dX6_stand_23 : decode cX6_stand 23 = .ok (.getfield 19, 3) := by decide +kernel
theorem dX6_stand_26 : decode cX6_stand 26 = .ok (.aload_n 0, 1) := by decide +kernel
theorem dX6_stand_27 : decode cX6_stand 27 = .ok (.getfield 10, 3) := by decide +kernel
theorem dX6_stand_30 : decode cX6_stand 30 = .ok (.invokevirtual 104, 3) := by decide +kernel
theorem dX6_stand_33 : decode cX6_stand 33 = .ok (.aload_n 0, 1) := by decide +kernel
theorem dX6_stand_34 : decode cX6_stand 34 = .ok (.getfield 26, 3) := by decide +kernel
theorem dX6_stand_37 : decode cX6_stand 37 = .ok (.iconst (-1), 1) := by decide +kernel
theorem dX6_stand_38 : decode cX6_stand 38 = .ok (.invokevirtual 183, 3) := by decide +kernel
theorem dX6_stand_41 : decode cX6_stand 41 = .ok (.iconst 0, 1) := by decide +kernel
theorem dX6_stand_42 : decode cX6_stand 42 = .ok (.istore_n 3, 1) := by decide +kernel
theorem dX6_stand_43 : decode cX6_stand 43 = .ok (.iload_n 3, 1) := by decide +kernel
theorem dX6_stand_44 : decode cX6_stand 44 = .ok (.bipush 12, 2) := by decide +kernel
theorem dX6_stand_46 : decode cX6_stand 46 = .ok (.if_icmp .ge 38, 3) := by decide +kernel
theorem dX6_stand_49 : decode cX6_stand 49 = .ok (.aload_n 0, 1) := by decide +kernel
theorem dX6_stand_50 : decode cX6_stand 50 = .ok (.getfield 19, 3) := by decide +kernel
theorem dX6_stand_53 : decode cX6_stand 53 = .ok (.getfield 69, 3) := by decide +kernel
theorem dX6_stand_56 : decode cX6_stand 56 = .ok (.iload_n 1, 1) := by decide +kernel
theorem dX6_stand_57 : decode cX6_stand 57 = .ok (.iconst 0, 1) := by decide +kernel
theorem dX6_stand_58 : decode cX6_stand 58 = .ok (.iload_n 3, 1) := by decide +kernel
theorem dX6_stand_59 : decode cX6_stand 59 = .ok (.invokevirtual 170, 3) := by decide +kernel
theorem dX6_stand_62 : decode cX6_stand 62 = .ok (.aload_n 0, 1) := by decide +kernel
theorem dX6_stand_63 : decode cX6_stand 63 = .ok (.getfield 26, 3) := by decide +kernel
theorem dX6_stand_66 : decode cX6_stand 66 = .ok (.iload_n 3, 1) := by decide +kernel
theorem dX6_stand_67 : decode cX6_stand 67 = .ok (.aload_n 0, 1) := by decide +kernel
theorem dX6_stand_68 : decode cX6_stand 68 = .ok (.getfield 19, 3) := by decide +kernel
theorem dX6_stand_71 : decode cX6_stand 71 = .ok (.iload_n 1, 1) := by decide +kernel
theorem dX6_stand_72 : decode cX6_stand 72 = .ok (.invokevirtual 147, 3) := by decide +kernel
theorem dX6_stand_75 : decode cX6_stand 75 = .ok (.invokevirtual 190, 3) := by decide +kernel
theorem dX6_stand_78 : decode cX6_stand 78 = .ok (.iinc 3 1, 3) := by decide +kernel
theorem dX6_stand_81 : decode cX6_stand 81 = .ok (.goto (-38), 3) := by decide +kernel
theorem dX6_stand_84 : decode cX6_stand 84 = .ok (.aload_n 0, 1) := by decide +kernel
theorem dX6_stand_85 : decode cX6_stand 85 = .ok (.getfield 26, 3) := by decide +kernel
theorem dX6_stand_88 : decode cX6_stand 88 = .ok (.iload_n 2, 1) := by decide +kernel
theorem dX6_stand_89 : decode cX6_stand 89 = .ok (.invokevirtual 194, 3) := by decide +kernel
theorem dX6_stand_92 : decode cX6_stand 92 = .ok (.ireturn, 1) := by decide +kernel
theorem dX6_swap_0 : decode cX6_swap 0 = .ok (.iload_n 1, 1) := by decide +kernel
theorem dX6_swap_1 : decode cX6_swap 1 = .ok (.iconst 0, 1) := by decide +kernel
theorem dX6_swap_2 : decode cX6_swap 2 = .ok (.iconst 1, 1) := by decide +kernel
theorem dX6_swap_3 : decode cX6_swap 3 = .ok (.invokestatic 57, 3) := by decide +kernel
theorem dX6_swap_6 : decode cX6_swap 6 = .ok (.ifCond .ne 5, 3) := by decide +kernel
theorem dX6_swap_9 : decode cX6_swap 9 = .ok (.iconst (-1), 1) := by decide +kernel
theorem dX6_swap_10 : decode cX6_swap 10 = .ok (.ireturn, 1) := by decide +kernel
theorem dX6_swap_11 : decode cX6_swap 11 = .ok (.aload_n 0, 1) := by decide +kernel
theorem dX6_swap_12 : decode cX6_swap 12 = .ok (.getfield 19, 3) := by decide +kernel
theorem dX6_swap_15 : decode cX6_swap 15 = .ok (.aload_n 0, 1) := by decide +kernel
theorem dX6_swap_16 : decode cX6_swap 16 = .ok (.getfield 10, 3) := by decide +kernel
theorem dX6_swap_19 : decode cX6_swap 19 = .ok (.invokevirtual 104, 3) := by decide +kernel
theorem dX6_swap_22 : decode cX6_swap 22 = .ok (.aload_n 0, 1) := by decide +kernel
theorem dX6_swap_23 : decode cX6_swap 23 = .ok (.getfield 26, 3) := by decide +kernel
theorem dX6_swap_26 : decode cX6_swap 26 = .ok (.aload_n 0, 1) := by decide +kernel
theorem dX6_swap_27 : decode cX6_swap 27 = .ok (.getfield 19, 3) := by decide +kernel
theorem dX6_swap_30 : decode cX6_swap 30 = .ok (.invokevirtual 107, 3) := by decide +kernel
theorem dX6_swap_33 : decode cX6_swap 33 = .ok (.invokevirtual 183, 3) := by decide +kernel
theorem dX6_swap_36 : decode cX6_swap 36 = .ok (.iconst 0, 1) := by decide +kernel
theorem dX6_swap_37 : decode cX6_swap 37 = .ok (.istore_n 2, 1) := by decide +kernel
theorem dX6_swap_38 : decode cX6_swap 38 = .ok (.iload_n 2, 1) := by decide +kernel
theorem dX6_swap_39 : decode cX6_swap 39 = .ok (.aload_n 0, 1) := by decide +kernel
theorem dX6_swap_40 : decode cX6_swap 40 = .ok (.getfield 10, 3) := by decide +kernel
theorem dX6_swap_43 : decode cX6_swap 43 = .ok (.getfield 92, 3) := by decide +kernel
theorem dX6_swap_46 : decode cX6_swap 46 = .ok (.if_icmp .ge 49, 3) := by decide +kernel
theorem dX6_swap_49 : decode cX6_swap 49 = .ok (.iload_n 2, 1) := by decide +kernel
theorem dX6_swap_50 : decode cX6_swap 50 = .ok (.iconst 1, 1) := by decide +kernel
theorem dX6_swap_51 : decode cX6_swap 51 = .ok (.iadd, 1) := by decide +kernel
theorem dX6_swap_52 : decode cX6_swap 52 = .ok (.istore_n 3, 1) := by decide +kernel
theorem dX6_swap_53 : decode cX6_swap 53 = .ok (.iload_n 3, 1) := by decide +kernel
theorem dX6_swap_54 : decode cX6_swap 54 = .ok (.aload_n 0, 1) := by decide +kernel
theorem dX6_swap_55 : decode cX6_swap 55 = .ok (.getfield 10, 3) := by decide +kernel
theorem dX6_swap_58 : decode cX6_swap 58 = .ok (.getfield 92, 3) := by decide +kernel
theorem dX6_swap_61 : decode cX6_swap 61 = .ok (.if_icmp .ge 28, 3) := by decide +kernel
theorem dX6_swap_64 : decode cX6_swap 64 = .ok (.aload_n 0, 1) := by decide +kernel
theorem dX6_swap_65 : decode cX6_swap 65 = .ok (.getfield 26, 3) := by decide +kernel
theorem dX6_swap_68 : decode cX6_swap 68 = .ok (.bipush 10, 2) := by decide +kernel
theorem dX6_swap_70 : decode cX6_swap 70 = .ok (.iload_n 2, 1) := by decide +kernel
theorem dX6_swap_71 : decode cX6_swap 71 = .ok (.imul, 1) := by decide +kernel
theorem dX6_swap_72 : decode cX6_swap 72 = .ok (.iload_n 3, 1) := by decide +kernel
theorem dX6_swap_73 : decode cX6_swap 73 = .ok (.iadd, 1) := by decide +kernel
theorem dX6_swap_74 : decode cX6_swap 74 = .ok (.aload_n 0, 1) := by decide +kernel
theorem dX6_swap_75 : decode cX6_swap 75 = .ok (.iload_n 2, 1) := by decide +kernel
theorem dX6_swap_76 : decode cX6_swap 76 = .ok (.iload_n 3, 1) := by decide +kernel
theorem dX6_swap_77 : decode cX6_swap 77 = .ok (.invokevirtual 209, 3) := by decide +kernel
theorem dX6_swap_80 : decode cX6_swap 80 = .ok (.invokevirtual 190, 3) := by decide +kernel
theorem dX6_swap_83 : decode cX6_swap 83 = .ok (.iinc 3 1, 3) := by decide +kernel
theorem dX6_swap_86 : decode cX6_swap 86 = .ok (.goto (-33), 3) := by decide +kernel
theorem dX6_swap_89 : decode cX6_swap 89 = .ok (.iinc 2 1, 3) := by decide +kernel
theorem dX6_swap_92 : decode cX6_swap 92 = .ok (.goto (-54), 3) := by decide +kernel
theorem dX6_swap_95 : decode cX6_swap 95 = .ok (.aload_n 0, 1) := by decide +kernel
theorem dX6_swap_96 : decode cX6_swap 96 = .ok (.getfield 26, 3) := by decide +kernel
theorem dX6_swap_99 : decode cX6_swap 99 = .ok (.iload_n 1, 1) := by decide +kernel
theorem dX6_swap_100 : decode cX6_swap 100 = .ok (.invokevirtual 194, 3) := by decide +kernel
theorem dX6_swap_103 : decode cX6_swap 103 = .ok (.ireturn, 1) := by decide +kernel
theorem dX6_minutesIfSwapped_0 : decode cX6_minutesIfSwapped 0 = .ok (.aload_n 0, 1) := by decide +kernel
theorem dX6_minutesIfSwapped_1 : decode cX6_minutesIfSwapped 1 = .ok (.getfield 19, 3) := by decide +kernel
theorem dX6_minutesIfSwapped_4 : decode cX6_minutesIfSwapped 4 = .ok (.getfield 69, 3) := by decide +kernel
theorem dX6_minutesIfSwapped_7 : decode cX6_minutesIfSwapped 7 = .ok (.aload_n 0, 1) := by decide +kernel
theorem dX6_minutesIfSwapped_8 : decode cX6_minutesIfSwapped 8 = .ok (.getfield 10, 3) := by decide +kernel
theorem dX6_minutesIfSwapped_11 : decode cX6_minutesIfSwapped 11 = .ok (.invokevirtual 82, 3) := by decide +kernel
theorem dX6_minutesIfSwapped_14 : decode cX6_minutesIfSwapped 14 = .ok (.aload_n 0, 1) := by decide +kernel
theorem dX6_minutesIfSwapped_15 : decode cX6_minutesIfSwapped 15 = .ok (.getfield 19, 3) := by decide +kernel
theorem dX6_minutesIfSwapped_18 : decode cX6_minutesIfSwapped 18 = .ok (.getfield 69, 3) := by decide +kernel
theorem dX6_minutesIfSwapped_21 : decode cX6_minutesIfSwapped 21 = .ok (.iload_n 1, 1) := by decide +kernel
theorem dX6_minutesIfSwapped_22 : decode cX6_minutesIfSwapped 22 = .ok (.iconst 2, 1) := by decide +kernel
theorem dX6_minutesIfSwapped_23 : decode cX6_minutesIfSwapped 23 = .ok (.aload_n 0, 1) := by decide +kernel
theorem dX6_minutesIfSwapped_24 : decode cX6_minutesIfSwapped 24 = .ok (.getfield 10, 3) := by decide +kernel
theorem dX6_minutesIfSwapped_27 : decode cX6_minutesIfSwapped 27 = .ok (.iload_n 2, 1) := by decide +kernel
theorem dX6_minutesIfSwapped_28 : decode cX6_minutesIfSwapped 28 = .ok (.iconst 2, 1) := by decide +kernel
theorem dX6_minutesIfSwapped_29 : decode cX6_minutesIfSwapped 29 = .ok (.invokevirtual 118, 3) := by decide +kernel
theorem dX6_minutesIfSwapped_32 : decode cX6_minutesIfSwapped 32 = .ok (.invokevirtual 163, 3) := by decide +kernel
theorem dX6_minutesIfSwapped_35 : decode cX6_minutesIfSwapped 35 = .ok (.aload_n 0, 1) := by decide +kernel
theorem dX6_minutesIfSwapped_36 : decode cX6_minutesIfSwapped 36 = .ok (.getfield 19, 3) := by decide +kernel
theorem dX6_minutesIfSwapped_39 : decode cX6_minutesIfSwapped 39 = .ok (.getfield 69, 3) := by decide +kernel
theorem dX6_minutesIfSwapped_42 : decode cX6_minutesIfSwapped 42 = .ok (.iload_n 2, 1) := by decide +kernel
theorem dX6_minutesIfSwapped_43 : decode cX6_minutesIfSwapped 43 = .ok (.iconst 2, 1) := by decide +kernel
theorem dX6_minutesIfSwapped_44 : decode cX6_minutesIfSwapped 44 = .ok (.aload_n 0, 1) := by decide +kernel
theorem dX6_minutesIfSwapped_45 : decode cX6_minutesIfSwapped 45 = .ok (.getfield 10, 3) := by decide +kernel
theorem dX6_minutesIfSwapped_48 : decode cX6_minutesIfSwapped 48 = .ok (.iload_n 1, 1) := by decide +kernel
theorem dX6_minutesIfSwapped_49 : decode cX6_minutesIfSwapped 49 = .ok (.iconst 2, 1) := by decide +kernel
theorem dX6_minutesIfSwapped_50 : decode cX6_minutesIfSwapped 50 = .ok (.invokevirtual 118, 3) := by decide +kernel
theorem dX6_minutesIfSwapped_53 : decode cX6_minutesIfSwapped 53 = .ok (.invokevirtual 163, 3) := by decide +kernel
theorem dX6_minutesIfSwapped_56 : decode cX6_minutesIfSwapped 56 = .ok (.aload_n 0, 1) := by decide +kernel
theorem dX6_minutesIfSwapped_57 : decode cX6_minutesIfSwapped 57 = .ok (.getfield 19, 3) := by decide +kernel
theorem dX6_minutesIfSwapped_60 : decode cX6_minutesIfSwapped 60 = .ok (.invokevirtual 201, 3) := by decide +kernel
theorem dX6_minutesIfSwapped_63 : decode cX6_minutesIfSwapped 63 = .ok (.aload_n 0, 1) := by decide +kernel
theorem dX6_minutesIfSwapped_64 : decode cX6_minutesIfSwapped 64 = .ok (.getfield 19, 3) := by decide +kernel
theorem dX6_minutesIfSwapped_67 : decode cX6_minutesIfSwapped 67 = .ok (.invokevirtual 107, 3) := by decide +kernel
theorem dX6_minutesIfSwapped_70 : decode cX6_minutesIfSwapped 70 = .ok (.ireturn, 1) := by decide +kernel
theorem dX6_lose_0 : decode cX6_lose 0 = .ok (.iload_n 1, 1) := by decide +kernel
theorem dX6_lose_1 : decode cX6_lose 1 = .ok (.iconst 0, 1) := by decide +kernel
theorem dX6_lose_2 : decode cX6_lose 2 = .ok (.iconst 1, 1) := by decide +kernel
theorem dX6_lose_3 : decode cX6_lose 3 = .ok (.invokestatic 57, 3) := by decide +kernel
theorem dX6_lose_6 : decode cX6_lose 6 = .ok (.ifCond .ne 5, 3) := by decide +kernel
theorem dX6_lose_9 : decode cX6_lose 9 = .ok (.iconst (-1), 1) := by decide +kernel
theorem dX6_lose_10 : decode cX6_lose 10 = .ok (.ireturn, 1) := by decide +kernel
theorem dX6_lose_11 : decode cX6_lose 11 = .ok (.aload_n 0, 1) := by decide +kernel
theorem dX6_lose_12 : decode cX6_lose 12 = .ok (.getfield 19, 3) := by decide +kernel
theorem dX6_lose_15 : decode cX6_lose 15 = .ok (.aload_n 0, 1) := by decide +kernel
theorem dX6_lose_16 : decode cX6_lose 16 = .ok (.getfield 10, 3) := by decide +kernel
theorem dX6_lose_19 : decode cX6_lose 19 = .ok (.invokevirtual 104, 3) := by decide +kernel
theorem dX6_lose_22 : decode cX6_lose 22 = .ok (.aload_n 0, 1) := by decide +kernel
theorem dX6_lose_23 : decode cX6_lose 23 = .ok (.getfield 26, 3) := by decide +kernel
theorem dX6_lose_26 : decode cX6_lose 26 = .ok (.aload_n 0, 1) := by decide +kernel
theorem dX6_lose_27 : decode cX6_lose 27 = .ok (.getfield 19, 3) := by decide +kernel
theorem dX6_lose_30 : decode cX6_lose 30 = .ok (.invokevirtual 111, 3) := by decide +kernel
theorem dX6_lose_33 : decode cX6_lose 33 = .ok (.invokevirtual 183, 3) := by decide +kernel
theorem dX6_lose_36 : decode cX6_lose 36 = .ok (.iconst 0, 1) := by decide +kernel
theorem dX6_lose_37 : decode cX6_lose 37 = .ok (.istore_n 2, 1) := by decide +kernel
theorem dX6_lose_38 : decode cX6_lose 38 = .ok (.iload_n 2, 1) := by decide +kernel
theorem dX6_lose_39 : decode cX6_lose 39 = .ok (.aload_n 0, 1) := by decide +kernel
theorem dX6_lose_40 : decode cX6_lose 40 = .ok (.getfield 10, 3) := by decide +kernel
theorem dX6_lose_43 : decode cX6_lose 43 = .ok (.getfield 92, 3) := by decide +kernel
theorem dX6_lose_46 : decode cX6_lose 46 = .ok (.if_icmp .ge 39, 3) := by decide +kernel
theorem dX6_lose_49 : decode cX6_lose 49 = .ok (.aload_n 0, 1) := by decide +kernel
theorem dX6_lose_50 : decode cX6_lose 50 = .ok (.getfield 19, 3) := by decide +kernel
theorem dX6_lose_53 : decode cX6_lose 53 = .ok (.invokevirtual 201, 3) := by decide +kernel
theorem dX6_lose_56 : decode cX6_lose 56 = .ok (.aload_n 0, 1) := by decide +kernel
theorem dX6_lose_57 : decode cX6_lose 57 = .ok (.getfield 19, 3) := by decide +kernel
theorem dX6_lose_60 : decode cX6_lose 60 = .ok (.iload_n 2, 1) := by decide +kernel
theorem dX6_lose_61 : decode cX6_lose 61 = .ok (.invokevirtual 212, 3) := by decide +kernel
theorem dX6_lose_64 : decode cX6_lose 64 = .ok (.aload_n 0, 1) := by decide +kernel
theorem dX6_lose_65 : decode cX6_lose 65 = .ok (.getfield 26, 3) := by decide +kernel
theorem dX6_lose_68 : decode cX6_lose 68 = .ok (.iload_n 2, 1) := by decide +kernel
theorem dX6_lose_69 : decode cX6_lose 69 = .ok (.aload_n 0, 1) := by decide +kernel
theorem dX6_lose_70 : decode cX6_lose 70 = .ok (.getfield 19, 3) := by decide +kernel
theorem dX6_lose_73 : decode cX6_lose 73 = .ok (.invokevirtual 111, 3) := by decide +kernel
theorem dX6_lose_76 : decode cX6_lose 76 = .ok (.invokevirtual 190, 3) := by decide +kernel
theorem dX6_lose_79 : decode cX6_lose 79 = .ok (.iinc 2 1, 3) := by decide +kernel
theorem dX6_lose_82 : decode cX6_lose 82 = .ok (.goto (-44), 3) := by decide +kernel
theorem dX6_lose_85 : decode cX6_lose 85 = .ok (.aload_n 0, 1) := by decide +kernel
theorem dX6_lose_86 : decode cX6_lose 86 = .ok (.getfield 26, 3) := by decide +kernel
theorem dX6_lose_89 : decode cX6_lose 89 = .ok (.iload_n 1, 1) := by decide +kernel
theorem dX6_lose_90 : decode cX6_lose 90 = .ok (.invokevirtual 194, 3) := by decide +kernel
theorem dX6_lose_93 : decode cX6_lose 93 = .ok (.ireturn, 1) := by decide +kernel
theorem dX6_need_0 : decode cX6_need 0 = .ok (.aload_n 0, 1) := by decide +kernel
theorem dX6_need_1 : decode cX6_need 1 = .ok (.getfield 10, 3) := by decide +kernel
theorem dX6_need_4 : decode cX6_need 4 = .ok (.iload_n 1, 1) := by decide +kernel
theorem dX6_need_5 : decode cX6_need 5 = .ok (.invokevirtual 114, 3) := by decide +kernel
theorem dX6_need_8 : decode cX6_need 8 = .ok (.ifCond .eq 14, 3) := by decide +kernel
theorem dX6_need_11 : decode cX6_need 11 = .ok (.aload_n 0, 1) := by decide +kernel
theorem dX6_need_12 : decode cX6_need 12 = .ok (.getfield 10, 3) := by decide +kernel
theorem dX6_need_15 : decode cX6_need 15 = .ok (.iload_n 2, 1) := by decide +kernel
theorem dX6_need_16 : decode cX6_need 16 = .ok (.invokevirtual 138, 3) := by decide +kernel
theorem dX6_need_19 : decode cX6_need 19 = .ok (.ifCond .ne 5, 3) := by decide +kernel
theorem dX6_need_22 : decode cX6_need 22 = .ok (.iconst (-1), 1) := by decide +kernel
theorem dX6_need_23 : decode cX6_need 23 = .ok (.ireturn, 1) := by decide +kernel
theorem dX6_need_24 : decode cX6_need 24 = .ok (.aload_n 0, 1) := by decide +kernel
theorem dX6_need_25 : decode cX6_need 25 = .ok (.getfield 19, 3) := by decide +kernel
theorem dX6_need_28 : decode cX6_need 28 = .ok (.aload_n 0, 1) := by decide +kernel
theorem dX6_need_29 : decode cX6_need 29 = .ok (.getfield 10, 3) := by decide +kernel
theorem dX6_need_32 : decode cX6_need 32 = .ok (.invokevirtual 104, 3) := by decide +kernel
theorem dX6_need_35 : decode cX6_need 35 = .ok (.getstatic 215, 3) := by decide +kernel
theorem dX6_need_38 : decode cX6_need 38 = .ok (.iconst 3, 1) := by decide +kernel
theorem dX6_need_39 : decode cX6_need 39 = .ok (.iaload, 1) := by decide +kernel
theorem dX6_need_40 : decode cX6_need 40 = .ok (.istore_n 3, 1) := by decide +kernel
theorem dX6_need_41 : decode cX6_need 41 = .ok (.iload_n 3, 1) := by decide +kernel
theorem dX6_need_42 : decode cX6_need 42 = .ok (.getstatic 197, 3) := by decide +kernel
theorem dX6_need_45 : decode cX6_need 45 = .ok (.iconst 3, 1) := by decide +kernel
theorem dX6_need_46 : decode cX6_need 46 = .ok (.iaload, 1) := by decide +kernel
theorem dX6_need_47 : decode cX6_need 47 = .ok (.if_icmp .gt 43, 3) := by decide +kernel
theorem dX6_need_50 : decode cX6_need 50 = .ok (.aload_n 0, 1) := by decide +kernel
theorem dX6_need_51 : decode cX6_need 51 = .ok (.getfield 19, 3) := by decide +kernel
theorem dX6_need_54 : decode cX6_need 54 = .ok (.getfield 69, 3) := by decide +kernel
theorem dX6_need_57 : decode cX6_need 57 = .ok (.iload_n 1, 1) := by decide +kernel
theorem dX6_need_58 : decode cX6_need 58 = .ok (.iconst 3, 1) := by decide +kernel
theorem dX6_need_59 : decode cX6_need 59 = .ok (.iload_n 3, 1) := by decide +kernel
theorem dX6_need_60 : decode cX6_need 60 = .ok (.invokevirtual 163, 3) := by decide +kernel
theorem dX6_need_63 : decode cX6_need 63 = .ok (.aload_n 0, 1) := by decide +kernel
theorem dX6_need_64 : decode cX6_need 64 = .ok (.getfield 19, 3) := by decide +kernel
theorem dX6_need_67 : decode cX6_need 67 = .ok (.invokevirtual 201, 3) := by decide +kernel
theorem dX6_need_70 : decode cX6_need 70 = .ok (.aload_n 0, 1) := by decide +kernel
theorem dX6_need_71 : decode cX6_need 71 = .ok (.getfield 19, 3) := by decide +kernel
theorem dX6_need_74 : decode cX6_need 74 = .ok (.iload_n 2, 1) := by decide +kernel
theorem dX6_need_75 : decode cX6_need 75 = .ok (.iload_n 1, 1) := by decide +kernel
theorem dX6_need_76 : decode cX6_need 76 = .ok (.invokevirtual 218, 3) := by decide +kernel
theorem dX6_need_79 : decode cX6_need 79 = .ok (.ifCond .eq 5, 3) := by decide +kernel
theorem dX6_need_82 : decode cX6_need 82 = .ok (.iload_n 3, 1) := by decide +kernel
theorem dX6_need_83 : decode cX6_need 83 = .ok (.ireturn, 1) := by decide +kernel
theorem dX6_need_84 : decode cX6_need 84 = .ok (.iinc 3 1, 3) := by decide +kernel
theorem dX6_need_87 : decode cX6_need 87 = .ok (.goto (-46), 3) := by decide +kernel
theorem dX6_need_90 : decode cX6_need 90 = .ok (.bipush (-4), 2) := by decide +kernel
theorem dX6_need_92 : decode cX6_need 92 = .ok (.ireturn, 1) := by decide +kernel
theorem dX6_dry_0 : decode cX6_dry 0 = .ok (.aload_n 0, 1) := by decide +kernel
theorem dX6_dry_1 : decode cX6_dry 1 = .ok (.getfield 10, 3) := by decide +kernel
theorem dX6_dry_4 : decode cX6_dry 4 = .ok (.iload_n 1, 1) := by decide +kernel
theorem dX6_dry_5 : decode cX6_dry 5 = .ok (.invokevirtual 138, 3) := by decide +kernel
theorem dX6_dry_8 : decode cX6_dry 8 = .ok (.ifCond .ne 5, 3) := by decide +kernel
theorem dX6_dry_11 : decode cX6_dry 11 = .ok (.iconst (-1), 1) := by decide +kernel
theorem dX6_dry_12 : decode cX6_dry 12 = .ok (.ireturn, 1) := by decide +kernel
theorem dX6_dry_13 : decode cX6_dry 13 = .ok (.aload_n 0, 1) := by decide +kernel
theorem dX6_dry_14 : decode cX6_dry 14 = .ok (.getfield 19, 3) := by decide +kernel
theorem dX6_dry_17 : decode cX6_dry 17 = .ok (.aload_n 0, 1) := by decide +kernel
theorem dX6_dry_18 : decode cX6_dry 18 = .ok (.getfield 10, 3) := by decide +kernel
theorem dX6_dry_21 : decode cX6_dry 21 = .ok (.invokevirtual 104, 3) := by decide +kernel
theorem dX6_dry_24 : decode cX6_dry 24 = .ok (.bipush 9, 2) := by decide +kernel
theorem dX6_dry_26 : decode cX6_dry 26 = .ok (.istore_n 2, 1) := by decide +kernel
theorem dX6_dry_27 : decode cX6_dry 27 = .ok (.iload_n 2, 1) := by decide +kernel
theorem dX6_dry_28 : decode cX6_dry 28 = .ok (.ifCond .lt 40, 3) := by decide +kernel
theorem dX6_dry_31 : decode cX6_dry 31 = .ok (.aload_n 0, 1) := by decide +kernel
theorem dX6_dry_32 : decode cX6_dry 32 = .ok (.getfield 19, 3) := by decide +kernel
theorem dX6_dry_35 : decode cX6_dry 35 = .ok (.getfield 69, 3) := by decide +kernel
theorem dX6_dry_38 : decode cX6_dry 38 = .ok (.iload_n 2, 1) := by decide +kernel
theorem dX6_dry_39 : decode cX6_dry 39 = .ok (.putfield 101, 3) := by decide +kernel
theorem dX6_dry_42 : decode cX6_dry 42 = .ok (.aload_n 0, 1) := by decide +kernel
theorem dX6_dry_43 : decode cX6_dry 43 = .ok (.getfield 19, 3) := by decide +kernel
theorem dX6_dry_46 : decode cX6_dry 46 = .ok (.invokevirtual 201, 3) := by decide +kernel
theorem dX6_dry_49 : decode cX6_dry 49 = .ok (.aload_n 0, 1) := by decide +kernel
theorem dX6_dry_50 : decode cX6_dry 50 = .ok (.getfield 19, 3) := by decide +kernel
theorem dX6_dry_53 : decode cX6_dry 53 = .ok (.iload_n 1, 1) := by decide +kernel
theorem dX6_dry_54 : decode cX6_dry 54 = .ok (.invokevirtual 147, 3) := by decide +kernel
theorem dX6_dry_57 : decode cX6_dry 57 = .ok (.ifCond .le 5, 3) := by decide +kernel
theorem dX6_dry_60 : decode cX6_dry 60 = .ok (.iload_n 2, 1) := by decide +kernel
theorem dX6_dry_61 : decode cX6_dry 61 = .ok (.ireturn, 1) := by decide +kernel
theorem dX6_dry_62 : decode cX6_dry 62 = .ok (.iinc 2 (-1), 3) := by decide +kernel
theorem dX6_dry_65 : decode cX6_dry 65 = .ok (.goto (-38), 3) := by decide +kernel
theorem dX6_dry_68 : decode cX6_dry 68 = .ok (.bipush (-4), 2) := by decide +kernel
theorem dX6_dry_70 : decode cX6_dry 70 = .ok (.ireturn, 1) := by decide +kernel
theorem dX6_kind_0 : decode cX6_kind 0 = .ok (.aload_n 0, 1) := by decide +kernel
theorem dX6_kind_1 : decode cX6_kind 1 = .ok (.getfield 10, 3) := by decide +kernel
theorem dX6_kind_4 : decode cX6_kind 4 = .ok (.iload_n 1, 1) := by decide +kernel
theorem dX6_kind_5 : decode cX6_kind 5 = .ok (.invokevirtual 114, 3) := by decide +kernel
theorem dX6_kind_8 : decode cX6_kind 8 = .ok (.ifCond .eq 12, 3) := by decide +kernel
theorem dX6_kind_11 : decode cX6_kind 11 = .ok (.iload_n 2, 1) := by decide +kernel
theorem dX6_kind_12 : decode cX6_kind 12 = .ok (.iconst 0, 1) := by decide +kernel
theorem dX6_kind_13 : decode cX6_kind 13 = .ok (.iconst 1, 1) := by decide +kernel
theorem dX6_kind_14 : decode cX6_kind 14 = .ok (.invokestatic 57, 3) := by decide +kernel
theorem dX6_kind_17 : decode cX6_kind 17 = .ok (.ifCond .ne 5, 3) := by decide +kernel
theorem dX6_kind_20 : decode cX6_kind 20 = .ok (.iconst (-1), 1) := by decide +kernel
theorem dX6_kind_21 : decode cX6_kind 21 = .ok (.ireturn, 1) := by decide +kernel
theorem dX6_kind_22 : decode cX6_kind 22 = .ok (.aload_n 0, 1) := by decide +kernel
theorem dX6_kind_23 : decode cX6_kind 23 = .ok (.getfield 19, 3) := by decide +kernel
theorem dX6_kind_26 : decode cX6_kind 26 = .ok (.aload_n 0, 1) := by decide +kernel
theorem dX6_kind_27 : decode cX6_kind 27 = .ok (.getfield 10, 3) := by decide +kernel
theorem dX6_kind_30 : decode cX6_kind 30 = .ok (.invokevirtual 104, 3) := by decide +kernel
theorem dX6_kind_33 : decode cX6_kind 33 = .ok (.aload_n 0, 1) := by decide +kernel
theorem dX6_kind_34 : decode cX6_kind 34 = .ok (.getfield 26, 3) := by decide +kernel
theorem dX6_kind_37 : decode cX6_kind 37 = .ok (.iconst (-1), 1) := by decide +kernel
theorem dX6_kind_38 : decode cX6_kind 38 = .ok (.invokevirtual 183, 3) := by decide +kernel
theorem dX6_kind_41 : decode cX6_kind 41 = .ok (.iconst 0, 1) := by decide +kernel
theorem dX6_kind_42 : decode cX6_kind 42 = .ok (.istore_n 3, 1) := by decide +kernel
theorem dX6_kind_43 : decode cX6_kind 43 = .ok (.iload_n 3, 1) := by decide +kernel
theorem dX6_kind_44 : decode cX6_kind 44 = .ok (.iconst 4, 1) := by decide +kernel
theorem dX6_kind_45 : decode cX6_kind 45 = .ok (.if_icmp .ge 45, 3) := by decide +kernel
theorem dX6_kind_48 : decode cX6_kind 48 = .ok (.aload_n 0, 1) := by decide +kernel
theorem dX6_kind_49 : decode cX6_kind 49 = .ok (.getfield 19, 3) := by decide +kernel
theorem dX6_kind_52 : decode cX6_kind 52 = .ok (.getfield 69, 3) := by decide +kernel
theorem dX6_kind_55 : decode cX6_kind 55 = .ok (.iload_n 1, 1) := by decide +kernel
theorem dX6_kind_56 : decode cX6_kind 56 = .ok (.iconst 0, 1) := by decide +kernel
theorem dX6_kind_57 : decode cX6_kind 57 = .ok (.iload_n 3, 1) := by decide +kernel
theorem dX6_kind_58 : decode cX6_kind 58 = .ok (.invokevirtual 163, 3) := by decide +kernel
theorem dX6_kind_61 : decode cX6_kind 61 = .ok (.aload_n 0, 1) := by decide +kernel
theorem dX6_kind_62 : decode cX6_kind 62 = .ok (.getfield 19, 3) := by decide +kernel
theorem dX6_kind_65 : decode cX6_kind 65 = .ok (.invokevirtual 201, 3) := by decide +kernel
theorem dX6_kind_68 : decode cX6_kind 68 = .ok (.aload_n 0, 1) := by decide +kernel
theorem dX6_kind_69 : decode cX6_kind 69 = .ok (.getfield 26, 3) := by decide +kernel
theorem dX6_kind_72 : decode cX6_kind 72 = .ok (.iload_n 3, 1) := by decide +kernel
theorem dX6_kind_73 : decode cX6_kind 73 = .ok (.aload_n 0, 1) := by decide +kernel
theorem dX6_kind_74 : decode cX6_kind 74 = .ok (.getfield 19, 3) := by decide +kernel
theorem dX6_kind_77 : decode cX6_kind 77 = .ok (.iload_n 1, 1) := by decide +kernel
theorem dX6_kind_78 : decode cX6_kind 78 = .ok (.invokevirtual 221, 3) := by decide +kernel
theorem dX6_kind_81 : decode cX6_kind 81 = .ok (.invokevirtual 190, 3) := by decide +kernel
theorem dX6_kind_84 : decode cX6_kind 84 = .ok (.iinc 3 1, 3) := by decide +kernel
theorem dX6_kind_87 : decode cX6_kind 87 = .ok (.goto (-44), 3) := by decide +kernel
theorem dX6_kind_90 : decode cX6_kind 90 = .ok (.aload_n 0, 1) := by decide +kernel
theorem dX6_kind_91 : decode cX6_kind 91 = .ok (.getfield 26, 3) := by decide +kernel
theorem dX6_kind_94 : decode cX6_kind 94 = .ok (.iload_n 2, 1) := by decide +kernel
theorem dX6_kind_95 : decode cX6_kind 95 = .ok (.invokevirtual 194, 3) := by decide +kernel
theorem dX6_kind_98 : decode cX6_kind 98 = .ok (.ireturn, 1) := by decide +kernel
theorem dX6_luck_0 : decode cX6_luck 0 = .ok (.iload_n 1, 1) := by decide +kernel
theorem dX6_luck_1 : decode cX6_luck 1 = .ok (.iconst 0, 1) := by decide +kernel
theorem dX6_luck_2 : decode cX6_luck 2 = .ok (.bipush 10, 2) := by decide +kernel
theorem dX6_luck_4 : decode cX6_luck 4 = .ok (.invokestatic 57, 3) := by decide +kernel
theorem dX6_luck_7 : decode cX6_luck 7 = .ok (.ifCond .eq 35, 3) := by decide +kernel
theorem dX6_luck_10 : decode cX6_luck 10 = .ok (.aload_n 0, 1) := by decide +kernel
theorem dX6_luck_11 : decode cX6_luck 11 = .ok (.getfield 10, 3) := by decide +kernel
theorem dX6_luck_14 : decode cX6_luck 14 = .ok (.iload_n 2, 1) := by decide +kernel
theorem dX6_luck_15 : decode cX6_luck 15 = .ok (.invokevirtual 138, 3) := by decide +kernel
theorem dX6_luck_18 : decode cX6_luck 18 = .ok (.ifCond .eq 24, 3) := by decide +kernel
theorem dX6_luck_21 : decode cX6_luck 21 = .ok (.aload_n 0, 1) := by decide +kernel
theorem dX6_luck_22 : decode cX6_luck 22 = .ok (.getfield 10, 3) := by decide +kernel
theorem dX6_luck_25 : decode cX6_luck 25 = .ok (.iload_n 3, 1) := by decide +kernel
theorem dX6_luck_26 : decode cX6_luck 26 = .ok (.invokevirtual 114, 3) := by decide +kernel
theorem dX6_luck_29 : decode cX6_luck 29 = .ok (.ifCond .eq 13, 3) := by decide +kernel
theorem dX6_luck_32 : decode cX6_luck 32 = .ok (.iload 4, 2) := by decide +kernel
theorem dX6_luck_34 : decode cX6_luck 34 = .ok (.iconst 0, 1) := by decide +kernel
theorem dX6_luck_35 : decode cX6_luck 35 = .ok (.iconst 1, 1) := by decide +kernel
theorem dX6_luck_36 : decode cX6_luck 36 = .ok (.invokestatic 57, 3) := by decide +kernel
theorem dX6_luck_39 : decode cX6_luck 39 = .ok (.ifCond .ne 7, 3) := by decide +kernel
theorem dX6_luck_42 : decode cX6_luck 42 = .ok (.ldc2_w 224, 3) := by decide +kernel
theorem dX6_luck_45 : decode cX6_luck 45 = .ok (.lreturn, 1) := by decide +kernel
theorem dX6_luck_46 : decode cX6_luck 46 = .ok (.aload_n 0, 1) := by decide +kernel
theorem dX6_luck_47 : decode cX6_luck 47 = .ok (.getfield 19, 3) := by decide +kernel
theorem dX6_luck_50 : decode cX6_luck 50 = .ok (.aload_n 0, 1) := by decide +kernel
theorem dX6_luck_51 : decode cX6_luck 51 = .ok (.getfield 10, 3) := by decide +kernel
theorem dX6_luck_54 : decode cX6_luck 54 = .ok (.invokevirtual 104, 3) := by decide +kernel
theorem dX6_luck_57 : decode cX6_luck 57 = .ok (.aload_n 0, 1) := by decide +kernel
theorem dX6_luck_58 : decode cX6_luck 58 = .ok (.getfield 19, 3) := by decide +kernel
theorem dX6_luck_61 : decode cX6_luck 61 = .ok (.iload_n 2, 1) := by decide +kernel
theorem dX6_luck_62 : decode cX6_luck 62 = .ok (.iload_n 3, 1) := by decide +kernel
theorem dX6_luck_63 : decode cX6_luck 63 = .ok (.invokevirtual 226, 3) := by decide +kernel
theorem dX6_luck_66 : decode cX6_luck 66 = .ok (.ifCond .ne 11, 3) := by decide +kernel
theorem dX6_luck_69 : decode cX6_luck 69 = .ok (.lconst 0, 1) := by decide +kernel
theorem dX6_luck_70 : decode cX6_luck 70 = .ok (.lconst 1, 1) := by decide +kernel
theorem dX6_luck_71 : decode cX6_luck 71 = .ok (.iload 4, 2) := by decide +kernel
theorem dX6_luck_73 : decode cX6_luck 73 = .ok (.invokestatic 229, 3) := by decide +kernel
theorem dX6_luck_76 : decode cX6_luck 76 = .ok (.lreturn, 1) := by decide +kernel
theorem dX6_luck_77 : decode cX6_luck 77 = .ok (.aload_n 0, 1) := by decide +kernel
theorem dX6_luck_78 : decode cX6_luck 78 = .ok (.getfield 19, 3) := by decide +kernel
theorem dX6_luck_81 : decode cX6_luck 81 = .ok (.iload_n 2, 1) := by decide +kernel
theorem dX6_luck_82 : decode cX6_luck 82 = .ok (.iload_n 3, 1) := by decide +kernel
theorem dX6_luck_83 : decode cX6_luck 83 = .ok (.invokevirtual 233, 3) := by decide +kernel
theorem dX6_luck_86 : decode cX6_luck 86 = .ok (.istore 5, 2) := by decide +kernel
theorem dX6_luck_88 : decode cX6_luck 88 = .ok (.bipush 10, 2) := by decide +kernel
theorem dX6_luck_90 : decode cX6_luck 90 = .ok (.iload_n 1, 1) := by decide +kernel
theorem dX6_luck_91 : decode cX6_luck 91 = .ok (.isub, 1) := by decide +kernel
theorem dX6_luck_92 : decode cX6_luck 92 = .ok (.i2l, 1) := by decide +kernel
theorem dX6_luck_93 : decode cX6_luck 93 = .ok (.iload_n 1, 1) := by decide +kernel
theorem dX6_luck_94 : decode cX6_luck 94 = .ok (.i2l, 1) := by decide +kernel
theorem dX6_luck_95 : decode cX6_luck 95 = .ok (.iload 5, 2) := by decide +kernel
theorem dX6_luck_97 : decode cX6_luck 97 = .ok (.invokestatic 236, 3) := by decide +kernel
theorem dX6_luck_100 : decode cX6_luck 100 = .ok (.lmul, 1) := by decide +kernel
theorem dX6_luck_101 : decode cX6_luck 101 = .ok (.ldc2_w 240, 3) := by decide +kernel
theorem dX6_luck_104 : decode cX6_luck 104 = .ok (.iload 5, 2) := by decide +kernel
theorem dX6_luck_106 : decode cX6_luck 106 = .ok (.iconst 1, 1) := by decide +kernel
theorem dX6_luck_107 : decode cX6_luck 107 = .ok (.iadd, 1) := by decide +kernel
theorem dX6_luck_108 : decode cX6_luck 108 = .ok (.invokestatic 236, 3) := by decide +kernel
theorem dX6_luck_111 : decode cX6_luck 111 = .ok (.iload 4, 2) := by decide +kernel
theorem dX6_luck_113 : decode cX6_luck 113 = .ok (.invokestatic 229, 3) := by decide +kernel
theorem dX6_luck_116 : decode cX6_luck 116 = .ok (.lreturn, 1) := by decide +kernel
theorem dX6_mean_0 : decode cX6_mean 0 = .ok (.iload_n 1, 1) := by decide +kernel
theorem dX6_mean_1 : decode cX6_mean 1 = .ok (.iconst 0, 1) := by decide +kernel
theorem dX6_mean_2 : decode cX6_mean 2 = .ok (.bipush 10, 2) := by decide +kernel
theorem dX6_mean_4 : decode cX6_mean 4 = .ok (.invokestatic 57, 3) := by decide +kernel
theorem dX6_mean_7 : decode cX6_mean 7 = .ok (.ifCond .eq 12, 3) := by decide +kernel
theorem dX6_mean_10 : decode cX6_mean 10 = .ok (.iload_n 2, 1) := by decide +kernel
theorem dX6_mean_11 : decode cX6_mean 11 = .ok (.iconst 0, 1) := by decide +kernel
theorem dX6_mean_12 : decode cX6_mean 12 = .ok (.iconst 1, 1) := by decide +kernel
theorem dX6_mean_13 : decode cX6_mean 13 = .ok (.invokestatic 57, 3) := by decide +kernel
theorem dX6_mean_16 : decode cX6_mean 16 = .ok (.ifCond .ne 7, 3) := by decide +kernel
theorem dX6_mean_19 : decode cX6_mean 19 = .ok (.ldc2_w 224, 3) := by decide +kernel
theorem dX6_mean_22 : decode cX6_mean 22 = .ok (.lreturn, 1) := by decide +kernel
theorem dX6_mean_23 : decode cX6_mean 23 = .ok (.aload_n 0, 1) := by decide +kernel
theorem dX6_mean_24 : decode cX6_mean 24 = .ok (.getfield 19, 3) := by decide +kernel
theorem dX6_mean_27 : decode cX6_mean 27 = .ok (.aload_n 0, 1) := by decide +kernel
theorem dX6_mean_28 : decode cX6_mean 28 = .ok (.getfield 10, 3) := by decide +kernel
theorem dX6_mean_31 : decode cX6_mean 31 = .ok (.invokevirtual 104, 3) := by decide +kernel
theorem dX6_mean_34 : decode cX6_mean 34 = .ok (.ldc2_w 240, 3) := by decide +kernel
theorem dX6_mean_37 : decode cX6_mean 37 = .ok (.bipush 6, 2) := by decide +kernel
theorem dX6_mean_39 : decode cX6_mean 39 = .ok (.invokestatic 236, 3) := by decide +kernel
theorem dX6_mean_42 : decode cX6_mean 42 = .ok (.lstore_n 3, 1) := by decide +kernel
theorem dX6_mean_43 : decode cX6_mean 43 = .ok (.lconst 0, 1) := by decide +kernel
theorem dX6_mean_44 : decode cX6_mean 44 = .ok (.lstore 5, 2) := by decide +kernel
theorem dX6_mean_46 : decode cX6_mean 46 = .ok (.iconst 0, 1) := by decide +kernel
theorem dX6_mean_47 : decode cX6_mean 47 = .ok (.istore 7, 2) := by decide +kernel
theorem dX6_mean_49 : decode cX6_mean 49 = .ok (.iload 7, 2) := by decide +kernel
theorem dX6_mean_51 : decode cX6_mean 51 = .ok (.aload_n 0, 1) := by decide +kernel
theorem dX6_mean_52 : decode cX6_mean 52 = .ok (.getfield 10, 3) := by decide +kernel
theorem dX6_mean_55 : decode cX6_mean 55 = .ok (.getfield 95, 3) := by decide +kernel
theorem dX6_mean_58 : decode cX6_mean 58 = .ok (.if_icmp .ge 64, 3) := by decide +kernel
theorem dX6_mean_61 : decode cX6_mean 61 = .ok (.iconst 0, 1) := by decide +kernel
theorem dX6_mean_62 : decode cX6_mean 62 = .ok (.istore 8, 2) := by decide +kernel
theorem dX6_mean_64 : decode cX6_mean 64 = .ok (.iload 8, 2) := by decide +kernel
theorem dX6_mean_66 : decode cX6_mean 66 = .ok (.bipush 80, 2) := by decide +kernel
theorem dX6_mean_68 : decode cX6_mean 68 = .ok (.if_icmp .ge 48, 3) := by decide +kernel
theorem dX6_mean_71 : decode cX6_mean 71 = .ok (.aload_n 0, 1) := by decide +kernel
theorem dX6_mean_72 : decode cX6_mean 72 = .ok (.getfield 19, 3) := by decide +kernel
theorem dX6_mean_75 : decode cX6_mean 75 = .ok (.iload 7, 2) := by decide +kernel
theorem dX6_mean_77 : decode cX6_mean 77 = .ok (.iload 8, 2) := by decide +kernel
theorem dX6_mean_79 : decode cX6_mean 79 = .ok (.invokevirtual 242, 3) := by decide +kernel
theorem dX6_mean_82 : decode cX6_mean 82 = .ok (.istore 9, 2) := by decide +kernel
theorem dX6_mean_84 : decode cX6_mean 84 = .ok (.lload 5, 2) := by decide +kernel
theorem dX6_mean_86 : decode cX6_mean 86 = .ok (.lload_n 3, 1) := by decide +kernel
theorem dX6_mean_87 : decode cX6_mean 87 = .ok (.iload_n 1, 1) := by decide +kernel
theorem dX6_mean_88 : decode cX6_mean 88 = .ok (.i2l, 1) := by decide +kernel
theorem dX6_mean_89 : decode cX6_mean 89 = .ok (.iload 9, 2) := by decide +kernel
theorem dX6_mean_91 : decode cX6_mean 91 = .ok (.invokestatic 236, 3) := by decide +kernel
theorem dX6_mean_94 : decode cX6_mean 94 = .ok (.ldc2_w 240, 3) := by decide +kernel
theorem dX6_mean_97 : decode cX6_mean 97 = .ok (.bipush 6, 2) := by decide +kernel
theorem dX6_mean_99 : decode cX6_mean 99 = .ok (.iload 9, 2) := by decide +kernel
theorem dX6_mean_101 : decode cX6_mean 101 = .ok (.isub, 1) := by decide +kernel
theorem dX6_mean_102 : decode cX6_mean 102 = .ok (.invokestatic 236, 3) := by decide +kernel
theorem dX6_mean_105 : decode cX6_mean 105 = .ok (.lmul, 1) := by decide +kernel
theorem dX6_mean_106 : decode cX6_mean 106 = .ok (.lsub, 1) := by decide +kernel
theorem dX6_mean_107 : decode cX6_mean 107 = .ok (.ladd, 1) := by decide +kernel
theorem dX6_mean_108 : decode cX6_mean 108 = .ok (.lstore 5, 2) := by decide +kernel
theorem dX6_mean_110 : decode cX6_mean 110 = .ok (.iinc 8 1, 3) := by decide +kernel
theorem dX6_mean_113 : decode cX6_mean 113 = .ok (.goto (-49), 3) := by decide +kernel
theorem dX6_mean_116 : decode cX6_mean 116 = .ok (.iinc 7 1, 3) := by decide +kernel
theorem dX6_mean_119 : decode cX6_mean 119 = .ok (.goto (-70), 3) := by decide +kernel
theorem dX6_mean_122 : decode cX6_mean 122 = .ok (.lload 5, 2) := by decide +kernel
theorem dX6_mean_124 : decode cX6_mean 124 = .ok (.lload_n 3, 1) := by decide +kernel
theorem dX6_mean_125 : decode cX6_mean 125 = .ok (.iload_n 2, 1) := by decide +kernel
theorem dX6_mean_126 : decode cX6_mean 126 = .ok (.invokestatic 229, 3) := by decide +kernel
theorem dX6_mean_129 : decode cX6_mean 129 = .ok (.lreturn, 1) := by decide +kernel
theorem dX6_see_0 : decode cX6_see 0 = .ok (.aload_n 0, 1) := by decide +kernel
theorem dX6_see_1 : decode cX6_see 1 = .ok (.getfield 10, 3) := by decide +kernel
theorem dX6_see_4 : decode cX6_see 4 = .ok (.iload_n 1, 1) := by decide +kernel
theorem dX6_see_5 : decode cX6_see 5 = .ok (.invokevirtual 114, 3) := by decide +kernel
theorem dX6_see_8 : decode cX6_see 8 = .ok (.ifCond .eq 13, 3) := by decide +kernel
theorem dX6_see_11 : decode cX6_see 11 = .ok (.iload_n 2, 1) := by decide +kernel
theorem dX6_see_12 : decode cX6_see 12 = .ok (.iconst 0, 1) := by decide +kernel
theorem dX6_see_13 : decode cX6_see 13 = .ok (.bipush 11, 2) := by decide +kernel
theorem dX6_see_15 : decode cX6_see 15 = .ok (.invokestatic 57, 3) := by decide +kernel
theorem dX6_see_18 : decode cX6_see 18 = .ok (.ifCond .ne 5, 3) := by decide +kernel
theorem dX6_see_21 : decode cX6_see 21 = .ok (.iconst (-1), 1) := by decide +kernel
theorem dX6_see_22 : decode cX6_see 22 = .ok (.ireturn, 1) := by decide +kernel
theorem dX6_see_23 : decode cX6_see 23 = .ok (.aload_n 0, 1) := by decide +kernel
theorem dX6_see_24 : decode cX6_see 24 = .ok (.getfield 40, 3) := by decide +kernel
theorem dX6_see_27 : decode cX6_see 27 = .ok (.getfield 86, 3) := by decide +kernel
theorem dX6_see_30 : decode cX6_see 30 = .ok (.bipush 6, 2) := by decide +kernel
theorem dX6_see_32 : decode cX6_see 32 = .ok (.if_icmp .lt 6, 3) := by decide +kernel
theorem dX6_see_35 : decode cX6_see 35 = .ok (.bipush (-3), 2) := by decide +kernel
theorem dX6_see_37 : decode cX6_see 37 = .ok (.ireturn, 1) := by decide +kernel
theorem dX6_see_38 : decode cX6_see 38 = .ok (.aload_n 0, 1) := by decide +kernel
theorem dX6_see_39 : decode cX6_see 39 = .ok (.getfield 40, 3) := by decide +kernel
theorem dX6_see_42 : decode cX6_see 42 = .ok (.iload_n 1, 1) := by decide +kernel
theorem dX6_see_43 : decode cX6_see 43 = .ok (.iload_n 2, 1) := by decide +kernel
theorem dX6_see_44 : decode cX6_see 44 = .ok (.invokevirtual 245, 3) := by decide +kernel
theorem dX6_see_47 : decode cX6_see 47 = .ok (.aload_n 0, 1) := by decide +kernel
theorem dX6_see_48 : decode cX6_see 48 = .ok (.getfield 40, 3) := by decide +kernel
theorem dX6_see_51 : decode cX6_see 51 = .ok (.getfield 86, 3) := by decide +kernel
theorem dX6_see_54 : decode cX6_see 54 = .ok (.ireturn, 1) := by decide +kernel
theorem dX6_forget_0 : decode cX6_forget 0 = .ok (.iload_n 1, 1) := by decide +kernel
theorem dX6_forget_1 : decode cX6_forget 1 = .ok (.iconst 0, 1) := by decide +kernel
theorem dX6_forget_2 : decode cX6_forget 2 = .ok (.aload_n 0, 1) := by decide +kernel
theorem dX6_forget_3 : decode cX6_forget 3 = .ok (.getfield 40, 3) := by decide +kernel
theorem dX6_forget_6 : decode cX6_forget 6 = .ok (.getfield 86, 3) := by decide +kernel
theorem dX6_forget_9 : decode cX6_forget 9 = .ok (.invokestatic 57, 3) := by decide +kernel
theorem dX6_forget_12 : decode cX6_forget 12 = .ok (.ifCond .ne 5, 3) := by decide +kernel
theorem dX6_forget_15 : decode cX6_forget 15 = .ok (.iconst (-1), 1) := by decide +kernel
theorem dX6_forget_16 : decode cX6_forget 16 = .ok (.ireturn, 1) := by decide +kernel
theorem dX6_forget_17 : decode cX6_forget 17 = .ok (.aload_n 0, 1) := by decide +kernel
theorem dX6_forget_18 : decode cX6_forget 18 = .ok (.getfield 40, 3) := by decide +kernel
theorem dX6_forget_21 : decode cX6_forget 21 = .ok (.getfield 86, 3) := by decide +kernel
theorem dX6_forget_24 : decode cX6_forget 24 = .ok (.istore_n 2, 1) := by decide +kernel
theorem dX6_forget_25 : decode cX6_forget 25 = .ok (.aload_n 0, 1) := by decide +kernel
theorem dX6_forget_26 : decode cX6_forget 26 = .ok (.getfield 40, 3) := by decide +kernel
theorem dX6_forget_29 : decode cX6_forget 29 = .ok (.iload_n 1, 1) := by decide +kernel
theorem dX6_forget_30 : decode cX6_forget 30 = .ok (.putfield 86, 3) := by decide +kernel
theorem dX6_forget_33 : decode cX6_forget 33 = .ok (.iload_n 2, 1) := by decide +kernel
theorem dX6_forget_34 : decode cX6_forget 34 = .ok (.ireturn, 1) := by decide +kernel
theorem dX6_winds_0 : decode cX6_winds 0 = .ok (.aload_n 0, 1) := by decide +kernel
theorem dX6_winds_1 : decode cX6_winds 1 = .ok (.getfield 19, 3) := by decide +kernel
theorem dX6_winds_4 : decode cX6_winds 4 = .ok (.getfield 69, 3) := by decide +kernel
theorem dX6_winds_7 : decode cX6_winds 7 = .ok (.astore_n 1, 1) := by decide +kernel
theorem dX6_winds_8 : decode cX6_winds 8 = .ok (.aload_n 1, 1) := by decide +kernel
theorem dX6_winds_9 : decode cX6_winds 9 = .ok (.aload_n 0, 1) := by decide +kernel
theorem dX6_winds_10 : decode cX6_winds 10 = .ok (.getfield 10, 3) := by decide +kernel
theorem dX6_winds_13 : decode cX6_winds 13 = .ok (.invokevirtual 82, 3) := by decide +kernel
theorem dX6_winds_16 : decode cX6_winds 16 = .ok (.iconst 0, 1) := by decide +kernel
theorem dX6_winds_17 : decode cX6_winds 17 = .ok (.istore_n 2, 1) := by decide +kernel
theorem dX6_winds_18 : decode cX6_winds 18 = .ok (.iconst 0, 1) := by decide +kernel
theorem dX6_winds_19 : decode cX6_winds 19 = .ok (.istore_n 3, 1) := by decide +kernel
theorem dX6_winds_20 : decode cX6_winds 20 = .ok (.iload_n 3, 1) := by decide +kernel
theorem dX6_winds_21 : decode cX6_winds 21 = .ok (.bipush 9, 2) := by decide +kernel
theorem dX6_winds_23 : decode cX6_winds 23 = .ok (.if_icmp .ge 31, 3) := by decide +kernel
theorem dX6_winds_26 : decode cX6_winds 26 = .ok (.aload_n 1, 1) := by decide +kernel
theorem dX6_winds_27 : decode cX6_winds 27 = .ok (.iload_n 3, 1) := by decide +kernel
theorem dX6_winds_28 : decode cX6_winds 28 = .ok (.putfield 98, 3) := by decide +kernel
theorem dX6_winds_31 : decode cX6_winds 31 = .ok (.aload_n 0, 1) := by decide +kernel
theorem dX6_winds_32 : decode cX6_winds 32 = .ok (.getfield 40, 3) := by decide +kernel
theorem dX6_winds_35 : decode cX6_winds 35 = .ok (.aload_n 1, 1) := by decide +kernel
theorem dX6_winds_36 : decode cX6_winds 36 = .ok (.invokevirtual 248, 3) := by decide +kernel
theorem dX6_winds_39 : decode cX6_winds 39 = .ok (.ifCond .eq 9, 3) := by decide +kernel
theorem dX6_winds_42 : decode cX6_winds 42 = .ok (.iload_n 2, 1) := by decide +kernel
theorem dX6_winds_43 : decode cX6_winds 43 = .ok (.iconst 1, 1) := by decide +kernel
theorem dX6_winds_44 : decode cX6_winds 44 = .ok (.iload_n 3, 1) := by decide +kernel
theorem dX6_winds_45 : decode cX6_winds 45 = .ok (.ishl, 1) := by decide +kernel
theorem dX6_winds_46 : decode cX6_winds 46 = .ok (.ior, 1) := by decide +kernel
theorem dX6_winds_47 : decode cX6_winds 47 = .ok (.istore_n 2, 1) := by decide +kernel
theorem dX6_winds_48 : decode cX6_winds 48 = .ok (.iinc 3 1, 3) := by decide +kernel
theorem dX6_winds_51 : decode cX6_winds 51 = .ok (.goto (-31), 3) := by decide +kernel
theorem dX6_winds_54 : decode cX6_winds 54 = .ok (.iload_n 2, 1) := by decide +kernel
theorem dX6_winds_55 : decode cX6_winds 55 = .ok (.ireturn, 1) := by decide +kernel
theorem dX6_froms_0 : decode cX6_froms 0 = .ok (.aload_n 0, 1) := by decide +kernel
theorem dX6_froms_1 : decode cX6_froms 1 = .ok (.getfield 10, 3) := by decide +kernel
theorem dX6_froms_4 : decode cX6_froms 4 = .ok (.iload_n 1, 1) := by decide +kernel
theorem dX6_froms_5 : decode cX6_froms 5 = .ok (.invokevirtual 114, 3) := by decide +kernel
theorem dX6_froms_8 : decode cX6_froms 8 = .ok (.ifCond .ne 5, 3) := by decide +kernel
theorem dX6_froms_11 : decode cX6_froms 11 = .ok (.iconst (-1), 1) := by decide +kernel
theorem dX6_froms_12 : decode cX6_froms 12 = .ok (.ireturn, 1) := by decide +kernel
theorem dX6_froms_13 : decode cX6_froms 13 = .ok (.aload_n 0, 1) := by decide +kernel
theorem dX6_froms_14 : decode cX6_froms 14 = .ok (.iload_n 1, 1) := by decide +kernel
theorem dX6_froms_15 : decode cX6_froms 15 = .ok (.iconst 1, 1) := by decide +kernel
theorem dX6_froms_16 : decode cX6_froms 16 = .ok (.invokevirtual 252, 3) := by decide +kernel
theorem dX6_froms_19 : decode cX6_froms 19 = .ok (.ireturn, 1) := by decide +kernel
theorem dX6_kinds_0 : decode cX6_kinds 0 = .ok (.aload_n 0, 1) := by decide +kernel
theorem dX6_kinds_1 : decode cX6_kinds 1 = .ok (.getfield 10, 3) := by decide +kernel
theorem dX6_kinds_4 : decode cX6_kinds 4 = .ok (.iload_n 1, 1) := by decide +kernel
theorem dX6_kinds_5 : decode cX6_kinds 5 = .ok (.invokevirtual 114, 3) := by decide +kernel
theorem dX6_kinds_8 : decode cX6_kinds 8 = .ok (.ifCond .ne 5, 3) := by decide +kernel
theorem dX6_kinds_11 : decode cX6_kinds 11 = .ok (.iconst (-1), 1) := by decide +kernel
theorem dX6_kinds_12 : decode cX6_kinds 12 = .ok (.ireturn, 1) := by decide +kernel
theorem dX6_kinds_13 : decode cX6_kinds 13 = .ok (.aload_n 0, 1) := by decide +kernel
theorem dX6_kinds_14 : decode cX6_kinds 14 = .ok (.iload_n 1, 1) := by decide +kernel
theorem dX6_kinds_15 : decode cX6_kinds 15 = .ok (.iconst 0, 1) := by decide +kernel
theorem dX6_kinds_16 : decode cX6_kinds 16 = .ok (.invokevirtual 252, 3) := by decide +kernel
theorem dX6_kinds_19 : decode cX6_kinds 19 = .ok (.ireturn, 1) := by decide +kernel
theorem dX6_valuesAsSeen_0 : decode cX6_valuesAsSeen 0 = .ok (.aload_n 0, 1) := by decide +kernel
theorem dX6_valuesAsSeen_1 : decode cX6_valuesAsSeen 1 = .ok (.getfield 19, 3) := by decide +kernel
theorem dX6_valuesAsSeen_4 : decode cX6_valuesAsSeen 4 = .ok (.getfield 69, 3) := by decide +kernel
theorem dX6_valuesAsSeen_7 : decode cX6_valuesAsSeen 7 = .ok (.astore_n 3, 1) := by decide +kernel
theorem dX6_valuesAsSeen_8 : decode cX6_valuesAsSeen 8 = .ok (.aload_n 3, 1) := by decide +kernel
theorem dX6_valuesAsSeen_9 : decode cX6_valuesAsSeen 9 = .ok (.aload_n 0, 1) := by decide +kernel
theorem dX6_valuesAsSeen_10 : decode cX6_valuesAsSeen 10 = .ok (.getfield 10, 3) := by decide +kernel
theorem dX6_valuesAsSeen_13 : decode cX6_valuesAsSeen 13 = .ok (.invokevirtual 82, 3) := by decide +kernel
theorem dX6_valuesAsSeen_16 : decode cX6_valuesAsSeen 16 = .ok (.iconst 0, 1) := by decide +kernel
theorem dX6_valuesAsSeen_17 : decode cX6_valuesAsSeen 17 = .ok (.istore 4, 2) := by decide +kernel
theorem dX6_valuesAsSeen_19 : decode cX6_valuesAsSeen 19 = .ok (.iconst 0, 1) := by decide +kernel
theorem dX6_valuesAsSeen_20 : decode cX6_valuesAsSeen 20 = .ok (.istore 5, 2) := by decide +kernel
theorem dX6_valuesAsSeen_22 : decode cX6_valuesAsSeen 22 = .ok (.iload 5, 2) := by decide +kernel
theorem dX6_valuesAsSeen_24 : decode cX6_valuesAsSeen 24 = .ok (.getstatic 197, 3) := by decide +kernel
theorem dX6_valuesAsSeen_27 : decode cX6_valuesAsSeen 27 = .ok (.iload_n 2, 1) := by decide +kernel
theorem dX6_valuesAsSeen_28 : decode cX6_valuesAsSeen 28 = .ok (.iaload, 1) := by decide +kernel
theorem dX6_valuesAsSeen_29 : decode cX6_valuesAsSeen 29 = .ok (.if_icmp .gt 37, 3) := by decide +kernel
theorem dX6_valuesAsSeen_32 : decode cX6_valuesAsSeen 32 = .ok (.aload_n 3, 1) := by decide +kernel
theorem dX6_valuesAsSeen_33 : decode cX6_valuesAsSeen 33 = .ok (.iload_n 1, 1) := by decide +kernel
theorem dX6_valuesAsSeen_34 : decode cX6_valuesAsSeen 34 = .ok (.iload_n 2, 1) := by decide +kernel
theorem dX6_valuesAsSeen_35 : decode cX6_valuesAsSeen 35 = .ok (.iload 5, 2) := by decide +kernel
theorem dX6_valuesAsSeen_37 : decode cX6_valuesAsSeen 37 = .ok (.invokevirtual 163, 3) := by decide +kernel
theorem dX6_valuesAsSeen_40 : decode cX6_valuesAsSeen 40 = .ok (.aload_n 0, 1) := by decide +kernel
theorem dX6_valuesAsSeen_41 : decode cX6_valuesAsSeen 41 = .ok (.getfield 40, 3) := by decide +kernel
theorem dX6_valuesAsSeen_44 : decode cX6_valuesAsSeen 44 = .ok (.aload_n 3, 1) := by decide +kernel
theorem dX6_valuesAsSeen_45 : decode cX6_valuesAsSeen 45 = .ok (.invokevirtual 248, 3) := by decide +kernel
theorem dX6_valuesAsSeen_48 : decode cX6_valuesAsSeen 48 = .ok (.ifCond .eq 12, 3) := by decide +kernel
theorem dX6_valuesAsSeen_51 : decode cX6_valuesAsSeen 51 = .ok (.iload 4, 2) := by decide +kernel
theorem dX6_valuesAsSeen_53 : decode cX6_valuesAsSeen 53 = .ok (.iconst 1, 1) := by decide +kernel
theorem dX6_valuesAsSeen_54 : decode cX6_valuesAsSeen 54 = .ok (.iload 5, 2) := by decide +kernel
theorem dX6_valuesAsSeen_56 : decode cX6_valuesAsSeen 56 = .ok (.ishl, 1) := by decide +kernel
theorem dX6_valuesAsSeen_57 : decode cX6_valuesAsSeen 57 = .ok (.ior, 1) := by decide +kernel
theorem dX6_valuesAsSeen_58 : decode cX6_valuesAsSeen 58 = .ok (.istore 4, 2) := by decide +kernel
theorem dX6_valuesAsSeen_60 : decode cX6_valuesAsSeen 60 = .ok (.iinc 5 1, 3) := by decide +kernel
theorem dX6_valuesAsSeen_63 : decode cX6_valuesAsSeen 63 = .ok (.goto (-41), 3) := by decide +kernel
theorem dX6_valuesAsSeen_66 : decode cX6_valuesAsSeen 66 = .ok (.iload 4, 2) := by decide +kernel
theorem dX6_valuesAsSeen_68 : decode cX6_valuesAsSeen 68 = .ok (.ireturn, 1) := by decide +kernel
theorem dX6_ask_0 : decode cX6_ask 0 = .ok (.iload_n 1, 1) := by decide +kernel
theorem dX6_ask_1 : decode cX6_ask 1 = .ok (.iconst 0, 1) := by decide +kernel
theorem dX6_ask_2 : decode cX6_ask 2 = .ok (.iconst 1, 1) := by decide +kernel
theorem dX6_ask_3 : decode cX6_ask 3 = .ok (.invokestatic 57, 3) := by decide +kernel
theorem dX6_ask_6 : decode cX6_ask 6 = .ok (.ifCond .ne 5, 3) := by decide +kernel
theorem dX6_ask_9 : decode cX6_ask 9 = .ok (.iconst (-1), 1) := by decide +kernel
theorem dX6_ask_10 : decode cX6_ask 10 = .ok (.ireturn, 1) := by decide +kernel
theorem dX6_ask_11 : decode cX6_ask 11 = .ok (.aload_n 0, 1) := by decide +kernel
theorem dX6_ask_12 : decode cX6_ask 12 = .ok (.invokevirtual 255, 3) := by decide +kernel
theorem dX6_ask_15 : decode cX6_ask 15 = .ok (.istore_n 2, 1) := by decide +kernel
theorem dX6_ask_16 : decode cX6_ask 16 = .ok (.iload_n 2, 1) := by decide +kernel
theorem dX6_ask_17 : decode cX6_ask 17 = .ok (.invokestatic 204, 3) := by decide +kernel
theorem dX6_ask_20 : decode cX6_ask 20 = .ok (.istore_n 3, 1) := by decide +kernel
theorem dX6_ask_21 : decode cX6_ask 21 = .ok (.aload_n 0, 1) := by decide +kernel
theorem dX6_ask_22 : decode cX6_ask 22 = .ok (.getfield 26, 3) := by decide +kernel
theorem dX6_ask_25 : decode cX6_ask 25 = .ok (.iconst 0, 1) := by decide +kernel
theorem dX6_ask_26 : decode cX6_ask 26 = .ok (.invokevirtual 183, 3) := by decide +kernel
theorem dX6_ask_29 : decode cX6_ask 29 = .ok (.iconst 0, 1) := by decide +kernel
theorem dX6_ask_30 : decode cX6_ask 30 = .ok (.istore 4, 2) := by decide +kernel
theorem dX6_ask_32 : decode cX6_ask 32 = .ok (.iload 4, 2) := by decide +kernel
theorem dX6_ask_34 : decode cX6_ask 34 = .ok (.aload_n 0, 1) := by decide +kernel
theorem dX6_ask_35 : decode cX6_ask 35 = .ok (.getfield 10, 3) := by decide +kernel
theorem dX6_ask_38 : decode cX6_ask 38 = .ok (.getfield 92, 3) := by decide +kernel
theorem dX6_ask_41 : decode cX6_ask 41 = .ok (.if_icmp .ge 27, 3) := by decide +kernel
theorem dX6_ask_44 : decode cX6_ask 44 = .ok (.aload_n 0, 1) := by decide +kernel
theorem dX6_ask_45 : decode cX6_ask 45 = .ok (.getfield 26, 3) := by decide +kernel
theorem dX6_ask_48 : decode cX6_ask 48 = .ok (.iload 4, 2) := by decide +kernel
theorem dX6_ask_50 : decode cX6_ask 50 = .ok (.iload_n 3, 1) := by decide +kernel
theorem dX6_ask_51 : decode cX6_ask 51 = .ok (.aload_n 0, 1) := by decide +kernel
theorem dX6_ask_52 : decode cX6_ask 52 = .ok (.iload 4, 2) := by decide +kernel
theorem dX6_ask_54 : decode cX6_ask 54 = .ok (.iload_n 2, 1) := by decide +kernel
theorem dX6_ask_55 : decode cX6_ask 55 = .ok (.invokevirtual 258, 3) := by decide +kernel
theorem dX6_ask_58 : decode cX6_ask 58 = .ok (.isub, 1) := by decide +kernel
theorem dX6_ask_59 : decode cX6_ask 59 = .ok (.invokevirtual 190, 3) := by decide +kernel
theorem dX6_ask_62 : decode cX6_ask 62 = .ok (.iinc 4 1, 3) := by decide +kernel
theorem dX6_ask_65 : decode cX6_ask 65 = .ok (.goto (-33), 3) := by decide +kernel
theorem dX6_ask_68 : decode cX6_ask 68 = .ok (.aload_n 0, 1) := by decide +kernel
theorem dX6_ask_69 : decode cX6_ask 69 = .ok (.getfield 26, 3) := by decide +kernel
theorem dX6_ask_72 : decode cX6_ask 72 = .ok (.getfield 261, 3) := by decide +kernel
theorem dX6_ask_75 : decode cX6_ask 75 = .ok (.ifCond .lt 7, 3) := by decide +kernel
theorem dX6_ask_78 : decode cX6_ask 78 = .ok (.iload_n 1, 1) := by decide +kernel
theorem dX6_ask_79 : decode cX6_ask 79 = .ok (.ifCond .ne 11, 3) := by decide +kernel
theorem dX6_ask_82 : decode cX6_ask 82 = .ok (.aload_n 0, 1) := by decide +kernel
theorem dX6_ask_83 : decode cX6_ask 83 = .ok (.getfield 26, 3) := by decide +kernel
theorem dX6_ask_86 : decode cX6_ask 86 = .ok (.getfield 261, 3) := by decide +kernel
theorem dX6_ask_89 : decode cX6_ask 89 = .ok (.ireturn, 1) := by decide +kernel
theorem dX6_ask_90 : decode cX6_ask 90 = .ok (.iload_n 3, 1) := by decide +kernel
theorem dX6_ask_91 : decode cX6_ask 91 = .ok (.aload_n 0, 1) := by decide +kernel
theorem dX6_ask_92 : decode cX6_ask 92 = .ok (.getfield 26, 3) := by decide +kernel
theorem dX6_ask_95 : decode cX6_ask 95 = .ok (.getfield 264, 3) := by decide +kernel
theorem dX6_ask_98 : decode cX6_ask 98 = .ok (.isub, 1) := by decide +kernel
theorem dX6_ask_99 : decode cX6_ask 99 = .ok (.ireturn, 1) := by decide +kernel
theorem dX6_windsLeftAtWorst_0 : decode cX6_windsLeftAtWorst 0 = .ok (.aload_n 0, 1) := by decide +kernel
theorem dX6_windsLeftAtWorst_1 : decode cX6_windsLeftAtWorst 1 = .ok (.getfield 19, 3) := by decide +kernel
theorem dX6_windsLeftAtWorst_4 : decode cX6_windsLeftAtWorst 4 = .ok (.getfield 69, 3) := by decide +kernel
theorem dX6_windsLeftAtWorst_7 : decode cX6_windsLeftAtWorst 7 = .ok (.aload_n 0, 1) := by decide +kernel
theorem dX6_windsLeftAtWorst_8 : decode cX6_windsLeftAtWorst 8 = .ok (.getfield 10, 3) := by decide +kernel
theorem dX6_windsLeftAtWorst_11 : decode cX6_windsLeftAtWorst 11 = .ok (.invokevirtual 82, 3) := by decide +kernel
theorem dX6_windsLeftAtWorst_14 : decode cX6_windsLeftAtWorst 14 = .ok (.iconst 0, 1) := by decide +kernel
theorem dX6_windsLeftAtWorst_15 : decode cX6_windsLeftAtWorst 15 = .ok (.istore_n 3, 1) := by decide +kernel
theorem dX6_windsLeftAtWorst_16 : decode cX6_windsLeftAtWorst 16 = .ok (.iconst 0, 1) := by decide +kernel
theorem dX6_windsLeftAtWorst_17 : decode cX6_windsLeftAtWorst 17 = .ok (.istore 4, 2) := by decide +kernel
theorem dX6_windsLeftAtWorst_19 : decode cX6_windsLeftAtWorst 19 = .ok (.iload 4, 2) := by decide +kernel
theorem dX6_windsLeftAtWorst_21 : decode cX6_windsLeftAtWorst 21 = .ok (.bipush 12, 2) := by decide +kernel
theorem dX6_windsLeftAtWorst_23 : decode cX6_windsLeftAtWorst 23 = .ok (.if_icmp .ge 28, 3) := by decide +kernel
theorem dX6_windsLeftAtWorst_26 : decode cX6_windsLeftAtWorst 26 = .ok (.iload_n 3, 1) := by decide +kernel
theorem dX6_windsLeftAtWorst_27 : decode cX6_windsLeftAtWorst 27 = .ok (.aload_n 0, 1) := by decide +kernel
theorem dX6_windsLeftAtWorst_28 : decode cX6_windsLeftAtWorst 28 = .ok (.getfield 19, 3) := by decide +kernel
theorem dX6_windsLeftAtWorst_31 : decode cX6_windsLeftAtWorst 31 = .ok (.getfield 69, 3) := by decide +kernel
theorem dX6_windsLeftAtWorst_34 : decode cX6_windsLeftAtWorst 34 = .ok (.iload_n 1, 1) := by decide +kernel
theorem dX6_windsLeftAtWorst_35 : decode cX6_windsLeftAtWorst 35 = .ok (.iload 4, 2) := by decide +kernel
theorem dX6_windsLeftAtWorst_37 : decode cX6_windsLeftAtWorst 37 = .ok (.iload_n 2, 1) := by decide +kernel
theorem dX6_windsLeftAtWorst_38 : decode cX6_windsLeftAtWorst 38 = .ok (.invokestatic 267, 3) := by decide +kernel
theorem dX6_windsLeftAtWorst_41 : decode cX6_windsLeftAtWorst 41 = .ok (.invokestatic 271, 3) := by decide +kernel
theorem dX6_windsLeftAtWorst_44 : decode cX6_windsLeftAtWorst 44 = .ok (.istore_n 3, 1) := by decide +kernel
theorem dX6_windsLeftAtWorst_45 : decode cX6_windsLeftAtWorst 45 = .ok (.iinc 4 1, 3) := by decide +kernel
theorem dX6_windsLeftAtWorst_48 : decode cX6_windsLeftAtWorst 48 = .ok (.goto (-29), 3) := by decide +kernel
theorem dX6_windsLeftAtWorst_51 : decode cX6_windsLeftAtWorst 51 = .ok (.iload_n 3, 1) := by decide +kernel
theorem dX6_windsLeftAtWorst_52 : decode cX6_windsLeftAtWorst 52 = .ok (.ireturn, 1) := by decide +kernel
theorem dX6_windsThatDrop_0 : decode cX6_windsThatDrop 0 = .ok (.iconst 0, 1) := by decide +kernel
theorem dX6_windsThatDrop_1 : decode cX6_windsThatDrop 1 = .ok (.istore 4, 2) := by decide +kernel
theorem dX6_windsThatDrop_3 : decode cX6_windsThatDrop 3 = .ok (.iconst 0, 1) := by decide +kernel
theorem dX6_windsThatDrop_4 : decode cX6_windsThatDrop 4 = .ok (.istore 5, 2) := by decide +kernel
theorem dX6_windsThatDrop_6 : decode cX6_windsThatDrop 6 = .ok (.iload 5, 2) := by decide +kernel
theorem dX6_windsThatDrop_8 : decode cX6_windsThatDrop 8 = .ok (.bipush 9, 2) := by decide +kernel
theorem dX6_windsThatDrop_10 : decode cX6_windsThatDrop 10 = .ok (.if_icmp .ge 37, 3) := by decide +kernel
theorem dX6_windsThatDrop_13 : decode cX6_windsThatDrop 13 = .ok (.aload_n 0, 1) := by decide +kernel
theorem dX6_windsThatDrop_14 : decode cX6_windsThatDrop 14 = .ok (.iload 5, 2) := by decide +kernel
theorem dX6_windsThatDrop_16 : decode cX6_windsThatDrop 16 = .ok (.putfield 98, 3) := by decide +kernel
theorem dX6_windsThatDrop_19 : decode cX6_windsThatDrop 19 = .ok (.iload_n 3, 1) := by decide +kernel
theorem dX6_windsThatDrop_20 : decode cX6_windsThatDrop 20 = .ok (.iload 5, 2) := by decide +kernel
theorem dX6_windsThatDrop_22 : decode cX6_windsThatDrop 22 = .ok (.ishr, 1) := by decide +kernel
theorem dX6_windsThatDrop_23 : decode cX6_windsThatDrop 23 = .ok (.iconst 1, 1) := by decide +kernel
theorem dX6_windsThatDrop_24 : decode cX6_windsThatDrop 24 = .ok (.iand, 1) := by decide +kernel
theorem dX6_windsThatDrop_25 : decode cX6_windsThatDrop 25 = .ok (.iconst 1, 1) := by decide +kernel
theorem dX6_windsThatDrop_26 : decode cX6_windsThatDrop 26 = .ok (.if_icmp .ne 15, 3) := by decide +kernel
theorem dX6_windsThatDrop_29 : decode cX6_windsThatDrop 29 = .ok (.aload_n 0, 1) := by decide +kernel
theorem dX6_windsThatDrop_30 : decode cX6_windsThatDrop 30 = .ok (.iload_n 1, 1) := by decide +kernel
theorem dX6_windsThatDrop_31 : decode cX6_windsThatDrop 31 = .ok (.invokevirtual 132, 3) := by decide +kernel
theorem dX6_windsThatDrop_34 : decode cX6_windsThatDrop 34 = .ok (.iload_n 2, 1) := by decide +kernel
theorem dX6_windsThatDrop_35 : decode cX6_windsThatDrop 35 = .ok (.if_icmp .ne 6, 3) := by decide +kernel
theorem dX6_windsThatDrop_38 : decode cX6_windsThatDrop 38 = .ok (.iinc 4 1, 3) := by decide +kernel
theorem dX6_windsThatDrop_41 : decode cX6_windsThatDrop 41 = .ok (.iinc 5 1, 3) := by decide +kernel
theorem dX6_windsThatDrop_44 : decode cX6_windsThatDrop 44 = .ok (.goto (-38), 3) := by decide +kernel
theorem dX6_windsThatDrop_47 : decode cX6_windsThatDrop 47 = .ok (.iload 4, 2) := by decide +kernel
theorem dX6_windsThatDrop_49 : decode cX6_windsThatDrop 49 = .ok (.ireturn, 1) := by decide +kernel
theorem dX6_drift_0 : decode cX6_drift 0 = .ok (.iload_n 2, 1) := by decide +kernel
theorem dX6_drift_1 : decode cX6_drift 1 = .ok (.iconst 1, 1) := by decide +kernel
theorem dX6_drift_2 : decode cX6_drift 2 = .ok (.bipush 60, 2) := by decide +kernel
theorem dX6_drift_4 : decode cX6_drift 4 = .ok (.invokestatic 57, 3) := by decide +kernel
theorem dX6_drift_7 : decode cX6_drift 7 = .ok (.ifCond .eq 12, 3) := by decide +kernel
theorem dX6_drift_10 : decode cX6_drift 10 = .ok (.iload_n 3, 1) := by decide +kernel
theorem dX6_drift_11 : decode cX6_drift 11 = .ok (.iconst 0, 1) := by decide +kernel
theorem dX6_drift_12 : decode cX6_drift 12 = .ok (.iconst 1, 1) := by decide +kernel
theorem dX6_drift_13 : decode cX6_drift 13 = .ok (.invokestatic 57, 3) := by decide +kernel
theorem dX6_drift_16 : decode cX6_drift 16 = .ok (.ifCond .ne 5, 3) := by decide +kernel
theorem dX6_drift_19 : decode cX6_drift 19 = .ok (.iconst (-1), 1) := by decide +kernel
theorem dX6_drift_20 : decode cX6_drift 20 = .ok (.ireturn, 1) := by decide +kernel
theorem dX6_drift_21 : decode cX6_drift 21 = .ok (.aload_n 0, 1) := by decide +kernel
theorem dX6_drift_22 : decode cX6_drift 22 = .ok (.getfield 19, 3) := by decide +kernel
theorem dX6_drift_25 : decode cX6_drift 25 = .ok (.aload_n 0, 1) := by decide +kernel
theorem dX6_drift_26 : decode cX6_drift 26 = .ok (.getfield 10, 3) := by decide +kernel
theorem dX6_drift_29 : decode cX6_drift 29 = .ok (.invokevirtual 104, 3) := by decide +kernel
theorem dX6_drift_32 : decode cX6_drift 32 = .ok (.iload_n 1, 1) := by decide +kernel
theorem dX6_drift_33 : decode cX6_drift 33 = .ok (.istore 4, 2) := by decide +kernel
theorem dX6_drift_35 : decode cX6_drift 35 = .ok (.iconst 0, 1) := by decide +kernel
theorem dX6_drift_36 : decode cX6_drift 36 = .ok (.istore 5, 2) := by decide +kernel
theorem dX6_drift_38 : decode cX6_drift 38 = .ok (.iconst 0, 1) := by decide +kernel
theorem dX6_drift_39 : decode cX6_drift 39 = .ok (.istore 6, 2) := by decide +kernel
theorem dX6_drift_41 : decode cX6_drift 41 = .ok (.iload 6, 2) := by decide +kernel
theorem dX6_drift_43 : decode cX6_drift 43 = .ok (.iload_n 2, 1) := by decide +kernel
theorem dX6_drift_44 : decode cX6_drift 44 = .ok (.if_icmp .ge 98, 3) := by decide +kernel
theorem dX6_drift_47 : decode cX6_drift 47 = .ok (.iload 4, 2) := by decide +kernel
theorem dX6_drift_49 : decode cX6_drift 49 = .ok (.ldc_w 276, 3) := by decide +kernel
theorem dX6_drift_52 : decode cX6_drift 52 = .ok (.imul, 1) := by decide +kernel
theorem dX6_drift_53 : decode cX6_drift 53 = .ok (.sipush 12345, 3) := by decide +kernel
theorem dX6_drift_56 : decode cX6_drift 56 = .ok (.iadd, 1) := by decide +kernel
theorem dX6_drift_57 : decode cX6_drift 57 = .ok (.istore 4, 2) := by decide +kernel
theorem dX6_drift_59 : decode cX6_drift 59 = .ok (.iload 4, 2) := by decide +kernel
theorem dX6_drift_61 : decode cX6_drift 61 = .ok (.bipush 16, 2) := by decide +kernel
theorem dX6_drift_63 : decode cX6_drift 63 = .ok (.ishr, 1) := by decide +kernel
theorem dX6_drift_64 : decode cX6_drift 64 = .ok (.sipush 32767, 3) := by decide +kernel
theorem dX6_drift_67 : decode cX6_drift 67 = .ok (.iand, 1) := by decide +kernel
theorem dX6_drift_68 : decode cX6_drift 68 = .ok (.istore 7, 2) := by decide +kernel
theorem dX6_drift_70 : decode cX6_drift 70 = .ok (.aload_n 0, 1) := by decide +kernel
theorem dX6_drift_71 : decode cX6_drift 71 = .ok (.getfield 19, 3) := by decide +kernel
theorem dX6_drift_74 : decode cX6_drift 74 = .ok (.getfield 69, 3) := by decide +kernel
theorem dX6_drift_77 : decode cX6_drift 77 = .ok (.iload 7, 2) := by decide +kernel
theorem dX6_drift_79 : decode cX6_drift 79 = .ok (.bipush 9, 2) := by decide +kernel
theorem dX6_drift_81 : decode cX6_drift 81 = .ok (.irem, 1) := by decide +kernel
theorem dX6_drift_82 : decode cX6_drift 82 = .ok (.putfield 98, 3) := by decide +kernel
theorem dX6_drift_85 : decode cX6_drift 85 = .ok (.aload_n 0, 1) := by decide +kernel
theorem dX6_drift_86 : decode cX6_drift 86 = .ok (.getfield 19, 3) := by decide +kernel
theorem dX6_drift_89 : decode cX6_drift 89 = .ok (.getfield 69, 3) := by decide +kernel
theorem dX6_drift_92 : decode cX6_drift 92 = .ok (.iload 7, 2) := by decide +kernel
theorem dX6_drift_94 : decode cX6_drift 94 = .ok (.bipush 16, 2) := by decide +kernel
theorem dX6_drift_96 : decode cX6_drift 96 = .ok (.idiv, 1) := by decide +kernel
theorem dX6_drift_97 : decode cX6_drift 97 = .ok (.bipush 10, 2) := by decide +kernel
theorem dX6_drift_99 : decode cX6_drift 99 = .ok (.irem, 1) := by decide +kernel
theorem dX6_drift_100 : decode cX6_drift 100 = .ok (.putfield 101, 3) := by decide +kernel
theorem dX6_drift_103 : decode cX6_drift 103 = .ok (.aload_n 0, 1) := by decide +kernel
theorem dX6_drift_104 : decode cX6_drift 104 = .ok (.getfield 19, 3) := by decide +kernel
theorem dX6_drift_107 : decode cX6_drift 107 = .ok (.invokevirtual 201, 3) := by decide +kernel
theorem dX6_drift_110 : decode cX6_drift 110 = .ok (.iload 5, 2) := by decide +kernel
theorem dX6_drift_112 : decode cX6_drift 112 = .ok (.iload_n 3, 1) := by decide +kernel
theorem dX6_drift_113 : decode cX6_drift 113 = .ok (.ifCond .ne 13, 3) := by decide +kernel
theorem dX6_drift_116 : decode cX6_drift 116 = .ok (.aload_n 0, 1) := by decide +kernel
theorem dX6_drift_117 : decode cX6_drift 117 = .ok (.getfield 19, 3) := by decide +kernel
theorem dX6_drift_120 : decode cX6_drift 120 = .ok (.invokevirtual 111, 3) := by decide +kernel
theorem dX6_drift_123 : decode cX6_drift 123 = .ok (.goto 10, 3) := by decide +kernel
theorem dX6_drift_126 : decode cX6_drift 126 = .ok (.aload_n 0, 1) := by decide +kernel
theorem dX6_drift_127 : decode cX6_drift 127 = .ok (.getfield 19, 3) := by decide +kernel
theorem dX6_drift_130 : decode cX6_drift 130 = .ok (.invokevirtual 107, 3) := by decide +kernel
theorem dX6_drift_133 : decode cX6_drift 133 = .ok (.iadd, 1) := by decide +kernel
theorem dX6_drift_134 : decode cX6_drift 134 = .ok (.istore 5, 2) := by decide +kernel
theorem dX6_drift_136 : decode cX6_drift 136 = .ok (.iinc 6 1, 3) := by decide +kernel
theorem dX6_drift_139 : decode cX6_drift 139 = .ok (.goto (-98), 3) := by decide +kernel
theorem dX6_drift_142 : decode cX6_drift 142 = .ok (.iload 5, 2) := by decide +kernel
theorem dX6_drift_144 : decode cX6_drift 144 = .ok (.ireturn, 1) := by decide +kernel
theorem dX6_keep_0 : decode cX6_keep 0 = .ok (.iload_n 1, 1) := by decide +kernel
theorem dX6_keep_1 : decode cX6_keep 1 = .ok (.iconst 0, 1) := by decide +kernel
theorem dX6_keep_2 : decode cX6_keep 2 = .ok (.iconst 1, 1) := by decide +kernel
theorem dX6_keep_3 : decode cX6_keep 3 = .ok (.invokestatic 57, 3) := by decide +kernel
theorem dX6_keep_6 : decode cX6_keep 6 = .ok (.ifCond .ne 5, 3) := by decide +kernel
theorem dX6_keep_9 : decode cX6_keep 9 = .ok (.iconst (-1), 1) := by decide +kernel
theorem dX6_keep_10 : decode cX6_keep 10 = .ok (.ireturn, 1) := by decide +kernel
theorem dX6_keep_11 : decode cX6_keep 11 = .ok (.aload_n 0, 1) := by decide +kernel
theorem dX6_keep_12 : decode cX6_keep 12 = .ok (.getfield 89, 3) := by decide +kernel
theorem dX6_keep_15 : decode cX6_keep 15 = .ok (.iload_n 1, 1) := by decide +kernel
theorem dX6_keep_16 : decode cX6_keep 16 = .ok (.ishr, 1) := by decide +kernel
theorem dX6_keep_17 : decode cX6_keep 17 = .ok (.iconst 1, 1) := by decide +kernel
theorem dX6_keep_18 : decode cX6_keep 18 = .ok (.iand, 1) := by decide +kernel
theorem dX6_keep_19 : decode cX6_keep 19 = .ok (.istore_n 2, 1) := by decide +kernel
theorem dX6_keep_20 : decode cX6_keep 20 = .ok (.aload_n 0, 1) := by decide +kernel
theorem dX6_keep_21 : decode cX6_keep 21 = .ok (.iload_n 1, 1) := by decide +kernel
theorem dX6_keep_22 : decode cX6_keep 22 = .ok (.invokevirtual 277, 3) := by decide +kernel
theorem dX6_keep_25 : decode cX6_keep 25 = .ok (.aload_n 0, 1) := by decide +kernel
theorem dX6_keep_26 : decode cX6_keep 26 = .ok (.getfield 10, 3) := by decide +kernel
theorem dX6_keep_29 : decode cX6_keep 29 = .ok (.invokevirtual 82, 3) := by decide +kernel
theorem dX6_keep_32 : decode cX6_keep 32 = .ok (.aload_n 0, 1) := by decide +kernel
theorem dX6_keep_33 : decode cX6_keep 33 = .ok (.dup, 1) := by decide +kernel
theorem dX6_keep_34 : decode cX6_keep 34 = .ok (.getfield 89, 3) := by decide +kernel
theorem dX6_keep_37 : decode cX6_keep 37 = .ok (.iconst 1, 1) := by decide +kernel
theorem dX6_keep_38 : decode cX6_keep 38 = .ok (.iload_n 1, 1) := by decide +kernel
theorem dX6_keep_39 : decode cX6_keep 39 = .ok (.ishl, 1) := by decide +kernel
theorem dX6_keep_40 : decode cX6_keep 40 = .ok (.ior, 1) := by decide +kernel
theorem dX6_keep_41 : decode cX6_keep 41 = .ok (.putfield 89, 3) := by decide +kernel
theorem dX6_keep_44 : decode cX6_keep 44 = .ok (.iload_n 2, 1) := by decide +kernel
theorem dX6_keep_45 : decode cX6_keep 45 = .ok (.ireturn, 1) := by decide +kernel
theorem dX6_back_0 : decode cX6_back 0 = .ok (.iload_n 1, 1) := by decide +kernel
theorem dX6_back_1 : decode cX6_back 1 = .ok (.iconst 0, 1) := by decide +kernel
theorem dX6_back_2 : decode cX6_back 2 = .ok (.iconst 1, 1) := by decide +kernel
theorem dX6_back_3 : decode cX6_back 3 = .ok (.invokestatic 57, 3) := by decide +kernel
theorem dX6_back_6 : decode cX6_back 6 = .ok (.ifCond .ne 5, 3) := by decide +kernel
theorem dX6_back_9 : decode cX6_back 9 = .ok (.iconst (-1), 1) := by decide +kernel
theorem dX6_back_10 : decode cX6_back 10 = .ok (.ireturn, 1) := by decide +kernel
theorem dX6_back_11 : decode cX6_back 11 = .ok (.aload_n 0, 1) := by decide +kernel
theorem dX6_back_12 : decode cX6_back 12 = .ok (.getfield 89, 3) := by decide +kernel
theorem dX6_back_15 : decode cX6_back 15 = .ok (.iload_n 1, 1) := by decide +kernel
theorem dX6_back_16 : decode cX6_back 16 = .ok (.ishr, 1) := by decide +kernel
theorem dX6_back_17 : decode cX6_back 17 = .ok (.iconst 1, 1) := by decide +kernel
theorem dX6_back_18 : decode cX6_back 18 = .ok (.iand, 1) := by decide +kernel
theorem dX6_back_19 : decode cX6_back 19 = .ok (.ifCond .ne 6, 3) := by decide +kernel
theorem dX6_back_22 : decode cX6_back 22 = .ok (.bipush (-2), 2) := by decide +kernel
theorem dX6_back_24 : decode cX6_back 24 = .ok (.ireturn, 1) := by decide +kernel
theorem dX6_back_25 : decode cX6_back 25 = .ok (.aload_n 0, 1) := by decide +kernel
theorem dX6_back_26 : decode cX6_back 26 = .ok (.getfield 10, 3) := by decide +kernel
theorem dX6_back_29 : decode cX6_back 29 = .ok (.aload_n 0, 1) := by decide +kernel
theorem dX6_back_30 : decode cX6_back 30 = .ok (.iload_n 1, 1) := by decide +kernel
theorem dX6_back_31 : decode cX6_back 31 = .ok (.invokevirtual 277, 3) := by decide +kernel
theorem dX6_back_34 : decode cX6_back 34 = .ok (.invokevirtual 82, 3) := by decide +kernel
theorem dX6_back_37 : decode cX6_back 37 = .ok (.aload_n 0, 1) := by decide +kernel
theorem dX6_back_38 : decode cX6_back 38 = .ok (.getfield 10, 3) := by decide +kernel
theorem dX6_back_41 : decode cX6_back 41 = .ok (.getfield 92, 3) := by decide +kernel
theorem dX6_back_44 : decode cX6_back 44 = .ok (.ireturn, 1) := by decide +kernel
theorem dX6_imageOf_0 : decode cX6_imageOf 0 = .ok (.iload_n 1, 1) := by decide +kernel
theorem dX6_imageOf_1 : decode cX6_imageOf 1 = .ok (.ifCond .ne 10, 3) := by decide +kernel
theorem dX6_imageOf_4 : decode cX6_imageOf 4 = .ok (.aload_n 0, 1) := by decide +kernel
theorem dX6_imageOf_5 : decode cX6_imageOf 5 = .ok (.getfield 51, 3) := by decide +kernel
theorem dX6_imageOf_8 : decode cX6_imageOf 8 = .ok (.goto 7, 3) := by decide +kernel
theorem dX6_imageOf_11 : decode cX6_imageOf 11 = .ok (.aload_n 0, 1) := by decide +kernel
theorem dX6_imageOf_12 : decode cX6_imageOf 12 = .ok (.getfield 54, 3) := by decide +kernel
theorem dX6_imageOf_15 : decode cX6_imageOf 15 = .ok (.areturn, 1) := by decide +kernel
theorem dX6_sheet_0 : decode cX6_sheet 0 = .ok (.iload_n 1, 1) := by decide +kernel
theorem dX6_sheet_1 : decode cX6_sheet 1 = .ok (.iconst 0, 1) := by decide +kernel
theorem dX6_sheet_2 : decode cX6_sheet 2 = .ok (.iconst 3, 1) := by decide +kernel
theorem dX6_sheet_3 : decode cX6_sheet 3 = .ok (.invokestatic 57, 3) := by decide +kernel
theorem dX6_sheet_6 : decode cX6_sheet 6 = .ok (.ifCond .eq 18, 3) := by decide +kernel
theorem dX6_sheet_9 : decode cX6_sheet 9 = .ok (.iload_n 2, 1) := by decide +kernel
theorem dX6_sheet_10 : decode cX6_sheet 10 = .ok (.iconst 0, 1) := by decide +kernel
theorem dX6_sheet_11 : decode cX6_sheet 11 = .ok (.iconst 2, 1) := by decide +kernel
theorem dX6_sheet_12 : decode cX6_sheet 12 = .ok (.invokestatic 57, 3) := by decide +kernel
theorem dX6_sheet_15 : decode cX6_sheet 15 = .ok (.ifCond .eq 9, 3) := by decide +kernel
theorem dX6_sheet_18 : decode cX6_sheet 18 = .ok (.iload_n 3, 1) := by decide +kernel
theorem dX6_sheet_19 : decode cX6_sheet 19 = .ok (.bipush 40, 2) := by decide +kernel
theorem dX6_sheet_21 : decode cX6_sheet 21 = .ok (.if_icmp .le 5, 3) := by decide +kernel
theorem dX6_sheet_24 : decode cX6_sheet 24 = .ok (.iconst (-1), 1) := by decide +kernel
theorem dX6_sheet_25 : decode cX6_sheet 25 = .ok (.ireturn, 1) := by decide +kernel
theorem dX6_sheet_26 : decode cX6_sheet 26 = .ok (.iload_n 3, 1) := by decide +kernel
theorem dX6_sheet_27 : decode cX6_sheet 27 = .ok (.ifCond .ge 6, 3) := by decide +kernel
theorem dX6_sheet_30 : decode cX6_sheet 30 = .ok (.bipush (-14), 2) := by decide +kernel
theorem dX6_sheet_32 : decode cX6_sheet 32 = .ok (.ireturn, 1) := by decide +kernel
theorem dX6_sheet_33 : decode cX6_sheet 33 = .ok (.aload_n 0, 1) := by decide +kernel
theorem dX6_sheet_34 : decode cX6_sheet 34 = .ok (.getfield 47, 3) := by decide +kernel
theorem dX6_sheet_37 : decode cX6_sheet 37 = .ok (.iload_n 1, 1) := by decide +kernel
theorem dX6_sheet_38 : decode cX6_sheet 38 = .ok (.iload_n 2, 1) := by decide +kernel
theorem dX6_sheet_39 : decode cX6_sheet 39 = .ok (.iload_n 3, 1) := by decide +kernel
theorem dX6_sheet_40 : decode cX6_sheet 40 = .ok (.invokevirtual 281, 3) := by decide +kernel
theorem dX6_sheet_43 : decode cX6_sheet 43 = .ok (.iconst 1, 1) := by decide +kernel
theorem dX6_sheet_44 : decode cX6_sheet 44 = .ok (.ireturn, 1) := by decide +kernel
theorem dX6_lay_0 : decode cX6_lay 0 = .ok (.iload_n 1, 1) := by decide +kernel
theorem dX6_lay_1 : decode cX6_lay 1 = .ok (.iconst 0, 1) := by decide +kernel
theorem dX6_lay_2 : decode cX6_lay 2 = .ok (.iconst 3, 1) := by decide +kernel
theorem dX6_lay_3 : decode cX6_lay 3 = .ok (.invokestatic 57, 3) := by decide +kernel
theorem dX6_lay_6 : decode cX6_lay 6 = .ok (.ifCond .ne 5, 3) := by decide +kernel
theorem dX6_lay_9 : decode cX6_lay 9 = .ok (.iconst (-1), 1) := by decide +kernel
theorem dX6_lay_10 : decode cX6_lay 10 = .ok (.ireturn, 1) := by decide +kernel
theorem dX6_lay_11 : decode cX6_lay 11 = .ok (.aload_n 0, 1) := by decide +kernel
theorem dX6_lay_12 : decode cX6_lay 12 = .ok (.getfield 47, 3) := by decide +kernel
theorem dX6_lay_15 : decode cX6_lay 15 = .ok (.iload_n 1, 1) := by decide +kernel
theorem dX6_lay_16 : decode cX6_lay 16 = .ok (.aload_n 0, 1) := by decide +kernel
theorem dX6_lay_17 : decode cX6_lay 17 = .ok (.getfield 47, 3) := by decide +kernel
theorem dX6_lay_20 : decode cX6_lay 20 = .ok (.iload_n 1, 1) := by decide +kernel
theorem dX6_lay_21 : decode cX6_lay 21 = .ok (.invokevirtual 284, 3) := by decide +kernel
theorem dX6_lay_24 : decode cX6_lay 24 = .ok (.iload_n 2, 1) := by decide +kernel
theorem dX6_lay_25 : decode cX6_lay 25 = .ok (.iconst 1, 1) := by decide +kernel
theorem dX6_lay_26 : decode cX6_lay 26 = .ok (.invokevirtual 287, 3) := by decide +kernel
theorem dX6_lay_29 : decode cX6_lay 29 = .ok (.istore 4, 2) := by decide +kernel
theorem dX6_lay_31 : decode cX6_lay 31 = .ok (.iload 4, 2) := by decide +kernel
theorem dX6_lay_33 : decode cX6_lay 33 = .ok (.ifCond .eq 9, 3) := by decide +kernel
theorem dX6_lay_36 : decode cX6_lay 36 = .ok (.bipush (-10), 2) := by decide +kernel
theorem dX6_lay_38 : decode cX6_lay 38 = .ok (.iload 4, 2) := by decide +kernel
theorem dX6_lay_40 : decode cX6_lay 40 = .ok (.isub, 1) := by decide +kernel
theorem dX6_lay_41 : decode cX6_lay 41 = .ok (.ireturn, 1) := by decide +kernel
theorem dX6_lay_42 : decode cX6_lay 42 = .ok (.aload_n 0, 1) := by decide +kernel
theorem dX6_lay_43 : decode cX6_lay 43 = .ok (.getfield 47, 3) := by decide +kernel
theorem dX6_lay_46 : decode cX6_lay 46 = .ok (.iload_n 1, 1) := by decide +kernel
theorem dX6_lay_47 : decode cX6_lay 47 = .ok (.iload_n 2, 1) := by decide +kernel
theorem dX6_lay_48 : decode cX6_lay 48 = .ok (.iload_n 3, 1) := by decide +kernel
theorem dX6_lay_49 : decode cX6_lay 49 = .ok (.invokevirtual 290, 3) := by decide +kernel
theorem dX6_lay_52 : decode cX6_lay 52 = .ok (.iconst 1, 1) := by decide +kernel
theorem dX6_lay_53 : decode cX6_lay 53 = .ok (.ireturn, 1) := by decide +kernel
theorem dX6_read_0 : decode cX6_read 0 = .ok (.iload_n 1, 1) := by decide +kernel
theorem dX6_read_1 : decode cX6_read 1 = .ok (.iconst 0, 1) := by decide +kernel
theorem dX6_read_2 : decode cX6_read 2 = .ok (.iconst 3, 1) := by decide +kernel
theorem dX6_read_3 : decode cX6_read 3 = .ok (.invokestatic 57, 3) := by decide +kernel
theorem dX6_read_6 : decode cX6_read 6 = .ok (.ifCond .eq 23, 3) := by decide +kernel
theorem dX6_read_9 : decode cX6_read 9 = .ok (.iload_n 2, 1) := by decide +kernel
theorem dX6_read_10 : decode cX6_read 10 = .ok (.iconst 0, 1) := by decide +kernel
theorem dX6_read_11 : decode cX6_read 11 = .ok (.iconst 2, 1) := by decide +kernel
theorem dX6_read_12 : decode cX6_read 12 = .ok (.invokestatic 57, 3) := by decide +kernel
theorem dX6_read_15 : decode cX6_read 15 = .ok (.ifCond .eq 14, 3) := by decide +kernel
theorem dX6_read_18 : decode cX6_read 18 = .ok (.iload 4, 2) := by decide +kernel
theorem dX6_read_20 : decode cX6_read 20 = .ok (.iconst 0, 1) := by decide +kernel
theorem dX6_read_21 : decode cX6_read 21 = .ok (.bipush 10, 2) := by decide +kernel
theorem dX6_read_23 : decode cX6_read 23 = .ok (.invokestatic 57, 3) := by decide +kernel
theorem dX6_read_26 : decode cX6_read 26 = .ok (.ifCond .ne 5, 3) := by decide +kernel
theorem dX6_read_29 : decode cX6_read 29 = .ok (.iconst (-1), 1) := by decide +kernel
theorem dX6_read_30 : decode cX6_read 30 = .ok (.ireturn, 1) := by decide +kernel
theorem dX6_read_31 : decode cX6_read 31 = .ok (.aload_n 0, 1) := by decide +kernel
theorem dX6_read_32 : decode cX6_read 32 = .ok (.getfield 10, 3) := by decide +kernel
theorem dX6_read_35 : decode cX6_read 35 = .ok (.getfield 92, 3) := by decide +kernel
theorem dX6_read_38 : decode cX6_read 38 = .ok (.istore 5, 2) := by decide +kernel
theorem dX6_read_40 : decode cX6_read 40 = .ok (.iconst 0, 1) := by decide +kernel
theorem dX6_read_41 : decode cX6_read 41 = .ok (.istore 6, 2) := by decide +kernel
theorem dX6_read_43 : decode cX6_read 43 = .ok (.iconst 0, 1) := by decide +kernel
theorem dX6_read_44 : decode cX6_read 44 = .ok (.istore 7, 2) := by decide +kernel
theorem dX6_read_46 : decode cX6_read 46 = .ok (.iconst 0, 1) := by decide +kernel
theorem dX6_read_47 : decode cX6_read 47 = .ok (.istore 8, 2) := by decide +kernel
theorem dX6_read_49 : decode cX6_read 49 = .ok (.iload 8, 2) := by decide +kernel
theorem dX6_read_51 : decode cX6_read 51 = .ok (.iload 4, 2) := by decide +kernel
theorem dX6_read_53 : decode cX6_read 53 = .ok (.if_icmp .ge 69, 3) := by decide +kernel
theorem dX6_read_56 : decode cX6_read 56 = .ok (.iload 6, 2) := by decide +kernel
theorem dX6_read_58 : decode cX6_read 58 = .ok (.ifCond .ne 64, 3) := by decide +kernel
theorem dX6_read_61 : decode cX6_read 61 = .ok (.iload_n 3, 1) := by decide +kernel
theorem dX6_read_62 : decode cX6_read 62 = .ok (.iconst 4, 1) := by decide +kernel
theorem dX6_read_63 : decode cX6_read 63 = .ok (.iload 8, 2) := by decide +kernel
theorem dX6_read_65 : decode cX6_read 65 = .ok (.imul, 1) := by decide +kernel
theorem dX6_read_66 : decode cX6_read 66 = .ok (.iadd, 1) := by decide +kernel
theorem dX6_read_67 : decode cX6_read 67 = .ok (.istore 9, 2) := by decide +kernel
theorem dX6_read_69 : decode cX6_read 69 = .ok (.aload_n 0, 1) := by decide +kernel
theorem dX6_read_70 : decode cX6_read 70 = .ok (.getfield 47, 3) := by decide +kernel
theorem dX6_read_73 : decode cX6_read 73 = .ok (.iload_n 1, 1) := by decide +kernel
theorem dX6_read_74 : decode cX6_read 74 = .ok (.iload_n 2, 1) := by decide +kernel
theorem dX6_read_75 : decode cX6_read 75 = .ok (.iload 9, 2) := by decide +kernel
theorem dX6_read_77 : decode cX6_read 77 = .ok (.iconst 4, 1) := by decide +kernel
theorem dX6_read_78 : decode cX6_read 78 = .ok (.invokevirtual 287, 3) := by decide +kernel
theorem dX6_read_81 : decode cX6_read 81 = .ok (.istore 6, 2) := by decide +kernel
theorem dX6_read_83 : decode cX6_read 83 = .ok (.iload 6, 2) := by decide +kernel
theorem dX6_read_85 : decode cX6_read 85 = .ok (.ifCond .ne 31, 3) := by decide +kernel
theorem dX6_read_88 : decode cX6_read 88 = .ok (.aload_n 0, 1) := by decide +kernel
theorem dX6_read_89 : decode cX6_read 89 = .ok (.iload_n 1, 1) := by decide +kernel
theorem dX6_read_90 : decode cX6_read 90 = .ok (.iload 9, 2) := by decide +kernel
theorem dX6_read_92 : decode cX6_read 92 = .ok (.invokevirtual 293, 3) := by decide +kernel
theorem dX6_read_95 : decode cX6_read 95 = .ok (.ifCond .ge 18, 3) := by decide +kernel
theorem dX6_read_98 : decode cX6_read 98 = .ok (.aload_n 0, 1) := by decide +kernel
theorem dX6_read_99 : decode cX6_read 99 = .ok (.getfield 10, 3) := by decide +kernel
theorem dX6_read_102 : decode cX6_read 102 = .ok (.iload 5, 2) := by decide +kernel
theorem dX6_read_104 : decode cX6_read 104 = .ok (.putfield 92, 3) := by decide +kernel
theorem dX6_read_107 : decode cX6_read 107 = .ok (.bipush (-20), 2) := by decide +kernel
theorem dX6_read_109 : decode cX6_read 109 = .ok (.iload 8, 2) := by decide +kernel
theorem dX6_read_111 : decode cX6_read 111 = .ok (.isub, 1) := by decide +kernel
theorem dX6_read_112 : decode cX6_read 112 = .ok (.ireturn, 1) := by decide +kernel
theorem dX6_read_113 : decode cX6_read 113 = .ok (.iinc 7 1, 3) := by decide +kernel
theorem dX6_read_116 : decode cX6_read 116 = .ok (.iinc 8 1, 3) := by decide +kernel
theorem dX6_read_119 : decode cX6_read 119 = .ok (.goto (-70), 3) := by decide +kernel
theorem dX6_read_122 : decode cX6_read 122 = .ok (.aload_n 0, 1) := by decide +kernel
theorem dX6_read_123 : decode cX6_read 123 = .ok (.iload 6, 2) := by decide +kernel
theorem dX6_read_125 : decode cX6_read 125 = .ok (.putfield 296, 3) := by decide +kernel
theorem dX6_read_128 : decode cX6_read 128 = .ok (.iload 7, 2) := by decide +kernel
theorem dX6_read_130 : decode cX6_read 130 = .ok (.ireturn, 1) := by decide +kernel
theorem dX6_addFromSheet_0 : decode cX6_addFromSheet 0 = .ok (.aload_n 0, 1) := by decide +kernel
theorem dX6_addFromSheet_1 : decode cX6_addFromSheet 1 = .ok (.getfield 10, 3) := by decide +kernel
theorem dX6_addFromSheet_4 : decode cX6_addFromSheet 4 = .ok (.aload_n 0, 1) := by decide +kernel
theorem dX6_addFromSheet_5 : decode cX6_addFromSheet 5 = .ok (.getfield 47, 3) := by decide +kernel
theorem dX6_addFromSheet_8 : decode cX6_addFromSheet 8 = .ok (.iload_n 1, 1) := by decide +kernel
theorem dX6_addFromSheet_9 : decode cX6_addFromSheet 9 = .ok (.iload_n 2, 1) := by decide +kernel
theorem dX6_addFromSheet_10 : decode cX6_addFromSheet 10 = .ok (.iconst 0, 1) := by decide +kernel
theorem dX6_addFromSheet_11 : decode cX6_addFromSheet 11 = .ok (.iadd, 1) := by decide +kernel
theorem dX6_addFromSheet_12 : decode cX6_addFromSheet 12 = .ok (.invokevirtual 299, 3) := by decide +kernel
theorem dX6_addFromSheet_15 : decode cX6_addFromSheet 15 = .ok (.aload_n 0, 1) := by decide +kernel
theorem dX6_addFromSheet_16 : decode cX6_addFromSheet 16 = .ok (.getfield 47, 3) := by decide +kernel
theorem dX6_addFromSheet_19 : decode cX6_addFromSheet 19 = .ok (.iload_n 1, 1) := by decide +kernel
theorem dX6_addFromSheet_20 : decode cX6_addFromSheet 20 = .ok (.iload_n 2, 1) := by decide +kernel
theorem dX6_addFromSheet_21 : decode cX6_addFromSheet 21 = .ok (.iconst 1, 1) := by decide +kernel
theorem dX6_addFromSheet_22 : decode cX6_addFromSheet 22 = .ok (.iadd, 1) := by decide +kernel
theorem dX6_addFromSheet_23 : decode cX6_addFromSheet 23 = .ok (.invokevirtual 299, 3) := by decide +kernel
theorem dX6_addFromSheet_26 : decode cX6_addFromSheet 26 = .ok (.aload_n 0, 1) := by decide +kernel
theorem dX6_addFromSheet_27 : decode cX6_addFromSheet 27 = .ok (.getfield 47, 3) := by decide +kernel
theorem dX6_addFromSheet_30 : decode cX6_addFromSheet 30 = .ok (.iload_n 1, 1) := by decide +kernel
theorem dX6_addFromSheet_31 : decode cX6_addFromSheet 31 = .ok (.iload_n 2, 1) := by decide +kernel
theorem dX6_addFromSheet_32 : decode cX6_addFromSheet 32 = .ok (.iconst 2, 1) := by decide +kernel
theorem dX6_addFromSheet_33 : decode cX6_addFromSheet 33 = .ok (.iadd, 1) := by decide +kernel
theorem dX6_addFromSheet_34 : decode cX6_addFromSheet 34 = .ok (.invokevirtual 299, 3) := by decide +kernel
theorem dX6_addFromSheet_37 : decode cX6_addFromSheet 37 = .ok (.aload_n 0, 1) := by decide +kernel
theorem dX6_addFromSheet_38 : decode cX6_addFromSheet 38 = .ok (.getfield 47, 3) := by decide +kernel
theorem dX6_addFromSheet_41 : decode cX6_addFromSheet 41 = .ok (.iload_n 1, 1) := by decide +kernel
theorem dX6_addFromSheet_42 : decode cX6_addFromSheet 42 = .ok (.iload_n 2, 1) := by decide +kernel
theorem dX6_addFromSheet_43 : decode cX6_addFromSheet 43 = .ok (.iconst 3, 1) := by decide +kernel
theorem dX6_addFromSheet_44 : decode cX6_addFromSheet 44 = .ok (.iadd, 1) := by decide +kernel
theorem dX6_addFromSheet_45 : decode cX6_addFromSheet 45 = .ok (.invokevirtual 299, 3) := by decide +kernel
theorem dX6_addFromSheet_48 : decode cX6_addFromSheet 48 = .ok (.invokevirtual 173, 3) := by decide +kernel
theorem dX6_addFromSheet_51 : decode cX6_addFromSheet 51 = .ok (.ireturn, 1) := by decide +kernel
theorem dX6_torn_0 : decode cX6_torn 0 = .ok (.aload_n 0, 1) := by decide +kernel
theorem dX6_torn_1 : decode cX6_torn 1 = .ok (.getfield 296, 3) := by decide +kernel
theorem dX6_torn_4 : decode cX6_torn 4 = .ok (.ireturn, 1) := by decide +kernel
theorem dX6_count_0 : decode cX6_count 0 = .ok (.iload_n 1, 1) := by decide +kernel
theorem dX6_count_1 : decode cX6_count 1 = .ok (.tableswitch 104 0 5 #[39, 47, 55, 63, 88, 96], 39) := by decide +kernel
theorem dX6_count_40 : decode cX6_count 40 = .ok (.aload_n 0, 1) := by decide +kernel
theorem dX6_count_41 : decode cX6_count 41 = .ok (.getfield 40, 3) := by decide +kernel
theorem dX6_count_44 : decode cX6_count 44 = .ok (.getfield 86, 3) := by decide +kernel
theorem dX6_count_47 : decode cX6_count 47 = .ok (.ireturn, 1) := by decide +kernel
theorem dX6_count_48 : decode cX6_count 48 = .ok (.aload_n 0, 1) := by decide +kernel
theorem dX6_count_49 : decode cX6_count 49 = .ok (.getfield 89, 3) := by decide +kernel
theorem dX6_count_52 : decode cX6_count 52 = .ok (.invokestatic 204, 3) := by decide +kernel
theorem dX6_count_55 : decode cX6_count 55 = .ok (.ireturn, 1) := by decide +kernel
theorem dX6_count_56 : decode cX6_count 56 = .ok (.aload_n 0, 1) := by decide +kernel
theorem dX6_count_57 : decode cX6_count 57 = .ok (.getfield 33, 3) := by decide +kernel
theorem dX6_count_60 : decode cX6_count 60 = .ok (.getfield 61, 3) := by decide +kernel
theorem dX6_count_63 : decode cX6_count 63 = .ok (.ireturn, 1) := by decide +kernel
theorem dX6_count_64 : decode cX6_count 64 = .ok (.aload_n 0, 1) := by decide +kernel
theorem dX6_count_65 : decode cX6_count 65 = .ok (.getfield 47, 3) := by decide +kernel
theorem dX6_count_68 : decode cX6_count 68 = .ok (.iconst 0, 1) := by decide +kernel
theorem dX6_count_69 : decode cX6_count 69 = .ok (.invokevirtual 302, 3) := by decide +kernel
theorem dX6_count_72 : decode cX6_count 72 = .ok (.ifCond .eq 8, 3) := by decide +kernel
theorem dX6_count_75 : decode cX6_count 75 = .ok (.bipush (-4), 2) := by decide +kernel
theorem dX6_count_77 : decode cX6_count 77 = .ok (.goto 11, 3) := by decide +kernel
theorem dX6_count_80 : decode cX6_count 80 = .ok (.aload_n 0, 1) := by decide +kernel
theorem dX6_count_81 : decode cX6_count 81 = .ok (.getfield 47, 3) := by decide +kernel
theorem dX6_count_84 : decode cX6_count 84 = .ok (.iconst 0, 1) := by decide +kernel
theorem dX6_count_85 : decode cX6_count 85 = .ok (.invokevirtual 305, 3) := by decide +kernel
theorem dX6_count_88 : decode cX6_count 88 = .ok (.ireturn, 1) := by decide +kernel
theorem dX6_count_89 : decode cX6_count 89 = .ok (.aload_n 0, 1) := by decide +kernel
theorem dX6_count_90 : decode cX6_count 90 = .ok (.getfield 10, 3) := by decide +kernel
theorem dX6_count_93 : decode cX6_count 93 = .ok (.invokevirtual 308, 3) := by decide +kernel
theorem dX6_count_96 : decode cX6_count 96 = .ok (.ireturn, 1) := by decide +kernel
theorem dX6_count_97 : decode cX6_count 97 = .ok (.aload_n 0, 1) := by decide +kernel
theorem dX6_count_98 : decode cX6_count 98 = .ok (.getfield 10, 3) := by decide +kernel
theorem dX6_count_101 : decode cX6_count 101 = .ok (.invokevirtual 311, 3) := by decide +kernel
theorem dX6_count_104 : decode cX6_count 104 = .ok (.ireturn, 1) := by decide +kernel
theorem dX6_count_105 : decode cX6_count 105 = .ok (.iconst (-1), 1) := by decide +kernel
theorem dX6_count_106 : decode cX6_count 106 = .ok (.ireturn, 1) := by decide +kernel
theorem dX6_within_0 : decode cX6_within 0 = .ok (.iload_n 0, 1) := by decide +kernel
theorem dX6_within_1 : decode cX6_within 1 = .ok (.iload_n 1, 1) := by decide +kernel
theorem dX6_within_2 : decode cX6_within 2 = .ok (.if_icmp .lt 12, 3) := by decide +kernel
theorem dX6_within_5 : decode cX6_within 5 = .ok (.iload_n 0, 1) := by decide +kernel
theorem dX6_within_6 : decode cX6_within 6 = .ok (.iload_n 2, 1) := by decide +kernel
theorem dX6_within_7 : decode cX6_within 7 = .ok (.if_icmp .gt 7, 3) := by decide +kernel
theorem dX6_within_10 : decode cX6_within 10 = .ok (.iconst 1, 1) := by decide +kernel
theorem dX6_within_11 : decode cX6_within 11 = .ok (.goto 4, 3) := by decide +kernel
theorem dX6_within_14 : decode cX6_within 14 = .ok (.iconst 0, 1) := by decide +kernel
theorem dX6_within_15 : decode cX6_within 15 = .ok (.ireturn, 1) := by decide +kernel
theorem dX6_fitsWork_0 : decode cX6_fitsWork 0 = .ok (.iload_n 0, 1) := by decide +kernel
theorem dX6_fitsWork_1 : decode cX6_fitsWork 1 = .ok (.iconst 0, 1) := by decide +kernel
theorem dX6_fitsWork_2 : decode cX6_fitsWork 2 = .ok (.iconst 3, 1) := by decide +kernel
theorem dX6_fitsWork_3 : decode cX6_fitsWork 3 = .ok (.invokestatic 57, 3) := by decide +kernel
theorem dX6_fitsWork_6 : decode cX6_fitsWork 6 = .ok (.ifCond .eq 24, 3) := by decide +kernel
theorem dX6_fitsWork_9 : decode cX6_fitsWork 9 = .ok (.iload_n 1, 1) := by decide +kernel
theorem dX6_fitsWork_10 : decode cX6_fitsWork 10 = .ok (.getstatic 215, 3) := by decide +kernel
theorem dX6_fitsWork_13 : decode cX6_fitsWork 13 = .ok (.iload_n 0, 1) := by decide +kernel
theorem dX6_fitsWork_14 : decode cX6_fitsWork 14 = .ok (.iaload, 1) := by decide +kernel
theorem dX6_fitsWork_15 : decode cX6_fitsWork 15 = .ok (.getstatic 197, 3) := by decide +kernel
theorem dX6_fitsWork_18 : decode cX6_fitsWork 18 = .ok (.iload_n 0, 1) := by decide +kernel
theorem dX6_fitsWork_19 : decode cX6_fitsWork 19 = .ok (.iaload, 1) := by decide +kernel
theorem dX6_fitsWork_20 : decode cX6_fitsWork 20 = .ok (.invokestatic 57, 3) := by decide +kernel
theorem dX6_fitsWork_23 : decode cX6_fitsWork 23 = .ok (.ifCond .eq 7, 3) := by decide +kernel
theorem dX6_fitsWork_26 : decode cX6_fitsWork 26 = .ok (.iconst 1, 1) := by decide +kernel
theorem dX6_fitsWork_27 : decode cX6_fitsWork 27 = .ok (.goto 4, 3) := by decide +kernel
theorem dX6_fitsWork_30 : decode cX6_fitsWork 30 = .ok (.iconst 0, 1) := by decide +kernel
theorem dX6_fitsWork_31 : decode cX6_fitsWork 31 = .ok (.ireturn, 1) := by decide +kernel
theorem dX6_fitsReader_0 : decode cX6_fitsReader 0 = .ok (.iload_n 0, 1) := by decide +kernel
theorem dX6_fitsReader_1 : decode cX6_fitsReader 1 = .ok (.iconst 0, 1) := by decide +kernel
theorem dX6_fitsReader_2 : decode cX6_fitsReader 2 = .ok (.iconst 1, 1) := by decide +kernel
theorem dX6_fitsReader_3 : decode cX6_fitsReader 3 = .ok (.invokestatic 57, 3) := by decide +kernel
theorem dX6_fitsReader_6 : decode cX6_fitsReader 6 = .ok (.ifCond .eq 20, 3) := by decide +kernel
theorem dX6_fitsReader_9 : decode cX6_fitsReader 9 = .ok (.iload_n 1, 1) := by decide +kernel
theorem dX6_fitsReader_10 : decode cX6_fitsReader 10 = .ok (.iconst 0, 1) := by decide +kernel
theorem dX6_fitsReader_11 : decode cX6_fitsReader 11 = .ok (.getstatic 314, 3) := by decide +kernel
theorem dX6_fitsReader_14 : decode cX6_fitsReader 14 = .ok (.iload_n 0, 1) := by decide +kernel
theorem dX6_fitsReader_15 : decode cX6_fitsReader 15 = .ok (.iaload, 1) := by decide +kernel
theorem dX6_fitsReader_16 : decode cX6_fitsReader 16 = .ok (.invokestatic 57, 3) := by decide +kernel
theorem dX6_fitsReader_19 : decode cX6_fitsReader 19 = .ok (.ifCond .eq 7, 3) := by decide +kernel
theorem dX6_fitsReader_22 : decode cX6_fitsReader 22 = .ok (.iconst 1, 1) := by decide +kernel
theorem dX6_fitsReader_23 : decode cX6_fitsReader 23 = .ok (.goto 4, 3) := by decide +kernel
theorem dX6_fitsReader_26 : decode cX6_fitsReader 26 = .ok (.iconst 0, 1) := by decide +kernel
theorem dX6_fitsReader_27 : decode cX6_fitsReader 27 = .ok (.ireturn, 1) := by decide +kernel
theorem dX6_clampToDyke_0 : decode cX6_clampToDyke 0 = .ok (.iconst 0, 1) := by decide +kernel
theorem dX6_clampToDyke_1 : decode cX6_clampToDyke 1 = .ok (.bipush 11, 2) := by decide +kernel
theorem dX6_clampToDyke_3 : decode cX6_clampToDyke 3 = .ok (.iload_n 0, 1) := by decide +kernel
theorem dX6_clampToDyke_4 : decode cX6_clampToDyke 4 = .ok (.invokestatic 317, 3) := by decide +kernel
theorem dX6_clampToDyke_7 : decode cX6_clampToDyke 7 = .ok (.invokestatic 271, 3) := by decide +kernel
theorem dX6_clampToDyke_10 : decode cX6_clampToDyke 10 = .ok (.ireturn, 1) := by decide +kernel
theorem dX6_power_0 : decode cX6_power 0 = .ok (.lconst 1, 1) := by decide +kernel
theorem dX6_power_1 : decode cX6_power 1 = .ok (.lstore_n 3, 1) := by decide +kernel
theorem dX6_power_2 : decode cX6_power 2 = .ok (.iconst 0, 1) := by decide +kernel
theorem dX6_power_3 : decode cX6_power 3 = .ok (.istore 5, 2) := by decide +kernel
theorem dX6_power_5 : decode cX6_power 5 = .ok (.iload 5, 2) := by decide +kernel
theorem dX6_power_7 : decode cX6_power 7 = .ok (.iload_n 2, 1) := by decide +kernel
theorem dX6_power_8 : decode cX6_power 8 = .ok (.if_icmp .ge 13, 3) := by decide +kernel
theorem dX6_power_11 : decode cX6_power 11 = .ok (.lload_n 3, 1) := by decide +kernel
theorem dX6_power_12 : decode cX6_power 12 = .ok (.lload_n 0, 1) := by decide +kernel
theorem dX6_power_13 : decode cX6_power 13 = .ok (.lmul, 1) := by decide +kernel
theorem dX6_power_14 : decode cX6_power 14 = .ok (.lstore_n 3, 1) := by decide +kernel
theorem dX6_power_15 : decode cX6_power 15 = .ok (.iinc 5 1, 3) := by decide +kernel
theorem dX6_power_18 : decode cX6_power 18 = .ok (.goto (-13), 3) := by decide +kernel
theorem dX6_power_21 : decode cX6_power 21 = .ok (.lload_n 3, 1) := by decide +kernel
theorem dX6_power_22 : decode cX6_power 22 = .ok (.lreturn, 1) := by decide +kernel
theorem dX6_partOf_0 : decode cX6_partOf 0 = .ok (.lload_n 0, 1) := by decide +kernel
theorem dX6_partOf_1 : decode cX6_partOf 1 = .ok (.lload_n 2, 1) := by decide +kernel
theorem dX6_partOf_2 : decode cX6_partOf 2 = .ok (.invokestatic 320, 3) := by decide +kernel
theorem dX6_partOf_5 : decode cX6_partOf 5 = .ok (.lstore 5, 2) := by decide +kernel
theorem dX6_partOf_7 : decode cX6_partOf 7 = .ok (.lload 5, 2) := by decide +kernel
theorem dX6_partOf_9 : decode cX6_partOf 9 = .ok (.lconst 1, 1) := by decide +kernel
theorem dX6_partOf_10 : decode cX6_partOf 10 = .ok (.lcmp, 1) := by decide +kernel
theorem dX6_partOf_11 : decode cX6_partOf 11 = .ok (.ifCond .ge 7, 3) := by decide +kernel
theorem dX6_partOf_14 : decode cX6_partOf 14 = .ok (.ldc2_w 224, 3) := by decide +kernel
theorem dX6_partOf_17 : decode cX6_partOf 17 = .ok (.lreturn, 1) := by decide +kernel
theorem dX6_partOf_18 : decode cX6_partOf 18 = .ok (.iload 4, 2) := by decide +kernel
theorem dX6_partOf_20 : decode cX6_partOf 20 = .ok (.ifCond .ne 10, 3) := by decide +kernel
theorem dX6_partOf_23 : decode cX6_partOf 23 = .ok (.lload_n 0, 1) := by decide +kernel
theorem dX6_partOf_24 : decode cX6_partOf 24 = .ok (.lload 5, 2) := by decide +kernel
theorem dX6_partOf_26 : decode cX6_partOf 26 = .ok (.ldiv, 1) := by decide +kernel
theorem dX6_partOf_27 : decode cX6_partOf 27 = .ok (.goto 7, 3) := by decide +kernel
theorem dX6_partOf_30 : decode cX6_partOf 30 = .ok (.lload_n 2, 1) := by decide +kernel
theorem dX6_partOf_31 : decode cX6_partOf 31 = .ok (.lload 5, 2) := by decide +kernel
theorem dX6_partOf_33 : decode cX6_partOf 33 = .ok (.ldiv, 1) := by decide +kernel
theorem dX6_partOf_34 : decode cX6_partOf 34 = .ok (.lreturn, 1) := by decide +kernel
