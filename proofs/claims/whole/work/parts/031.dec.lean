theorem dX4_agreeWith_0 : decode cX4_agreeWith 0 = .ok (.iconst 0, 1) := by decide +kernel
theorem dX4_agreeWith_1 : decode cX4_agreeWith 1 = .ok (.istore_n 2, 1) := by decide +kernel
theorem dX4_agreeWith_2 : decode cX4_agreeWith 2 = .ok (.iload_n 2, 1) := by decide +kernel
theorem dX4_agreeWith_3 : decode cX4_agreeWith 3 = .ok (.aload_n 0, 1) := by decide +kernel
theorem dX4_agreeWith_4 : decode cX4_agreeWith 4 = .ok (.getfield 18, 3) := by decide +kernel
theorem dX4_agreeWith_7 : decode cX4_agreeWith 7 = .ok (.if_icmp .ge 43, 3) := by decide +kernel
theorem dX4_agreeWith_10 : decode cX4_agreeWith 10 = .ok (.aload_n 1, 1) := by decide +kernel
theorem dX4_agreeWith_11 : decode cX4_agreeWith 11 = .ok (.aload_n 0, 1) := by decide +kernel
theorem dX4_agreeWith_12 : decode cX4_agreeWith 12 = .ok (.getfield 9, 3) := by decide +kernel
theorem dX4_agreeWith_15 : decode cX4_agreeWith 15 = .ok (.iload_n 2, 1) := by decide +kernel
theorem dX4_agreeWith_16 : decode cX4_agreeWith 16 = .ok (.iaload, 1) := by decide +kernel
theorem dX4_agreeWith_17 : decode cX4_agreeWith 17 = .ok (.invokevirtual 22, 3) := by decide +kernel
theorem dX4_agreeWith_20 : decode cX4_agreeWith 20 = .ok (.ifCond .eq 22, 3) := by decide +kernel
theorem dX4_agreeWith_23 : decode cX4_agreeWith 23 = .ok (.aload_n 1, 1) := by decide +kernel
theorem dX4_agreeWith_24 : decode cX4_agreeWith 24 = .ok (.aload_n 0, 1) := by decide +kernel
theorem dX4_agreeWith_25 : decode cX4_agreeWith 25 = .ok (.getfield 9, 3) := by decide +kernel
theorem dX4_agreeWith_28 : decode cX4_agreeWith 28 = .ok (.iload_n 2, 1) := by decide +kernel
theorem dX4_agreeWith_29 : decode cX4_agreeWith 29 = .ok (.iaload, 1) := by decide +kernel
theorem dX4_agreeWith_30 : decode cX4_agreeWith 30 = .ok (.invokevirtual 28, 3) := by decide +kernel
theorem dX4_agreeWith_33 : decode cX4_agreeWith 33 = .ok (.aload_n 0, 1) := by decide +kernel
theorem dX4_agreeWith_34 : decode cX4_agreeWith 34 = .ok (.getfield 15, 3) := by decide +kernel
theorem dX4_agreeWith_37 : decode cX4_agreeWith 37 = .ok (.iload_n 2, 1) := by decide +kernel
theorem dX4_agreeWith_38 : decode cX4_agreeWith 38 = .ok (.iaload, 1) := by decide +kernel
theorem dX4_agreeWith_39 : decode cX4_agreeWith 39 = .ok (.if_icmp .eq 5, 3) := by decide +kernel
theorem dX4_agreeWith_42 : decode cX4_agreeWith 42 = .ok (.iconst 0, 1) := by decide +kernel
theorem dX4_agreeWith_43 : decode cX4_agreeWith 43 = .ok (.ireturn, 1) := by decide +kernel
theorem dX4_agreeWith_44 : decode cX4_agreeWith 44 = .ok (.iinc 2 1, 3) := by decide +kernel
theorem dX4_agreeWith_47 : decode cX4_agreeWith 47 = .ok (.goto (-45), 3) := by decide +kernel
theorem dX4_agreeWith_50 : decode cX4_agreeWith 50 = .ok (.iconst 1, 1) := by decide +kernel
theorem dX4_agreeWith_51 : decode cX4_agreeWith 51 = .ok (.ireturn, 1) := by decide +kernel
theorem dX5_init_0 : decode cX5_init 0 = .ok (.aload_n 0, 1) := by decide +kernel
theorem dX5_init_1 : decode cX5_init 1 = .ok (.invokespecial 3, 3) := by decide +kernel
theorem dX5_init_4 : decode cX5_init 4 = .ok (.aload_n 0, 1) := by decide +kernel
theorem dX5_init_5 : decode cX5_init 5 = .ok (.sipush 160, 3) := by decide +kernel
theorem dX5_init_8 : decode cX5_init 8 = .ok (.newarray .byte, 2) := by decide +kernel
theorem dX5_init_10 : decode cX5_init 10 = .ok (.putfield 9, 3) := by decide +kernel
theorem dX5_init_13 : decode cX5_init 13 = .ok (.return_, 1) := by decide +kernel
theorem dX5_tellTo_0 : decode cX5_tellTo 0 = .ok (.aload_n 1, 1) := by decide +kernel
theorem dX5_tellTo_1 : decode cX5_tellTo 1 = .ok (.invokevirtual 15, 3) := by decide +kernel
theorem dX5_tellTo_4 : decode cX5_tellTo 4 = .ok (.aload_n 0, 1) := by decide +kernel
theorem dX5_tellTo_5 : decode cX5_tellTo 5 = .ok (.iconst 0, 1) := by decide +kernel
theorem dX5_tellTo_6 : decode cX5_tellTo 6 = .ok (.putfield 20, 3) := by decide +kernel
theorem dX5_tellTo_9 : decode cX5_tellTo 9 = .ok (.aload_n 0, 1) := by decide +kernel
theorem dX5_tellTo_10 : decode cX5_tellTo 10 = .ok (.iconst 0, 1) := by decide +kernel
theorem dX5_tellTo_11 : decode cX5_tellTo 11 = .ok (.putfield 24, 3) := by decide +kernel
theorem dX5_tellTo_14 : decode cX5_tellTo 14 = .ok (.aload_n 0, 1) := by decide +kernel
theorem dX5_tellTo_15 : decode cX5_tellTo 15 = .ok (.iconst 0, 1) := by decide +kernel
theorem dX5_tellTo_16 : decode cX5_tellTo 16 = .ok (.putfield 27, 3) := by decide +kernel
theorem dX5_tellTo_19 : decode cX5_tellTo 19 = .ok (.aload_n 0, 1) := by decide +kernel
theorem dX5_tellTo_20 : decode cX5_tellTo 20 = .ok (.iconst 0, 1) := by decide +kernel
theorem dX5_tellTo_21 : decode cX5_tellTo 21 = .ok (.putfield 31, 3) := by decide +kernel
theorem dX5_tellTo_24 : decode cX5_tellTo 24 = .ok (.iconst 0, 1) := by decide +kernel
theorem dX5_tellTo_25 : decode cX5_tellTo 25 = .ok (.istore_n 2, 1) := by decide +kernel
theorem dX5_tellTo_26 : decode cX5_tellTo 26 = .ok (.aload_n 0, 1) := by decide +kernel
theorem dX5_tellTo_27 : decode cX5_tellTo 27 = .ok (.invokevirtual 34, 3) := by decide +kernel
theorem dX5_tellTo_30 : decode cX5_tellTo 30 = .ok (.aload_n 0, 1) := by decide +kernel
theorem dX5_tellTo_31 : decode cX5_tellTo 31 = .ok (.getfield 20, 3) := by decide +kernel
theorem dX5_tellTo_34 : decode cX5_tellTo 34 = .ok (.ifCond .ne 32, 3) := by decide +kernel
theorem dX5_tellTo_37 : decode cX5_tellTo 37 = .ok (.aload_n 0, 1) := by decide +kernel
theorem dX5_tellTo_38 : decode cX5_tellTo 38 = .ok (.getfield 37, 3) := by decide +kernel
theorem dX5_tellTo_41 : decode cX5_tellTo 41 = .ok (.ifCond .eq 25, 3) := by decide +kernel
theorem dX5_tellTo_44 : decode cX5_tellTo 44 = .ok (.iload_n 2, 1) := by decide +kernel
theorem dX5_tellTo_45 : decode cX5_tellTo 45 = .ok (.sipush 160, 3) := by decide +kernel
theorem dX5_tellTo_48 : decode cX5_tellTo 48 = .ok (.if_icmp .ge 18, 3) := by decide +kernel
theorem dX5_tellTo_51 : decode cX5_tellTo 51 = .ok (.aload_n 0, 1) := by decide +kernel
theorem dX5_tellTo_52 : decode cX5_tellTo 52 = .ok (.aload_n 1, 1) := by decide +kernel
theorem dX5_tellTo_53 : decode cX5_tellTo 53 = .ok (.invokevirtual 40, 3) := by decide +kernel
theorem dX5_tellTo_56 : decode cX5_tellTo 56 = .ok (.aload_n 0, 1) := by decide +kernel
theorem dX5_tellTo_57 : decode cX5_tellTo 57 = .ok (.invokevirtual 34, 3) := by decide +kernel
theorem dX5_tellTo_60 : decode cX5_tellTo 60 = .ok (.iinc 2 1, 3) := by decide +kernel
theorem dX5_tellTo_63 : decode cX5_tellTo 63 = .ok (.goto (-33), 3) := by decide +kernel
theorem dX5_tellTo_66 : decode cX5_tellTo 66 = .ok (.iload_n 2, 1) := by decide +kernel
theorem dX5_tellTo_67 : decode cX5_tellTo 67 = .ok (.ireturn, 1) := by decide +kernel
theorem dX5_takeLine_0 : decode cX5_takeLine 0 = .ok (.aload_n 0, 1) := by decide +kernel
theorem dX5_takeLine_1 : decode cX5_takeLine 1 = .ok (.getfield 37, 3) := by decide +kernel
theorem dX5_takeLine_4 : decode cX5_takeLine 4 = .ok (.iconst 1, 1) := by decide +kernel
theorem dX5_takeLine_5 : decode cX5_takeLine 5 = .ok (.if_icmp .ne 10, 3) := by decide +kernel
theorem dX5_takeLine_8 : decode cX5_takeLine 8 = .ok (.aload_n 0, 1) := by decide +kernel
theorem dX5_takeLine_9 : decode cX5_takeLine 9 = .ok (.invokevirtual 44, 3) := by decide +kernel
theorem dX5_takeLine_12 : decode cX5_takeLine 12 = .ok (.goto 5, 3) := by decide +kernel
theorem dX5_takeLine_15 : decode cX5_takeLine 15 = .ok (.bipush (-4), 2) := by decide +kernel
theorem dX5_takeLine_17 : decode cX5_takeLine 17 = .ok (.istore_n 2, 1) := by decide +kernel
theorem dX5_takeLine_18 : decode cX5_takeLine 18 = .ok (.iload_n 2, 1) := by decide +kernel
theorem dX5_takeLine_19 : decode cX5_takeLine 19 = .ok (.ifCond .ge 11, 3) := by decide +kernel
theorem dX5_takeLine_22 : decode cX5_takeLine 22 = .ok (.aload_n 0, 1) := by decide +kernel
theorem dX5_takeLine_23 : decode cX5_takeLine 23 = .ok (.iconst 2, 1) := by decide +kernel
theorem dX5_takeLine_24 : decode cX5_takeLine 24 = .ok (.invokevirtual 48, 3) := by decide +kernel
theorem dX5_takeLine_27 : decode cX5_takeLine 27 = .ok (.goto 48, 3) := by decide +kernel
theorem dX5_takeLine_30 : decode cX5_takeLine 30 = .ok (.iload_n 2, 1) := by decide +kernel
theorem dX5_takeLine_31 : decode cX5_takeLine 31 = .ok (.iconst 4, 1) := by decide +kernel
theorem dX5_takeLine_32 : decode cX5_takeLine 32 = .ok (.if_icmp .ge 12, 3) := by decide +kernel
theorem dX5_takeLine_35 : decode cX5_takeLine 35 = .ok (.aload_n 0, 1) := by decide +kernel
theorem dX5_takeLine_36 : decode cX5_takeLine 36 = .ok (.aload_n 1, 1) := by decide +kernel
theorem dX5_takeLine_37 : decode cX5_takeLine 37 = .ok (.iload_n 2, 1) := by decide +kernel
theorem dX5_takeLine_38 : decode cX5_takeLine 38 = .ok (.invokevirtual 52, 3) := by decide +kernel
theorem dX5_takeLine_41 : decode cX5_takeLine 41 = .ok (.goto 34, 3) := by decide +kernel
theorem dX5_takeLine_44 : decode cX5_takeLine 44 = .ok (.iload_n 2, 1) := by decide +kernel
theorem dX5_takeLine_45 : decode cX5_takeLine 45 = .ok (.iconst 4, 1) := by decide +kernel
theorem dX5_takeLine_46 : decode cX5_takeLine 46 = .ok (.if_icmp .ne 11, 3) := by decide +kernel
theorem dX5_takeLine_49 : decode cX5_takeLine 49 = .ok (.aload_n 0, 1) := by decide +kernel
theorem dX5_takeLine_50 : decode cX5_takeLine 50 = .ok (.aload_n 1, 1) := by decide +kernel
theorem dX5_takeLine_51 : decode cX5_takeLine 51 = .ok (.invokevirtual 56, 3) := by decide +kernel
theorem dX5_takeLine_54 : decode cX5_takeLine 54 = .ok (.goto 21, 3) := by decide +kernel
theorem dX5_takeLine_57 : decode cX5_takeLine 57 = .ok (.iload_n 2, 1) := by decide +kernel
theorem dX5_takeLine_58 : decode cX5_takeLine 58 = .ok (.iconst 5, 1) := by decide +kernel
theorem dX5_takeLine_59 : decode cX5_takeLine 59 = .ok (.if_icmp .ne 11, 3) := by decide +kernel
theorem dX5_takeLine_62 : decode cX5_takeLine 62 = .ok (.aload_n 0, 1) := by decide +kernel
theorem dX5_takeLine_63 : decode cX5_takeLine 63 = .ok (.aload_n 1, 1) := by decide +kernel
theorem dX5_takeLine_64 : decode cX5_takeLine 64 = .ok (.invokevirtual 59, 3) := by decide +kernel
theorem dX5_takeLine_67 : decode cX5_takeLine 67 = .ok (.goto 8, 3) := by decide +kernel
theorem dX5_takeLine_70 : decode cX5_takeLine 70 = .ok (.aload_n 0, 1) := by decide +kernel
theorem dX5_takeLine_71 : decode cX5_takeLine 71 = .ok (.aload_n 1, 1) := by decide +kernel
theorem dX5_takeLine_72 : decode cX5_takeLine 72 = .ok (.invokevirtual 62, 3) := by decide +kernel
theorem dX5_takeLine_75 : decode cX5_takeLine 75 = .ok (.return_, 1) := by decide +kernel
theorem dX5_takeWork_0 : decode cX5_takeWork 0 = .ok (.aload_n 1, 1) := by decide +kernel
theorem dX5_takeWork_1 : decode cX5_takeWork 1 = .ok (.getfield 65, 3) := by decide +kernel
theorem dX5_takeWork_4 : decode cX5_takeWork 4 = .ok (.bipush 6, 2) := by decide +kernel
theorem dX5_takeWork_6 : decode cX5_takeWork 6 = .ok (.if_icmp .lt 8, 3) := by decide +kernel
theorem dX5_takeWork_9 : decode cX5_takeWork 9 = .ok (.aload_n 0, 1) := by decide +kernel
theorem dX5_takeWork_10 : decode cX5_takeWork 10 = .ok (.iconst 5, 1) := by decide +kernel
theorem dX5_takeWork_11 : decode cX5_takeWork 11 = .ok (.invokevirtual 48, 3) := by decide +kernel
theorem dX5_takeWork_14 : decode cX5_takeWork 14 = .ok (.aload_n 0, 1) := by decide +kernel
theorem dX5_takeWork_15 : decode cX5_takeWork 15 = .ok (.getstatic 68, 3) := by decide +kernel
theorem dX5_takeWork_18 : decode cX5_takeWork 18 = .ok (.iconst 1, 1) := by decide +kernel
theorem dX5_takeWork_19 : decode cX5_takeWork 19 = .ok (.iaload, 1) := by decide +kernel
theorem dX5_takeWork_20 : decode cX5_takeWork 20 = .ok (.getstatic 72, 3) := by decide +kernel
theorem dX5_takeWork_23 : decode cX5_takeWork 23 = .ok (.iconst 1, 1) := by decide +kernel
theorem dX5_takeWork_24 : decode cX5_takeWork 24 = .ok (.iaload, 1) := by decide +kernel
theorem dX5_takeWork_25 : decode cX5_takeWork 25 = .ok (.invokevirtual 75, 3) := by decide +kernel
theorem dX5_takeWork_28 : decode cX5_takeWork 28 = .ok (.istore_n 3, 1) := by decide +kernel
theorem dX5_takeWork_29 : decode cX5_takeWork 29 = .ok (.aload_n 0, 1) := by decide +kernel
theorem dX5_takeWork_30 : decode cX5_takeWork 30 = .ok (.getstatic 68, 3) := by decide +kernel
theorem dX5_takeWork_33 : decode cX5_takeWork 33 = .ok (.iconst 2, 1) := by decide +kernel
theorem dX5_takeWork_34 : decode cX5_takeWork 34 = .ok (.iaload, 1) := by decide +kernel
theorem dX5_takeWork_35 : decode cX5_takeWork 35 = .ok (.getstatic 72, 3) := by decide +kernel
theorem dX5_takeWork_38 : decode cX5_takeWork 38 = .ok (.iconst 2, 1) := by decide +kernel
theorem dX5_takeWork_39 : decode cX5_takeWork 39 = .ok (.iaload, 1) := by decide +kernel
theorem dX5_takeWork_40 : decode cX5_takeWork 40 = .ok (.invokevirtual 75, 3) := by decide +kernel
theorem dX5_takeWork_43 : decode cX5_takeWork 43 = .ok (.istore 4, 2) := by decide +kernel
theorem dX5_takeWork_45 : decode cX5_takeWork 45 = .ok (.aload_n 0, 1) := by decide +kernel
theorem dX5_takeWork_46 : decode cX5_takeWork 46 = .ok (.getstatic 68, 3) := by decide +kernel
theorem dX5_takeWork_49 : decode cX5_takeWork 49 = .ok (.iconst 3, 1) := by decide +kernel
theorem dX5_takeWork_50 : decode cX5_takeWork 50 = .ok (.iaload, 1) := by decide +kernel
theorem dX5_takeWork_51 : decode cX5_takeWork 51 = .ok (.getstatic 72, 3) := by decide +kernel
theorem dX5_takeWork_54 : decode cX5_takeWork 54 = .ok (.iconst 3, 1) := by decide +kernel
theorem dX5_takeWork_55 : decode cX5_takeWork 55 = .ok (.iaload, 1) := by decide +kernel
theorem dX5_takeWork_56 : decode cX5_takeWork 56 = .ok (.invokevirtual 75, 3) := by decide +kernel
theorem dX5_takeWork_59 : decode cX5_takeWork 59 = .ok (.istore 5, 2) := by decide +kernel
theorem dX5_takeWork_61 : decode cX5_takeWork 61 = .ok (.aload_n 0, 1) := by decide +kernel
theorem dX5_takeWork_62 : decode cX5_takeWork 62 = .ok (.invokevirtual 79, 3) := by decide +kernel
theorem dX5_takeWork_65 : decode cX5_takeWork 65 = .ok (.aload_n 0, 1) := by decide +kernel
theorem dX5_takeWork_66 : decode cX5_takeWork 66 = .ok (.getfield 20, 3) := by decide +kernel
theorem dX5_takeWork_69 : decode cX5_takeWork 69 = .ok (.ifCond .ne 14, 3) := by decide +kernel
theorem dX5_takeWork_72 : decode cX5_takeWork 72 = .ok (.aload_n 1, 1) := by decide +kernel
theorem dX5_takeWork_73 : decode cX5_takeWork 73 = .ok (.iload_n 2, 1) := by decide +kernel
theorem dX5_takeWork_74 : decode cX5_takeWork 74 = .ok (.iload_n 3, 1) := by decide +kernel
theorem dX5_takeWork_75 : decode cX5_takeWork 75 = .ok (.iload 4, 2) := by decide +kernel
theorem dX5_takeWork_77 : decode cX5_takeWork 77 = .ok (.iload 5, 2) := by decide +kernel
theorem dX5_takeWork_79 : decode cX5_takeWork 79 = .ok (.invokevirtual 82, 3) := by decide +kernel
theorem dX5_takeWork_82 : decode cX5_takeWork 82 = .ok (.pop, 1) := by decide +kernel
theorem dX5_takeWork_83 : decode cX5_takeWork 83 = .ok (.return_, 1) := by decide +kernel
theorem dX5_takeReader_0 : decode cX5_takeReader 0 = .ok (.aload_n 1, 1) := by decide +kernel
theorem dX5_takeReader_1 : decode cX5_takeReader 1 = .ok (.getfield 86, 3) := by decide +kernel
theorem dX5_takeReader_4 : decode cX5_takeReader 4 = .ok (.iconst 4, 1) := by decide +kernel
theorem dX5_takeReader_5 : decode cX5_takeReader 5 = .ok (.if_icmp .lt 8, 3) := by decide +kernel
theorem dX5_takeReader_8 : decode cX5_takeReader 8 = .ok (.aload_n 0, 1) := by decide +kernel
theorem dX5_takeReader_9 : decode cX5_takeReader 9 = .ok (.iconst 5, 1) := by decide +kernel
theorem dX5_takeReader_10 : decode cX5_takeReader 10 = .ok (.invokevirtual 48, 3) := by decide +kernel
theorem dX5_takeReader_13 : decode cX5_takeReader 13 = .ok (.aload_n 0, 1) := by decide +kernel
theorem dX5_takeReader_14 : decode cX5_takeReader 14 = .ok (.iconst 0, 1) := by decide +kernel
theorem dX5_takeReader_15 : decode cX5_takeReader 15 = .ok (.getstatic 89, 3) := by decide +kernel
theorem dX5_takeReader_18 : decode cX5_takeReader 18 = .ok (.iconst 0, 1) := by decide +kernel
theorem dX5_takeReader_19 : decode cX5_takeReader 19 = .ok (.iaload, 1) := by decide +kernel
theorem dX5_takeReader_20 : decode cX5_takeReader 20 = .ok (.invokevirtual 75, 3) := by decide +kernel
theorem dX5_takeReader_23 : decode cX5_takeReader 23 = .ok (.istore_n 2, 1) := by decide +kernel
theorem dX5_takeReader_24 : decode cX5_takeReader 24 = .ok (.aload_n 0, 1) := by decide +kernel
theorem dX5_takeReader_25 : decode cX5_takeReader 25 = .ok (.iconst 0, 1) := by decide +kernel
theorem dX5_takeReader_26 : decode cX5_takeReader 26 = .ok (.getstatic 89, 3) := by decide +kernel
theorem dX5_takeReader_29 : decode cX5_takeReader 29 = .ok (.iconst 1, 1) := by decide +kernel
theorem dX5_takeReader_30 : decode cX5_takeReader 30 = .ok (.iaload, 1) := by decide +kernel
theorem dX5_takeReader_31 : decode cX5_takeReader 31 = .ok (.invokevirtual 75, 3) := by decide +kernel
theorem dX5_takeReader_34 : decode cX5_takeReader 34 = .ok (.istore_n 3, 1) := by decide +kernel
theorem dX5_takeReader_35 : decode cX5_takeReader 35 = .ok (.aload_n 0, 1) := by decide +kernel
theorem dX5_takeReader_36 : decode cX5_takeReader 36 = .ok (.invokevirtual 79, 3) := by decide +kernel
theorem dX5_takeReader_39 : decode cX5_takeReader 39 = .ok (.aload_n 0, 1) := by decide +kernel
theorem dX5_takeReader_40 : decode cX5_takeReader 40 = .ok (.getfield 20, 3) := by decide +kernel
theorem dX5_takeReader_43 : decode cX5_takeReader 43 = .ok (.ifCond .ne 10, 3) := by decide +kernel
theorem dX5_takeReader_46 : decode cX5_takeReader 46 = .ok (.aload_n 1, 1) := by decide +kernel
theorem dX5_takeReader_47 : decode cX5_takeReader 47 = .ok (.iload_n 2, 1) := by decide +kernel
theorem dX5_takeReader_48 : decode cX5_takeReader 48 = .ok (.iload_n 3, 1) := by decide +kernel
theorem dX5_takeReader_49 : decode cX5_takeReader 49 = .ok (.invokevirtual 92, 3) := by decide +kernel
theorem dX5_takeReader_52 : decode cX5_takeReader 52 = .ok (.pop, 1) := by decide +kernel
theorem dX5_takeReader_53 : decode cX5_takeReader 53 = .ok (.return_, 1) := by decide +kernel
theorem dX5_takeWind_0 : decode cX5_takeWind 0 = .ok (.aload_n 0, 1) := by decide +kernel
theorem dX5_takeWind_1 : decode cX5_takeWind 1 = .ok (.getfield 27, 3) := by decide +kernel
theorem dX5_takeWind_4 : decode cX5_takeWind 4 = .ok (.ifCond .eq 8, 3) := by decide +kernel
theorem dX5_takeWind_7 : decode cX5_takeWind 7 = .ok (.aload_n 0, 1) := by decide +kernel
theorem dX5_takeWind_8 : decode cX5_takeWind 8 = .ok (.iconst 4, 1) := by decide +kernel
theorem dX5_takeWind_9 : decode cX5_takeWind 9 = .ok (.invokevirtual 48, 3) := by decide +kernel
theorem dX5_takeWind_12 : decode cX5_takeWind 12 = .ok (.aload_n 0, 1) := by decide +kernel
theorem dX5_takeWind_13 : decode cX5_takeWind 13 = .ok (.iconst 1, 1) := by decide +kernel
theorem dX5_takeWind_14 : decode cX5_takeWind 14 = .ok (.putfield 27, 3) := by decide +kernel
theorem dX5_takeWind_17 : decode cX5_takeWind 17 = .ok (.aload_n 1, 1) := by decide +kernel
theorem dX5_takeWind_18 : decode cX5_takeWind 18 = .ok (.aload_n 0, 1) := by decide +kernel
theorem dX5_takeWind_19 : decode cX5_takeWind 19 = .ok (.iconst 0, 1) := by decide +kernel
theorem dX5_takeWind_20 : decode cX5_takeWind 20 = .ok (.bipush 8, 2) := by decide +kernel
theorem dX5_takeWind_22 : decode cX5_takeWind 22 = .ok (.invokevirtual 75, 3) := by decide +kernel
theorem dX5_takeWind_25 : decode cX5_takeWind 25 = .ok (.putfield 95, 3) := by decide +kernel
theorem dX5_takeWind_28 : decode cX5_takeWind 28 = .ok (.aload_n 0, 1) := by decide +kernel
theorem dX5_takeWind_29 : decode cX5_takeWind 29 = .ok (.invokevirtual 79, 3) := by decide +kernel
theorem dX5_takeWind_32 : decode cX5_takeWind 32 = .ok (.return_, 1) := by decide +kernel
theorem dX5_takeDamp_0 : decode cX5_takeDamp 0 = .ok (.aload_n 0, 1) := by decide +kernel
theorem dX5_takeDamp_1 : decode cX5_takeDamp 1 = .ok (.getfield 31, 3) := by decide +kernel
theorem dX5_takeDamp_4 : decode cX5_takeDamp 4 = .ok (.ifCond .eq 8, 3) := by decide +kernel
theorem dX5_takeDamp_7 : decode cX5_takeDamp 7 = .ok (.aload_n 0, 1) := by decide +kernel
theorem dX5_takeDamp_8 : decode cX5_takeDamp 8 = .ok (.iconst 4, 1) := by decide +kernel
theorem dX5_takeDamp_9 : decode cX5_takeDamp 9 = .ok (.invokevirtual 48, 3) := by decide +kernel
theorem dX5_takeDamp_12 : decode cX5_takeDamp 12 = .ok (.aload_n 0, 1) := by decide +kernel
theorem dX5_takeDamp_13 : decode cX5_takeDamp 13 = .ok (.iconst 1, 1) := by decide +kernel
theorem dX5_takeDamp_14 : decode cX5_takeDamp 14 = .ok (.putfield 31, 3) := by decide +kernel
theorem dX5_takeDamp_17 : decode cX5_takeDamp 17 = .ok (.aload_n 1, 1) := by decide +kernel
theorem dX5_takeDamp_18 : decode cX5_takeDamp 18 = .ok (.aload_n 0, 1) := by decide +kernel
theorem dX5_takeDamp_19 : decode cX5_takeDamp 19 = .ok (.iconst 0, 1) := by decide +kernel
theorem dX5_takeDamp_20 : decode cX5_takeDamp 20 = .ok (.bipush 9, 2) := by decide +kernel
theorem dX5_takeDamp_22 : decode cX5_takeDamp 22 = .ok (.invokevirtual 75, 3) := by decide +kernel
theorem dX5_takeDamp_25 : decode cX5_takeDamp 25 = .ok (.putfield 98, 3) := by decide +kernel
theorem dX5_takeDamp_28 : decode cX5_takeDamp 28 = .ok (.aload_n 0, 1) := by decide +kernel
theorem dX5_takeDamp_29 : decode cX5_takeDamp 29 = .ok (.invokevirtual 79, 3) := by decide +kernel
theorem dX5_takeDamp_32 : decode cX5_takeDamp 32 = .ok (.return_, 1) := by decide +kernel
theorem dX5_takeNumber_0 : decode cX5_takeNumber 0 = .ok (.aload_n 0, 1) := by decide +kernel
theorem dX5_takeNumber_1 : decode cX5_takeNumber 1 = .ok (.invokevirtual 34, 3) := by decide +kernel
theorem dX5_takeNumber_4 : decode cX5_takeNumber 4 = .ok (.aload_n 0, 1) := by decide +kernel
theorem dX5_takeNumber_5 : decode cX5_takeNumber 5 = .ok (.getfield 37, 3) := by decide +kernel
theorem dX5_takeNumber_8 : decode cX5_takeNumber 8 = .ok (.iconst 2, 1) := by decide +kernel
theorem dX5_takeNumber_9 : decode cX5_takeNumber 9 = .ok (.if_icmp .eq 11, 3) := by decide +kernel
theorem dX5_takeNumber_12 : decode cX5_takeNumber 12 = .ok (.aload_n 0, 1) := by decide +kernel
theorem dX5_takeNumber_13 : decode cX5_takeNumber 13 = .ok (.iconst 2, 1) := by decide +kernel
theorem dX5_takeNumber_14 : decode cX5_takeNumber 14 = .ok (.invokevirtual 48, 3) := by decide +kernel
theorem dX5_takeNumber_17 : decode cX5_takeNumber 17 = .ok (.goto 20, 3) := by decide +kernel
theorem dX5_takeNumber_20 : decode cX5_takeNumber 20 = .ok (.aload_n 0, 1) := by decide +kernel
theorem dX5_takeNumber_21 : decode cX5_takeNumber 21 = .ok (.getfield 101, 3) := by decide +kernel
theorem dX5_takeNumber_24 : decode cX5_takeNumber 24 = .ok (.iload_n 1, 1) := by decide +kernel
theorem dX5_takeNumber_25 : decode cX5_takeNumber 25 = .ok (.iload_n 2, 1) := by decide +kernel
theorem dX5_takeNumber_26 : decode cX5_takeNumber 26 = .ok (.invokestatic 104, 3) := by decide +kernel
theorem dX5_takeNumber_29 : decode cX5_takeNumber 29 = .ok (.ifCond .ne 8, 3) := by decide +kernel
theorem dX5_takeNumber_32 : decode cX5_takeNumber 32 = .ok (.aload_n 0, 1) := by decide +kernel
theorem dX5_takeNumber_33 : decode cX5_takeNumber 33 = .ok (.iconst 3, 1) := by decide +kernel
theorem dX5_takeNumber_34 : decode cX5_takeNumber 34 = .ok (.invokevirtual 48, 3) := by decide +kernel
theorem dX5_takeNumber_37 : decode cX5_takeNumber 37 = .ok (.aload_n 0, 1) := by decide +kernel
theorem dX5_takeNumber_38 : decode cX5_takeNumber 38 = .ok (.getfield 101, 3) := by decide +kernel
theorem dX5_takeNumber_41 : decode cX5_takeNumber 41 = .ok (.ireturn, 1) := by decide +kernel
theorem dX5_takeSign_0 : decode cX5_takeSign 0 = .ok (.aload_n 0, 1) := by decide +kernel
theorem dX5_takeSign_1 : decode cX5_takeSign 1 = .ok (.invokevirtual 34, 3) := by decide +kernel
theorem dX5_takeSign_4 : decode cX5_takeSign 4 = .ok (.aload_n 0, 1) := by decide +kernel
theorem dX5_takeSign_5 : decode cX5_takeSign 5 = .ok (.getfield 37, 3) := by decide +kernel
theorem dX5_takeSign_8 : decode cX5_takeSign 8 = .ok (.iconst 3, 1) := by decide +kernel
theorem dX5_takeSign_9 : decode cX5_takeSign 9 = .ok (.if_icmp .eq 8, 3) := by decide +kernel
theorem dX5_takeSign_12 : decode cX5_takeSign 12 = .ok (.aload_n 0, 1) := by decide +kernel
theorem dX5_takeSign_13 : decode cX5_takeSign 13 = .ok (.iconst 2, 1) := by decide +kernel
theorem dX5_takeSign_14 : decode cX5_takeSign 14 = .ok (.invokevirtual 48, 3) := by decide +kernel
theorem dX5_takeSign_17 : decode cX5_takeSign 17 = .ok (.return_, 1) := by decide +kernel
theorem dX5_blame_0 : decode cX5_blame 0 = .ok (.aload_n 0, 1) := by decide +kernel
theorem dX5_blame_1 : decode cX5_blame 1 = .ok (.getfield 20, 3) := by decide +kernel
theorem dX5_blame_4 : decode cX5_blame 4 = .ok (.ifCond .ne 8, 3) := by decide +kernel
theorem dX5_blame_7 : decode cX5_blame 7 = .ok (.aload_n 0, 1) := by decide +kernel
theorem dX5_blame_8 : decode cX5_blame 8 = .ok (.iload_n 1, 1) := by decide +kernel
theorem dX5_blame_9 : decode cX5_blame 9 = .ok (.putfield 20, 3) := by decide +kernel
theorem dX5_blame_12 : decode cX5_blame 12 = .ok (.return_, 1) := by decide +kernel
theorem dX5_takeToken_0 : decode cX5_takeToken 0 = .ok (.aload_n 0, 1) := by decide +kernel
theorem dX5_takeToken_1 : decode cX5_takeToken 1 = .ok (.getfield 20, 3) := by decide +kernel
theorem dX5_takeToken_4 : decode cX5_takeToken 4 = .ok (.ifCond .eq 4, 3) := by decide +kernel
theorem dX5_takeToken_7 : decode cX5_takeToken 7 = .ok (.return_, 1) := by decide +kernel
theorem dX5_takeToken_8 : decode cX5_takeToken 8 = .ok (.aload_n 0, 1) := by decide +kernel
theorem dX5_takeToken_9 : decode cX5_takeToken 9 = .ok (.getfield 24, 3) := by decide +kernel
theorem dX5_takeToken_12 : decode cX5_takeToken 12 = .ok (.aload_n 0, 1) := by decide +kernel
theorem dX5_takeToken_13 : decode cX5_takeToken 13 = .ok (.getfield 108, 3) := by decide +kernel
theorem dX5_takeToken_16 : decode cX5_takeToken 16 = .ok (.if_icmp .ge 30, 3) := by decide +kernel
theorem dX5_takeToken_19 : decode cX5_takeToken 19 = .ok (.aload_n 0, 1) := by decide +kernel
theorem dX5_takeToken_20 : decode cX5_takeToken 20 = .ok (.getfield 9, 3) := by decide +kernel
theorem dX5_takeToken_23 : decode cX5_takeToken 23 = .ok (.aload_n 0, 1) := by decide +kernel
theorem dX5_takeToken_24 : decode cX5_takeToken 24 = .ok (.getfield 24, 3) := by decide +kernel
theorem dX5_takeToken_27 : decode cX5_takeToken 27 = .ok (.baload, 1) := by decide +kernel
theorem dX5_takeToken_28 : decode cX5_takeToken 28 = .ok (.bipush 32, 2) := by decide +kernel
theorem dX5_takeToken_30 : decode cX5_takeToken 30 = .ok (.if_icmp .ne 16, 3) := by decide +kernel
theorem dX5_takeToken_33 : decode cX5_takeToken 33 = .ok (.aload_n 0, 1) := by decide +kernel
theorem dX5_takeToken_34 : decode cX5_takeToken 34 = .ok (.dup, 1) := by decide +kernel
theorem dX5_takeToken_35 : decode cX5_takeToken 35 = .ok (.getfield 24, 3) := by decide +kernel
theorem dX5_takeToken_38 : decode cX5_takeToken 38 = .ok (.iconst 1, 1) := by decide +kernel
theorem dX5_takeToken_39 : decode cX5_takeToken 39 = .ok (.iadd, 1) := by decide +kernel
theorem dX5_takeToken_40 : decode cX5_takeToken 40 = .ok (.putfield 24, 3) := by decide +kernel
theorem dX5_takeToken_43 : decode cX5_takeToken 43 = .ok (.goto (-35), 3) := by decide +kernel
theorem dX5_takeToken_46 : decode cX5_takeToken 46 = .ok (.aload_n 0, 1) := by decide +kernel
theorem dX5_takeToken_47 : decode cX5_takeToken 47 = .ok (.aload_n 0, 1) := by decide +kernel
theorem dX5_takeToken_48 : decode cX5_takeToken 48 = .ok (.getfield 24, 3) := by decide +kernel
theorem dX5_takeToken_51 : decode cX5_takeToken 51 = .ok (.putfield 111, 3) := by decide +kernel
theorem dX5_takeToken_54 : decode cX5_takeToken 54 = .ok (.aload_n 0, 1) := by decide +kernel
theorem dX5_takeToken_55 : decode cX5_takeToken 55 = .ok (.getfield 111, 3) := by decide +kernel
theorem dX5_takeToken_58 : decode cX5_takeToken 58 = .ok (.aload_n 0, 1) := by decide +kernel
theorem dX5_takeToken_59 : decode cX5_takeToken 59 = .ok (.getfield 108, 3) := by decide +kernel
theorem dX5_takeToken_62 : decode cX5_takeToken 62 = .ok (.if_icmp .lt 11, 3) := by decide +kernel
theorem dX5_takeToken_65 : decode cX5_takeToken 65 = .ok (.aload_n 0, 1) := by decide +kernel
theorem dX5_takeToken_66 : decode cX5_takeToken 66 = .ok (.iconst 0, 1) := by decide +kernel
theorem dX5_takeToken_67 : decode cX5_takeToken 67 = .ok (.putfield 37, 3) := by decide +kernel
theorem dX5_takeToken_70 : decode cX5_takeToken 70 = .ok (.goto 208, 3) := by decide +kernel
theorem dX5_takeToken_73 : decode cX5_takeToken 73 = .ok (.aload_n 0, 1) := by decide +kernel
theorem dX5_takeToken_74 : decode cX5_takeToken 74 = .ok (.getfield 9, 3) := by decide +kernel
theorem dX5_takeToken_77 : decode cX5_takeToken 77 = .ok (.aload_n 0, 1) := by decide +kernel
theorem dX5_takeToken_78 : decode cX5_takeToken 78 = .ok (.getfield 111, 3) := by decide +kernel
theorem dX5_takeToken_81 : decode cX5_takeToken 81 = .ok (.baload, 1) := by decide +kernel
theorem dX5_takeToken_82 : decode cX5_takeToken 82 = .ok (.invokestatic 114, 3) := by decide +kernel
theorem dX5_takeToken_85 : decode cX5_takeToken 85 = .ok (.ifCond .eq 47, 3) := by decide +kernel
theorem dX5_takeToken_88 : decode cX5_takeToken 88 = .ok (.aload_n 0, 1) := by decide +kernel
theorem dX5_takeToken_89 : decode cX5_takeToken 89 = .ok (.iconst 1, 1) := by decide +kernel
theorem dX5_takeToken_90 : decode cX5_takeToken 90 = .ok (.putfield 37, 3) := by decide +kernel
theorem dX5_takeToken_93 : decode cX5_takeToken 93 = .ok (.aload_n 0, 1) := by decide +kernel
theorem dX5_takeToken_94 : decode cX5_takeToken 94 = .ok (.getfield 24, 3) := by decide +kernel
theorem dX5_takeToken_97 : decode cX5_takeToken 97 = .ok (.aload_n 0, 1) := by decide +kernel
theorem dX5_takeToken_98 : decode cX5_takeToken 98 = .ok (.getfield 108, 3) := by decide +kernel
theorem dX5_takeToken_101 : decode cX5_takeToken 101 = .ok (.if_icmp .ge 177, 3) := by decide +kernel
theorem dX5_takeToken_104 : decode cX5_takeToken 104 = .ok (.aload_n 0, 1) := by decide +kernel
theorem dX5_takeToken_105 : decode cX5_takeToken 105 = .ok (.getfield 9, 3) := by decide +kernel
theorem dX5_takeToken_108 : decode cX5_takeToken 108 = .ok (.aload_n 0, 1) := by decide +kernel
theorem dX5_takeToken_109 : decode cX5_takeToken 109 = .ok (.getfield 24, 3) := by decide +kernel
theorem dX5_takeToken_112 : decode cX5_takeToken 112 = .ok (.baload, 1) := by decide +kernel
theorem dX5_takeToken_113 : decode cX5_takeToken 113 = .ok (.invokestatic 114, 3) := by decide +kernel
theorem dX5_takeToken_116 : decode cX5_takeToken 116 = .ok (.ifCond .eq 162, 3) := by decide +kernel
theorem dX5_takeToken_119 : decode cX5_takeToken 119 = .ok (.aload_n 0, 1) := by decide +kernel
theorem dX5_takeToken_120 : decode cX5_takeToken 120 = .ok (.dup, 1) := by decide +kernel
theorem dX5_takeToken_121 : decode cX5_takeToken 121 = .ok (.getfield 24, 3) := by decide +kernel
theorem dX5_takeToken_124 : decode cX5_takeToken 124 = .ok (.iconst 1, 1) := by decide +kernel
theorem dX5_takeToken_125 : decode cX5_takeToken 125 = .ok (.iadd, 1) := by decide +kernel
theorem dX5_takeToken_126 : decode cX5_takeToken 126 = .ok (.putfield 24, 3) := by decide +kernel
theorem dX5_takeToken_129 : decode cX5_takeToken 129 = .ok (.goto (-36), 3) := by decide +kernel
theorem dX5_takeToken_132 : decode cX5_takeToken 132 = .ok (.aload_n 0, 1) := by decide +kernel
theorem dX5_takeToken_133 : decode cX5_takeToken 133 = .ok (.getfield 9, 3) := by decide +kernel
theorem dX5_takeToken_136 : decode cX5_takeToken 136 = .ok (.aload_n 0, 1) := by decide +kernel
theorem dX5_takeToken_137 : decode cX5_takeToken 137 = .ok (.getfield 111, 3) := by decide +kernel
theorem dX5_takeToken_140 : decode cX5_takeToken 140 = .ok (.baload, 1) := by decide +kernel
theorem dX5_takeToken_141 : decode cX5_takeToken 141 = .ok (.invokestatic 118, 3) := by decide +kernel
theorem dX5_takeToken_144 : decode cX5_takeToken 144 = .ok (.ifCond .eq 97, 3) := by decide +kernel
theorem dX5_takeToken_147 : decode cX5_takeToken 147 = .ok (.aload_n 0, 1) := by decide +kernel
theorem dX5_takeToken_148 : decode cX5_takeToken 148 = .ok (.iconst 2, 1) := by decide +kernel
theorem dX5_takeToken_149 : decode cX5_takeToken 149 = .ok (.putfield 37, 3) := by decide +kernel
theorem dX5_takeToken_152 : decode cX5_takeToken 152 = .ok (.aload_n 0, 1) := by decide +kernel
theorem dX5_takeToken_153 : decode cX5_takeToken 153 = .ok (.iconst 0, 1) := by decide +kernel
theorem dX5_takeToken_154 : decode cX5_takeToken 154 = .ok (.putfield 101, 3) := by decide +kernel
theorem dX5_takeToken_157 : decode cX5_takeToken 157 = .ok (.aload_n 0, 1) := by decide +kernel
theorem dX5_takeToken_158 : decode cX5_takeToken 158 = .ok (.getfield 24, 3) := by decide +kernel
theorem dX5_takeToken_161 : decode cX5_takeToken 161 = .ok (.aload_n 0, 1) := by decide +kernel
theorem dX5_takeToken_162 : decode cX5_takeToken 162 = .ok (.getfield 108, 3) := by decide +kernel
theorem dX5_takeToken_165 : decode cX5_takeToken 165 = .ok (.if_icmp .ge 55, 3) := by decide +kernel
theorem dX5_takeToken_168 : decode cX5_takeToken 168 = .ok (.aload_n 0, 1) := by decide +kernel
theorem dX5_takeToken_169 : decode cX5_takeToken 169 = .ok (.getfield 9, 3) := by decide +kernel
theorem dX5_takeToken_172 : decode cX5_takeToken 172 = .ok (.aload_n 0, 1) := by decide +kernel
theorem dX5_takeToken_173 : decode cX5_takeToken 173 = .ok (.getfield 24, 3) := by decide +kernel
theorem dX5_takeToken_176 : decode cX5_takeToken 176 = .ok (.baload, 1) := by decide +kernel
theorem dX5_takeToken_177 : decode cX5_takeToken 177 = .ok (.invokestatic 118, 3) := by decide +kernel
theorem dX5_takeToken_180 : decode cX5_takeToken 180 = .ok (.ifCond .eq 40, 3) := by decide +kernel
theorem dX5_takeToken_183 : decode cX5_takeToken 183 = .ok (.aload_n 0, 1) := by decide +kernel
theorem dX5_takeToken_184 : decode cX5_takeToken 184 = .ok (.bipush 10, 2) := by decide +kernel
theorem dX5_takeToken_186 : decode cX5_takeToken 186 = .ok (.aload_n 0, 1) := by decide +kernel
theorem dX5_takeToken_187 : decode cX5_takeToken 187 = .ok (.getfield 101, 3) := by decide +kernel
theorem dX5_takeToken_190 : decode cX5_takeToken 190 = .ok (.imul, 1) := by decide +kernel
theorem dX5_takeToken_191 : decode cX5_takeToken 191 = .ok (.aload_n 0, 1) := by decide +kernel
theorem dX5_takeToken_192 : decode cX5_takeToken 192 = .ok (.getfield 9, 3) := by decide +kernel
theorem dX5_takeToken_195 : decode cX5_takeToken 195 = .ok (.aload_n 0, 1) := by decide +kernel
theorem dX5_takeToken_196 : decode cX5_takeToken 196 = .ok (.getfield 24, 3) := by decide +kernel
theorem dX5_takeToken_199 : decode cX5_takeToken 199 = .ok (.baload, 1) := by decide +kernel
theorem dX5_takeToken_200 : decode cX5_takeToken 200 = .ok (.iadd, 1) := by decide +kernel
theorem dX5_takeToken_201 : decode cX5_takeToken 201 = .ok (.bipush 48, 2) := by decide +kernel
theorem dX5_takeToken_203 : decode cX5_takeToken 203 = .ok (.isub, 1) := by decide +kernel
theorem dX5_takeToken_204 : decode cX5_takeToken 204 = .ok (.putfield 101, 3) := by decide +kernel
theorem dX5_takeToken_207 : decode cX5_takeToken 207 = .ok (.aload_n 0, 1) := by decide +kernel
theorem dX5_takeToken_208 : decode cX5_takeToken 208 = .ok (.dup, 1) := by decide +kernel
theorem dX5_takeToken_209 : decode cX5_takeToken 209 = .ok (.getfield 24, 3) := by decide +kernel
theorem dX5_takeToken_212 : decode cX5_takeToken 212 = .ok (.iconst 1, 1) := by decide +kernel
theorem dX5_takeToken_213 : decode cX5_takeToken 213 = .ok (.iadd, 1) := by decide +kernel
theorem dX5_takeToken_214 : decode cX5_takeToken 214 = .ok (.putfield 24, 3) := by decide +kernel
theorem dX5_takeToken_217 : decode cX5_takeToken 217 = .ok (.goto (-60), 3) := by decide +kernel
theorem dX5_takeToken_220 : decode cX5_takeToken 220 = .ok (.aload_n 0, 1) := by decide +kernel
theorem dX5_takeToken_221 : decode cX5_takeToken 221 = .ok (.getfield 24, 3) := by decide +kernel
theorem dX5_takeToken_224 : decode cX5_takeToken 224 = .ok (.aload_n 0, 1) := by decide +kernel
theorem dX5_takeToken_225 : decode cX5_takeToken 225 = .ok (.getfield 111, 3) := by decide +kernel
theorem dX5_takeToken_228 : decode cX5_takeToken 228 = .ok (.isub, 1) := by decide +kernel
theorem dX5_takeToken_229 : decode cX5_takeToken 229 = .ok (.iconst 2, 1) := by decide +kernel
theorem dX5_takeToken_230 : decode cX5_takeToken 230 = .ok (.if_icmp .le 48, 3) := by decide +kernel
theorem dX5_takeToken_233 : decode cX5_takeToken 233 = .ok (.aload_n 0, 1) := by decide +kernel
theorem dX5_takeToken_234 : decode cX5_takeToken 234 = .ok (.iconst 1, 1) := by decide +kernel
theorem dX5_takeToken_235 : decode cX5_takeToken 235 = .ok (.invokevirtual 48, 3) := by decide +kernel
theorem dX5_takeToken_238 : decode cX5_takeToken 238 = .ok (.goto 40, 3) := by decide +kernel
theorem dX5_takeToken_241 : decode cX5_takeToken 241 = .ok (.aload_n 0, 1) := by decide +kernel
theorem dX5_takeToken_242 : decode cX5_takeToken 242 = .ok (.getfield 9, 3) := by decide +kernel
theorem dX5_takeToken_245 : decode cX5_takeToken 245 = .ok (.aload_n 0, 1) := by decide +kernel
theorem dX5_takeToken_246 : decode cX5_takeToken 246 = .ok (.getfield 111, 3) := by decide +kernel
theorem dX5_takeToken_249 : decode cX5_takeToken 249 = .ok (.baload, 1) := by decide +kernel
theorem dX5_takeToken_250 : decode cX5_takeToken 250 = .ok (.bipush 59, 2) := by decide +kernel
theorem dX5_takeToken_252 : decode cX5_takeToken 252 = .ok (.if_icmp .ne 21, 3) := by decide +kernel
theorem dX5_takeToken_255 : decode cX5_takeToken 255 = .ok (.aload_n 0, 1) := by decide +kernel
theorem dX5_takeToken_256 : decode cX5_takeToken 256 = .ok (.iconst 3, 1) := by decide +kernel
theorem dX5_takeToken_257 : decode cX5_takeToken 257 = .ok (.putfield 37, 3) := by decide +kernel
theorem dX5_takeToken_260 : decode cX5_takeToken 260 = .ok (.aload_n 0, 1) := by decide +kernel
theorem dX5_takeToken_261 : decode cX5_takeToken 261 = .ok (.dup, 1) := by decide +kernel
theorem dX5_takeToken_262 : decode cX5_takeToken 262 = .ok (.getfield 24, 3) := by decide +kernel
theorem dX5_takeToken_265 : decode cX5_takeToken 265 = .ok (.iconst 1, 1) := by decide +kernel
theorem dX5_takeToken_266 : decode cX5_takeToken 266 = .ok (.iadd, 1) := by decide +kernel
theorem dX5_takeToken_267 : decode cX5_takeToken 267 = .ok (.putfield 24, 3) := by decide +kernel
theorem dX5_takeToken_270 : decode cX5_takeToken 270 = .ok (.goto 8, 3) := by decide +kernel
theorem dX5_takeToken_273 : decode cX5_takeToken 273 = .ok (.aload_n 0, 1) := by decide +kernel
theorem dX5_takeToken_274 : decode cX5_takeToken 274 = .ok (.iconst 1, 1) := by decide +kernel
theorem dX5_takeToken_275 : decode cX5_takeToken 275 = .ok (.invokevirtual 48, 3) := by decide +kernel
theorem dX5_takeToken_278 : decode cX5_takeToken 278 = .ok (.return_, 1) := by decide +kernel
theorem dX5_isLetter_0 : decode cX5_isLetter 0 = .ok (.iload_n 0, 1) := by decide +kernel
theorem dX5_isLetter_1 : decode cX5_isLetter 1 = .ok (.bipush 97, 2) := by decide +kernel
theorem dX5_isLetter_3 : decode cX5_isLetter 3 = .ok (.if_icmp .lt 13, 3) := by decide +kernel
theorem dX5_isLetter_6 : decode cX5_isLetter 6 = .ok (.iload_n 0, 1) := by decide +kernel
theorem dX5_isLetter_7 : decode cX5_isLetter 7 = .ok (.bipush 122, 2) := by decide +kernel
theorem dX5_isLetter_9 : decode cX5_isLetter 9 = .ok (.if_icmp .gt 7, 3) := by decide +kernel
theorem dX5_isLetter_12 : decode cX5_isLetter 12 = .ok (.iconst 1, 1) := by decide +kernel
theorem dX5_isLetter_13 : decode cX5_isLetter 13 = .ok (.goto 4, 3) := by decide +kernel
theorem dX5_isLetter_16 : decode cX5_isLetter 16 = .ok (.iconst 0, 1) := by decide +kernel
theorem dX5_isLetter_17 : decode cX5_isLetter 17 = .ok (.ireturn, 1) := by decide +kernel
theorem dX5_isFigure_0 : decode cX5_isFigure 0 = .ok (.iload_n 0, 1) := by decide +kernel
theorem dX5_isFigure_1 : decode cX5_isFigure 1 = .ok (.bipush 48, 2) := by decide +kernel
theorem dX5_isFigure_3 : decode cX5_isFigure 3 = .ok (.if_icmp .lt 13, 3) := by decide +kernel
theorem dX5_isFigure_6 : decode cX5_isFigure 6 = .ok (.iload_n 0, 1) := by decide +kernel
theorem dX5_isFigure_7 : decode cX5_isFigure 7 = .ok (.bipush 57, 2) := by decide +kernel
theorem dX5_isFigure_9 : decode cX5_isFigure 9 = .ok (.if_icmp .gt 7, 3) := by decide +kernel
theorem dX5_isFigure_12 : decode cX5_isFigure 12 = .ok (.iconst 1, 1) := by decide +kernel
theorem dX5_isFigure_13 : decode cX5_isFigure 13 = .ok (.goto 4, 3) := by decide +kernel
theorem dX5_isFigure_16 : decode cX5_isFigure 16 = .ok (.iconst 0, 1) := by decide +kernel
theorem dX5_isFigure_17 : decode cX5_isFigure 17 = .ok (.ireturn, 1) := by decide +kernel
theorem dX5_wordRead_0 : decode cX5_wordRead 0 = .ok (.aload_n 0, 1) := by decide +kernel
theorem dX5_wordRead_1 : decode cX5_wordRead 1 = .ok (.ldc 121, 2) := by decide +kernel
theorem dX5_wordRead_3 : decode cX5_wordRead 3 = .ok (.invokevirtual 123, 3) := by decide +kernel
theorem dX5_wordRead_6 : decode cX5_wordRead 6 = .ok (.ifCond .eq 5, 3) := by decide +kernel
theorem dX5_wordRead_9 : decode cX5_wordRead 9 = .ok (.iconst 0, 1) := by decide +kernel
theorem dX5_wordRead_10 : decode cX5_wordRead 10 = .ok (.ireturn, 1) := by decide +kernel
theorem dX5_wordRead_11 : decode cX5_wordRead 11 = .ok (.aload_n 0, 1) := by decide +kernel
theorem dX5_wordRead_12 : decode cX5_wordRead 12 = .ok (.ldc 127, 2) := by decide +kernel
theorem dX5_wordRead_14 : decode cX5_wordRead 14 = .ok (.invokevirtual 123, 3) := by decide +kernel
theorem dX5_wordRead_17 : decode cX5_wordRead 17 = .ok (.ifCond .eq 5, 3) := by decide +kernel
theorem dX5_wordRead_20 : decode cX5_wordRead 20 = .ok (.iconst 1, 1) := by decide +kernel
theorem dX5_wordRead_21 : decode cX5_wordRead 21 = .ok (.ireturn, 1) := by decide +kernel
theorem dX5_wordRead_22 : decode cX5_wordRead 22 = .ok (.aload_n 0, 1) := by decide +kernel
theorem dX5_wordRead_23 : decode cX5_wordRead 23 = .ok (.ldc 129, 2) := by decide +kernel
theorem dX5_wordRead_25 : decode cX5_wordRead 25 = .ok (.invokevirtual 123, 3) := by decide +kernel
theorem dX5_wordRead_28 : decode cX5_wordRead 28 = .ok (.ifCond .eq 5, 3) := by decide +kernel
theorem dX5_wordRead_31 : decode cX5_wordRead 31 = .ok (.iconst 2, 1) := by decide +kernel
theorem dX5_wordRead_32 : decode cX5_wordRead 32 = .ok (.ireturn, 1) := by decide +kernel
theorem dX5_wordRead_33 : decode cX5_wordRead 33 = .ok (.aload_n 0, 1) := by decide +kernel
theorem dX5_wordRead_34 : decode cX5_wordRead 34 = .ok (.ldc 131, 2) := by decide +kernel
theorem dX5_wordRead_36 : decode cX5_wordRead 36 = .ok (.invokevirtual 123, 3) := by decide +kernel
theorem dX5_wordRead_39 : decode cX5_wordRead 39 = .ok (.ifCond .eq 5, 3) := by decide +kernel
theorem dX5_wordRead_42 : decode cX5_wordRead 42 = .ok (.iconst 3, 1) := by decide +kernel
theorem dX5_wordRead_43 : decode cX5_wordRead 43 = .ok (.ireturn, 1) := by decide +kernel
theorem dX5_wordRead_44 : decode cX5_wordRead 44 = .ok (.aload_n 0, 1) := by decide +kernel
theorem dX5_wordRead_45 : decode cX5_wordRead 45 = .ok (.ldc 133, 2) := by decide +kernel
theorem dX5_wordRead_47 : decode cX5_wordRead 47 = .ok (.invokevirtual 123, 3) := by decide +kernel
theorem dX5_wordRead_50 : decode cX5_wordRead 50 = .ok (.ifCond .eq 5, 3) := by decide +kernel
theorem dX5_wordRead_53 : decode cX5_wordRead 53 = .ok (.iconst 4, 1) := by decide +kernel
theorem dX5_wordRead_54 : decode cX5_wordRead 54 = .ok (.ireturn, 1) := by decide +kernel
theorem dX5_wordRead_55 : decode cX5_wordRead 55 = .ok (.aload_n 0, 1) := by decide +kernel
theorem dX5_wordRead_56 : decode cX5_wordRead 56 = .ok (.ldc 135, 2) := by decide +kernel
theorem dX5_wordRead_58 : decode cX5_wordRead 58 = .ok (.invokevirtual 123, 3) := by decide +kernel
theorem dX5_wordRead_61 : decode cX5_wordRead 61 = .ok (.ifCond .eq 5, 3) := by decide +kernel
theorem dX5_wordRead_64 : decode cX5_wordRead 64 = .ok (.iconst 5, 1) := by decide +kernel
theorem dX5_wordRead_65 : decode cX5_wordRead 65 = .ok (.ireturn, 1) := by decide +kernel
theorem dX5_wordRead_66 : decode cX5_wordRead 66 = .ok (.aload_n 0, 1) := by decide +kernel
theorem dX5_wordRead_67 : decode cX5_wordRead 67 = .ok (.ldc 136, 2) := by decide +kernel
theorem dX5_wordRead_69 : decode cX5_wordRead 69 = .ok (.invokevirtual 123, 3) := by decide +kernel
theorem dX5_wordRead_72 : decode cX5_wordRead 72 = .ok (.ifCond .eq 8, 3) := by decide +kernel
theorem dX5_wordRead_75 : decode cX5_wordRead 75 = .ok (.bipush 6, 2) := by decide +kernel
theorem dX5_wordRead_77 : decode cX5_wordRead 77 = .ok (.goto 5, 3) := by decide +kernel
theorem dX5_wordRead_80 : decode cX5_wordRead 80 = .ok (.bipush (-4), 2) := by decide +kernel
theorem dX5_wordRead_82 : decode cX5_wordRead 82 = .ok (.ireturn, 1) := by decide +kernel
theorem dX5_isWord_0 : decode cX5_isWord 0 = .ok (.aload_n 0, 1) := by decide +kernel
theorem dX5_isWord_1 : decode cX5_isWord 1 = .ok (.getfield 24, 3) := by decide +kernel
theorem dX5_isWord_4 : decode cX5_isWord 4 = .ok (.aload_n 0, 1) := by decide +kernel
theorem dX5_isWord_5 : decode cX5_isWord 5 = .ok (.getfield 111, 3) := by decide +kernel
theorem dX5_isWord_8 : decode cX5_isWord 8 = .ok (.isub, 1) := by decide +kernel
theorem dX5_isWord_9 : decode cX5_isWord 9 = .ok (.aload_n 1, 1) := by decide +kernel
theorem dX5_isWord_10 : decode cX5_isWord 10 = .ok (.invokevirtual 137, 3) := by decide +kernel
theorem dX5_isWord_13 : decode cX5_isWord 13 = .ok (.if_icmp .eq 5, 3) := by decide +kernel
theorem dX5_isWord_16 : decode cX5_isWord 16 = .ok (.iconst 0, 1) := by decide +kernel
theorem dX5_isWord_17 : decode cX5_isWord 17 = .ok (.ireturn, 1) := by decide +kernel
theorem dX5_isWord_18 : decode cX5_isWord 18 = .ok (.iconst 0, 1) := by decide +kernel
theorem dX5_isWord_19 : decode cX5_isWord 19 = .ok (.istore_n 2, 1) := by decide +kernel
theorem dX5_isWord_20 : decode cX5_isWord 20 = .ok (.iload_n 2, 1) := by decide +kernel
theorem dX5_isWord_21 : decode cX5_isWord 21 = .ok (.aload_n 1, 1) := by decide +kernel
theorem dX5_isWord_22 : decode cX5_isWord 22 = .ok (.invokevirtual 137, 3) := by decide +kernel
theorem dX5_isWord_25 : decode cX5_isWord 25 = .ok (.if_icmp .ge 30, 3) := by decide +kernel
theorem dX5_isWord_28 : decode cX5_isWord 28 = .ok (.aload_n 0, 1) := by decide +kernel
theorem dX5_isWord_29 : decode cX5_isWord 29 = .ok (.getfield 9, 3) := by decide +kernel
theorem dX5_isWord_32 : decode cX5_isWord 32 = .ok (.aload_n 0, 1) := by decide +kernel
theorem dX5_isWord_33 : decode cX5_isWord 33 = .ok (.getfield 111, 3) := by decide +kernel
theorem dX5_isWord_36 : decode cX5_isWord 36 = .ok (.iload_n 2, 1) := by decide +kernel
theorem dX5_isWord_37 : decode cX5_isWord 37 = .ok (.iadd, 1) := by decide +kernel
theorem dX5_isWord_38 : decode cX5_isWord 38 = .ok (.baload, 1) := by decide +kernel
theorem dX5_isWord_39 : decode cX5_isWord 39 = .ok (.aload_n 1, 1) := by decide +kernel
theorem dX5_isWord_40 : decode cX5_isWord 40 = .ok (.iload_n 2, 1) := by decide +kernel
theorem dX5_isWord_41 : decode cX5_isWord 41 = .ok (.invokevirtual 141, 3) := by decide +kernel
theorem dX5_isWord_44 : decode cX5_isWord 44 = .ok (.if_icmp .eq 5, 3) := by decide +kernel
theorem dX5_isWord_47 : decode cX5_isWord 47 = .ok (.iconst 0, 1) := by decide +kernel
theorem dX5_isWord_48 : decode cX5_isWord 48 = .ok (.ireturn, 1) := by decide +kernel
theorem dX5_isWord_49 : decode cX5_isWord 49 = .ok (.iinc 2 1, 3) := by decide +kernel
theorem dX5_isWord_52 : decode cX5_isWord 52 = .ok (.goto (-32), 3) := by decide +kernel
theorem dX5_isWord_55 : decode cX5_isWord 55 = .ok (.iconst 1, 1) := by decide +kernel
theorem dX5_isWord_56 : decode cX5_isWord 56 = .ok (.ireturn, 1) := by decide +kernel
theorem dX6_init_0 : decode cX6_init 0 = .ok (.aload_n 0, 1) := by decide +kernel
theorem dX6_init_1 : decode cX6_init 1 = .ok (.invokespecial 1, 3) := by decide +kernel
theorem dX6_init_4 : decode cX6_init 4 = .ok (.aload_n 0, 1) := by decide +kernel
theorem dX6_init_5 : decode cX6_init 5 = .ok (.new 7, 3) := by decide +kernel
theorem dX6_init_8 : decode cX6_init 8 = .ok (.dup, 1) := by decide +kernel
theorem dX6_init_9 : decode cX6_init 9 = .ok (.invokespecial 9, 3) := by decide +kernel
theorem dX6_init_12 : decode cX6_init 12 = .ok (.putfield 10, 3) := by decide +kernel
theorem dX6_init_15 : decode cX6_init 15 = .ok (.aload_n 0, 1) := by decide +kernel
theorem dX6_init_16 : decode cX6_init 16 = .ok (.new 16, 3) := by decide +kernel
theorem dX6_init_19 : decode cX6_init 19 = .ok (.dup, 1) := by decide +kernel
theorem dX6_init_20 : decode cX6_init 20 = .ok (.invokespecial 18, 3) := by decide +kernel
theorem dX6_init_23 : decode cX6_init 23 = .ok (.putfield 19, 3) := by decide +kernel
theorem dX6_init_26 : decode cX6_init 26 = .ok (.aload_n 0, 1) := by decide +kernel
theorem dX6_init_27 : decode cX6_init 27 = .ok (.new 23, 3) := by decide +kernel
theorem dX6_init_30 : decode cX6_init 30 = .ok (.dup, 1) := by decide +kernel
theorem dX6_init_31 : decode cX6_init 31 = .ok (.invokespecial 25, 3) := by decide +kernel
theorem dX6_init_34 : decode cX6_init 34 = .ok (.putfield 26, 3) := by decide +kernel
theorem dX6_init_37 : decode cX6_init 37 = .ok (.aload_n 0, 1) := by decide +kernel
theorem dX6_init_38 : decode cX6_init 38 = .ok (.new 30, 3) := by decide +kernel
theorem dX6_init_41 : decode cX6_init 41 = .ok (.dup, 1) := by decide +kernel
theorem dX6_init_42 : decode cX6_init 42 = .ok (.invokespecial 32, 3) := by decide +kernel
theorem dX6_init_45 : decode cX6_init 45 = .ok (.putfield 33, 3) := by decide +kernel
theorem dX6_init_48 : decode cX6_init 48 = .ok (.aload_n 0, 1) := by decide +kernel
theorem dX6_init_49 : decode cX6_init 49 = .ok (.new 37, 3) := by decide +kernel
theorem dX6_init_52 : decode cX6_init 52 = .ok (.dup, 1) := by decide +kernel
theorem dX6_init_53 : decode cX6_init 53 = .ok (.invokespecial 39, 3) := by decide +kernel
theorem dX6_init_56 : decode cX6_init 56 = .ok (.putfield 40, 3) := by decide +kernel
theorem dX6_init_59 : decode cX6_init 59 = .ok (.aload_n 0, 1) := by decide +kernel
theorem dX6_init_60 : decode cX6_init 60 = .ok (.new 44, 3) := by decide +kernel
theorem dX6_init_63 : decode cX6_init 63 = .ok (.dup, 1) := by decide +kernel
theorem dX6_init_64 : decode cX6_init 64 = .ok (.invokespecial 46, 3) := by decide +kernel
theorem dX6_init_67 : decode cX6_init 67 = .ok (.putfield 47, 3) := by decide +kernel
theorem dX6_init_70 : decode cX6_init 70 = .ok (.aload_n 0, 1) := by decide +kernel
theorem dX6_init_71 : decode cX6_init 71 = .ok (.new 7, 3) := by decide +kernel
theorem dX6_init_74 : decode cX6_init 74 = .ok (.dup, 1) := by decide +kernel
theorem dX6_init_75 : decode cX6_init 75 = .ok (.invokespecial 9, 3) := by decide +kernel
theorem dX6_init_78 : decode cX6_init 78 = .ok (.putfield 51, 3) := by decide +kernel
theorem dX6_init_81 : decode cX6_init 81 = .ok (.aload_n 0, 1) := by decide +kernel
theorem dX6_init_82 : decode cX6_init 82 = .ok (.new 7, 3) := by decide +kernel
theorem dX6_init_85 : decode cX6_init 85 = .ok (.dup, 1) := by decide +kernel
theorem dX6_init_86 : decode cX6_init 86 = .ok (.invokespecial 9, 3) := by decide +kernel
theorem dX6_init_89 : decode cX6_init 89 = .ok (.putfield 54, 3) := by decide +kernel
theorem dX6_init_92 : decode cX6_init 92 = .ok (.return_, 1) := by decide +kernel
theorem dX6_feed_0 : decode cX6_feed 0 = .ok (.iload_n 1, 1) := by decide +kernel
theorem dX6_feed_1 : decode cX6_feed 1 = .ok (.iconst 0, 1) := by decide +kernel
theorem dX6_feed_2 : decode cX6_feed 2 = .ok (.bipush 127, 2) := by decide +kernel
theorem dX6_feed_4 : decode cX6_feed 4 = .ok (.invokestatic 57, 3) := by decide +kernel
theorem dX6_feed_7 : decode cX6_feed 7 = .ok (.ifCond .ne 5, 3) := by decide +kernel
theorem dX6_feed_10 : decode cX6_feed 10 = .ok (.iconst (-1), 1) := by decide +kernel
theorem dX6_feed_11 : decode cX6_feed 11 = .ok (.ireturn, 1) := by decide +kernel
theorem dX6_feed_12 : decode cX6_feed 12 = .ok (.aload_n 0, 1) := by decide +kernel
theorem dX6_feed_13 : decode cX6_feed 13 = .ok (.getfield 33, 3) := by decide +kernel
theorem dX6_feed_16 : decode cX6_feed 16 = .ok (.getfield 61, 3) := by decide +kernel
theorem dX6_feed_19 : decode cX6_feed 19 = .ok (.sipush 160, 3) := by decide +kernel
theorem dX6_feed_22 : decode cX6_feed 22 = .ok (.if_icmp .lt 6, 3) := by decide +kernel
theorem dX6_feed_25 : decode cX6_feed 25 = .ok (.bipush (-3), 2) := by decide +kernel
theorem dX6_feed_27 : decode cX6_feed 27 = .ok (.ireturn, 1) := by decide +kernel
theorem dX6_feed_28 : decode cX6_feed 28 = .ok (.aload_n 0, 1) := by decide +kernel
theorem dX6_feed_29 : decode cX6_feed 29 = .ok (.getfield 33, 3) := by decide +kernel
theorem dX6_feed_32 : decode cX6_feed 32 = .ok (.getfield 65, 3) := by decide +kernel
theorem dX6_feed_35 : decode cX6_feed 35 = .ok (.aload_n 0, 1) := by decide +kernel
theorem dX6_feed_36 : decode cX6_feed 36 = .ok (.getfield 33, 3) := by decide +kernel
theorem dX6_feed_39 : decode cX6_feed 39 = .ok (.getfield 61, 3) := by decide +kernel
theorem dX6_feed_42 : decode cX6_feed 42 = .ok (.iload_n 1, 1) := by decide +kernel
theorem dX6_feed_43 : decode cX6_feed 43 = .ok (.i2b, 1) := by decide +kernel
theorem dX6_feed_44 : decode cX6_feed 44 = .ok (.bastore, 1) := by decide +kernel
theorem dX6_feed_45 : decode cX6_feed 45 = .ok (.aload_n 0, 1) := by decide +kernel
theorem dX6_feed_46 : decode cX6_feed 46 = .ok (.getfield 33, 3) := by decide +kernel
theorem dX6_feed_49 : decode cX6_feed 49 = .ok (.dup, 1) := by decide +kernel
theorem dX6_feed_50 : decode cX6_feed 50 = .ok (.getfield 61, 3) := by decide +kernel
theorem dX6_feed_53 : decode cX6_feed 53 = .ok (.iconst 1, 1) := by decide +kernel
theorem dX6_feed_54 : decode cX6_feed 54 = .ok (.iadd, 1) := by decide +kernel
theorem dX6_feed_55 : decode cX6_feed 55 = .ok (.putfield 61, 3) := by decide +kernel
theorem dX6_feed_58 : decode cX6_feed 58 = .ok (.aload_n 0, 1) := by decide +kernel
theorem dX6_feed_59 : decode cX6_feed 59 = .ok (.getfield 33, 3) := by decide +kernel
theorem dX6_feed_62 : decode cX6_feed 62 = .ok (.getfield 61, 3) := by decide +kernel
theorem dX6_feed_65 : decode cX6_feed 65 = .ok (.ireturn, 1) := by decide +kernel
theorem dX6_end_0 : decode cX6_end 0 = .ok (.iload_n 1, 1) := by decide +kernel
theorem dX6_end_1 : decode cX6_end 1 = .ok (.iconst 0, 1) := by decide +kernel
theorem dX6_end_2 : decode cX6_end 2 = .ok (.aload_n 0, 1) := by decide +kernel
theorem dX6_end_3 : decode cX6_end 3 = .ok (.getfield 33, 3) := by decide +kernel
theorem dX6_end_6 : decode cX6_end 6 = .ok (.getfield 61, 3) := by decide +kernel
theorem dX6_end_9 : decode cX6_end 9 = .ok (.invokestatic 57, 3) := by decide +kernel
theorem dX6_end_12 : decode cX6_end 12 = .ok (.ifCond .ne 5, 3) := by decide +kernel
theorem dX6_end_15 : decode cX6_end 15 = .ok (.iconst (-1), 1) := by decide +kernel
theorem dX6_end_16 : decode cX6_end 16 = .ok (.ireturn, 1) := by decide +kernel
theorem dX6_end_17 : decode cX6_end 17 = .ok (.aload_n 0, 1) := by decide +kernel
theorem dX6_end_18 : decode cX6_end 18 = .ok (.getfield 33, 3) := by decide +kernel
theorem dX6_end_21 : decode cX6_end 21 = .ok (.getfield 61, 3) := by decide +kernel
theorem dX6_end_24 : decode cX6_end 24 = .ok (.istore_n 2, 1) := by decide +kernel
theorem dX6_end_25 : decode cX6_end 25 = .ok (.aload_n 0, 1) := by decide +kernel
theorem dX6_end_26 : decode cX6_end 26 = .ok (.getfield 33, 3) := by decide +kernel
theorem dX6_end_29 : decode cX6_end 29 = .ok (.iload_n 1, 1) := by decide +kernel
theorem dX6_end_30 : decode cX6_end 30 = .ok (.putfield 61, 3) := by decide +kernel
theorem dX6_end_33 : decode cX6_end 33 = .ok (.iload_n 2, 1) := by decide +kernel
theorem dX6_end_34 : decode cX6_end 34 = .ok (.ireturn, 1) := by decide +kernel
theorem dX6_text_0 : decode cX6_text 0 = .ok (.aload_n 0, 1) := by decide +kernel
theorem dX6_text_1 : decode cX6_text 1 = .ok (.getfield 19, 3) := by decide +kernel
theorem dX6_text_4 : decode cX6_text 4 = .ok (.getfield 69, 3) := by decide +kernel
theorem dX6_text_7 : decode cX6_text 7 = .ok (.astore_n 1, 1) := by decide +kernel
theorem dX6_text_8 : decode cX6_text 8 = .ok (.aload_n 0, 1) := by decide +kernel
theorem dX6_text_9 : decode cX6_text 9 = .ok (.getfield 33, 3) := by decide +kernel
theorem dX6_text_12 : decode cX6_text 12 = .ok (.aload_n 1, 1) := by decide +kernel
theorem dX6_text_13 : decode cX6_text 13 = .ok (.invokevirtual 72, 3) := by decide +kernel
theorem dX6_text_16 : decode cX6_text 16 = .ok (.istore_n 2, 1) := by decide +kernel
theorem dX6_text_17 : decode cX6_text 17 = .ok (.aload_n 0, 1) := by decide +kernel
theorem dX6_text_18 : decode cX6_text 18 = .ok (.getfield 33, 3) := by decide +kernel
theorem dX6_text_21 : decode cX6_text 21 = .ok (.iconst 0, 1) := by decide +kernel
theorem dX6_text_22 : decode cX6_text 22 = .ok (.putfield 61, 3) := by decide +kernel
theorem dX6_text_25 : decode cX6_text 25 = .ok (.aload_n 0, 1) := by decide +kernel
theorem dX6_text_26 : decode cX6_text 26 = .ok (.getfield 33, 3) := by decide +kernel
theorem dX6_text_29 : decode cX6_text 29 = .ok (.getfield 76, 3) := by decide +kernel
theorem dX6_text_32 : decode cX6_text 32 = .ok (.ifCond .eq 14, 3) := by decide +kernel
theorem dX6_text_35 : decode cX6_text 35 = .ok (.bipush (-10), 2) := by decide +kernel
theorem dX6_text_37 : decode cX6_text 37 = .ok (.aload_n 0, 1) := by decide +kernel
theorem dX6_text_38 : decode cX6_text 38 = .ok (.getfield 33, 3) := by decide +kernel
theorem dX6_text_41 : decode cX6_text 41 = .ok (.getfield 79, 3) := by decide +kernel
theorem dX6_text_44 : decode cX6_text 44 = .ok (.isub, 1) := by decide +kernel
theorem dX6_text_45 : decode cX6_text 45 = .ok (.ireturn, 1) := by decide +kernel
theorem dX6_text_46 : decode cX6_text 46 = .ok (.aload_n 0, 1) := by decide +kernel
theorem dX6_text_47 : decode cX6_text 47 = .ok (.getfield 10, 3) := by decide +kernel
theorem dX6_text_50 : decode cX6_text 50 = .ok (.aload_n 1, 1) := by decide +kernel
theorem dX6_text_51 : decode cX6_text 51 = .ok (.invokevirtual 82, 3) := by decide +kernel
theorem dX6_text_54 : decode cX6_text 54 = .ok (.aload_n 0, 1) := by decide +kernel
theorem dX6_text_55 : decode cX6_text 55 = .ok (.getfield 40, 3) := by decide +kernel
theorem dX6_text_58 : decode cX6_text 58 = .ok (.iconst 0, 1) := by decide +kernel
theorem dX6_text_59 : decode cX6_text 59 = .ok (.putfield 86, 3) := by decide +kernel
theorem dX6_text_62 : decode cX6_text 62 = .ok (.aload_n 0, 1) := by decide +kernel
theorem dX6_text_63 : decode cX6_text 63 = .ok (.iconst 0, 1) := by decide +kernel
theorem dX6_text_64 : decode cX6_text 64 = .ok (.putfield 89, 3) := by decide +kernel
theorem dX6_text_67 : decode cX6_text 67 = .ok (.iload_n 2, 1) := by decide +kernel
theorem dX6_text_68 : decode cX6_text 68 = .ok (.ireturn, 1) := by decide +kernel
theorem dX6_fault_0 : decode cX6_fault 0 = .ok (.aload_n 0, 1) := by decide +kernel
theorem dX6_fault_1 : decode cX6_fault 1 = .ok (.getfield 33, 3) := by decide +kernel
theorem dX6_fault_4 : decode cX6_fault 4 = .ok (.getfield 76, 3) := by decide +kernel
theorem dX6_fault_7 : decode cX6_fault 7 = .ok (.ireturn, 1) := by decide +kernel
theorem dX6_rule_0 : decode cX6_rule 0 = .ok (.iload_n 1, 1) := by decide +kernel
theorem dX6_rule_1 : decode cX6_rule 1 = .ok (.tableswitch 109 0 5 #[39, 47, 55, 63, 71, 90], 39) := by decide +kernel
theorem dX6_rule_40 : decode cX6_rule 40 = .ok (.aload_n 0, 1) := by decide +kernel
theorem dX6_rule_41 : decode cX6_rule 41 = .ok (.getfield 10, 3) := by decide +kernel
theorem dX6_rule_44 : decode cX6_rule 44 = .ok (.getfield 92, 3) := by decide +kernel
theorem dX6_rule_47 : decode cX6_rule 47 = .ok (.ireturn, 1) := by decide +kernel
theorem dX6_rule_48 : decode cX6_rule 48 = .ok (.aload_n 0, 1) := by decide +kernel
theorem dX6_rule_49 : decode cX6_rule 49 = .ok (.getfield 10, 3) := by decide +kernel
theorem dX6_rule_52 : decode cX6_rule 52 = .ok (.getfield 95, 3) := by decide +kernel
theorem dX6_rule_55 : decode cX6_rule 55 = .ok (.ireturn, 1) := by decide +kernel
theorem dX6_rule_56 : decode cX6_rule 56 = .ok (.aload_n 0, 1) := by decide +kernel
theorem dX6_rule_57 : decode cX6_rule 57 = .ok (.getfield 10, 3) := by decide +kernel
theorem dX6_rule_60 : decode cX6_rule 60 = .ok (.getfield 98, 3) := by decide +kernel
theorem dX6_rule_63 : decode cX6_rule 63 = .ok (.ireturn, 1) := by decide +kernel
theorem dX6_rule_64 : decode cX6_rule 64 = .ok (.aload_n 0, 1) := by decide +kernel
theorem dX6_rule_65 : decode cX6_rule 65 = .ok (.getfield 10, 3) := by decide +kernel
theorem dX6_rule_68 : decode cX6_rule 68 = .ok (.getfield 101, 3) := by decide +kernel
theorem dX6_rule_71 : decode cX6_rule 71 = .ok (.ireturn, 1) := by decide +kernel
theorem dX6_rule_72 : decode cX6_rule 72 = .ok (.aload_n 0, 1) := by decide +kernel
theorem dX6_rule_73 : decode cX6_rule 73 = .ok (.getfield 19, 3) := by decide +kernel
theorem dX6_rule_76 : decode cX6_rule 76 = .ok (.aload_n 0, 1) := by decide +kernel
theorem dX6_rule_77 : decode cX6_rule 77 = .ok (.getfield 10, 3) := by decide +kernel
theorem dX6_rule_80 : decode cX6_rule 80 = .ok (.invokevirtual 104, 3) := by decide +kernel
theorem dX6_rule_83 : decode cX6_rule 83 = .ok (.aload_n 0, 1) := by decide +kernel
theorem dX6_rule_84 : decode cX6_rule 84 = .ok (.getfield 19, 3) := by decide +kernel
theorem dX6_rule_87 : decode cX6_rule 87 = .ok (.invokevirtual 107, 3) := by decide +kernel
theorem dX6_rule_90 : decode cX6_rule 90 = .ok (.ireturn, 1) := by decide +kernel
theorem dX6_rule_91 : decode cX6_rule 91 = .ok (.aload_n 0, 1) := by decide +kernel
theorem dX6_rule_92 : decode cX6_rule 92 = .ok (.getfield 19, 3) := by decide +kernel
theorem dX6_rule_95 : decode cX6_rule 95 = .ok (.aload_n 0, 1) := by decide +kernel
theorem dX6_rule_96 : decode cX6_rule 96 = .ok (.getfield 10, 3) := by decide +kernel
theorem dX6_rule_99 : decode cX6_rule 99 = .ok (.invokevirtual 104, 3) := by decide +kernel
theorem dX6_rule_102 : decode cX6_rule 102 = .ok (.aload_n 0, 1) := by decide +kernel
theorem dX6_rule_103 : decode cX6_rule 103 = .ok (.getfield 19, 3) := by decide +kernel
theorem dX6_rule_106 : decode cX6_rule 106 = .ok (.invokevirtual 111, 3) := by decide +kernel
theorem dX6_rule_109 : decode cX6_rule 109 = .ok (.ireturn, 1) := by decide +kernel
theorem dX6_rule_110 : decode cX6_rule 110 = .ok (.iconst (-1), 1) := by decide +kernel
theorem dX6_rule_111 : decode cX6_rule 111 = .ok (.ireturn, 1) := by decide +kernel
theorem dX6_work_0 : decode cX6_work 0 = .ok (.aload_n 0, 1) := by decide +kernel
theorem dX6_work_1 : decode cX6_work 1 = .ok (.getfield 10, 3) := by decide +kernel
theorem dX6_work_4 : decode cX6_work 4 = .ok (.iload_n 1, 1) := by decide +kernel
theorem dX6_work_5 : decode cX6_work 5 = .ok (.invokevirtual 114, 3) := by decide +kernel
theorem dX6_work_8 : decode cX6_work 8 = .ok (.ifCond .ne 5, 3) := by decide +kernel
theorem dX6_work_11 : decode cX6_work 11 = .ok (.iconst (-1), 1) := by decide +kernel
theorem dX6_work_12 : decode cX6_work 12 = .ok (.ireturn, 1) := by decide +kernel
theorem dX6_work_13 : decode cX6_work 13 = .ok (.iload_n 2, 1) := by decide +kernel
theorem dX6_work_14 : decode cX6_work 14 = .ok (.iconst 0, 1) := by decide +kernel
theorem dX6_work_15 : decode cX6_work 15 = .ok (.iconst 3, 1) := by decide +kernel
theorem dX6_work_16 : decode cX6_work 16 = .ok (.invokestatic 57, 3) := by decide +kernel
theorem dX6_work_19 : decode cX6_work 19 = .ok (.ifCond .eq 13, 3) := by decide +kernel
theorem dX6_work_22 : decode cX6_work 22 = .ok (.aload_n 0, 1) := by decide +kernel
theorem dX6_work_23 : decode cX6_work 23 = .ok (.getfield 10, 3) := by decide +kernel
theorem dX6_work_26 : decode cX6_work 26 = .ok (.iload_n 1, 1) := by decide +kernel
theorem dX6_work_27 : decode cX6_work 27 = .ok (.iload_n 2, 1) := by decide +kernel
theorem dX6_work_28 : decode cX6_work 28 = .ok (.invokevirtual 118, 3) := by decide +kernel
theorem dX6_work_31 : decode cX6_work 31 = .ok (.ireturn, 1) := by decide +kernel
theorem dX6_work_32 : decode cX6_work 32 = .ok (.iload_n 2, 1) := by decide +kernel
theorem dX6_work_33 : decode cX6_work 33 = .ok (.tableswitch 91 4 8 #[35, 44, 53, 62, 71], 35) := by decide +kernel
theorem dX6_work_68 : decode cX6_work 68 = .ok (.aload_n 0, 1) := by decide +kernel
theorem dX6_work_69 : decode cX6_work 69 = .ok (.getfield 10, 3) := by decide +kernel
theorem dX6_work_72 : decode cX6_work 72 = .ok (.iload_n 1, 1) := by decide +kernel
theorem dX6_work_73 : decode cX6_work 73 = .ok (.invokevirtual 122, 3) := by decide +kernel
theorem dX6_work_76 : decode cX6_work 76 = .ok (.ireturn, 1) := by decide +kernel
theorem dX6_work_77 : decode cX6_work 77 = .ok (.aload_n 0, 1) := by decide +kernel
theorem dX6_work_78 : decode cX6_work 78 = .ok (.getfield 10, 3) := by decide +kernel
theorem dX6_work_81 : decode cX6_work 81 = .ok (.iload_n 1, 1) := by decide +kernel
theorem dX6_work_82 : decode cX6_work 82 = .ok (.invokevirtual 126, 3) := by decide +kernel
theorem dX6_work_85 : decode cX6_work 85 = .ok (.ireturn, 1) := by decide +kernel
theorem dX6_work_86 : decode cX6_work 86 = .ok (.aload_n 0, 1) := by decide +kernel
theorem dX6_work_87 : decode cX6_work 87 = .ok (.getfield 10, 3) := by decide +kernel
theorem dX6_work_90 : decode cX6_work 90 = .ok (.iload_n 1, 1) := by decide +kernel
theorem dX6_work_91 : decode cX6_work 91 = .ok (.invokevirtual 129, 3) := by decide +kernel
theorem dX6_work_94 : decode cX6_work 94 = .ok (.ireturn, 1) := by decide +kernel
theorem dX6_work_95 : decode cX6_work 95 = .ok (.aload_n 0, 1) := by decide +kernel
theorem dX6_work_96 : decode cX6_work 96 = .ok (.getfield 10, 3) := by decide +kernel
theorem dX6_work_99 : decode cX6_work 99 = .ok (.iload_n 1, 1) := by decide +kernel
theorem dX6_work_100 : decode cX6_work 100 = .ok (.invokevirtual 132, 3) := by decide +kernel
theorem dX6_work_103 : decode cX6_work 103 = .ok (.ireturn, 1) := by decide +kernel
theorem dX6_work_104 : decode cX6_work 104 = .ok (.aload_n 0, 1) := by decide +kernel
theorem dX6_work_105 : decode cX6_work 105 = .ok (.getfield 19, 3) := by decide +kernel
theorem dX6_work_108 : decode cX6_work 108 = .ok (.aload_n 0, 1) := by decide +kernel
theorem dX6_work_109 : decode cX6_work 109 = .ok (.getfield 10, 3) := by decide +kernel
theorem dX6_work_112 : decode cX6_work 112 = .ok (.invokevirtual 104, 3) := by decide +kernel
theorem dX6_work_115 : decode cX6_work 115 = .ok (.aload_n 0, 1) := by decide +kernel
theorem dX6_work_116 : decode cX6_work 116 = .ok (.getfield 19, 3) := by decide +kernel
theorem dX6_work_119 : decode cX6_work 119 = .ok (.iload_n 1, 1) := by decide +kernel
theorem dX6_work_120 : decode cX6_work 120 = .ok (.invokevirtual 135, 3) := by decide +kernel
theorem dX6_work_123 : decode cX6_work 123 = .ok (.ireturn, 1) := by decide +kernel
theorem dX6_work_124 : decode cX6_work 124 = .ok (.iconst (-1), 1) := by decide +kernel
theorem dX6_work_125 : decode cX6_work 125 = .ok (.ireturn, 1) := by decide +kernel
theorem dX6_reader_0 : decode cX6_reader 0 = .ok (.aload_n 0, 1) := by decide +kernel
theorem dX6_reader_1 : decode cX6_reader 1 = .ok (.getfield 10, 3) := by decide +kernel
theorem dX6_reader_4 : decode cX6_reader 4 = .ok (.iload_n 1, 1) := by decide +kernel
theorem dX6_reader_5 : decode cX6_reader 5 = .ok (.invokevirtual 138, 3) := by decide +kernel
theorem dX6_reader_8 : decode cX6_reader 8 = .ok (.ifCond .ne 5, 3) := by decide +kernel
theorem dX6_reader_11 : decode cX6_reader 11 = .ok (.iconst (-1), 1) := by decide +kernel
theorem dX6_reader_12 : decode cX6_reader 12 = .ok (.ireturn, 1) := by decide +kernel
theorem dX6_reader_13 : decode cX6_reader 13 = .ok (.iload_n 2, 1) := by decide +kernel
theorem dX6_reader_14 : decode cX6_reader 14 = .ok (.iconst 0, 1) := by decide +kernel
theorem dX6_reader_15 : decode cX6_reader 15 = .ok (.iconst 1, 1) := by decide +kernel
theorem dX6_reader_16 : decode cX6_reader 16 = .ok (.invokestatic 57, 3) := by decide +kernel
theorem dX6_reader_19 : decode cX6_reader 19 = .ok (.ifCond .eq 13, 3) := by decide +kernel
theorem dX6_reader_22 : decode cX6_reader 22 = .ok (.aload_n 0, 1) := by decide +kernel
theorem dX6_reader_23 : decode cX6_reader 23 = .ok (.getfield 10, 3) := by decide +kernel
theorem dX6_reader_26 : decode cX6_reader 26 = .ok (.iload_n 1, 1) := by decide +kernel
theorem dX6_reader_27 : decode cX6_reader 27 = .ok (.iload_n 2, 1) := by decide +kernel
theorem dX6_reader_28 : decode cX6_reader 28 = .ok (.invokevirtual 141, 3) := by decide +kernel
theorem dX6_reader_31 : decode cX6_reader 31 = .ok (.ireturn, 1) := by decide +kernel
theorem dX6_reader_32 : decode cX6_reader 32 = .ok (.iload_n 2, 1) := by decide +kernel
theorem dX6_reader_33 : decode cX6_reader 33 = .ok (.iconst 2, 1) := by decide +kernel
theorem dX6_reader_34 : decode cX6_reader 34 = .ok (.iconst 3, 1) := by decide +kernel
theorem dX6_reader_35 : decode cX6_reader 35 = .ok (.invokestatic 57, 3) := by decide +kernel
theorem dX6_reader_38 : decode cX6_reader 38 = .ok (.ifCond .ne 5, 3) := by decide +kernel
theorem dX6_reader_41 : decode cX6_reader 41 = .ok (.iconst (-1), 1) := by decide +kernel
theorem dX6_reader_42 : decode cX6_reader 42 = .ok (.ireturn, 1) := by decide +kernel
theorem dX6_reader_43 : decode cX6_reader 43 = .ok (.aload_n 0, 1) := by decide +kernel
theorem dX6_reader_44 : decode cX6_reader 44 = .ok (.getfield 19, 3) := by decide +kernel
theorem dX6_reader_47 : decode cX6_reader 47 = .ok (.aload_n 0, 1) := by decide +kernel
theorem dX6_reader_48 : decode cX6_reader 48 = .ok (.getfield 10, 3) := by decide +kernel
theorem dX6_reader_51 : decode cX6_reader 51 = .ok (.invokevirtual 104, 3) := by decide +kernel
theorem dX6_reader_54 : decode cX6_reader 54 = .ok (.iload_n 2, 1) := by decide +kernel
theorem dX6_reader_55 : decode cX6_reader 55 = .ok (.iconst 2, 1) := by decide +kernel
theorem dX6_reader_56 : decode cX6_reader 56 = .ok (.if_icmp .ne 14, 3) := by decide +kernel
theorem dX6_reader_59 : decode cX6_reader 59 = .ok (.aload_n 0, 1) := by decide +kernel
theorem dX6_reader_60 : decode cX6_reader 60 = .ok (.getfield 19, 3) := by decide +kernel
theorem dX6_reader_63 : decode cX6_reader 63 = .ok (.iload_n 1, 1) := by decide +kernel
theorem dX6_reader_64 : decode cX6_reader 64 = .ok (.invokevirtual 144, 3) := by decide +kernel
theorem dX6_reader_67 : decode cX6_reader 67 = .ok (.goto 11, 3) := by decide +kernel
theorem dX6_reader_70 : decode cX6_reader 70 = .ok (.aload_n 0, 1) := by decide +kernel
theorem dX6_reader_71 : decode cX6_reader 71 = .ok (.getfield 19, 3) := by decide +kernel
theorem dX6_reader_74 : decode cX6_reader 74 = .ok (.iload_n 1, 1) := by decide +kernel
theorem dX6_reader_75 : decode cX6_reader 75 = .ok (.invokevirtual 147, 3) := by decide +kernel
theorem dX6_reader_78 : decode cX6_reader 78 = .ok (.ireturn, 1) := by decide +kernel
theorem dX6_reads_0 : decode cX6_reads 0 = .ok (.aload_n 0, 1) := by decide +kernel
theorem dX6_reads_1 : decode cX6_reads 1 = .ok (.getfield 10, 3) := by decide +kernel
theorem dX6_reads_4 : decode cX6_reads 4 = .ok (.iload_n 1, 1) := by decide +kernel
theorem dX6_reads_5 : decode cX6_reads 5 = .ok (.invokevirtual 138, 3) := by decide +kernel
theorem dX6_reads_8 : decode cX6_reads 8 = .ok (.ifCond .eq 14, 3) := by decide +kernel
theorem dX6_reads_11 : decode cX6_reads 11 = .ok (.aload_n 0, 1) := by decide +kernel
theorem dX6_reads_12 : decode cX6_reads 12 = .ok (.getfield 10, 3) := by decide +kernel
theorem dX6_reads_15 : decode cX6_reads 15 = .ok (.iload_n 2, 1) := by decide +kernel
theorem dX6_reads_16 : decode cX6_reads 16 = .ok (.invokevirtual 114, 3) := by decide +kernel
theorem dX6_reads_19 : decode cX6_reads 19 = .ok (.ifCond .ne 5, 3) := by decide +kernel
theorem dX6_reads_22 : decode cX6_reads 22 = .ok (.iconst (-1), 1) := by decide +kernel
theorem dX6_reads_23 : decode cX6_reads 23 = .ok (.ireturn, 1) := by decide +kernel
theorem dX6_reads_24 : decode cX6_reads 24 = .ok (.aload_n 0, 1) := by decide +kernel
theorem dX6_reads_25 : decode cX6_reads 25 = .ok (.getfield 19, 3) := by decide +kernel
theorem dX6_reads_28 : decode cX6_reads 28 = .ok (.aload_n 0, 1) := by decide +kernel
theorem dX6_reads_29 : decode cX6_reads 29 = .ok (.getfield 10, 3) := by decide +kernel
theorem dX6_reads_32 : decode cX6_reads 32 = .ok (.invokevirtual 104, 3) := by decide +kernel
theorem dX6_reads_35 : decode cX6_reads 35 = .ok (.aload_n 0, 1) := by decide +kernel
theorem dX6_reads_36 : decode cX6_reads 36 = .ok (.getfield 19, 3) := by decide +kernel
theorem dX6_reads_39 : decode cX6_reads 39 = .ok (.iload_n 1, 1) := by decide +kernel
theorem dX6_reads_40 : decode cX6_reads 40 = .ok (.iload_n 2, 1) := by decide +kernel
theorem dX6_reads_41 : decode cX6_reads 41 = .ok (.invokevirtual 150, 3) := by decide +kernel
theorem dX6_reads_44 : decode cX6_reads 44 = .ok (.ireturn, 1) := by decide +kernel
theorem dX6_looks_0 : decode cX6_looks 0 = .ok (.aload_n 0, 1) := by decide +kernel
theorem dX6_looks_1 : decode cX6_looks 1 = .ok (.getfield 10, 3) := by decide +kernel
theorem dX6_looks_4 : decode cX6_looks 4 = .ok (.iload_n 1, 1) := by decide +kernel
theorem dX6_looks_5 : decode cX6_looks 5 = .ok (.invokevirtual 138, 3) := by decide +kernel
theorem dX6_looks_8 : decode cX6_looks 8 = .ok (.ifCond .eq 13, 3) := by decide +kernel
theorem dX6_looks_11 : decode cX6_looks 11 = .ok (.iload_n 2, 1) := by decide +kernel
theorem dX6_looks_12 : decode cX6_looks 12 = .ok (.iconst 0, 1) := by decide +kernel
theorem dX6_looks_13 : decode cX6_looks 13 = .ok (.bipush 79, 2) := by decide +kernel
theorem dX6_looks_15 : decode cX6_looks 15 = .ok (.invokestatic 57, 3) := by decide +kernel
theorem dX6_looks_18 : decode cX6_looks 18 = .ok (.ifCond .ne 5, 3) := by decide +kernel
theorem dX6_looks_21 : decode cX6_looks 21 = .ok (.iconst (-1), 1) := by decide +kernel
theorem dX6_looks_22 : decode cX6_looks 22 = .ok (.ireturn, 1) := by decide +kernel
theorem dX6_looks_23 : decode cX6_looks 23 = .ok (.aload_n 0, 1) := by decide +kernel
theorem dX6_looks_24 : decode cX6_looks 24 = .ok (.getfield 19, 3) := by decide +kernel
theorem dX6_looks_27 : decode cX6_looks 27 = .ok (.aload_n 0, 1) := by decide +kernel
theorem dX6_looks_28 : decode cX6_looks 28 = .ok (.getfield 10, 3) := by decide +kernel
theorem dX6_looks_31 : decode cX6_looks 31 = .ok (.invokevirtual 104, 3) := by decide +kernel
theorem dX6_looks_34 : decode cX6_looks 34 = .ok (.aload_n 0, 1) := by decide +kernel
theorem dX6_looks_35 : decode cX6_looks 35 = .ok (.getfield 19, 3) := by decide +kernel
theorem dX6_looks_38 : decode cX6_looks 38 = .ok (.iload_n 1, 1) := by decide +kernel
theorem dX6_looks_39 : decode cX6_looks 39 = .ok (.iload_n 2, 1) := by decide +kernel
theorem dX6_looks_40 : decode cX6_looks 40 = .ok (.invokevirtual 153, 3) := by decide +kernel
theorem dX6_looks_43 : decode cX6_looks 43 = .ok (.ireturn, 1) := by decide +kernel
theorem dX6_sky_0 : decode cX6_sky 0 = .ok (.iload_n 1, 1) := by decide +kernel
theorem dX6_sky_1 : decode cX6_sky 1 = .ok (.iconst 0, 1) := by decide +kernel
theorem dX6_sky_2 : decode cX6_sky 2 = .ok (.bipush 79, 2) := by decide +kernel
theorem dX6_sky_4 : decode cX6_sky 4 = .ok (.invokestatic 57, 3) := by decide +kernel
theorem dX6_sky_7 : decode cX6_sky 7 = .ok (.ifCond .ne 5, 3) := by decide +kernel
theorem dX6_sky_10 : decode cX6_sky 10 = .ok (.iconst (-1), 1) := by decide +kernel
theorem dX6_sky_11 : decode cX6_sky 11 = .ok (.ireturn, 1) := by decide +kernel
theorem dX6_sky_12 : decode cX6_sky 12 = .ok (.aload_n 0, 1) := by decide +kernel
theorem dX6_sky_13 : decode cX6_sky 13 = .ok (.getfield 19, 3) := by decide +kernel
theorem dX6_sky_16 : decode cX6_sky 16 = .ok (.aload_n 0, 1) := by decide +kernel
theorem dX6_sky_17 : decode cX6_sky 17 = .ok (.getfield 10, 3) := by decide +kernel
theorem dX6_sky_20 : decode cX6_sky 20 = .ok (.invokevirtual 104, 3) := by decide +kernel
theorem dX6_sky_23 : decode cX6_sky 23 = .ok (.iconst 0, 1) := by decide +kernel
theorem dX6_sky_24 : decode cX6_sky 24 = .ok (.istore_n 2, 1) := by decide +kernel
theorem dX6_sky_25 : decode cX6_sky 25 = .ok (.iconst 0, 1) := by decide +kernel
theorem dX6_sky_26 : decode cX6_sky 26 = .ok (.istore_n 3, 1) := by decide +kernel
theorem dX6_sky_27 : decode cX6_sky 27 = .ok (.iload_n 3, 1) := by decide +kernel
theorem dX6_sky_28 : decode cX6_sky 28 = .ok (.aload_n 0, 1) := by decide +kernel
theorem dX6_sky_29 : decode cX6_sky 29 = .ok (.getfield 10, 3) := by decide +kernel
theorem dX6_sky_32 : decode cX6_sky 32 = .ok (.getfield 92, 3) := by decide +kernel
theorem dX6_sky_35 : decode cX6_sky 35 = .ok (.if_icmp .ge 27, 3) := by decide +kernel
theorem dX6_sky_38 : decode cX6_sky 38 = .ok (.aload_n 0, 1) := by decide +kernel
theorem dX6_sky_39 : decode cX6_sky 39 = .ok (.getfield 19, 3) := by decide +kernel
theorem dX6_sky_42 : decode cX6_sky 42 = .ok (.iload_n 3, 1) := by decide +kernel
theorem dX6_sky_43 : decode cX6_sky 43 = .ok (.iload_n 1, 1) := by decide +kernel
theorem dX6_sky_44 : decode cX6_sky 44 = .ok (.invokevirtual 156, 3) := by decide +kernel
theorem dX6_sky_47 : decode cX6_sky 47 = .ok (.ifCond .eq 9, 3) := by decide +kernel
theorem dX6_sky_50 : decode cX6_sky 50 = .ok (.iload_n 2, 1) := by decide +kernel
theorem dX6_sky_51 : decode cX6_sky 51 = .ok (.iconst 1, 1) := by decide +kernel
theorem dX6_sky_52 : decode cX6_sky 52 = .ok (.iload_n 3, 1) := by decide +kernel
theorem dX6_sky_53 : decode cX6_sky 53 = .ok (.ishl, 1) := by decide +kernel
theorem dX6_sky_54 : decode cX6_sky 54 = .ok (.ior, 1) := by decide +kernel
theorem dX6_sky_55 : decode cX6_sky 55 = .ok (.istore_n 2, 1) := by decide +kernel
theorem dX6_sky_56 : decode cX6_sky 56 = .ok (.iinc 3 1, 3) := by decide +kernel
theorem dX6_sky_59 : decode cX6_sky 59 = .ok (.goto (-32), 3) := by decide +kernel
theorem dX6_sky_62 : decode cX6_sky 62 = .ok (.iload_n 2, 1) := by decide +kernel
theorem dX6_sky_63 : decode cX6_sky 63 = .ok (.ireturn, 1) := by decide +kernel
theorem dX6_alter_0 : decode cX6_alter 0 = .ok (.aload_n 0, 1) := by decide +kernel
theorem dX6_alter_1 : decode cX6_alter 1 = .ok (.getfield 10, 3) := by decide +kernel
theorem dX6_alter_4 : decode cX6_alter 4 = .ok (.iload_n 1, 1) := by decide +kernel
theorem dX6_alter_5 : decode cX6_alter 5 = .ok (.invokevirtual 114, 3) := by decide +kernel
theorem dX6_alter_8 : decode cX6_alter 8 = .ok (.ifCond .eq 11, 3) := by decide +kernel
theorem dX6_alter_11 : decode cX6_alter 11 = .ok (.iload_n 2, 1) := by decide +kernel
theorem dX6_alter_12 : decode cX6_alter 12 = .ok (.iload_n 3, 1) := by decide +kernel
theorem dX6_alter_13 : decode cX6_alter 13 = .ok (.invokestatic 160, 3) := by decide +kernel
theorem dX6_alter_16 : decode cX6_alter 16 = .ok (.ifCond .ne 5, 3) := by decide +kernel
theorem dX6_alter_19 : decode cX6_alter 19 = .ok (.iconst (-1), 1) := by decide +kernel
theorem dX6_alter_20 : decode cX6_alter 20 = .ok (.ireturn, 1) := by decide +kernel
theorem dX6_alter_21 : decode cX6_alter 21 = .ok (.aload_n 0, 1) := by decide +kernel
theorem dX6_alter_22 : decode cX6_alter 22 = .ok (.getfield 10, 3) := by decide +kernel
theorem dX6_alter_25 : decode cX6_alter 25 = .ok (.iload_n 1, 1) := by decide +kernel
theorem dX6_alter_26 : decode cX6_alter 26 = .ok (.iload_n 2, 1) := by decide +kernel
theorem dX6_alter_27 : decode cX6_alter 27 = .ok (.invokevirtual 118, 3) := by decide +kernel
theorem dX6_alter_30 : decode cX6_alter 30 = .ok (.istore 4, 2) := by decide +kernel
theorem dX6_alter_32 : decode cX6_alter 32 = .ok (.aload_n 0, 1) := by decide +kernel
theorem dX6_alter_33 : decode cX6_alter 33 = .ok (.getfield 10, 3) := by decide +kernel
theorem dX6_alter_36 : decode cX6_alter 36 = .ok (.iload_n 1, 1) := by decide +kernel
theorem dX6_alter_37 : decode cX6_alter 37 = .ok (.iload_n 2, 1) := by decide +kernel
theorem dX6_alter_38 : decode cX6_alter 38 = .ok (.iload_n 3, 1) := by decide +kernel
theorem dX6_alter_39 : decode cX6_alter 39 = .ok (.invokevirtual 163, 3) := by decide +kernel
theorem dX6_alter_42 : decode cX6_alter 42 = .ok (.iload 4, 2) := by decide +kernel
theorem dX6_alter_44 : decode cX6_alter 44 = .ok (.ireturn, 1) := by decide +kernel
theorem dX6_move_0 : decode cX6_move 0 = .ok (.aload_n 0, 1) := by decide +kernel
theorem dX6_move_1 : decode cX6_move 1 = .ok (.getfield 10, 3) := by decide +kernel
theorem dX6_move_4 : decode cX6_move 4 = .ok (.iload_n 1, 1) := by decide +kernel
theorem dX6_move_5 : decode cX6_move 5 = .ok (.invokevirtual 138, 3) := by decide +kernel
theorem dX6_move_8 : decode cX6_move 8 = .ok (.ifCond .eq 11, 3) := by decide +kernel
theorem dX6_move_11 : decode cX6_move 11 = .ok (.iload_n 2, 1) := by decide +kernel
theorem dX6_move_12 : decode cX6_move 12 = .ok (.iload_n 3, 1) := by decide +kernel
theorem dX6_move_13 : decode cX6_move 13 = .ok (.invokestatic 167, 3) := by decide +kernel
theorem dX6_move_16 : decode cX6_move 16 = .ok (.ifCond .ne 5, 3) := by decide +kernel
theorem dX6_move_19 : decode cX6_move 19 = .ok (.iconst (-1), 1) := by decide +kernel
theorem dX6_move_20 : decode cX6_move 20 = .ok (.ireturn, 1) := by decide +kernel
theorem dX6_move_21 : decode cX6_move 21 = .ok (.aload_n 0, 1) := by decide +kernel
theorem dX6_move_22 : decode cX6_move 22 = .ok (.getfield 10, 3) := by decide +kernel
theorem dX6_move_25 : decode cX6_move 25 = .ok (.iload_n 1, 1) := by decide +kernel
theorem dX6_move_26 : decode cX6_move 26 = .ok (.iload_n 2, 1) := by decide +kernel
theorem dX6_move_27 : decode cX6_move 27 = .ok (.invokevirtual 141, 3) := by decide +kernel
theorem dX6_move_30 : decode cX6_move 30 = .ok (.istore 4, 2) := by decide +kernel
theorem dX6_move_32 : decode cX6_move 32 = .ok (.aload_n 0, 1) := by decide +kernel
theorem dX6_move_33 : decode cX6_move 33 = .ok (.getfield 10, 3) := by decide +kernel
theorem dX6_move_36 : decode cX6_move 36 = .ok (.iload_n 1, 1) := by decide +kernel
theorem dX6_move_37 : decode cX6_move 37 = .ok (.iload_n 2, 1) := by decide +kernel
theorem dX6_move_38 : decode cX6_move 38 = .ok (.iload_n 3, 1) := by decide +kernel
theorem dX6_move_39 : decode cX6_move 39 = .ok (.invokevirtual 170, 3) := by decide +kernel
theorem dX6_move_42 : decode cX6_move 42 = .ok (.iload 4, 2) := by decide +kernel
theorem dX6_move_44 : decode cX6_move 44 = .ok (.ireturn, 1) := by decide +kernel
theorem dX6_blow_0 : decode cX6_blow 0 = .ok (.iload_n 1, 1) := by decide +kernel
theorem dX6_blow_1 : decode cX6_blow 1 = .ok (.iconst 0, 1) := by decide +kernel
theorem dX6_blow_2 : decode cX6_blow 2 = .ok (.bipush 8, 2) := by decide +kernel
theorem dX6_blow_4 : decode cX6_blow 4 = .ok (.invokestatic 57, 3) := by decide +kernel
theorem dX6_blow_7 : decode cX6_blow 7 = .ok (.ifCond .ne 5, 3) := by decide +kernel
theorem dX6_blow_10 : decode cX6_blow 10 = .ok (.iconst (-1), 1) := by decide +kernel
theorem dX6_blow_11 : decode cX6_blow 11 = .ok (.ireturn, 1) := by decide +kernel
theorem dX6_blow_12 : decode cX6_blow 12 = .ok (.aload_n 0, 1) := by decide +kernel
theorem dX6_blow_13 : decode cX6_blow 13 = .ok (.getfield 10, 3) := by decide +kernel
theorem dX6_blow_16 : decode cX6_blow 16 = .ok (.getfield 98, 3) := by decide +kernel
theorem dX6_blow_19 : decode cX6_blow 19 = .ok (.istore_n 2, 1) := by decide +kernel
theorem dX6_blow_20 : decode cX6_blow 20 = .ok (.aload_n 0, 1) := by decide +kernel
theorem dX6_blow_21 : decode cX6_blow 21 = .ok (.getfield 10, 3) := by decide +kernel
theorem dX6_blow_24 : decode cX6_blow 24 = .ok (.iload_n 1, 1) := by decide +kernel
theorem dX6_blow_25 : decode cX6_blow 25 = .ok (.putfield 98, 3) := by decide +kernel
theorem dX6_blow_28 : decode cX6_blow 28 = .ok (.iload_n 2, 1) := by decide +kernel
theorem dX6_blow_29 : decode cX6_blow 29 = .ok (.ireturn, 1) := by decide +kernel
theorem dX6_damp_0 : decode cX6_damp 0 = .ok (.iload_n 1, 1) := by decide +kernel
theorem dX6_damp_1 : decode cX6_damp 1 = .ok (.iconst 0, 1) := by decide +kernel
theorem dX6_damp_2 : decode cX6_damp 2 = .ok (.bipush 9, 2) := by decide +kernel
theorem dX6_damp_4 : decode cX6_damp 4 = .ok (.invokestatic 57, 3) := by decide +kernel
theorem dX6_damp_7 : decode cX6_damp 7 = .ok (.ifCond .ne 5, 3) := by decide +kernel
theorem dX6_damp_10 : decode cX6_damp 10 = .ok (.iconst (-1), 1) := by decide +kernel
theorem dX6_damp_11 : decode cX6_damp 11 = .ok (.ireturn, 1) := by decide +kernel
theorem dX6_damp_12 : decode cX6_damp 12 = .ok (.aload_n 0, 1) := by decide +kernel
theorem dX6_damp_13 : decode cX6_damp 13 = .ok (.getfield 10, 3) := by decide +kernel
theorem dX6_damp_16 : decode cX6_damp 16 = .ok (.getfield 101, 3) := by decide +kernel
theorem dX6_damp_19 : decode cX6_damp 19 = .ok (.istore_n 2, 1) := by decide +kernel
theorem dX6_damp_20 : decode cX6_damp 20 = .ok (.aload_n 0, 1) := by decide +kernel
theorem dX6_damp_21 : decode cX6_damp 21 = .ok (.getfield 10, 3) := by decide +kernel
theorem dX6_damp_24 : decode cX6_damp 24 = .ok (.iload_n 1, 1) := by decide +kernel
theorem dX6_damp_25 : decode cX6_damp 25 = .ok (.putfield 101, 3) := by decide +kernel
theorem dX6_damp_28 : decode cX6_damp 28 = .ok (.iload_n 2, 1) := by decide +kernel
theorem dX6_damp_29 : decode cX6_damp 29 = .ok (.ireturn, 1) := by decide +kernel
theorem dX6_write_0 : decode cX6_write 0 = .ok (.aload_n 0, 1) := by decide +kernel
theorem dX6_write_1 : decode cX6_write 1 = .ok (.getfield 10, 3) := by decide +kernel
theorem dX6_write_4 : decode cX6_write 4 = .ok (.iload_n 1, 1) := by decide +kernel
theorem dX6_write_5 : decode cX6_write 5 = .ok (.iload_n 2, 1) := by decide +kernel
theorem dX6_write_6 : decode cX6_write 6 = .ok (.iload_n 3, 1) := by decide +kernel
theorem dX6_write_7 : decode cX6_write 7 = .ok (.iload 4, 2) := by decide +kernel
theorem dX6_write_9 : decode cX6_write 9 = .ok (.invokevirtual 173, 3) := by decide +kernel
theorem dX6_write_12 : decode cX6_write 12 = .ok (.ireturn, 1) := by decide +kernel
theorem dX6_come_0 : decode cX6_come 0 = .ok (.aload_n 0, 1) := by decide +kernel
theorem dX6_come_1 : decode cX6_come 1 = .ok (.getfield 10, 3) := by decide +kernel
theorem dX6_come_4 : decode cX6_come 4 = .ok (.iload_n 1, 1) := by decide +kernel
theorem dX6_come_5 : decode cX6_come 5 = .ok (.iload_n 2, 1) := by decide +kernel
theorem dX6_come_6 : decode cX6_come 6 = .ok (.invokevirtual 177, 3) := by decide +kernel
theorem dX6_come_9 : decode cX6_come 9 = .ok (.ireturn, 1) := by decide +kernel
theorem dX6_burn_0 : decode cX6_burn 0 = .ok (.iload_n 1, 1) := by decide +kernel
theorem dX6_burn_1 : decode cX6_burn 1 = .ok (.iconst 0, 1) := by decide +kernel
theorem dX6_burn_2 : decode cX6_burn 2 = .ok (.aload_n 0, 1) := by decide +kernel
theorem dX6_burn_3 : decode cX6_burn 3 = .ok (.getfield 10, 3) := by decide +kernel
theorem dX6_burn_6 : decode cX6_burn 6 = .ok (.getfield 92, 3) := by decide +kernel
theorem dX6_burn_9 : decode cX6_burn 9 = .ok (.invokestatic 57, 3) := by decide +kernel
theorem dX6_burn_12 : decode cX6_burn 12 = .ok (.ifCond .ne 5, 3) := by decide +kernel
theorem dX6_burn_15 : decode cX6_burn 15 = .ok (.iconst (-1), 1) := by decide +kernel
theorem dX6_burn_16 : decode cX6_burn 16 = .ok (.ireturn, 1) := by decide +kernel
theorem dX6_burn_17 : decode cX6_burn 17 = .ok (.aload_n 0, 1) := by decide +kernel
theorem dX6_burn_18 : decode cX6_burn 18 = .ok (.getfield 10, 3) := by decide +kernel
theorem dX6_burn_21 : decode cX6_burn 21 = .ok (.getfield 92, 3) := by decide +kernel
theorem dX6_burn_24 : decode cX6_burn 24 = .ok (.istore_n 2, 1) := by decide +kernel
theorem dX6_burn_25 : decode cX6_burn 25 = .ok (.aload_n 0, 1) := by decide +kernel
theorem dX6_burn_26 : decode cX6_burn 26 = .ok (.getfield 10, 3) := by decide +kernel
theorem dX6_burn_29 : decode cX6_burn 29 = .ok (.iload_n 1, 1) := by decide +kernel
theorem dX6_burn_30 : decode cX6_burn 30 = .ok (.putfield 92, 3) := by decide +kernel
theorem dX6_burn_33 : decode cX6_burn 33 = .ok (.iload_n 2, 1) := by decide +kernel
theorem dX6_burn_34 : decode cX6_burn 34 = .ok (.ireturn, 1) := by decide +kernel
theorem dX6_leave_0 : decode cX6_leave 0 = .ok (.iload_n 1, 1) := by decide +kernel
theorem dX6_leave_1 : decode cX6_leave 1 = .ok (.iconst 0, 1) := by decide +kernel
theorem dX6_leave_2 : decode cX6_leave 2 = .ok (.aload_n 0, 1) := by decide +kernel
theorem dX6_leave_3 : decode cX6_leave 3 = .ok (.getfield 10, 3) := by decide +kernel
theorem dX6_leave_6 : decode cX6_leave 6 = .ok (.getfield 95, 3) := by decide +kernel
theorem dX6_leave_9 : decode cX6_leave 9 = .ok (.invokestatic 57, 3) := by decide +kernel
theorem dX6_leave_12 : decode cX6_leave 12 = .ok (.ifCond .ne 5, 3) := by decide +kernel
theorem dX6_leave_15 : decode cX6_leave 15 = .ok (.iconst (-1), 1) := by decide +kernel
theorem dX6_leave_16 : decode cX6_leave 16 = .ok (.ireturn, 1) := by decide +kernel
theorem dX6_leave_17 : decode cX6_leave 17 = .ok (.aload_n 0, 1) := by decide +kernel
theorem dX6_leave_18 : decode cX6_leave 18 = .ok (.getfield 10, 3) := by decide +kernel
theorem dX6_leave_21 : decode cX6_leave 21 = .ok (.getfield 95, 3) := by decide +kernel
theorem dX6_leave_24 : decode cX6_leave 24 = .ok (.istore_n 2, 1) := by decide +kernel
theorem dX6_leave_25 : decode cX6_leave 25 = .ok (.aload_n 0, 1) := by decide +kernel
theorem dX6_leave_26 : decode cX6_leave 26 = .ok (.getfield 10, 3) := by decide +kernel
theorem dX6_leave_29 : decode cX6_leave 29 = .ok (.iload_n 1, 1) := by decide +kernel
theorem dX6_leave_30 : decode cX6_leave 30 = .ok (.putfield 95, 3) := by decide +kernel
theorem dX6_leave_33 : decode cX6_leave 33 = .ok (.iload_n 2, 1) := by decide +kernel
theorem dX6_leave_34 : decode cX6_leave 34 = .ok (.ireturn, 1) := by decide +kernel
theorem dX6_first_0 : decode cX6_first 0 = .ok (.aload_n 0, 1) := by decide +kernel
theorem dX6_first_1 : decode cX6_first 1 = .ok (.getfield 10, 3) := by decide +kernel
theorem dX6_first_4 : decode cX6_first 4 = .ok (.iload_n 1, 1) := by decide +kernel
theorem dX6_first_5 : decode cX6_first 5 = .ok (.invokevirtual 138, 3) := by decide +kernel
theorem dX6_first_8 : decode cX6_first 8 = .ok (.ifCond .ne 5, 3) := by decide +kernel
theorem dX6_first_11 : decode cX6_first 11 = .ok (.iconst (-1), 1) := by decide +kernel
theorem dX6_first_12 : decode cX6_first 12 = .ok (.ireturn, 1) := by decide +kernel
theorem dX6_first_13 : decode cX6_first 13 = .ok (.aload_n 0, 1) := by decide +kernel
theorem dX6_first_14 : decode cX6_first 14 = .ok (.getfield 19, 3) := by decide +kernel
theorem dX6_first_17 : decode cX6_first 17 = .ok (.aload_n 0, 1) := by decide +kernel
theorem dX6_first_18 : decode cX6_first 18 = .ok (.getfield 10, 3) := by decide +kernel
theorem dX6_first_21 : decode cX6_first 21 = .ok (.invokevirtual 104, 3) := by decide +kernel
theorem dX6_first_24 : decode cX6_first 24 = .ok (.iconst 0, 1) := by decide +kernel
theorem dX6_first_25 : decode cX6_first 25 = .ok (.istore_n 2, 1) := by decide +kernel
theorem dX6_first_26 : decode cX6_first 26 = .ok (.iload_n 2, 1) := by decide +kernel
theorem dX6_first_27 : decode cX6_first 27 = .ok (.bipush 80, 2) := by decide +kernel
theorem dX6_first_29 : decode cX6_first 29 = .ok (.if_icmp .ge 23, 3) := by decide +kernel
theorem dX6_first_32 : decode cX6_first 32 = .ok (.aload_n 0, 1) := by decide +kernel
theorem dX6_first_33 : decode cX6_first 33 = .ok (.getfield 19, 3) := by decide +kernel
theorem dX6_first_36 : decode cX6_first 36 = .ok (.iload_n 1, 1) := by decide +kernel
theorem dX6_first_37 : decode cX6_first 37 = .ok (.iload_n 2, 1) := by decide +kernel
theorem dX6_first_38 : decode cX6_first 38 = .ok (.invokevirtual 153, 3) := by decide +kernel
theorem dX6_first_41 : decode cX6_first 41 = .ok (.ifCond .lt 5, 3) := by decide +kernel
theorem dX6_first_44 : decode cX6_first 44 = .ok (.iload_n 2, 1) := by decide +kernel
theorem dX6_first_45 : decode cX6_first 45 = .ok (.ireturn, 1) := by decide +kernel
theorem dX6_first_46 : decode cX6_first 46 = .ok (.iinc 2 1, 3) := by decide +kernel
theorem dX6_first_49 : decode cX6_first 49 = .ok (.goto (-23), 3) := by decide +kernel
theorem dX6_first_52 : decode cX6_first 52 = .ok (.bipush (-4), 2) := by decide +kernel
theorem dX6_first_54 : decode cX6_first 54 = .ok (.ireturn, 1) := by decide +kernel
theorem dX6_dark_0 : decode cX6_dark 0 = .ok (.aload_n 0, 1) := by decide +kernel
theorem dX6_dark_1 : decode cX6_dark 1 = .ok (.getfield 19, 3) := by decide +kernel
theorem dX6_dark_4 : decode cX6_dark 4 = .ok (.aload_n 0, 1) := by decide +kernel
theorem dX6_dark_5 : decode cX6_dark 5 = .ok (.getfield 10, 3) := by decide +kernel
theorem dX6_dark_8 : decode cX6_dark 8 = .ok (.invokevirtual 104, 3) := by decide +kernel
theorem dX6_dark_11 : decode cX6_dark 11 = .ok (.iconst 0, 1) := by decide +kernel
theorem dX6_dark_12 : decode cX6_dark 12 = .ok (.istore_n 1, 1) := by decide +kernel
theorem dX6_dark_13 : decode cX6_dark 13 = .ok (.iconst 0, 1) := by decide +kernel
theorem dX6_dark_14 : decode cX6_dark 14 = .ok (.istore_n 2, 1) := by decide +kernel
theorem dX6_dark_15 : decode cX6_dark 15 = .ok (.iload_n 2, 1) := by decide +kernel
theorem dX6_dark_16 : decode cX6_dark 16 = .ok (.bipush 80, 2) := by decide +kernel
theorem dX6_dark_18 : decode cX6_dark 18 = .ok (.if_icmp .ge 23, 3) := by decide +kernel
theorem dX6_dark_21 : decode cX6_dark 21 = .ok (.aload_n 0, 1) := by decide +kernel
theorem dX6_dark_22 : decode cX6_dark 22 = .ok (.getfield 19, 3) := by decide +kernel
theorem dX6_dark_25 : decode cX6_dark 25 = .ok (.iload_n 2, 1) := by decide +kernel
theorem dX6_dark_26 : decode cX6_dark 26 = .ok (.invokevirtual 180, 3) := by decide +kernel
theorem dX6_dark_29 : decode cX6_dark 29 = .ok (.ifCond .ne 6, 3) := by decide +kernel
theorem dX6_dark_32 : decode cX6_dark 32 = .ok (.iinc 1 1, 3) := by decide +kernel
theorem dX6_dark_35 : decode cX6_dark 35 = .ok (.iinc 2 1, 3) := by decide +kernel
theorem dX6_dark_38 : decode cX6_dark 38 = .ok (.goto (-23), 3) := by decide +kernel
theorem dX6_dark_41 : decode cX6_dark 41 = .ok (.iload_n 1, 1) := by decide +kernel
theorem dX6_dark_42 : decode cX6_dark 42 = .ok (.ireturn, 1) := by decide +kernel
theorem dX6_peak_0 : decode cX6_peak 0 = .ok (.aload_n 0, 1) := by decide +kernel
theorem dX6_peak_1 : decode cX6_peak 1 = .ok (.getfield 10, 3) := by decide +kernel
theorem dX6_peak_4 : decode cX6_peak 4 = .ok (.iload_n 1, 1) := by decide +kernel
theorem dX6_peak_5 : decode cX6_peak 5 = .ok (.invokevirtual 114, 3) := by decide +kernel
theorem dX6_peak_8 : decode cX6_peak 8 = .ok (.ifCond .eq 12, 3) := by decide +kernel
theorem dX6_peak_11 : decode cX6_peak 11 = .ok (.iload_n 2, 1) := by decide +kernel
theorem dX6_peak_12 : decode cX6_peak 12 = .ok (.iconst 0, 1) := by decide +kernel
theorem dX6_peak_13 : decode cX6_peak 13 = .ok (.iconst 1, 1) := by decide +kernel
theorem dX6_peak_14 : decode cX6_peak 14 = .ok (.invokestatic 57, 3) := by decide +kernel
theorem dX6_peak_17 : decode cX6_peak 17 = .ok (.ifCond .ne 5, 3) := by decide +kernel
theorem dX6_peak_20 : decode cX6_peak 20 = .ok (.iconst (-1), 1) := by decide +kernel
theorem dX6_peak_21 : decode cX6_peak 21 = .ok (.ireturn, 1) := by decide +kernel
theorem dX6_peak_22 : decode cX6_peak 22 = .ok (.aload_n 0, 1) := by decide +kernel
theorem dX6_peak_23 : decode cX6_peak 23 = .ok (.getfield 19, 3) := by decide +kernel
theorem dX6_peak_26 : decode cX6_peak 26 = .ok (.aload_n 0, 1) := by decide +kernel
theorem dX6_peak_27 : decode cX6_peak 27 = .ok (.getfield 10, 3) := by decide +kernel
theorem dX6_peak_30 : decode cX6_peak 30 = .ok (.invokevirtual 104, 3) := by decide +kernel
theorem dX6_peak_33 : decode cX6_peak 33 = .ok (.aload_n 0, 1) := by decide +kernel
theorem dX6_peak_34 : decode cX6_peak 34 = .ok (.getfield 26, 3) := by decide +kernel
theorem dX6_peak_37 : decode cX6_peak 37 = .ok (.iconst 0, 1) := by decide +kernel
theorem dX6_peak_38 : decode cX6_peak 38 = .ok (.invokevirtual 183, 3) := by decide +kernel
theorem dX6_peak_41 : decode cX6_peak 41 = .ok (.iconst 0, 1) := by decide +kernel
theorem dX6_peak_42 : decode cX6_peak 42 = .ok (.istore_n 3, 1) := by decide +kernel
theorem dX6_peak_43 : decode cX6_peak 43 = .ok (.iload_n 3, 1) := by decide +kernel
theorem dX6_peak_44 : decode cX6_peak 44 = .ok (.bipush 80, 2) := by decide +kernel
theorem dX6_peak_46 : decode cX6_peak 46 = .ok (.if_icmp .ge 26, 3) := by decide +kernel
theorem dX6_peak_49 : decode cX6_peak 49 = .ok (.aload_n 0, 1) := by decide +kernel
theorem dX6_peak_50 : decode cX6_peak 50 = .ok (.getfield 26, 3) := by decide +kernel
theorem dX6_peak_53 : decode cX6_peak 53 = .ok (.iload_n 3, 1) := by decide +kernel
theorem dX6_peak_54 : decode cX6_peak 54 = .ok (.aload_n 0, 1) := by decide +kernel
theorem dX6_peak_55 : decode cX6_peak 55 = .ok (.getfield 19, 3) := by decide +kernel
theorem dX6_peak_58 : decode cX6_peak 58 = .ok (.iload_n 1, 1) := by decide +kernel
theorem dX6_peak_59 : decode cX6_peak 59 = .ok (.iload_n 3, 1) := by decide +kernel
theorem dX6_peak_60 : decode cX6_peak 60 = .ok (.invokevirtual 187, 3) := by decide +kernel
theorem dX6_peak_63 : decode cX6_peak 63 = .ok (.invokevirtual 190, 3) := by decide +kernel
theorem dX6_peak_66 : decode cX6_peak 66 = .ok (.iinc 3 1, 3) := by decide +kernel
theorem dX6_peak_69 : decode cX6_peak 69 = .ok (.goto (-26), 3) := by decide +kernel
theorem dX6_peak_72 : decode cX6_peak 72 = .ok (.aload_n 0, 1) := by decide +kernel
theorem dX6_peak_73 : decode cX6_peak 73 = .ok (.getfield 26, 3) := by decide +kernel
theorem dX6_peak_76 : decode cX6_peak 76 = .ok (.iload_n 2, 1) := by decide +kernel
theorem dX6_peak_77 : decode cX6_peak 77 = .ok (.invokevirtual 194, 3) := by decide +kernel
theorem dX6_peak_80 : decode cX6_peak 80 = .ok (.ireturn, 1) := by decide +kernel
theorem dX6_when_0 : decode cX6_when 0 = .ok (.aload_n 0, 1) := by decide +kernel
theorem dX6_when_1 : decode cX6_when 1 = .ok (.getfield 10, 3) := by decide +kernel
theorem dX6_when_4 : decode cX6_when 4 = .ok (.iload_n 1, 1) := by decide +kernel
theorem dX6_when_5 : decode cX6_when 5 = .ok (.invokevirtual 114, 3) := by decide +kernel
theorem dX6_when_8 : decode cX6_when 8 = .ok (.ifCond .eq 12, 3) := by decide +kernel
theorem dX6_when_11 : decode cX6_when 11 = .ok (.iload_n 2, 1) := by decide +kernel
theorem dX6_when_12 : decode cX6_when 12 = .ok (.iconst 0, 1) := by decide +kernel
theorem dX6_when_13 : decode cX6_when 13 = .ok (.iconst 1, 1) := by decide +kernel
theorem dX6_when_14 : decode cX6_when 14 = .ok (.invokestatic 57, 3) := by decide +kernel
theorem dX6_when_17 : decode cX6_when 17 = .ok (.ifCond .ne 5, 3) := by decide +kernel
theorem dX6_when_20 : decode cX6_when 20 = .ok (.iconst (-1), 1) := by decide +kernel
theorem dX6_when_21 : decode cX6_when 21 = .ok (.ireturn, 1) := by decide +kernel
theorem dX6_when_22 : decode cX6_when 22 = .ok (.aload_n 0, 1) := by decide +kernel
theorem dX6_when_23 : decode cX6_when 23 = .ok (.getfield 19, 3) := by decide +kernel
theorem dX6_when_26 : decode cX6_when 26 = .ok (.aload_n 0, 1) := by decide +kernel
theorem dX6_when_27 : decode cX6_when 27 = .ok (.getfield 10, 3) := by decide +kernel
theorem dX6_when_30 : decode cX6_when 30 = .ok (.invokevirtual 104, 3) := by decide +kernel
theorem dX6_when_33 : decode cX6_when 33 = .ok (.aload_n 0, 1) := by decide +kernel
theorem dX6_when_34 : decode cX6_when 34 = .ok (.getfield 26, 3) := by decide +kernel
theorem dX6_when_37 : decode cX6_when 37 = .ok (.iconst (-1), 1) := by decide +kernel
theorem dX6_when_38 : decode cX6_when 38 = .ok (.invokevirtual 183, 3) := by decide +kernel
theorem dX6_when_41 : decode cX6_when 41 = .ok (.iconst 0, 1) := by decide +kernel
theorem dX6_when_42 : decode cX6_when 42 = .ok (.istore_n 3, 1) := by decide +kernel
theorem dX6_when_43 : decode cX6_when 43 = .ok (.iload_n 3, 1) := by decide +kernel
theorem dX6_when_44 : decode cX6_when 44 = .ok (.getstatic 197, 3) := by decide +kernel
theorem dX6_when_47 : decode cX6_when 47 = .ok (.iconst 2, 1) := by decide +kernel
theorem dX6_when_48 : decode cX6_when 48 = .ok (.iaload, 1) := by decide +kernel
theorem dX6_when_49 : decode cX6_when 49 = .ok (.if_icmp .gt 48, 3) := by decide +kernel
theorem dX6_when_52 : decode cX6_when 52 = .ok (.aload_n 0, 1) := by decide +kernel
theorem dX6_when_53 : decode cX6_when 53 = .ok (.getfield 19, 3) := by decide +kernel
theorem dX6_when_56 : decode cX6_when 56 = .ok (.getfield 69, 3) := by decide +kernel
theorem dX6_when_59 : decode cX6_when 59 = .ok (.iload_n 1, 1) := by decide +kernel
theorem dX6_when_60 : decode cX6_when 60 = .ok (.iconst 2, 1) := by decide +kernel
theorem dX6_when_61 : decode cX6_when 61 = .ok (.iload_n 3, 1) := by decide +kernel
theorem dX6_when_62 : decode cX6_when 62 = .ok (.invokevirtual 163, 3) := by decide +kernel
theorem dX6_when_65 : decode cX6_when 65 = .ok (.aload_n 0, 1) := by decide +kernel
theorem dX6_when_66 : decode cX6_when 66 = .ok (.getfield 19, 3) := by decide +kernel
theorem dX6_when_69 : decode cX6_when 69 = .ok (.invokevirtual 201, 3) := by decide +kernel
theorem dX6_when_72 : decode cX6_when 72 = .ok (.aload_n 0, 1) := by decide +kernel
theorem dX6_when_73 : decode cX6_when 73 = .ok (.getfield 26, 3) := by decide +kernel
theorem dX6_when_76 : decode cX6_when 76 = .ok (.iload_n 3, 1) := by decide +kernel
theorem dX6_when_77 : decode cX6_when 77 = .ok (.aload_n 0, 1) := by decide +kernel
theorem dX6_when_78 : decode cX6_when 78 = .ok (.getfield 19, 3) := by decide +kernel
theorem dX6_when_81 : decode cX6_when 81 = .ok (.iload_n 1, 1) := by decide +kernel
theorem dX6_when_82 : decode cX6_when 82 = .ok (.invokevirtual 135, 3) := by decide +kernel
theorem dX6_when_85 : decode cX6_when 85 = .ok (.invokestatic 204, 3) := by decide +kernel
theorem dX6_when_88 : decode cX6_when 88 = .ok (.invokevirtual 190, 3) := by decide +kernel
theorem dX6_when_91 : decode cX6_when 91 = .ok (.iinc 3 1, 3) := by decide +kernel
theorem dX6_when_94 : decode cX6_when 94 = .ok (.goto (-51), 3) := by decide +kernel
theorem dX6_when_97 : decode cX6_when 97 = .ok (.aload_n 0, 1) := by decide +kernel
theorem dX6_when_98 : decode cX6_when 98 = .ok (.getfield 26, 3) := by decide +kernel
theorem dX6_when_101 : decode cX6_when 101 = .ok (.iload_n 2, 1) := by decide +kernel
theorem dX6_when_102 : decode cX6_when 102 = .ok (.invokevirtual 194, 3) := by decide +kernel
theorem dX6_when_105 : decode cX6_when 105 = .ok (.ireturn, 1) := by decide +kernel
