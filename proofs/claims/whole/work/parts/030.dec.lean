theorem dX0_init_0 : decode cX0_init 0 = .ok (.aload_n 0, 1) := by decide +kernel
theorem dX0_init_1 : decode cX0_init 1 = .ok (.invokespecial 3, 3) := by decide +kernel
theorem dX0_init_4 : decode cX0_init 4 = .ok (.aload_n 0, 1) := by decide +kernel
theorem dX0_init_5 : decode cX0_init 5 = .ok (.bipush (-4), 2) := by decide +kernel
theorem dX0_init_7 : decode cX0_init 7 = .ok (.putfield 9, 3) := by decide +kernel
theorem dX0_init_10 : decode cX0_init 10 = .ok (.return_, 1) := by decide +kernel
theorem dX0_beginAbove_0 : decode cX0_beginAbove 0 = .ok (.aload_n 0, 1) := by decide +kernel
theorem dX0_beginAbove_1 : decode cX0_beginAbove 1 = .ok (.bipush (-4), 2) := by decide +kernel
theorem dX0_beginAbove_3 : decode cX0_beginAbove 3 = .ok (.putfield 9, 3) := by decide +kernel
theorem dX0_beginAbove_6 : decode cX0_beginAbove 6 = .ok (.aload_n 0, 1) := by decide +kernel
theorem dX0_beginAbove_7 : decode cX0_beginAbove 7 = .ok (.iload_n 1, 1) := by decide +kernel
theorem dX0_beginAbove_8 : decode cX0_beginAbove 8 = .ok (.putfield 15, 3) := by decide +kernel
theorem dX0_beginAbove_11 : decode cX0_beginAbove 11 = .ok (.return_, 1) := by decide +kernel
theorem dX0_offer_0 : decode cX0_offer 0 = .ok (.iload_n 2, 1) := by decide +kernel
theorem dX0_offer_1 : decode cX0_offer 1 = .ok (.aload_n 0, 1) := by decide +kernel
theorem dX0_offer_2 : decode cX0_offer 2 = .ok (.getfield 15, 3) := by decide +kernel
theorem dX0_offer_5 : decode cX0_offer 5 = .ok (.if_icmp .le 13, 3) := by decide +kernel
theorem dX0_offer_8 : decode cX0_offer 8 = .ok (.aload_n 0, 1) := by decide +kernel
theorem dX0_offer_9 : decode cX0_offer 9 = .ok (.iload_n 1, 1) := by decide +kernel
theorem dX0_offer_10 : decode cX0_offer 10 = .ok (.putfield 9, 3) := by decide +kernel
theorem dX0_offer_13 : decode cX0_offer 13 = .ok (.aload_n 0, 1) := by decide +kernel
theorem dX0_offer_14 : decode cX0_offer 14 = .ok (.iload_n 2, 1) := by decide +kernel
theorem dX0_offer_15 : decode cX0_offer 15 = .ok (.putfield 15, 3) := by decide +kernel
theorem dX0_offer_18 : decode cX0_offer 18 = .ok (.return_, 1) := by decide +kernel
theorem dX0_answer_0 : decode cX0_answer 0 = .ok (.aload_n 0, 1) := by decide +kernel
theorem dX0_answer_1 : decode cX0_answer 1 = .ok (.getfield 9, 3) := by decide +kernel
theorem dX0_answer_4 : decode cX0_answer 4 = .ok (.ifCond .lt 7, 3) := by decide +kernel
theorem dX0_answer_7 : decode cX0_answer 7 = .ok (.iload_n 1, 1) := by decide +kernel
theorem dX0_answer_8 : decode cX0_answer 8 = .ok (.ifCond .ne 10, 3) := by decide +kernel
theorem dX0_answer_11 : decode cX0_answer 11 = .ok (.aload_n 0, 1) := by decide +kernel
theorem dX0_answer_12 : decode cX0_answer 12 = .ok (.getfield 9, 3) := by decide +kernel
theorem dX0_answer_15 : decode cX0_answer 15 = .ok (.goto 7, 3) := by decide +kernel
theorem dX0_answer_18 : decode cX0_answer 18 = .ok (.aload_n 0, 1) := by decide +kernel
theorem dX0_answer_19 : decode cX0_answer 19 = .ok (.getfield 15, 3) := by decide +kernel
theorem dX0_answer_22 : decode cX0_answer 22 = .ok (.ireturn, 1) := by decide +kernel
theorem dX1_init_0 : decode cX1_init 0 = .ok (.aload_n 0, 1) := by decide +kernel
theorem dX1_init_1 : decode cX1_init 1 = .ok (.invokespecial 3, 3) := by decide +kernel
theorem dX1_init_4 : decode cX1_init 4 = .ok (.aload_n 0, 1) := by decide +kernel
theorem dX1_init_5 : decode cX1_init 5 = .ok (.bipush 24, 2) := by decide +kernel
theorem dX1_init_7 : decode cX1_init 7 = .ok (.newarray .int, 2) := by decide +kernel
theorem dX1_init_9 : decode cX1_init 9 = .ok (.putfield 9, 3) := by decide +kernel
theorem dX1_init_12 : decode cX1_init 12 = .ok (.aload_n 0, 1) := by decide +kernel
theorem dX1_init_13 : decode cX1_init 13 = .ok (.bipush 8, 2) := by decide +kernel
theorem dX1_init_15 : decode cX1_init 15 = .ok (.newarray .int, 2) := by decide +kernel
theorem dX1_init_17 : decode cX1_init 17 = .ok (.putfield 15, 3) := by decide +kernel
theorem dX1_init_20 : decode cX1_init 20 = .ok (.aload_n 0, 1) := by decide +kernel
theorem dX1_init_21 : decode cX1_init 21 = .ok (.iconst 4, 1) := by decide +kernel
theorem dX1_init_22 : decode cX1_init 22 = .ok (.putfield 18, 3) := by decide +kernel
theorem dX1_init_25 : decode cX1_init 25 = .ok (.return_, 1) := by decide +kernel
theorem dX1_clear_0 : decode cX1_clear 0 = .ok (.aload_n 0, 1) := by decide +kernel
theorem dX1_clear_1 : decode cX1_clear 1 = .ok (.iconst 0, 1) := by decide +kernel
theorem dX1_clear_2 : decode cX1_clear 2 = .ok (.putfield 22, 3) := by decide +kernel
theorem dX1_clear_5 : decode cX1_clear 5 = .ok (.aload_n 0, 1) := by decide +kernel
theorem dX1_clear_6 : decode cX1_clear 6 = .ok (.iconst 0, 1) := by decide +kernel
theorem dX1_clear_7 : decode cX1_clear 7 = .ok (.putfield 25, 3) := by decide +kernel
theorem dX1_clear_10 : decode cX1_clear 10 = .ok (.aload_n 0, 1) := by decide +kernel
theorem dX1_clear_11 : decode cX1_clear 11 = .ok (.iconst 4, 1) := by decide +kernel
theorem dX1_clear_12 : decode cX1_clear 12 = .ok (.putfield 18, 3) := by decide +kernel
theorem dX1_clear_15 : decode cX1_clear 15 = .ok (.aload_n 0, 1) := by decide +kernel
theorem dX1_clear_16 : decode cX1_clear 16 = .ok (.iconst 0, 1) := by decide +kernel
theorem dX1_clear_17 : decode cX1_clear 17 = .ok (.putfield 28, 3) := by decide +kernel
theorem dX1_clear_20 : decode cX1_clear 20 = .ok (.return_, 1) := by decide +kernel
theorem dX1_become_0 : decode cX1_become 0 = .ok (.aload_n 1, 1) := by decide +kernel
theorem dX1_become_1 : decode cX1_become 1 = .ok (.getfield 9, 3) := by decide +kernel
theorem dX1_become_4 : decode cX1_become 4 = .ok (.iconst 0, 1) := by decide +kernel
theorem dX1_become_5 : decode cX1_become 5 = .ok (.aload_n 0, 1) := by decide +kernel
theorem dX1_become_6 : decode cX1_become 6 = .ok (.getfield 9, 3) := by decide +kernel
theorem dX1_become_9 : decode cX1_become 9 = .ok (.iconst 0, 1) := by decide +kernel
theorem dX1_become_10 : decode cX1_become 10 = .ok (.bipush 24, 2) := by decide +kernel
theorem dX1_become_12 : decode cX1_become 12 = .ok (.invokestatic 31, 3) := by decide +kernel
theorem dX1_become_15 : decode cX1_become 15 = .ok (.aload_n 1, 1) := by decide +kernel
theorem dX1_become_16 : decode cX1_become 16 = .ok (.getfield 15, 3) := by decide +kernel
theorem dX1_become_19 : decode cX1_become 19 = .ok (.iconst 0, 1) := by decide +kernel
theorem dX1_become_20 : decode cX1_become 20 = .ok (.aload_n 0, 1) := by decide +kernel
theorem dX1_become_21 : decode cX1_become 21 = .ok (.getfield 15, 3) := by decide +kernel
theorem dX1_become_24 : decode cX1_become 24 = .ok (.iconst 0, 1) := by decide +kernel
theorem dX1_become_25 : decode cX1_become 25 = .ok (.bipush 8, 2) := by decide +kernel
theorem dX1_become_27 : decode cX1_become 27 = .ok (.invokestatic 31, 3) := by decide +kernel
theorem dX1_become_30 : decode cX1_become 30 = .ok (.aload_n 0, 1) := by decide +kernel
theorem dX1_become_31 : decode cX1_become 31 = .ok (.aload_n 1, 1) := by decide +kernel
theorem dX1_become_32 : decode cX1_become 32 = .ok (.getfield 22, 3) := by decide +kernel
theorem dX1_become_35 : decode cX1_become 35 = .ok (.putfield 22, 3) := by decide +kernel
theorem dX1_become_38 : decode cX1_become 38 = .ok (.aload_n 0, 1) := by decide +kernel
theorem dX1_become_39 : decode cX1_become 39 = .ok (.aload_n 1, 1) := by decide +kernel
theorem dX1_become_40 : decode cX1_become 40 = .ok (.getfield 25, 3) := by decide +kernel
theorem dX1_become_43 : decode cX1_become 43 = .ok (.putfield 25, 3) := by decide +kernel
theorem dX1_become_46 : decode cX1_become 46 = .ok (.aload_n 0, 1) := by decide +kernel
theorem dX1_become_47 : decode cX1_become 47 = .ok (.aload_n 1, 1) := by decide +kernel
theorem dX1_become_48 : decode cX1_become 48 = .ok (.getfield 18, 3) := by decide +kernel
theorem dX1_become_51 : decode cX1_become 51 = .ok (.putfield 18, 3) := by decide +kernel
theorem dX1_become_54 : decode cX1_become 54 = .ok (.aload_n 0, 1) := by decide +kernel
theorem dX1_become_55 : decode cX1_become 55 = .ok (.aload_n 1, 1) := by decide +kernel
theorem dX1_become_56 : decode cX1_become 56 = .ok (.getfield 28, 3) := by decide +kernel
theorem dX1_become_59 : decode cX1_become 59 = .ok (.putfield 28, 3) := by decide +kernel
theorem dX1_become_62 : decode cX1_become 62 = .ok (.return_, 1) := by decide +kernel
theorem dX1_hasWork_0 : decode cX1_hasWork 0 = .ok (.iload_n 1, 1) := by decide +kernel
theorem dX1_hasWork_1 : decode cX1_hasWork 1 = .ok (.iconst 0, 1) := by decide +kernel
theorem dX1_hasWork_2 : decode cX1_hasWork 2 = .ok (.aload_n 0, 1) := by decide +kernel
theorem dX1_hasWork_3 : decode cX1_hasWork 3 = .ok (.getfield 22, 3) := by decide +kernel
theorem dX1_hasWork_6 : decode cX1_hasWork 6 = .ok (.iconst 1, 1) := by decide +kernel
theorem dX1_hasWork_7 : decode cX1_hasWork 7 = .ok (.isub, 1) := by decide +kernel
theorem dX1_hasWork_8 : decode cX1_hasWork 8 = .ok (.invokestatic 37, 3) := by decide +kernel
theorem dX1_hasWork_11 : decode cX1_hasWork 11 = .ok (.ireturn, 1) := by decide +kernel
theorem dX1_hasReader_0 : decode cX1_hasReader 0 = .ok (.iload_n 1, 1) := by decide +kernel
theorem dX1_hasReader_1 : decode cX1_hasReader 1 = .ok (.iconst 0, 1) := by decide +kernel
theorem dX1_hasReader_2 : decode cX1_hasReader 2 = .ok (.aload_n 0, 1) := by decide +kernel
theorem dX1_hasReader_3 : decode cX1_hasReader 3 = .ok (.getfield 25, 3) := by decide +kernel
theorem dX1_hasReader_6 : decode cX1_hasReader 6 = .ok (.iconst 1, 1) := by decide +kernel
theorem dX1_hasReader_7 : decode cX1_hasReader 7 = .ok (.isub, 1) := by decide +kernel
theorem dX1_hasReader_8 : decode cX1_hasReader 8 = .ok (.invokestatic 37, 3) := by decide +kernel
theorem dX1_hasReader_11 : decode cX1_hasReader 11 = .ok (.ireturn, 1) := by decide +kernel
theorem dX1_ofWork_0 : decode cX1_ofWork 0 = .ok (.aload_n 0, 1) := by decide +kernel
theorem dX1_ofWork_1 : decode cX1_ofWork 1 = .ok (.getfield 9, 3) := by decide +kernel
theorem dX1_ofWork_4 : decode cX1_ofWork 4 = .ok (.iload_n 1, 1) := by decide +kernel
theorem dX1_ofWork_5 : decode cX1_ofWork 5 = .ok (.iconst 4, 1) := by decide +kernel
theorem dX1_ofWork_6 : decode cX1_ofWork 6 = .ok (.imul, 1) := by decide +kernel
theorem dX1_ofWork_7 : decode cX1_ofWork 7 = .ok (.iload_n 2, 1) := by decide +kernel
theorem dX1_ofWork_8 : decode cX1_ofWork 8 = .ok (.iadd, 1) := by decide +kernel
theorem dX1_ofWork_9 : decode cX1_ofWork 9 = .ok (.iaload, 1) := by decide +kernel
theorem dX1_ofWork_10 : decode cX1_ofWork 10 = .ok (.ireturn, 1) := by decide +kernel
theorem dX1_setWork_0 : decode cX1_setWork 0 = .ok (.aload_n 0, 1) := by decide +kernel
theorem dX1_setWork_1 : decode cX1_setWork 1 = .ok (.getfield 9, 3) := by decide +kernel
theorem dX1_setWork_4 : decode cX1_setWork 4 = .ok (.iload_n 1, 1) := by decide +kernel
theorem dX1_setWork_5 : decode cX1_setWork 5 = .ok (.iconst 4, 1) := by decide +kernel
theorem dX1_setWork_6 : decode cX1_setWork 6 = .ok (.imul, 1) := by decide +kernel
theorem dX1_setWork_7 : decode cX1_setWork 7 = .ok (.iload_n 2, 1) := by decide +kernel
theorem dX1_setWork_8 : decode cX1_setWork 8 = .ok (.iadd, 1) := by decide +kernel
theorem dX1_setWork_9 : decode cX1_setWork 9 = .ok (.iload_n 3, 1) := by decide +kernel
theorem dX1_setWork_10 : decode cX1_setWork 10 = .ok (.iastore, 1) := by decide +kernel
theorem dX1_setWork_11 : decode cX1_setWork 11 = .ok (.return_, 1) := by decide +kernel
theorem dX1_ofReader_0 : decode cX1_ofReader 0 = .ok (.aload_n 0, 1) := by decide +kernel
theorem dX1_ofReader_1 : decode cX1_ofReader 1 = .ok (.getfield 15, 3) := by decide +kernel
theorem dX1_ofReader_4 : decode cX1_ofReader 4 = .ok (.iload_n 1, 1) := by decide +kernel
theorem dX1_ofReader_5 : decode cX1_ofReader 5 = .ok (.iconst 2, 1) := by decide +kernel
theorem dX1_ofReader_6 : decode cX1_ofReader 6 = .ok (.imul, 1) := by decide +kernel
theorem dX1_ofReader_7 : decode cX1_ofReader 7 = .ok (.iload_n 2, 1) := by decide +kernel
theorem dX1_ofReader_8 : decode cX1_ofReader 8 = .ok (.iadd, 1) := by decide +kernel
theorem dX1_ofReader_9 : decode cX1_ofReader 9 = .ok (.iaload, 1) := by decide +kernel
theorem dX1_ofReader_10 : decode cX1_ofReader 10 = .ok (.ireturn, 1) := by decide +kernel
theorem dX1_setReader_0 : decode cX1_setReader 0 = .ok (.aload_n 0, 1) := by decide +kernel
theorem dX1_setReader_1 : decode cX1_setReader 1 = .ok (.getfield 15, 3) := by decide +kernel
theorem dX1_setReader_4 : decode cX1_setReader 4 = .ok (.iload_n 1, 1) := by decide +kernel
theorem dX1_setReader_5 : decode cX1_setReader 5 = .ok (.iconst 2, 1) := by decide +kernel
theorem dX1_setReader_6 : decode cX1_setReader 6 = .ok (.imul, 1) := by decide +kernel
theorem dX1_setReader_7 : decode cX1_setReader 7 = .ok (.iload_n 2, 1) := by decide +kernel
theorem dX1_setReader_8 : decode cX1_setReader 8 = .ok (.iadd, 1) := by decide +kernel
theorem dX1_setReader_9 : decode cX1_setReader 9 = .ok (.iload_n 3, 1) := by decide +kernel
theorem dX1_setReader_10 : decode cX1_setReader 10 = .ok (.iastore, 1) := by decide +kernel
theorem dX1_setReader_11 : decode cX1_setReader 11 = .ok (.return_, 1) := by decide +kernel
theorem dX1_addWork_0 : decode cX1_addWork 0 = .ok (.iconst 0, 1) := by decide +kernel
theorem dX1_addWork_1 : decode cX1_addWork 1 = .ok (.iload_n 1, 1) := by decide +kernel
theorem dX1_addWork_2 : decode cX1_addWork 2 = .ok (.invokestatic 41, 3) := by decide +kernel
theorem dX1_addWork_5 : decode cX1_addWork 5 = .ok (.ifCond .eq 28, 3) := by decide +kernel
theorem dX1_addWork_8 : decode cX1_addWork 8 = .ok (.iconst 1, 1) := by decide +kernel
theorem dX1_addWork_9 : decode cX1_addWork 9 = .ok (.iload_n 2, 1) := by decide +kernel
theorem dX1_addWork_10 : decode cX1_addWork 10 = .ok (.invokestatic 41, 3) := by decide +kernel
theorem dX1_addWork_13 : decode cX1_addWork 13 = .ok (.ifCond .eq 20, 3) := by decide +kernel
theorem dX1_addWork_16 : decode cX1_addWork 16 = .ok (.iconst 2, 1) := by decide +kernel
theorem dX1_addWork_17 : decode cX1_addWork 17 = .ok (.iload_n 3, 1) := by decide +kernel
theorem dX1_addWork_18 : decode cX1_addWork 18 = .ok (.invokestatic 41, 3) := by decide +kernel
theorem dX1_addWork_21 : decode cX1_addWork 21 = .ok (.ifCond .eq 12, 3) := by decide +kernel
theorem dX1_addWork_24 : decode cX1_addWork 24 = .ok (.iconst 3, 1) := by decide +kernel
theorem dX1_addWork_25 : decode cX1_addWork 25 = .ok (.iload 4, 2) := by decide +kernel
theorem dX1_addWork_27 : decode cX1_addWork 27 = .ok (.invokestatic 41, 3) := by decide +kernel
theorem dX1_addWork_30 : decode cX1_addWork 30 = .ok (.ifCond .ne 5, 3) := by decide +kernel
theorem dX1_addWork_33 : decode cX1_addWork 33 = .ok (.iconst (-1), 1) := by decide +kernel
theorem dX1_addWork_34 : decode cX1_addWork 34 = .ok (.ireturn, 1) := by decide +kernel
theorem dX1_addWork_35 : decode cX1_addWork 35 = .ok (.aload_n 0, 1) := by decide +kernel
theorem dX1_addWork_36 : decode cX1_addWork 36 = .ok (.getfield 22, 3) := by decide +kernel
theorem dX1_addWork_39 : decode cX1_addWork 39 = .ok (.bipush 6, 2) := by decide +kernel
theorem dX1_addWork_41 : decode cX1_addWork 41 = .ok (.if_icmp .lt 6, 3) := by decide +kernel
theorem dX1_addWork_44 : decode cX1_addWork 44 = .ok (.bipush (-3), 2) := by decide +kernel
theorem dX1_addWork_46 : decode cX1_addWork 46 = .ok (.ireturn, 1) := by decide +kernel
theorem dX1_addWork_47 : decode cX1_addWork 47 = .ok (.aload_n 0, 1) := by decide +kernel
theorem dX1_addWork_48 : decode cX1_addWork 48 = .ok (.aload_n 0, 1) := by decide +kernel
theorem dX1_addWork_49 : decode cX1_addWork 49 = .ok (.getfield 22, 3) := by decide +kernel
theorem dX1_addWork_52 : decode cX1_addWork 52 = .ok (.iconst 0, 1) := by decide +kernel
theorem dX1_addWork_53 : decode cX1_addWork 53 = .ok (.iload_n 1, 1) := by decide +kernel
theorem dX1_addWork_54 : decode cX1_addWork 54 = .ok (.invokevirtual 45, 3) := by decide +kernel
theorem dX1_addWork_57 : decode cX1_addWork 57 = .ok (.aload_n 0, 1) := by decide +kernel
theorem dX1_addWork_58 : decode cX1_addWork 58 = .ok (.aload_n 0, 1) := by decide +kernel
theorem dX1_addWork_59 : decode cX1_addWork 59 = .ok (.getfield 22, 3) := by decide +kernel
theorem dX1_addWork_62 : decode cX1_addWork 62 = .ok (.iconst 1, 1) := by decide +kernel
theorem dX1_addWork_63 : decode cX1_addWork 63 = .ok (.iload_n 2, 1) := by decide +kernel
theorem dX1_addWork_64 : decode cX1_addWork 64 = .ok (.invokevirtual 45, 3) := by decide +kernel
theorem dX1_addWork_67 : decode cX1_addWork 67 = .ok (.aload_n 0, 1) := by decide +kernel
theorem dX1_addWork_68 : decode cX1_addWork 68 = .ok (.aload_n 0, 1) := by decide +kernel
theorem dX1_addWork_69 : decode cX1_addWork 69 = .ok (.getfield 22, 3) := by decide +kernel
theorem dX1_addWork_72 : decode cX1_addWork 72 = .ok (.iconst 2, 1) := by decide +kernel
theorem dX1_addWork_73 : decode cX1_addWork 73 = .ok (.iload_n 3, 1) := by decide +kernel
theorem dX1_addWork_74 : decode cX1_addWork 74 = .ok (.invokevirtual 45, 3) := by decide +kernel
theorem dX1_addWork_77 : decode cX1_addWork 77 = .ok (.aload_n 0, 1) := by decide +kernel
theorem dX1_addWork_78 : decode cX1_addWork 78 = .ok (.aload_n 0, 1) := by decide +kernel
theorem dX1_addWork_79 : decode cX1_addWork 79 = .ok (.getfield 22, 3) := by decide +kernel
theorem dX1_addWork_82 : decode cX1_addWork 82 = .ok (.iconst 3, 1) := by decide +kernel
theorem dX1_addWork_83 : decode cX1_addWork 83 = .ok (.iload 4, 2) := by decide +kernel
theorem dX1_addWork_85 : decode cX1_addWork 85 = .ok (.invokevirtual 45, 3) := by decide +kernel
theorem dX1_addWork_88 : decode cX1_addWork 88 = .ok (.aload_n 0, 1) := by decide +kernel
theorem dX1_addWork_89 : decode cX1_addWork 89 = .ok (.dup, 1) := by decide +kernel
theorem dX1_addWork_90 : decode cX1_addWork 90 = .ok (.getfield 22, 3) := by decide +kernel
theorem dX1_addWork_93 : decode cX1_addWork 93 = .ok (.iconst 1, 1) := by decide +kernel
theorem dX1_addWork_94 : decode cX1_addWork 94 = .ok (.iadd, 1) := by decide +kernel
theorem dX1_addWork_95 : decode cX1_addWork 95 = .ok (.putfield 22, 3) := by decide +kernel
theorem dX1_addWork_98 : decode cX1_addWork 98 = .ok (.aload_n 0, 1) := by decide +kernel
theorem dX1_addWork_99 : decode cX1_addWork 99 = .ok (.getfield 22, 3) := by decide +kernel
theorem dX1_addWork_102 : decode cX1_addWork 102 = .ok (.ireturn, 1) := by decide +kernel
theorem dX1_addReader_0 : decode cX1_addReader 0 = .ok (.iconst 0, 1) := by decide +kernel
theorem dX1_addReader_1 : decode cX1_addReader 1 = .ok (.iload_n 1, 1) := by decide +kernel
theorem dX1_addReader_2 : decode cX1_addReader 2 = .ok (.invokestatic 49, 3) := by decide +kernel
theorem dX1_addReader_5 : decode cX1_addReader 5 = .ok (.ifCond .eq 11, 3) := by decide +kernel
theorem dX1_addReader_8 : decode cX1_addReader 8 = .ok (.iconst 1, 1) := by decide +kernel
theorem dX1_addReader_9 : decode cX1_addReader 9 = .ok (.iload_n 2, 1) := by decide +kernel
theorem dX1_addReader_10 : decode cX1_addReader 10 = .ok (.invokestatic 49, 3) := by decide +kernel
theorem dX1_addReader_13 : decode cX1_addReader 13 = .ok (.ifCond .ne 5, 3) := by decide +kernel
theorem dX1_addReader_16 : decode cX1_addReader 16 = .ok (.iconst (-1), 1) := by decide +kernel
theorem dX1_addReader_17 : decode cX1_addReader 17 = .ok (.ireturn, 1) := by decide +kernel
theorem dX1_addReader_18 : decode cX1_addReader 18 = .ok (.aload_n 0, 1) := by decide +kernel
theorem dX1_addReader_19 : decode cX1_addReader 19 = .ok (.getfield 25, 3) := by decide +kernel
theorem dX1_addReader_22 : decode cX1_addReader 22 = .ok (.iconst 4, 1) := by decide +kernel
theorem dX1_addReader_23 : decode cX1_addReader 23 = .ok (.if_icmp .lt 6, 3) := by decide +kernel
theorem dX1_addReader_26 : decode cX1_addReader 26 = .ok (.bipush (-3), 2) := by decide +kernel
theorem dX1_addReader_28 : decode cX1_addReader 28 = .ok (.ireturn, 1) := by decide +kernel
theorem dX1_addReader_29 : decode cX1_addReader 29 = .ok (.aload_n 0, 1) := by decide +kernel
theorem dX1_addReader_30 : decode cX1_addReader 30 = .ok (.aload_n 0, 1) := by decide +kernel
theorem dX1_addReader_31 : decode cX1_addReader 31 = .ok (.getfield 25, 3) := by decide +kernel
theorem dX1_addReader_34 : decode cX1_addReader 34 = .ok (.iconst 0, 1) := by decide +kernel
theorem dX1_addReader_35 : decode cX1_addReader 35 = .ok (.iload_n 1, 1) := by decide +kernel
theorem dX1_addReader_36 : decode cX1_addReader 36 = .ok (.invokevirtual 52, 3) := by decide +kernel
theorem dX1_addReader_39 : decode cX1_addReader 39 = .ok (.aload_n 0, 1) := by decide +kernel
theorem dX1_addReader_40 : decode cX1_addReader 40 = .ok (.aload_n 0, 1) := by decide +kernel
theorem dX1_addReader_41 : decode cX1_addReader 41 = .ok (.getfield 25, 3) := by decide +kernel
theorem dX1_addReader_44 : decode cX1_addReader 44 = .ok (.iconst 1, 1) := by decide +kernel
theorem dX1_addReader_45 : decode cX1_addReader 45 = .ok (.iload_n 2, 1) := by decide +kernel
theorem dX1_addReader_46 : decode cX1_addReader 46 = .ok (.invokevirtual 52, 3) := by decide +kernel
theorem dX1_addReader_49 : decode cX1_addReader 49 = .ok (.aload_n 0, 1) := by decide +kernel
theorem dX1_addReader_50 : decode cX1_addReader 50 = .ok (.dup, 1) := by decide +kernel
theorem dX1_addReader_51 : decode cX1_addReader 51 = .ok (.getfield 25, 3) := by decide +kernel
theorem dX1_addReader_54 : decode cX1_addReader 54 = .ok (.iconst 1, 1) := by decide +kernel
theorem dX1_addReader_55 : decode cX1_addReader 55 = .ok (.iadd, 1) := by decide +kernel
theorem dX1_addReader_56 : decode cX1_addReader 56 = .ok (.putfield 25, 3) := by decide +kernel
theorem dX1_addReader_59 : decode cX1_addReader 59 = .ok (.aload_n 0, 1) := by decide +kernel
theorem dX1_addReader_60 : decode cX1_addReader 60 = .ok (.getfield 25, 3) := by decide +kernel
theorem dX1_addReader_63 : decode cX1_addReader 63 = .ok (.ireturn, 1) := by decide +kernel
theorem dX1_lastsOf_0 : decode cX1_lastsOf 0 = .ok (.aload_n 0, 1) := by decide +kernel
theorem dX1_lastsOf_1 : decode cX1_lastsOf 1 = .ok (.iload_n 1, 1) := by decide +kernel
theorem dX1_lastsOf_2 : decode cX1_lastsOf 2 = .ok (.iconst 3, 1) := by decide +kernel
theorem dX1_lastsOf_3 : decode cX1_lastsOf 3 = .ok (.invokevirtual 55, 3) := by decide +kernel
theorem dX1_lastsOf_6 : decode cX1_lastsOf 6 = .ok (.istore_n 2, 1) := by decide +kernel
theorem dX1_lastsOf_7 : decode cX1_lastsOf 7 = .ok (.aload_n 0, 1) := by decide +kernel
theorem dX1_lastsOf_8 : decode cX1_lastsOf 8 = .ok (.iload_n 1, 1) := by decide +kernel
theorem dX1_lastsOf_9 : decode cX1_lastsOf 9 = .ok (.iconst 0, 1) := by decide +kernel
theorem dX1_lastsOf_10 : decode cX1_lastsOf 10 = .ok (.invokevirtual 55, 3) := by decide +kernel
theorem dX1_lastsOf_13 : decode cX1_lastsOf 13 = .ok (.tableswitch 39 0 2 #[27, 29, 33], 27) := by decide +kernel
theorem dX1_lastsOf_40 : decode cX1_lastsOf 40 = .ok (.iload_n 2, 1) := by decide +kernel
theorem dX1_lastsOf_41 : decode cX1_lastsOf 41 = .ok (.ireturn, 1) := by decide +kernel
theorem dX1_lastsOf_42 : decode cX1_lastsOf 42 = .ok (.iconst 2, 1) := by decide +kernel
theorem dX1_lastsOf_43 : decode cX1_lastsOf 43 = .ok (.iload_n 2, 1) := by decide +kernel
theorem dX1_lastsOf_44 : decode cX1_lastsOf 44 = .ok (.imul, 1) := by decide +kernel
theorem dX1_lastsOf_45 : decode cX1_lastsOf 45 = .ok (.ireturn, 1) := by decide +kernel
theorem dX1_lastsOf_46 : decode cX1_lastsOf 46 = .ok (.iload_n 2, 1) := by decide +kernel
theorem dX1_lastsOf_47 : decode cX1_lastsOf 47 = .ok (.iconst 2, 1) := by decide +kernel
theorem dX1_lastsOf_48 : decode cX1_lastsOf 48 = .ok (.idiv, 1) := by decide +kernel
theorem dX1_lastsOf_49 : decode cX1_lastsOf 49 = .ok (.iconst 1, 1) := by decide +kernel
theorem dX1_lastsOf_50 : decode cX1_lastsOf 50 = .ok (.iadd, 1) := by decide +kernel
theorem dX1_lastsOf_51 : decode cX1_lastsOf 51 = .ok (.ireturn, 1) := by decide +kernel
theorem dX1_lastsOf_52 : decode cX1_lastsOf 52 = .ok (.iload_n 2, 1) := by decide +kernel
theorem dX1_lastsOf_53 : decode cX1_lastsOf 53 = .ok (.iconst 2, 1) := by decide +kernel
theorem dX1_lastsOf_54 : decode cX1_lastsOf 54 = .ok (.idiv, 1) := by decide +kernel
theorem dX1_lastsOf_55 : decode cX1_lastsOf 55 = .ok (.ireturn, 1) := by decide +kernel
theorem dX1_wideOf_0 : decode cX1_wideOf 0 = .ok (.aload_n 0, 1) := by decide +kernel
theorem dX1_wideOf_1 : decode cX1_wideOf 1 = .ok (.iload_n 1, 1) := by decide +kernel
theorem dX1_wideOf_2 : decode cX1_wideOf 2 = .ok (.iconst 3, 1) := by decide +kernel
theorem dX1_wideOf_3 : decode cX1_wideOf 3 = .ok (.invokevirtual 55, 3) := by decide +kernel
theorem dX1_wideOf_6 : decode cX1_wideOf 6 = .ok (.istore_n 2, 1) := by decide +kernel
theorem dX1_wideOf_7 : decode cX1_wideOf 7 = .ok (.aload_n 0, 1) := by decide +kernel
theorem dX1_wideOf_8 : decode cX1_wideOf 8 = .ok (.iload_n 1, 1) := by decide +kernel
theorem dX1_wideOf_9 : decode cX1_wideOf 9 = .ok (.iconst 0, 1) := by decide +kernel
theorem dX1_wideOf_10 : decode cX1_wideOf 10 = .ok (.invokevirtual 55, 3) := by decide +kernel
theorem dX1_wideOf_13 : decode cX1_wideOf 13 = .ok (.tableswitch 33 0 2 #[27, 29, 27], 27) := by decide +kernel
theorem dX1_wideOf_40 : decode cX1_wideOf 40 = .ok (.iload_n 2, 1) := by decide +kernel
theorem dX1_wideOf_41 : decode cX1_wideOf 41 = .ok (.ireturn, 1) := by decide +kernel
theorem dX1_wideOf_42 : decode cX1_wideOf 42 = .ok (.iload_n 2, 1) := by decide +kernel
theorem dX1_wideOf_43 : decode cX1_wideOf 43 = .ok (.iconst 2, 1) := by decide +kernel
theorem dX1_wideOf_44 : decode cX1_wideOf 44 = .ok (.idiv, 1) := by decide +kernel
theorem dX1_wideOf_45 : decode cX1_wideOf 45 = .ok (.ireturn, 1) := by decide +kernel
theorem dX1_wideOf_46 : decode cX1_wideOf 46 = .ok (.iload_n 2, 1) := by decide +kernel
theorem dX1_wideOf_47 : decode cX1_wideOf 47 = .ok (.iconst 2, 1) := by decide +kernel
theorem dX1_wideOf_48 : decode cX1_wideOf 48 = .ok (.iadd, 1) := by decide +kernel
theorem dX1_wideOf_49 : decode cX1_wideOf 49 = .ok (.ireturn, 1) := by decide +kernel
theorem dX1_goesUp_0 : decode cX1_goesUp 0 = .ok (.aload_n 0, 1) := by decide +kernel
theorem dX1_goesUp_1 : decode cX1_goesUp 1 = .ok (.iload_n 1, 1) := by decide +kernel
theorem dX1_goesUp_2 : decode cX1_goesUp 2 = .ok (.iconst 3, 1) := by decide +kernel
theorem dX1_goesUp_3 : decode cX1_goesUp 3 = .ok (.invokevirtual 55, 3) := by decide +kernel
theorem dX1_goesUp_6 : decode cX1_goesUp 6 = .ok (.aload_n 0, 1) := by decide +kernel
theorem dX1_goesUp_7 : decode cX1_goesUp 7 = .ok (.getfield 28, 3) := by decide +kernel
theorem dX1_goesUp_10 : decode cX1_goesUp 10 = .ok (.if_icmp .le 7, 3) := by decide +kernel
theorem dX1_goesUp_13 : decode cX1_goesUp 13 = .ok (.iconst 1, 1) := by decide +kernel
theorem dX1_goesUp_14 : decode cX1_goesUp 14 = .ok (.goto 4, 3) := by decide +kernel
theorem dX1_goesUp_17 : decode cX1_goesUp 17 = .ok (.iconst 0, 1) := by decide +kernel
theorem dX1_goesUp_18 : decode cX1_goesUp 18 = .ok (.ireturn, 1) := by decide +kernel
theorem dX1_burstOf_0 : decode cX1_burstOf 0 = .ok (.aload_n 0, 1) := by decide +kernel
theorem dX1_burstOf_1 : decode cX1_burstOf 1 = .ok (.iload_n 1, 1) := by decide +kernel
theorem dX1_burstOf_2 : decode cX1_burstOf 2 = .ok (.iconst 1, 1) := by decide +kernel
theorem dX1_burstOf_3 : decode cX1_burstOf 3 = .ok (.invokevirtual 55, 3) := by decide +kernel
theorem dX1_burstOf_6 : decode cX1_burstOf 6 = .ok (.aload_n 0, 1) := by decide +kernel
theorem dX1_burstOf_7 : decode cX1_burstOf 7 = .ok (.getfield 18, 3) := by decide +kernel
theorem dX1_burstOf_10 : decode cX1_burstOf 10 = .ok (.iadd, 1) := by decide +kernel
theorem dX1_burstOf_11 : decode cX1_burstOf 11 = .ok (.iconst 4, 1) := by decide +kernel
theorem dX1_burstOf_12 : decode cX1_burstOf 12 = .ok (.isub, 1) := by decide +kernel
theorem dX1_burstOf_13 : decode cX1_burstOf 13 = .ok (.invokestatic 59, 3) := by decide +kernel
theorem dX1_burstOf_16 : decode cX1_burstOf 16 = .ok (.ireturn, 1) := by decide +kernel
theorem dX1_stickOf_0 : decode cX1_stickOf 0 = .ok (.aload_n 0, 1) := by decide +kernel
theorem dX1_stickOf_1 : decode cX1_stickOf 1 = .ok (.iload_n 1, 1) := by decide +kernel
theorem dX1_stickOf_2 : decode cX1_stickOf 2 = .ok (.invokevirtual 63, 3) := by decide +kernel
theorem dX1_stickOf_5 : decode cX1_stickOf 5 = .ok (.aload_n 0, 1) := by decide +kernel
theorem dX1_stickOf_6 : decode cX1_stickOf 6 = .ok (.getfield 18, 3) := by decide +kernel
theorem dX1_stickOf_9 : decode cX1_stickOf 9 = .ok (.iconst 4, 1) := by decide +kernel
theorem dX1_stickOf_10 : decode cX1_stickOf 10 = .ok (.isub, 1) := by decide +kernel
theorem dX1_stickOf_11 : decode cX1_stickOf 11 = .ok (.aload_n 0, 1) := by decide +kernel
theorem dX1_stickOf_12 : decode cX1_stickOf 12 = .ok (.iload_n 1, 1) := by decide +kernel
theorem dX1_stickOf_13 : decode cX1_stickOf 13 = .ok (.invokevirtual 66, 3) := by decide +kernel
theorem dX1_stickOf_16 : decode cX1_stickOf 16 = .ok (.imul, 1) := by decide +kernel
theorem dX1_stickOf_17 : decode cX1_stickOf 17 = .ok (.iconst 4, 1) := by decide +kernel
theorem dX1_stickOf_18 : decode cX1_stickOf 18 = .ok (.idiv, 1) := by decide +kernel
theorem dX1_stickOf_19 : decode cX1_stickOf 19 = .ok (.iadd, 1) := by decide +kernel
theorem dX1_stickOf_20 : decode cX1_stickOf 20 = .ok (.invokestatic 59, 3) := by decide +kernel
theorem dX1_stickOf_23 : decode cX1_stickOf 23 = .ok (.ireturn, 1) := by decide +kernel
theorem dX1_powerOfAll_0 : decode cX1_powerOfAll 0 = .ok (.iconst 0, 1) := by decide +kernel
theorem dX1_powerOfAll_1 : decode cX1_powerOfAll 1 = .ok (.istore_n 1, 1) := by decide +kernel
theorem dX1_powerOfAll_2 : decode cX1_powerOfAll 2 = .ok (.iconst 0, 1) := by decide +kernel
theorem dX1_powerOfAll_3 : decode cX1_powerOfAll 3 = .ok (.istore_n 2, 1) := by decide +kernel
theorem dX1_powerOfAll_4 : decode cX1_powerOfAll 4 = .ok (.iload_n 2, 1) := by decide +kernel
theorem dX1_powerOfAll_5 : decode cX1_powerOfAll 5 = .ok (.aload_n 0, 1) := by decide +kernel
theorem dX1_powerOfAll_6 : decode cX1_powerOfAll 6 = .ok (.getfield 22, 3) := by decide +kernel
theorem dX1_powerOfAll_9 : decode cX1_powerOfAll 9 = .ok (.if_icmp .ge 18, 3) := by decide +kernel
theorem dX1_powerOfAll_12 : decode cX1_powerOfAll 12 = .ok (.iload_n 1, 1) := by decide +kernel
theorem dX1_powerOfAll_13 : decode cX1_powerOfAll 13 = .ok (.aload_n 0, 1) := by decide +kernel
theorem dX1_powerOfAll_14 : decode cX1_powerOfAll 14 = .ok (.iload_n 2, 1) := by decide +kernel
theorem dX1_powerOfAll_15 : decode cX1_powerOfAll 15 = .ok (.iconst 3, 1) := by decide +kernel
theorem dX1_powerOfAll_16 : decode cX1_powerOfAll 16 = .ok (.invokevirtual 55, 3) := by decide +kernel
theorem dX1_powerOfAll_19 : decode cX1_powerOfAll 19 = .ok (.iadd, 1) := by decide +kernel
theorem dX1_powerOfAll_20 : decode cX1_powerOfAll 20 = .ok (.istore_n 1, 1) := by decide +kernel
theorem dX1_powerOfAll_21 : decode cX1_powerOfAll 21 = .ok (.iinc 2 1, 3) := by decide +kernel
theorem dX1_powerOfAll_24 : decode cX1_powerOfAll 24 = .ok (.goto (-20), 3) := by decide +kernel
theorem dX1_powerOfAll_27 : decode cX1_powerOfAll 27 = .ok (.iload_n 1, 1) := by decide +kernel
theorem dX1_powerOfAll_28 : decode cX1_powerOfAll 28 = .ok (.ireturn, 1) := by decide +kernel
theorem dX1_coughsOfAll_0 : decode cX1_coughsOfAll 0 = .ok (.iconst 0, 1) := by decide +kernel
theorem dX1_coughsOfAll_1 : decode cX1_coughsOfAll 1 = .ok (.istore_n 1, 1) := by decide +kernel
theorem dX1_coughsOfAll_2 : decode cX1_coughsOfAll 2 = .ok (.iconst 0, 1) := by decide +kernel
theorem dX1_coughsOfAll_3 : decode cX1_coughsOfAll 3 = .ok (.istore_n 2, 1) := by decide +kernel
theorem dX1_coughsOfAll_4 : decode cX1_coughsOfAll 4 = .ok (.iload_n 2, 1) := by decide +kernel
theorem dX1_coughsOfAll_5 : decode cX1_coughsOfAll 5 = .ok (.aload_n 0, 1) := by decide +kernel
theorem dX1_coughsOfAll_6 : decode cX1_coughsOfAll 6 = .ok (.getfield 25, 3) := by decide +kernel
theorem dX1_coughsOfAll_9 : decode cX1_coughsOfAll 9 = .ok (.if_icmp .ge 18, 3) := by decide +kernel
theorem dX1_coughsOfAll_12 : decode cX1_coughsOfAll 12 = .ok (.iload_n 1, 1) := by decide +kernel
theorem dX1_coughsOfAll_13 : decode cX1_coughsOfAll 13 = .ok (.aload_n 0, 1) := by decide +kernel
theorem dX1_coughsOfAll_14 : decode cX1_coughsOfAll 14 = .ok (.iload_n 2, 1) := by decide +kernel
theorem dX1_coughsOfAll_15 : decode cX1_coughsOfAll 15 = .ok (.iconst 1, 1) := by decide +kernel
theorem dX1_coughsOfAll_16 : decode cX1_coughsOfAll 16 = .ok (.invokevirtual 69, 3) := by decide +kernel
theorem dX1_coughsOfAll_19 : decode cX1_coughsOfAll 19 = .ok (.iadd, 1) := by decide +kernel
theorem dX1_coughsOfAll_20 : decode cX1_coughsOfAll 20 = .ok (.istore_n 1, 1) := by decide +kernel
theorem dX1_coughsOfAll_21 : decode cX1_coughsOfAll 21 = .ok (.iinc 2 1, 3) := by decide +kernel
theorem dX1_coughsOfAll_24 : decode cX1_coughsOfAll 24 = .ok (.goto (-20), 3) := by decide +kernel
theorem dX1_coughsOfAll_27 : decode cX1_coughsOfAll 27 = .ok (.iload_n 1, 1) := by decide +kernel
theorem dX1_coughsOfAll_28 : decode cX1_coughsOfAll 28 = .ok (.ireturn, 1) := by decide +kernel
theorem dX2_init_0 : decode cX2_init 0 = .ok (.aload_n 0, 1) := by decide +kernel
theorem dX2_init_1 : decode cX2_init 1 = .ok (.invokespecial 3, 3) := by decide +kernel
theorem dX2_init_4 : decode cX2_init 4 = .ok (.aload_n 0, 1) := by decide +kernel
theorem dX2_init_5 : decode cX2_init 5 = .ok (.sipush 160, 3) := by decide +kernel
theorem dX2_init_8 : decode cX2_init 8 = .ok (.newarray .int, 2) := by decide +kernel
theorem dX2_init_10 : decode cX2_init 10 = .ok (.putfield 9, 3) := by decide +kernel
theorem dX2_init_13 : decode cX2_init 13 = .ok (.aload_n 0, 1) := by decide +kernel
theorem dX2_init_14 : decode cX2_init 14 = .ok (.iconst 4, 1) := by decide +kernel
theorem dX2_init_15 : decode cX2_init 15 = .ok (.newarray .int, 2) := by decide +kernel
theorem dX2_init_17 : decode cX2_init 17 = .ok (.putfield 15, 3) := by decide +kernel
theorem dX2_init_20 : decode cX2_init 20 = .ok (.aload_n 0, 1) := by decide +kernel
theorem dX2_init_21 : decode cX2_init 21 = .ok (.iconst 4, 1) := by decide +kernel
theorem dX2_init_22 : decode cX2_init 22 = .ok (.newarray .int, 2) := by decide +kernel
theorem dX2_init_24 : decode cX2_init 24 = .ok (.putfield 18, 3) := by decide +kernel
theorem dX2_init_27 : decode cX2_init 27 = .ok (.return_, 1) := by decide +kernel
theorem dX2_renew_0 : decode cX2_renew 0 = .ok (.aload_n 0, 1) := by decide +kernel
theorem dX2_renew_1 : decode cX2_renew 1 = .ok (.dup, 1) := by decide +kernel
theorem dX2_renew_2 : decode cX2_renew 2 = .ok (.getfield 21, 3) := by decide +kernel
theorem dX2_renew_5 : decode cX2_renew 5 = .ok (.iconst 1, 1) := by decide +kernel
theorem dX2_renew_6 : decode cX2_renew 6 = .ok (.iload_n 1, 1) := by decide +kernel
theorem dX2_renew_7 : decode cX2_renew 7 = .ok (.ishl, 1) := by decide +kernel
theorem dX2_renew_8 : decode cX2_renew 8 = .ok (.ior, 1) := by decide +kernel
theorem dX2_renew_9 : decode cX2_renew 9 = .ok (.putfield 21, 3) := by decide +kernel
theorem dX2_renew_12 : decode cX2_renew 12 = .ok (.aload_n 0, 1) := by decide +kernel
theorem dX2_renew_13 : decode cX2_renew 13 = .ok (.getfield 15, 3) := by decide +kernel
theorem dX2_renew_16 : decode cX2_renew 16 = .ok (.iload_n 1, 1) := by decide +kernel
theorem dX2_renew_17 : decode cX2_renew 17 = .ok (.iload_n 2, 1) := by decide +kernel
theorem dX2_renew_18 : decode cX2_renew 18 = .ok (.iastore, 1) := by decide +kernel
theorem dX2_renew_19 : decode cX2_renew 19 = .ok (.aload_n 0, 1) := by decide +kernel
theorem dX2_renew_20 : decode cX2_renew 20 = .ok (.getfield 18, 3) := by decide +kernel
theorem dX2_renew_23 : decode cX2_renew 23 = .ok (.iload_n 1, 1) := by decide +kernel
theorem dX2_renew_24 : decode cX2_renew 24 = .ok (.iload_n 3, 1) := by decide +kernel
theorem dX2_renew_25 : decode cX2_renew 25 = .ok (.iastore, 1) := by decide +kernel
theorem dX2_renew_26 : decode cX2_renew 26 = .ok (.iconst 0, 1) := by decide +kernel
theorem dX2_renew_27 : decode cX2_renew 27 = .ok (.istore 4, 2) := by decide +kernel
theorem dX2_renew_29 : decode cX2_renew 29 = .ok (.iload 4, 2) := by decide +kernel
theorem dX2_renew_31 : decode cX2_renew 31 = .ok (.iload_n 3, 1) := by decide +kernel
theorem dX2_renew_32 : decode cX2_renew 32 = .ok (.if_icmp .ge 22, 3) := by decide +kernel
theorem dX2_renew_35 : decode cX2_renew 35 = .ok (.aload_n 0, 1) := by decide +kernel
theorem dX2_renew_36 : decode cX2_renew 36 = .ok (.getfield 9, 3) := by decide +kernel
theorem dX2_renew_39 : decode cX2_renew 39 = .ok (.iload_n 1, 1) := by decide +kernel
theorem dX2_renew_40 : decode cX2_renew 40 = .ok (.bipush 40, 2) := by decide +kernel
theorem dX2_renew_42 : decode cX2_renew 42 = .ok (.imul, 1) := by decide +kernel
theorem dX2_renew_43 : decode cX2_renew 43 = .ok (.iload 4, 2) := by decide +kernel
theorem dX2_renew_45 : decode cX2_renew 45 = .ok (.iadd, 1) := by decide +kernel
theorem dX2_renew_46 : decode cX2_renew 46 = .ok (.iconst 0, 1) := by decide +kernel
theorem dX2_renew_47 : decode cX2_renew 47 = .ok (.iastore, 1) := by decide +kernel
theorem dX2_renew_48 : decode cX2_renew 48 = .ok (.iinc 4 1, 3) := by decide +kernel
theorem dX2_renew_51 : decode cX2_renew 51 = .ok (.goto (-22), 3) := by decide +kernel
theorem dX2_renew_54 : decode cX2_renew 54 = .ok (.return_, 1) := by decide +kernel
theorem dX2_isNothing_0 : decode cX2_isNothing 0 = .ok (.aload_n 0, 1) := by decide +kernel
theorem dX2_isNothing_1 : decode cX2_isNothing 1 = .ok (.getfield 21, 3) := by decide +kernel
theorem dX2_isNothing_4 : decode cX2_isNothing 4 = .ok (.iload_n 1, 1) := by decide +kernel
theorem dX2_isNothing_5 : decode cX2_isNothing 5 = .ok (.ishr, 1) := by decide +kernel
theorem dX2_isNothing_6 : decode cX2_isNothing 6 = .ok (.iconst 1, 1) := by decide +kernel
theorem dX2_isNothing_7 : decode cX2_isNothing 7 = .ok (.iand, 1) := by decide +kernel
theorem dX2_isNothing_8 : decode cX2_isNothing 8 = .ok (.ifCond .ne 7, 3) := by decide +kernel
theorem dX2_isNothing_11 : decode cX2_isNothing 11 = .ok (.iconst 1, 1) := by decide +kernel
theorem dX2_isNothing_12 : decode cX2_isNothing 12 = .ok (.goto 4, 3) := by decide +kernel
theorem dX2_isNothing_15 : decode cX2_isNothing 15 = .ok (.iconst 0, 1) := by decide +kernel
theorem dX2_isNothing_16 : decode cX2_isNothing 16 = .ok (.ireturn, 1) := by decide +kernel
theorem dX2_laneOf_0 : decode cX2_laneOf 0 = .ok (.aload_n 0, 1) := by decide +kernel
theorem dX2_laneOf_1 : decode cX2_laneOf 1 = .ok (.getfield 15, 3) := by decide +kernel
theorem dX2_laneOf_4 : decode cX2_laneOf 4 = .ok (.iload_n 1, 1) := by decide +kernel
theorem dX2_laneOf_5 : decode cX2_laneOf 5 = .ok (.iaload, 1) := by decide +kernel
theorem dX2_laneOf_6 : decode cX2_laneOf 6 = .ok (.ireturn, 1) := by decide +kernel
theorem dX2_sizeOf_0 : decode cX2_sizeOf 0 = .ok (.aload_n 0, 1) := by decide +kernel
theorem dX2_sizeOf_1 : decode cX2_sizeOf 1 = .ok (.getfield 18, 3) := by decide +kernel
theorem dX2_sizeOf_4 : decode cX2_sizeOf 4 = .ok (.iload_n 1, 1) := by decide +kernel
theorem dX2_sizeOf_5 : decode cX2_sizeOf 5 = .ok (.iaload, 1) := by decide +kernel
theorem dX2_sizeOf_6 : decode cX2_sizeOf 6 = .ok (.ireturn, 1) := by decide +kernel
theorem dX2_faultOf_0 : decode cX2_faultOf 0 = .ok (.aload_n 0, 1) := by decide +kernel
theorem dX2_faultOf_1 : decode cX2_faultOf 1 = .ok (.iload_n 1, 1) := by decide +kernel
theorem dX2_faultOf_2 : decode cX2_faultOf 2 = .ok (.invokevirtual 25, 3) := by decide +kernel
theorem dX2_faultOf_5 : decode cX2_faultOf 5 = .ok (.ifCond .eq 5, 3) := by decide +kernel
theorem dX2_faultOf_8 : decode cX2_faultOf 8 = .ok (.iconst 1, 1) := by decide +kernel
theorem dX2_faultOf_9 : decode cX2_faultOf 9 = .ok (.ireturn, 1) := by decide +kernel
theorem dX2_faultOf_10 : decode cX2_faultOf 10 = .ok (.aload_n 0, 1) := by decide +kernel
theorem dX2_faultOf_11 : decode cX2_faultOf 11 = .ok (.getfield 15, 3) := by decide +kernel
theorem dX2_faultOf_14 : decode cX2_faultOf 14 = .ok (.iload_n 1, 1) := by decide +kernel
theorem dX2_faultOf_15 : decode cX2_faultOf 15 = .ok (.iaload, 1) := by decide +kernel
theorem dX2_faultOf_16 : decode cX2_faultOf 16 = .ok (.iload_n 2, 1) := by decide +kernel
theorem dX2_faultOf_17 : decode cX2_faultOf 17 = .ok (.if_icmp .eq 5, 3) := by decide +kernel
theorem dX2_faultOf_20 : decode cX2_faultOf 20 = .ok (.iconst 3, 1) := by decide +kernel
theorem dX2_faultOf_21 : decode cX2_faultOf 21 = .ok (.ireturn, 1) := by decide +kernel
theorem dX2_faultOf_22 : decode cX2_faultOf 22 = .ok (.iload_n 3, 1) := by decide +kernel
theorem dX2_faultOf_23 : decode cX2_faultOf 23 = .ok (.iconst 0, 1) := by decide +kernel
theorem dX2_faultOf_24 : decode cX2_faultOf 24 = .ok (.aload_n 0, 1) := by decide +kernel
theorem dX2_faultOf_25 : decode cX2_faultOf 25 = .ok (.getfield 18, 3) := by decide +kernel
theorem dX2_faultOf_28 : decode cX2_faultOf 28 = .ok (.iload_n 1, 1) := by decide +kernel
theorem dX2_faultOf_29 : decode cX2_faultOf 29 = .ok (.iaload, 1) := by decide +kernel
theorem dX2_faultOf_30 : decode cX2_faultOf 30 = .ok (.iload 4, 2) := by decide +kernel
theorem dX2_faultOf_32 : decode cX2_faultOf 32 = .ok (.isub, 1) := by decide +kernel
theorem dX2_faultOf_33 : decode cX2_faultOf 33 = .ok (.invokestatic 29, 3) := by decide +kernel
theorem dX2_faultOf_36 : decode cX2_faultOf 36 = .ok (.ifCond .eq 7, 3) := by decide +kernel
theorem dX2_faultOf_39 : decode cX2_faultOf 39 = .ok (.iconst 0, 1) := by decide +kernel
theorem dX2_faultOf_40 : decode cX2_faultOf 40 = .ok (.goto 4, 3) := by decide +kernel
theorem dX2_faultOf_43 : decode cX2_faultOf 43 = .ok (.iconst 2, 1) := by decide +kernel
theorem dX2_faultOf_44 : decode cX2_faultOf 44 = .ok (.ireturn, 1) := by decide +kernel
theorem dX2_put_0 : decode cX2_put 0 = .ok (.iload_n 3, 1) := by decide +kernel
theorem dX2_put_1 : decode cX2_put 1 = .ok (.istore 4, 2) := by decide +kernel
theorem dX2_put_3 : decode cX2_put 3 = .ok (.aload_n 0, 1) := by decide +kernel
theorem dX2_put_4 : decode cX2_put 4 = .ok (.getfield 15, 3) := by decide +kernel
theorem dX2_put_7 : decode cX2_put 7 = .ok (.iload_n 1, 1) := by decide +kernel
theorem dX2_put_8 : decode cX2_put 8 = .ok (.iaload, 1) := by decide +kernel
theorem dX2_put_9 : decode cX2_put 9 = .ok (.ifCond .ne 10, 3) := by decide +kernel
theorem dX2_put_12 : decode cX2_put 12 = .ok (.iload_n 3, 1) := by decide +kernel
theorem dX2_put_13 : decode cX2_put 13 = .ok (.i2b, 1) := by decide +kernel
theorem dX2_put_14 : decode cX2_put 14 = .ok (.istore 4, 2) := by decide +kernel
theorem dX2_put_16 : decode cX2_put 16 = .ok (.goto 17, 3) := by decide +kernel
theorem dX2_put_19 : decode cX2_put 19 = .ok (.aload_n 0, 1) := by decide +kernel
theorem dX2_put_20 : decode cX2_put 20 = .ok (.getfield 15, 3) := by decide +kernel
theorem dX2_put_23 : decode cX2_put 23 = .ok (.iload_n 1, 1) := by decide +kernel
theorem dX2_put_24 : decode cX2_put 24 = .ok (.iaload, 1) := by decide +kernel
theorem dX2_put_25 : decode cX2_put 25 = .ok (.iconst 1, 1) := by decide +kernel
theorem dX2_put_26 : decode cX2_put 26 = .ok (.if_icmp .ne 7, 3) := by decide +kernel
theorem dX2_put_29 : decode cX2_put 29 = .ok (.iload_n 3, 1) := by decide +kernel
theorem dX2_put_30 : decode cX2_put 30 = .ok (.i2s, 1) := by decide +kernel
theorem dX2_put_31 : decode cX2_put 31 = .ok (.istore 4, 2) := by decide +kernel
theorem dX2_put_33 : decode cX2_put 33 = .ok (.aload_n 0, 1) := by decide +kernel
theorem dX2_put_34 : decode cX2_put 34 = .ok (.getfield 9, 3) := by decide +kernel
theorem dX2_put_37 : decode cX2_put 37 = .ok (.iload_n 1, 1) := by decide +kernel
theorem dX2_put_38 : decode cX2_put 38 = .ok (.bipush 40, 2) := by decide +kernel
theorem dX2_put_40 : decode cX2_put 40 = .ok (.imul, 1) := by decide +kernel
theorem dX2_put_41 : decode cX2_put 41 = .ok (.iload_n 2, 1) := by decide +kernel
theorem dX2_put_42 : decode cX2_put 42 = .ok (.iadd, 1) := by decide +kernel
theorem dX2_put_43 : decode cX2_put 43 = .ok (.iload 4, 2) := by decide +kernel
theorem dX2_put_45 : decode cX2_put 45 = .ok (.iastore, 1) := by decide +kernel
theorem dX2_put_46 : decode cX2_put 46 = .ok (.return_, 1) := by decide +kernel
theorem dX2_at_0 : decode cX2_at 0 = .ok (.aload_n 0, 1) := by decide +kernel
theorem dX2_at_1 : decode cX2_at 1 = .ok (.getfield 9, 3) := by decide +kernel
theorem dX2_at_4 : decode cX2_at 4 = .ok (.iload_n 1, 1) := by decide +kernel
theorem dX2_at_5 : decode cX2_at 5 = .ok (.bipush 40, 2) := by decide +kernel
theorem dX2_at_7 : decode cX2_at 7 = .ok (.imul, 1) := by decide +kernel
theorem dX2_at_8 : decode cX2_at 8 = .ok (.iload_n 2, 1) := by decide +kernel
theorem dX2_at_9 : decode cX2_at 9 = .ok (.iadd, 1) := by decide +kernel
theorem dX2_at_10 : decode cX2_at 10 = .ok (.iaload, 1) := by decide +kernel
theorem dX2_at_11 : decode cX2_at 11 = .ok (.ireturn, 1) := by decide +kernel
theorem dX3_init_0 : decode cX3_init 0 = .ok (.aload_n 0, 1) := by decide +kernel
theorem dX3_init_1 : decode cX3_init 1 = .ok (.invokespecial 3, 3) := by decide +kernel
theorem dX3_init_4 : decode cX3_init 4 = .ok (.aload_n 0, 1) := by decide +kernel
theorem dX3_init_5 : decode cX3_init 5 = .ok (.new 9, 3) := by decide +kernel
theorem dX3_init_8 : decode cX3_init 8 = .ok (.dup, 1) := by decide +kernel
theorem dX3_init_9 : decode cX3_init 9 = .ok (.invokespecial 11, 3) := by decide +kernel
theorem dX3_init_12 : decode cX3_init 12 = .ok (.putfield 12, 3) := by decide +kernel
theorem dX3_init_15 : decode cX3_init 15 = .ok (.aload_n 0, 1) := by decide +kernel
theorem dX3_init_16 : decode cX3_init 16 = .ok (.bipush 6, 2) := by decide +kernel
theorem dX3_init_18 : decode cX3_init 18 = .ok (.newarray .int, 2) := by decide +kernel
theorem dX3_init_20 : decode cX3_init 20 = .ok (.putfield 18, 3) := by decide +kernel
theorem dX3_init_23 : decode cX3_init 23 = .ok (.aload_n 0, 1) := by decide +kernel
theorem dX3_init_24 : decode cX3_init 24 = .ok (.bipush 6, 2) := by decide +kernel
theorem dX3_init_26 : decode cX3_init 26 = .ok (.newarray .int, 2) := by decide +kernel
theorem dX3_init_28 : decode cX3_init 28 = .ok (.putfield 22, 3) := by decide +kernel
theorem dX3_init_31 : decode cX3_init 31 = .ok (.aload_n 0, 1) := by decide +kernel
theorem dX3_init_32 : decode cX3_init 32 = .ok (.bipush 6, 2) := by decide +kernel
theorem dX3_init_34 : decode cX3_init 34 = .ok (.newarray .int, 2) := by decide +kernel
theorem dX3_init_36 : decode cX3_init 36 = .ok (.putfield 25, 3) := by decide +kernel
theorem dX3_init_39 : decode cX3_init 39 = .ok (.aload_n 0, 1) := by decide +kernel
theorem dX3_init_40 : decode cX3_init 40 = .ok (.bipush 6, 2) := by decide +kernel
theorem dX3_init_42 : decode cX3_init 42 = .ok (.newarray .int, 2) := by decide +kernel
theorem dX3_init_44 : decode cX3_init 44 = .ok (.putfield 28, 3) := by decide +kernel
theorem dX3_init_47 : decode cX3_init 47 = .ok (.return_, 1) := by decide +kernel
theorem dX3_begin_0 : decode cX3_begin 0 = .ok (.aload_n 0, 1) := by decide +kernel
theorem dX3_begin_1 : decode cX3_begin 1 = .ok (.getfield 12, 3) := by decide +kernel
theorem dX3_begin_4 : decode cX3_begin 4 = .ok (.aload_n 1, 1) := by decide +kernel
theorem dX3_begin_5 : decode cX3_begin 5 = .ok (.invokevirtual 31, 3) := by decide +kernel
theorem dX3_begin_8 : decode cX3_begin 8 = .ok (.aload_n 0, 1) := by decide +kernel
theorem dX3_begin_9 : decode cX3_begin 9 = .ok (.invokevirtual 35, 3) := by decide +kernel
theorem dX3_begin_12 : decode cX3_begin 12 = .ok (.return_, 1) := by decide +kernel
theorem dX3_settle_0 : decode cX3_settle 0 = .ok (.iconst 0, 1) := by decide +kernel
theorem dX3_settle_1 : decode cX3_settle 1 = .ok (.istore_n 1, 1) := by decide +kernel
theorem dX3_settle_2 : decode cX3_settle 2 = .ok (.iload_n 1, 1) := by decide +kernel
theorem dX3_settle_3 : decode cX3_settle 3 = .ok (.aload_n 0, 1) := by decide +kernel
theorem dX3_settle_4 : decode cX3_settle 4 = .ok (.getfield 12, 3) := by decide +kernel
theorem dX3_settle_7 : decode cX3_settle 7 = .ok (.getfield 38, 3) := by decide +kernel
theorem dX3_settle_10 : decode cX3_settle 10 = .ok (.if_icmp .ge 88, 3) := by decide +kernel
theorem dX3_settle_13 : decode cX3_settle 13 = .ok (.aload_n 0, 1) := by decide +kernel
theorem dX3_settle_14 : decode cX3_settle 14 = .ok (.getfield 18, 3) := by decide +kernel
theorem dX3_settle_17 : decode cX3_settle 17 = .ok (.iload_n 1, 1) := by decide +kernel
theorem dX3_settle_18 : decode cX3_settle 18 = .ok (.aload_n 0, 1) := by decide +kernel
theorem dX3_settle_19 : decode cX3_settle 19 = .ok (.getfield 12, 3) := by decide +kernel
theorem dX3_settle_22 : decode cX3_settle 22 = .ok (.iload_n 1, 1) := by decide +kernel
theorem dX3_settle_23 : decode cX3_settle 23 = .ok (.iconst 2, 1) := by decide +kernel
theorem dX3_settle_24 : decode cX3_settle 24 = .ok (.invokevirtual 42, 3) := by decide +kernel
theorem dX3_settle_27 : decode cX3_settle 27 = .ok (.iastore, 1) := by decide +kernel
theorem dX3_settle_28 : decode cX3_settle 28 = .ok (.aload_n 0, 1) := by decide +kernel
theorem dX3_settle_29 : decode cX3_settle 29 = .ok (.getfield 22, 3) := by decide +kernel
theorem dX3_settle_32 : decode cX3_settle 32 = .ok (.iload_n 1, 1) := by decide +kernel
theorem dX3_settle_33 : decode cX3_settle 33 = .ok (.aload_n 0, 1) := by decide +kernel
theorem dX3_settle_34 : decode cX3_settle 34 = .ok (.getfield 18, 3) := by decide +kernel
theorem dX3_settle_37 : decode cX3_settle 37 = .ok (.iload_n 1, 1) := by decide +kernel
theorem dX3_settle_38 : decode cX3_settle 38 = .ok (.iaload, 1) := by decide +kernel
theorem dX3_settle_39 : decode cX3_settle 39 = .ok (.aload_n 0, 1) := by decide +kernel
theorem dX3_settle_40 : decode cX3_settle 40 = .ok (.getfield 12, 3) := by decide +kernel
theorem dX3_settle_43 : decode cX3_settle 43 = .ok (.iload_n 1, 1) := by decide +kernel
theorem dX3_settle_44 : decode cX3_settle 44 = .ok (.invokevirtual 46, 3) := by decide +kernel
theorem dX3_settle_47 : decode cX3_settle 47 = .ok (.ifCond .eq 14, 3) := by decide +kernel
theorem dX3_settle_50 : decode cX3_settle 50 = .ok (.aload_n 0, 1) := by decide +kernel
theorem dX3_settle_51 : decode cX3_settle 51 = .ok (.getfield 12, 3) := by decide +kernel
theorem dX3_settle_54 : decode cX3_settle 54 = .ok (.iload_n 1, 1) := by decide +kernel
theorem dX3_settle_55 : decode cX3_settle 55 = .ok (.invokevirtual 50, 3) := by decide +kernel
theorem dX3_settle_58 : decode cX3_settle 58 = .ok (.goto 4, 3) := by decide +kernel
theorem dX3_settle_61 : decode cX3_settle 61 = .ok (.iconst 0, 1) := by decide +kernel
theorem dX3_settle_62 : decode cX3_settle 62 = .ok (.iadd, 1) := by decide +kernel
theorem dX3_settle_63 : decode cX3_settle 63 = .ok (.iastore, 1) := by decide +kernel
theorem dX3_settle_64 : decode cX3_settle 64 = .ok (.aload_n 0, 1) := by decide +kernel
theorem dX3_settle_65 : decode cX3_settle 65 = .ok (.getfield 25, 3) := by decide +kernel
theorem dX3_settle_68 : decode cX3_settle 68 = .ok (.iload_n 1, 1) := by decide +kernel
theorem dX3_settle_69 : decode cX3_settle 69 = .ok (.aload_n 0, 1) := by decide +kernel
theorem dX3_settle_70 : decode cX3_settle 70 = .ok (.getfield 12, 3) := by decide +kernel
theorem dX3_settle_73 : decode cX3_settle 73 = .ok (.iload_n 1, 1) := by decide +kernel
theorem dX3_settle_74 : decode cX3_settle 74 = .ok (.invokevirtual 54, 3) := by decide +kernel
theorem dX3_settle_77 : decode cX3_settle 77 = .ok (.iastore, 1) := by decide +kernel
theorem dX3_settle_78 : decode cX3_settle 78 = .ok (.aload_n 0, 1) := by decide +kernel
theorem dX3_settle_79 : decode cX3_settle 79 = .ok (.getfield 28, 3) := by decide +kernel
theorem dX3_settle_82 : decode cX3_settle 82 = .ok (.iload_n 1, 1) := by decide +kernel
theorem dX3_settle_83 : decode cX3_settle 83 = .ok (.aload_n 0, 1) := by decide +kernel
theorem dX3_settle_84 : decode cX3_settle 84 = .ok (.getfield 12, 3) := by decide +kernel
theorem dX3_settle_87 : decode cX3_settle 87 = .ok (.iload_n 1, 1) := by decide +kernel
theorem dX3_settle_88 : decode cX3_settle 88 = .ok (.invokevirtual 57, 3) := by decide +kernel
theorem dX3_settle_91 : decode cX3_settle 91 = .ok (.iastore, 1) := by decide +kernel
theorem dX3_settle_92 : decode cX3_settle 92 = .ok (.iinc 1 1, 3) := by decide +kernel
theorem dX3_settle_95 : decode cX3_settle 95 = .ok (.goto (-93), 3) := by decide +kernel
theorem dX3_settle_98 : decode cX3_settle 98 = .ok (.return_, 1) := by decide +kernel
theorem dX3_putOut_0 : decode cX3_putOut 0 = .ok (.aload_n 0, 1) := by decide +kernel
theorem dX3_putOut_1 : decode cX3_putOut 1 = .ok (.getfield 22, 3) := by decide +kernel
theorem dX3_putOut_4 : decode cX3_putOut 4 = .ok (.iload_n 1, 1) := by decide +kernel
theorem dX3_putOut_5 : decode cX3_putOut 5 = .ok (.aload_n 0, 1) := by decide +kernel
theorem dX3_putOut_6 : decode cX3_putOut 6 = .ok (.getfield 18, 3) := by decide +kernel
theorem dX3_putOut_9 : decode cX3_putOut 9 = .ok (.iload_n 1, 1) := by decide +kernel
theorem dX3_putOut_10 : decode cX3_putOut 10 = .ok (.iaload, 1) := by decide +kernel
theorem dX3_putOut_11 : decode cX3_putOut 11 = .ok (.iastore, 1) := by decide +kernel
theorem dX3_putOut_12 : decode cX3_putOut 12 = .ok (.return_, 1) := by decide +kernel
theorem dX3_isUp_0 : decode cX3_isUp 0 = .ok (.iload_n 2, 1) := by decide +kernel
theorem dX3_isUp_1 : decode cX3_isUp 1 = .ok (.aload_n 0, 1) := by decide +kernel
theorem dX3_isUp_2 : decode cX3_isUp 2 = .ok (.getfield 18, 3) := by decide +kernel
theorem dX3_isUp_5 : decode cX3_isUp 5 = .ok (.iload_n 1, 1) := by decide +kernel
theorem dX3_isUp_6 : decode cX3_isUp 6 = .ok (.iaload, 1) := by decide +kernel
theorem dX3_isUp_7 : decode cX3_isUp 7 = .ok (.if_icmp .lt 17, 3) := by decide +kernel
theorem dX3_isUp_10 : decode cX3_isUp 10 = .ok (.iload_n 2, 1) := by decide +kernel
theorem dX3_isUp_11 : decode cX3_isUp 11 = .ok (.aload_n 0, 1) := by decide +kernel
theorem dX3_isUp_12 : decode cX3_isUp 12 = .ok (.getfield 22, 3) := by decide +kernel
theorem dX3_isUp_15 : decode cX3_isUp 15 = .ok (.iload_n 1, 1) := by decide +kernel
theorem dX3_isUp_16 : decode cX3_isUp 16 = .ok (.iaload, 1) := by decide +kernel
theorem dX3_isUp_17 : decode cX3_isUp 17 = .ok (.if_icmp .ge 7, 3) := by decide +kernel
theorem dX3_isUp_20 : decode cX3_isUp 20 = .ok (.iconst 1, 1) := by decide +kernel
theorem dX3_isUp_21 : decode cX3_isUp 21 = .ok (.goto 4, 3) := by decide +kernel
theorem dX3_isUp_24 : decode cX3_isUp 24 = .ok (.iconst 0, 1) := by decide +kernel
theorem dX3_isUp_25 : decode cX3_isUp 25 = .ok (.ireturn, 1) := by decide +kernel
theorem dX3_distance_0 : decode cX3_distance 0 = .ok (.aload_n 0, 1) := by decide +kernel
theorem dX3_distance_1 : decode cX3_distance 1 = .ok (.getfield 25, 3) := by decide +kernel
theorem dX3_distance_4 : decode cX3_distance 4 = .ok (.iload_n 2, 1) := by decide +kernel
theorem dX3_distance_5 : decode cX3_distance 5 = .ok (.iaload, 1) := by decide +kernel
theorem dX3_distance_6 : decode cX3_distance 6 = .ok (.aload_n 0, 1) := by decide +kernel
theorem dX3_distance_7 : decode cX3_distance 7 = .ok (.getfield 12, 3) := by decide +kernel
theorem dX3_distance_10 : decode cX3_distance 10 = .ok (.iload_n 1, 1) := by decide +kernel
theorem dX3_distance_11 : decode cX3_distance 11 = .ok (.iconst 0, 1) := by decide +kernel
theorem dX3_distance_12 : decode cX3_distance 12 = .ok (.invokevirtual 60, 3) := by decide +kernel
theorem dX3_distance_15 : decode cX3_distance 15 = .ok (.isub, 1) := by decide +kernel
theorem dX3_distance_16 : decode cX3_distance 16 = .ok (.invokestatic 63, 3) := by decide +kernel
theorem dX3_distance_19 : decode cX3_distance 19 = .ok (.ireturn, 1) := by decide +kernel
theorem dX3_reaches_0 : decode cX3_reaches 0 = .ok (.aload_n 0, 1) := by decide +kernel
theorem dX3_reaches_1 : decode cX3_reaches 1 = .ok (.iload_n 1, 1) := by decide +kernel
theorem dX3_reaches_2 : decode cX3_reaches 2 = .ok (.iload_n 2, 1) := by decide +kernel
theorem dX3_reaches_3 : decode cX3_reaches 3 = .ok (.invokevirtual 68, 3) := by decide +kernel
theorem dX3_reaches_6 : decode cX3_reaches 6 = .ok (.aload_n 0, 1) := by decide +kernel
theorem dX3_reaches_7 : decode cX3_reaches 7 = .ok (.getfield 28, 3) := by decide +kernel
theorem dX3_reaches_10 : decode cX3_reaches 10 = .ok (.iload_n 2, 1) := by decide +kernel
theorem dX3_reaches_11 : decode cX3_reaches 11 = .ok (.iaload, 1) := by decide +kernel
theorem dX3_reaches_12 : decode cX3_reaches 12 = .ok (.if_icmp .gt 7, 3) := by decide +kernel
theorem dX3_reaches_15 : decode cX3_reaches 15 = .ok (.iconst 1, 1) := by decide +kernel
theorem dX3_reaches_16 : decode cX3_reaches 16 = .ok (.goto 4, 3) := by decide +kernel
theorem dX3_reaches_19 : decode cX3_reaches 19 = .ok (.iconst 0, 1) := by decide +kernel
theorem dX3_reaches_20 : decode cX3_reaches 20 = .ok (.ireturn, 1) := by decide +kernel
theorem dX3_coughsAt_0 : decode cX3_coughsAt 0 = .ok (.aload_n 0, 1) := by decide +kernel
theorem dX3_coughsAt_1 : decode cX3_coughsAt 1 = .ok (.getfield 12, 3) := by decide +kernel
theorem dX3_coughsAt_4 : decode cX3_coughsAt 4 = .ok (.iload_n 1, 1) := by decide +kernel
theorem dX3_coughsAt_5 : decode cX3_coughsAt 5 = .ok (.iconst 1, 1) := by decide +kernel
theorem dX3_coughsAt_6 : decode cX3_coughsAt 6 = .ok (.invokevirtual 60, 3) := by decide +kernel
theorem dX3_coughsAt_9 : decode cX3_coughsAt 9 = .ok (.istore_n 3, 1) := by decide +kernel
theorem dX3_coughsAt_10 : decode cX3_coughsAt 10 = .ok (.iload_n 3, 1) := by decide +kernel
theorem dX3_coughsAt_11 : decode cX3_coughsAt 11 = .ok (.ifCond .le 13, 3) := by decide +kernel
theorem dX3_coughsAt_14 : decode cX3_coughsAt 14 = .ok (.iload_n 2, 1) := by decide +kernel
theorem dX3_coughsAt_15 : decode cX3_coughsAt 15 = .ok (.iload_n 3, 1) := by decide +kernel
theorem dX3_coughsAt_16 : decode cX3_coughsAt 16 = .ok (.irem, 1) := by decide +kernel
theorem dX3_coughsAt_17 : decode cX3_coughsAt 17 = .ok (.ifCond .ne 7, 3) := by decide +kernel
theorem dX3_coughsAt_20 : decode cX3_coughsAt 20 = .ok (.iconst 1, 1) := by decide +kernel
theorem dX3_coughsAt_21 : decode cX3_coughsAt 21 = .ok (.goto 4, 3) := by decide +kernel
theorem dX3_coughsAt_24 : decode cX3_coughsAt 24 = .ok (.iconst 0, 1) := by decide +kernel
theorem dX3_coughsAt_25 : decode cX3_coughsAt 25 = .ok (.ireturn, 1) := by decide +kernel
theorem dX3_lookedAt_0 : decode cX3_lookedAt 0 = .ok (.aload_n 0, 1) := by decide +kernel
theorem dX3_lookedAt_1 : decode cX3_lookedAt 1 = .ok (.iload_n 1, 1) := by decide +kernel
theorem dX3_lookedAt_2 : decode cX3_lookedAt 2 = .ok (.iload_n 2, 1) := by decide +kernel
theorem dX3_lookedAt_3 : decode cX3_lookedAt 3 = .ok (.invokevirtual 71, 3) := by decide +kernel
theorem dX3_lookedAt_6 : decode cX3_lookedAt 6 = .ok (.ifCond .eq 6, 3) := by decide +kernel
theorem dX3_lookedAt_9 : decode cX3_lookedAt 9 = .ok (.bipush (-4), 2) := by decide +kernel
theorem dX3_lookedAt_11 : decode cX3_lookedAt 11 = .ok (.ireturn, 1) := by decide +kernel
theorem dX3_lookedAt_12 : decode cX3_lookedAt 12 = .ok (.aload_n 0, 1) := by decide +kernel
theorem dX3_lookedAt_13 : decode cX3_lookedAt 13 = .ok (.getfield 12, 3) := by decide +kernel
theorem dX3_lookedAt_16 : decode cX3_lookedAt 16 = .ok (.iload_n 1, 1) := by decide +kernel
theorem dX3_lookedAt_17 : decode cX3_lookedAt 17 = .ok (.iconst 0, 1) := by decide +kernel
theorem dX3_lookedAt_18 : decode cX3_lookedAt 18 = .ok (.invokevirtual 60, 3) := by decide +kernel
theorem dX3_lookedAt_21 : decode cX3_lookedAt 21 = .ok (.istore_n 3, 1) := by decide +kernel
theorem dX3_lookedAt_22 : decode cX3_lookedAt 22 = .ok (.bipush (-4), 2) := by decide +kernel
theorem dX3_lookedAt_24 : decode cX3_lookedAt 24 = .ok (.istore 4, 2) := by decide +kernel
theorem dX3_lookedAt_26 : decode cX3_lookedAt 26 = .ok (.bipush 12, 2) := by decide +kernel
theorem dX3_lookedAt_28 : decode cX3_lookedAt 28 = .ok (.istore 5, 2) := by decide +kernel
theorem dX3_lookedAt_30 : decode cX3_lookedAt 30 = .ok (.iconst 0, 1) := by decide +kernel
theorem dX3_lookedAt_31 : decode cX3_lookedAt 31 = .ok (.istore 6, 2) := by decide +kernel
theorem dX3_lookedAt_33 : decode cX3_lookedAt 33 = .ok (.iload 6, 2) := by decide +kernel
theorem dX3_lookedAt_35 : decode cX3_lookedAt 35 = .ok (.aload_n 0, 1) := by decide +kernel
theorem dX3_lookedAt_36 : decode cX3_lookedAt 36 = .ok (.getfield 12, 3) := by decide +kernel
theorem dX3_lookedAt_39 : decode cX3_lookedAt 39 = .ok (.getfield 38, 3) := by decide +kernel
theorem dX3_lookedAt_42 : decode cX3_lookedAt 42 = .ok (.if_icmp .ge 60, 3) := by decide +kernel
theorem dX3_lookedAt_45 : decode cX3_lookedAt 45 = .ok (.aload_n 0, 1) := by decide +kernel
theorem dX3_lookedAt_46 : decode cX3_lookedAt 46 = .ok (.getfield 25, 3) := by decide +kernel
theorem dX3_lookedAt_49 : decode cX3_lookedAt 49 = .ok (.iload 6, 2) := by decide +kernel
theorem dX3_lookedAt_51 : decode cX3_lookedAt 51 = .ok (.iaload, 1) := by decide +kernel
theorem dX3_lookedAt_52 : decode cX3_lookedAt 52 = .ok (.iload_n 3, 1) := by decide +kernel
theorem dX3_lookedAt_53 : decode cX3_lookedAt 53 = .ok (.isub, 1) := by decide +kernel
theorem dX3_lookedAt_54 : decode cX3_lookedAt 54 = .ok (.invokestatic 63, 3) := by decide +kernel
theorem dX3_lookedAt_57 : decode cX3_lookedAt 57 = .ok (.istore 7, 2) := by decide +kernel
theorem dX3_lookedAt_59 : decode cX3_lookedAt 59 = .ok (.aload_n 0, 1) := by decide +kernel
theorem dX3_lookedAt_60 : decode cX3_lookedAt 60 = .ok (.iload 6, 2) := by decide +kernel
theorem dX3_lookedAt_62 : decode cX3_lookedAt 62 = .ok (.iload_n 2, 1) := by decide +kernel
theorem dX3_lookedAt_63 : decode cX3_lookedAt 63 = .ok (.invokevirtual 75, 3) := by decide +kernel
theorem dX3_lookedAt_66 : decode cX3_lookedAt 66 = .ok (.ifCond .eq 30, 3) := by decide +kernel
theorem dX3_lookedAt_69 : decode cX3_lookedAt 69 = .ok (.iload 7, 2) := by decide +kernel
theorem dX3_lookedAt_71 : decode cX3_lookedAt 71 = .ok (.aload_n 0, 1) := by decide +kernel
theorem dX3_lookedAt_72 : decode cX3_lookedAt 72 = .ok (.getfield 28, 3) := by decide +kernel
theorem dX3_lookedAt_75 : decode cX3_lookedAt 75 = .ok (.iload 6, 2) := by decide +kernel
theorem dX3_lookedAt_77 : decode cX3_lookedAt 77 = .ok (.iaload, 1) := by decide +kernel
theorem dX3_lookedAt_78 : decode cX3_lookedAt 78 = .ok (.if_icmp .gt 18, 3) := by decide +kernel
theorem dX3_lookedAt_81 : decode cX3_lookedAt 81 = .ok (.iload 7, 2) := by decide +kernel
theorem dX3_lookedAt_83 : decode cX3_lookedAt 83 = .ok (.iload 5, 2) := by decide +kernel
theorem dX3_lookedAt_85 : decode cX3_lookedAt 85 = .ok (.if_icmp .ge 11, 3) := by decide +kernel
theorem dX3_lookedAt_88 : decode cX3_lookedAt 88 = .ok (.iload 7, 2) := by decide +kernel
theorem dX3_lookedAt_90 : decode cX3_lookedAt 90 = .ok (.istore 5, 2) := by decide +kernel
theorem dX3_lookedAt_92 : decode cX3_lookedAt 92 = .ok (.iload 6, 2) := by decide +kernel
theorem dX3_lookedAt_94 : decode cX3_lookedAt 94 = .ok (.istore 4, 2) := by decide +kernel
theorem dX3_lookedAt_96 : decode cX3_lookedAt 96 = .ok (.iinc 6 1, 3) := by decide +kernel
theorem dX3_lookedAt_99 : decode cX3_lookedAt 99 = .ok (.goto (-66), 3) := by decide +kernel
theorem dX3_lookedAt_102 : decode cX3_lookedAt 102 = .ok (.iload 4, 2) := by decide +kernel
theorem dX3_lookedAt_104 : decode cX3_lookedAt 104 = .ok (.ireturn, 1) := by decide +kernel
theorem dX3_isRead_0 : decode cX3_isRead 0 = .ok (.iconst 0, 1) := by decide +kernel
theorem dX3_isRead_1 : decode cX3_isRead 1 = .ok (.istore_n 2, 1) := by decide +kernel
theorem dX3_isRead_2 : decode cX3_isRead 2 = .ok (.iload_n 2, 1) := by decide +kernel
theorem dX3_isRead_3 : decode cX3_isRead 3 = .ok (.aload_n 0, 1) := by decide +kernel
theorem dX3_isRead_4 : decode cX3_isRead 4 = .ok (.getfield 12, 3) := by decide +kernel
theorem dX3_isRead_7 : decode cX3_isRead 7 = .ok (.getfield 78, 3) := by decide +kernel
theorem dX3_isRead_10 : decode cX3_isRead 10 = .ok (.if_icmp .ge 20, 3) := by decide +kernel
theorem dX3_isRead_13 : decode cX3_isRead 13 = .ok (.aload_n 0, 1) := by decide +kernel
theorem dX3_isRead_14 : decode cX3_isRead 14 = .ok (.iload_n 2, 1) := by decide +kernel
theorem dX3_isRead_15 : decode cX3_isRead 15 = .ok (.iload_n 1, 1) := by decide +kernel
theorem dX3_isRead_16 : decode cX3_isRead 16 = .ok (.invokevirtual 81, 3) := by decide +kernel
theorem dX3_isRead_19 : decode cX3_isRead 19 = .ok (.ifCond .lt 5, 3) := by decide +kernel
theorem dX3_isRead_22 : decode cX3_isRead 22 = .ok (.iconst 1, 1) := by decide +kernel
theorem dX3_isRead_23 : decode cX3_isRead 23 = .ok (.ireturn, 1) := by decide +kernel
theorem dX3_isRead_24 : decode cX3_isRead 24 = .ok (.iinc 2 1, 3) := by decide +kernel
theorem dX3_isRead_27 : decode cX3_isRead 27 = .ok (.goto (-25), 3) := by decide +kernel
theorem dX3_isRead_30 : decode cX3_isRead 30 = .ok (.iconst 0, 1) := by decide +kernel
theorem dX3_isRead_31 : decode cX3_isRead 31 = .ok (.ireturn, 1) := by decide +kernel
theorem dX3_lookersAt_0 : decode cX3_lookersAt 0 = .ok (.iconst 0, 1) := by decide +kernel
theorem dX3_lookersAt_1 : decode cX3_lookersAt 1 = .ok (.istore_n 3, 1) := by decide +kernel
theorem dX3_lookersAt_2 : decode cX3_lookersAt 2 = .ok (.iconst 0, 1) := by decide +kernel
theorem dX3_lookersAt_3 : decode cX3_lookersAt 3 = .ok (.istore 4, 2) := by decide +kernel
theorem dX3_lookersAt_5 : decode cX3_lookersAt 5 = .ok (.iload 4, 2) := by decide +kernel
theorem dX3_lookersAt_7 : decode cX3_lookersAt 7 = .ok (.aload_n 0, 1) := by decide +kernel
theorem dX3_lookersAt_8 : decode cX3_lookersAt 8 = .ok (.getfield 12, 3) := by decide +kernel
theorem dX3_lookersAt_11 : decode cX3_lookersAt 11 = .ok (.getfield 78, 3) := by decide +kernel
theorem dX3_lookersAt_14 : decode cX3_lookersAt 14 = .ok (.if_icmp .ge 23, 3) := by decide +kernel
theorem dX3_lookersAt_17 : decode cX3_lookersAt 17 = .ok (.aload_n 0, 1) := by decide +kernel
theorem dX3_lookersAt_18 : decode cX3_lookersAt 18 = .ok (.iload 4, 2) := by decide +kernel
theorem dX3_lookersAt_20 : decode cX3_lookersAt 20 = .ok (.iload_n 2, 1) := by decide +kernel
theorem dX3_lookersAt_21 : decode cX3_lookersAt 21 = .ok (.invokevirtual 81, 3) := by decide +kernel
theorem dX3_lookersAt_24 : decode cX3_lookersAt 24 = .ok (.iload_n 1, 1) := by decide +kernel
theorem dX3_lookersAt_25 : decode cX3_lookersAt 25 = .ok (.if_icmp .ne 6, 3) := by decide +kernel
theorem dX3_lookersAt_28 : decode cX3_lookersAt 28 = .ok (.iinc 3 1, 3) := by decide +kernel
theorem dX3_lookersAt_31 : decode cX3_lookersAt 31 = .ok (.iinc 4 1, 3) := by decide +kernel
theorem dX3_lookersAt_34 : decode cX3_lookersAt 34 = .ok (.goto (-29), 3) := by decide +kernel
theorem dX3_lookersAt_37 : decode cX3_lookersAt 37 = .ok (.iload_n 3, 1) := by decide +kernel
theorem dX3_lookersAt_38 : decode cX3_lookersAt 38 = .ok (.ireturn, 1) := by decide +kernel
theorem dX3_minutesAt_0 : decode cX3_minutesAt 0 = .ok (.iconst 0, 1) := by decide +kernel
theorem dX3_minutesAt_1 : decode cX3_minutesAt 1 = .ok (.istore_n 3, 1) := by decide +kernel
theorem dX3_minutesAt_2 : decode cX3_minutesAt 2 = .ok (.aload_n 0, 1) := by decide +kernel
theorem dX3_minutesAt_3 : decode cX3_minutesAt 3 = .ok (.getfield 18, 3) := by decide +kernel
theorem dX3_minutesAt_6 : decode cX3_minutesAt 6 = .ok (.iload_n 2, 1) := by decide +kernel
theorem dX3_minutesAt_7 : decode cX3_minutesAt 7 = .ok (.iaload, 1) := by decide +kernel
theorem dX3_minutesAt_8 : decode cX3_minutesAt 8 = .ok (.istore 4, 2) := by decide +kernel
theorem dX3_minutesAt_10 : decode cX3_minutesAt 10 = .ok (.iload 4, 2) := by decide +kernel
theorem dX3_minutesAt_12 : decode cX3_minutesAt 12 = .ok (.aload_n 0, 1) := by decide +kernel
theorem dX3_minutesAt_13 : decode cX3_minutesAt 13 = .ok (.getfield 22, 3) := by decide +kernel
theorem dX3_minutesAt_16 : decode cX3_minutesAt 16 = .ok (.iload_n 2, 1) := by decide +kernel
theorem dX3_minutesAt_17 : decode cX3_minutesAt 17 = .ok (.iaload, 1) := by decide +kernel
theorem dX3_minutesAt_18 : decode cX3_minutesAt 18 = .ok (.if_icmp .ge 23, 3) := by decide +kernel
theorem dX3_minutesAt_21 : decode cX3_minutesAt 21 = .ok (.aload_n 0, 1) := by decide +kernel
theorem dX3_minutesAt_22 : decode cX3_minutesAt 22 = .ok (.iload_n 1, 1) := by decide +kernel
theorem dX3_minutesAt_23 : decode cX3_minutesAt 23 = .ok (.iload 4, 2) := by decide +kernel
theorem dX3_minutesAt_25 : decode cX3_minutesAt 25 = .ok (.invokevirtual 81, 3) := by decide +kernel
theorem dX3_minutesAt_28 : decode cX3_minutesAt 28 = .ok (.iload_n 2, 1) := by decide +kernel
theorem dX3_minutesAt_29 : decode cX3_minutesAt 29 = .ok (.if_icmp .ne 6, 3) := by decide +kernel
theorem dX3_minutesAt_32 : decode cX3_minutesAt 32 = .ok (.iinc 3 1, 3) := by decide +kernel
theorem dX3_minutesAt_35 : decode cX3_minutesAt 35 = .ok (.iinc 4 1, 3) := by decide +kernel
theorem dX3_minutesAt_38 : decode cX3_minutesAt 38 = .ok (.goto (-28), 3) := by decide +kernel
theorem dX3_minutesAt_41 : decode cX3_minutesAt 41 = .ok (.iload_n 3, 1) := by decide +kernel
theorem dX3_minutesAt_42 : decode cX3_minutesAt 42 = .ok (.ireturn, 1) := by decide +kernel
theorem dX3_isWhole_0 : decode cX3_isWhole 0 = .ok (.aload_n 0, 1) := by decide +kernel
theorem dX3_isWhole_1 : decode cX3_isWhole 1 = .ok (.iload_n 1, 1) := by decide +kernel
theorem dX3_isWhole_2 : decode cX3_isWhole 2 = .ok (.iload_n 2, 1) := by decide +kernel
theorem dX3_isWhole_3 : decode cX3_isWhole 3 = .ok (.invokevirtual 84, 3) := by decide +kernel
theorem dX3_isWhole_6 : decode cX3_isWhole 6 = .ok (.ifCond .eq 16, 3) := by decide +kernel
theorem dX3_isWhole_9 : decode cX3_isWhole 9 = .ok (.aload_n 0, 1) := by decide +kernel
theorem dX3_isWhole_10 : decode cX3_isWhole 10 = .ok (.iload_n 1, 1) := by decide +kernel
theorem dX3_isWhole_11 : decode cX3_isWhole 11 = .ok (.iload_n 2, 1) := by decide +kernel
theorem dX3_isWhole_12 : decode cX3_isWhole 12 = .ok (.invokevirtual 87, 3) := by decide +kernel
theorem dX3_isWhole_15 : decode cX3_isWhole 15 = .ok (.ifCond .ne 7, 3) := by decide +kernel
theorem dX3_isWhole_18 : decode cX3_isWhole 18 = .ok (.iconst 1, 1) := by decide +kernel
theorem dX3_isWhole_19 : decode cX3_isWhole 19 = .ok (.goto 4, 3) := by decide +kernel
theorem dX3_isWhole_22 : decode cX3_isWhole 22 = .ok (.iconst 0, 1) := by decide +kernel
theorem dX3_isWhole_23 : decode cX3_isWhole 23 = .ok (.ireturn, 1) := by decide +kernel
theorem dX3_minutesOf_0 : decode cX3_minutesOf 0 = .ok (.iconst 0, 1) := by decide +kernel
theorem dX3_minutesOf_1 : decode cX3_minutesOf 1 = .ok (.istore_n 2, 1) := by decide +kernel
theorem dX3_minutesOf_2 : decode cX3_minutesOf 2 = .ok (.iconst 0, 1) := by decide +kernel
theorem dX3_minutesOf_3 : decode cX3_minutesOf 3 = .ok (.istore_n 3, 1) := by decide +kernel
theorem dX3_minutesOf_4 : decode cX3_minutesOf 4 = .ok (.iload_n 3, 1) := by decide +kernel
theorem dX3_minutesOf_5 : decode cX3_minutesOf 5 = .ok (.aload_n 0, 1) := by decide +kernel
theorem dX3_minutesOf_6 : decode cX3_minutesOf 6 = .ok (.getfield 12, 3) := by decide +kernel
theorem dX3_minutesOf_9 : decode cX3_minutesOf 9 = .ok (.getfield 38, 3) := by decide +kernel
theorem dX3_minutesOf_12 : decode cX3_minutesOf 12 = .ok (.if_icmp .ge 18, 3) := by decide +kernel
theorem dX3_minutesOf_15 : decode cX3_minutesOf 15 = .ok (.iload_n 2, 1) := by decide +kernel
theorem dX3_minutesOf_16 : decode cX3_minutesOf 16 = .ok (.aload_n 0, 1) := by decide +kernel
theorem dX3_minutesOf_17 : decode cX3_minutesOf 17 = .ok (.iload_n 1, 1) := by decide +kernel
theorem dX3_minutesOf_18 : decode cX3_minutesOf 18 = .ok (.iload_n 3, 1) := by decide +kernel
theorem dX3_minutesOf_19 : decode cX3_minutesOf 19 = .ok (.invokevirtual 90, 3) := by decide +kernel
theorem dX3_minutesOf_22 : decode cX3_minutesOf 22 = .ok (.iadd, 1) := by decide +kernel
theorem dX3_minutesOf_23 : decode cX3_minutesOf 23 = .ok (.istore_n 2, 1) := by decide +kernel
theorem dX3_minutesOf_24 : decode cX3_minutesOf 24 = .ok (.iinc 3 1, 3) := by decide +kernel
theorem dX3_minutesOf_27 : decode cX3_minutesOf 27 = .ok (.goto (-23), 3) := by decide +kernel
theorem dX3_minutesOf_30 : decode cX3_minutesOf 30 = .ok (.iload_n 2, 1) := by decide +kernel
theorem dX3_minutesOf_31 : decode cX3_minutesOf 31 = .ok (.ireturn, 1) := by decide +kernel
theorem dX3_minutesByAll_0 : decode cX3_minutesByAll 0 = .ok (.iconst 0, 1) := by decide +kernel
theorem dX3_minutesByAll_1 : decode cX3_minutesByAll 1 = .ok (.istore_n 2, 1) := by decide +kernel
theorem dX3_minutesByAll_2 : decode cX3_minutesByAll 2 = .ok (.iconst 0, 1) := by decide +kernel
theorem dX3_minutesByAll_3 : decode cX3_minutesByAll 3 = .ok (.istore_n 3, 1) := by decide +kernel
theorem dX3_minutesByAll_4 : decode cX3_minutesByAll 4 = .ok (.iload_n 3, 1) := by decide +kernel
theorem dX3_minutesByAll_5 : decode cX3_minutesByAll 5 = .ok (.aload_n 0, 1) := by decide +kernel
theorem dX3_minutesByAll_6 : decode cX3_minutesByAll 6 = .ok (.getfield 12, 3) := by decide +kernel
theorem dX3_minutesByAll_9 : decode cX3_minutesByAll 9 = .ok (.getfield 78, 3) := by decide +kernel
theorem dX3_minutesByAll_12 : decode cX3_minutesByAll 12 = .ok (.if_icmp .ge 18, 3) := by decide +kernel
theorem dX3_minutesByAll_15 : decode cX3_minutesByAll 15 = .ok (.iload_n 2, 1) := by decide +kernel
theorem dX3_minutesByAll_16 : decode cX3_minutesByAll 16 = .ok (.aload_n 0, 1) := by decide +kernel
theorem dX3_minutesByAll_17 : decode cX3_minutesByAll 17 = .ok (.iload_n 3, 1) := by decide +kernel
theorem dX3_minutesByAll_18 : decode cX3_minutesByAll 18 = .ok (.iload_n 1, 1) := by decide +kernel
theorem dX3_minutesByAll_19 : decode cX3_minutesByAll 19 = .ok (.invokevirtual 90, 3) := by decide +kernel
theorem dX3_minutesByAll_22 : decode cX3_minutesByAll 22 = .ok (.iadd, 1) := by decide +kernel
theorem dX3_minutesByAll_23 : decode cX3_minutesByAll 23 = .ok (.istore_n 2, 1) := by decide +kernel
theorem dX3_minutesByAll_24 : decode cX3_minutesByAll 24 = .ok (.iinc 3 1, 3) := by decide +kernel
theorem dX3_minutesByAll_27 : decode cX3_minutesByAll 27 = .ok (.goto (-23), 3) := by decide +kernel
theorem dX3_minutesByAll_30 : decode cX3_minutesByAll 30 = .ok (.iload_n 2, 1) := by decide +kernel
theorem dX3_minutesByAll_31 : decode cX3_minutesByAll 31 = .ok (.ireturn, 1) := by decide +kernel
theorem dX3_minutesOfAll_0 : decode cX3_minutesOfAll 0 = .ok (.iconst 0, 1) := by decide +kernel
theorem dX3_minutesOfAll_1 : decode cX3_minutesOfAll 1 = .ok (.istore_n 1, 1) := by decide +kernel
theorem dX3_minutesOfAll_2 : decode cX3_minutesOfAll 2 = .ok (.iconst 0, 1) := by decide +kernel
theorem dX3_minutesOfAll_3 : decode cX3_minutesOfAll 3 = .ok (.istore_n 2, 1) := by decide +kernel
theorem dX3_minutesOfAll_4 : decode cX3_minutesOfAll 4 = .ok (.iload_n 2, 1) := by decide +kernel
theorem dX3_minutesOfAll_5 : decode cX3_minutesOfAll 5 = .ok (.aload_n 0, 1) := by decide +kernel
theorem dX3_minutesOfAll_6 : decode cX3_minutesOfAll 6 = .ok (.getfield 12, 3) := by decide +kernel
theorem dX3_minutesOfAll_9 : decode cX3_minutesOfAll 9 = .ok (.getfield 78, 3) := by decide +kernel
theorem dX3_minutesOfAll_12 : decode cX3_minutesOfAll 12 = .ok (.if_icmp .ge 37, 3) := by decide +kernel
theorem dX3_minutesOfAll_15 : decode cX3_minutesOfAll 15 = .ok (.iconst 0, 1) := by decide +kernel
theorem dX3_minutesOfAll_16 : decode cX3_minutesOfAll 16 = .ok (.istore_n 3, 1) := by decide +kernel
theorem dX3_minutesOfAll_17 : decode cX3_minutesOfAll 17 = .ok (.iload_n 3, 1) := by decide +kernel
theorem dX3_minutesOfAll_18 : decode cX3_minutesOfAll 18 = .ok (.aload_n 0, 1) := by decide +kernel
theorem dX3_minutesOfAll_19 : decode cX3_minutesOfAll 19 = .ok (.getfield 12, 3) := by decide +kernel
theorem dX3_minutesOfAll_22 : decode cX3_minutesOfAll 22 = .ok (.getfield 38, 3) := by decide +kernel
theorem dX3_minutesOfAll_25 : decode cX3_minutesOfAll 25 = .ok (.if_icmp .ge 18, 3) := by decide +kernel
theorem dX3_minutesOfAll_28 : decode cX3_minutesOfAll 28 = .ok (.iload_n 1, 1) := by decide +kernel
theorem dX3_minutesOfAll_29 : decode cX3_minutesOfAll 29 = .ok (.aload_n 0, 1) := by decide +kernel
theorem dX3_minutesOfAll_30 : decode cX3_minutesOfAll 30 = .ok (.iload_n 2, 1) := by decide +kernel
theorem dX3_minutesOfAll_31 : decode cX3_minutesOfAll 31 = .ok (.iload_n 3, 1) := by decide +kernel
theorem dX3_minutesOfAll_32 : decode cX3_minutesOfAll 32 = .ok (.invokevirtual 90, 3) := by decide +kernel
theorem dX3_minutesOfAll_35 : decode cX3_minutesOfAll 35 = .ok (.iadd, 1) := by decide +kernel
theorem dX3_minutesOfAll_36 : decode cX3_minutesOfAll 36 = .ok (.istore_n 1, 1) := by decide +kernel
theorem dX3_minutesOfAll_37 : decode cX3_minutesOfAll 37 = .ok (.iinc 3 1, 3) := by decide +kernel
theorem dX3_minutesOfAll_40 : decode cX3_minutesOfAll 40 = .ok (.goto (-23), 3) := by decide +kernel
theorem dX3_minutesOfAll_43 : decode cX3_minutesOfAll 43 = .ok (.iinc 2 1, 3) := by decide +kernel
theorem dX3_minutesOfAll_46 : decode cX3_minutesOfAll 46 = .ok (.goto (-42), 3) := by decide +kernel
theorem dX3_minutesOfAll_49 : decode cX3_minutesOfAll 49 = .ok (.iload_n 1, 1) := by decide +kernel
theorem dX3_minutesOfAll_50 : decode cX3_minutesOfAll 50 = .ok (.ireturn, 1) := by decide +kernel
theorem dX3_worksWhole_0 : decode cX3_worksWhole 0 = .ok (.iconst 0, 1) := by decide +kernel
theorem dX3_worksWhole_1 : decode cX3_worksWhole 1 = .ok (.istore_n 2, 1) := by decide +kernel
theorem dX3_worksWhole_2 : decode cX3_worksWhole 2 = .ok (.iconst 0, 1) := by decide +kernel
theorem dX3_worksWhole_3 : decode cX3_worksWhole 3 = .ok (.istore_n 3, 1) := by decide +kernel
theorem dX3_worksWhole_4 : decode cX3_worksWhole 4 = .ok (.iload_n 3, 1) := by decide +kernel
theorem dX3_worksWhole_5 : decode cX3_worksWhole 5 = .ok (.aload_n 0, 1) := by decide +kernel
theorem dX3_worksWhole_6 : decode cX3_worksWhole 6 = .ok (.getfield 12, 3) := by decide +kernel
theorem dX3_worksWhole_9 : decode cX3_worksWhole 9 = .ok (.getfield 38, 3) := by decide +kernel
theorem dX3_worksWhole_12 : decode cX3_worksWhole 12 = .ok (.if_icmp .ge 24, 3) := by decide +kernel
theorem dX3_worksWhole_15 : decode cX3_worksWhole 15 = .ok (.aload_n 0, 1) := by decide +kernel
theorem dX3_worksWhole_16 : decode cX3_worksWhole 16 = .ok (.iload_n 1, 1) := by decide +kernel
theorem dX3_worksWhole_17 : decode cX3_worksWhole 17 = .ok (.iload_n 3, 1) := by decide +kernel
theorem dX3_worksWhole_18 : decode cX3_worksWhole 18 = .ok (.invokevirtual 93, 3) := by decide +kernel
theorem dX3_worksWhole_21 : decode cX3_worksWhole 21 = .ok (.ifCond .eq 9, 3) := by decide +kernel
theorem dX3_worksWhole_24 : decode cX3_worksWhole 24 = .ok (.iload_n 2, 1) := by decide +kernel
theorem dX3_worksWhole_25 : decode cX3_worksWhole 25 = .ok (.iconst 1, 1) := by decide +kernel
theorem dX3_worksWhole_26 : decode cX3_worksWhole 26 = .ok (.iload_n 3, 1) := by decide +kernel
theorem dX3_worksWhole_27 : decode cX3_worksWhole 27 = .ok (.ishl, 1) := by decide +kernel
theorem dX3_worksWhole_28 : decode cX3_worksWhole 28 = .ok (.ior, 1) := by decide +kernel
theorem dX3_worksWhole_29 : decode cX3_worksWhole 29 = .ok (.istore_n 2, 1) := by decide +kernel
theorem dX3_worksWhole_30 : decode cX3_worksWhole 30 = .ok (.iinc 3 1, 3) := by decide +kernel
theorem dX3_worksWhole_33 : decode cX3_worksWhole 33 = .ok (.goto (-29), 3) := by decide +kernel
theorem dX3_worksWhole_36 : decode cX3_worksWhole 36 = .ok (.iload_n 2, 1) := by decide +kernel
theorem dX3_worksWhole_37 : decode cX3_worksWhole 37 = .ok (.ireturn, 1) := by decide +kernel
theorem dX3_readersWhole_0 : decode cX3_readersWhole 0 = .ok (.iconst 0, 1) := by decide +kernel
theorem dX3_readersWhole_1 : decode cX3_readersWhole 1 = .ok (.istore_n 2, 1) := by decide +kernel
theorem dX3_readersWhole_2 : decode cX3_readersWhole 2 = .ok (.iconst 0, 1) := by decide +kernel
theorem dX3_readersWhole_3 : decode cX3_readersWhole 3 = .ok (.istore_n 3, 1) := by decide +kernel
theorem dX3_readersWhole_4 : decode cX3_readersWhole 4 = .ok (.iload_n 3, 1) := by decide +kernel
theorem dX3_readersWhole_5 : decode cX3_readersWhole 5 = .ok (.aload_n 0, 1) := by decide +kernel
theorem dX3_readersWhole_6 : decode cX3_readersWhole 6 = .ok (.getfield 12, 3) := by decide +kernel
theorem dX3_readersWhole_9 : decode cX3_readersWhole 9 = .ok (.getfield 78, 3) := by decide +kernel
theorem dX3_readersWhole_12 : decode cX3_readersWhole 12 = .ok (.if_icmp .ge 24, 3) := by decide +kernel
theorem dX3_readersWhole_15 : decode cX3_readersWhole 15 = .ok (.aload_n 0, 1) := by decide +kernel
theorem dX3_readersWhole_16 : decode cX3_readersWhole 16 = .ok (.iload_n 3, 1) := by decide +kernel
theorem dX3_readersWhole_17 : decode cX3_readersWhole 17 = .ok (.iload_n 1, 1) := by decide +kernel
theorem dX3_readersWhole_18 : decode cX3_readersWhole 18 = .ok (.invokevirtual 93, 3) := by decide +kernel
theorem dX3_readersWhole_21 : decode cX3_readersWhole 21 = .ok (.ifCond .eq 9, 3) := by decide +kernel
theorem dX3_readersWhole_24 : decode cX3_readersWhole 24 = .ok (.iload_n 2, 1) := by decide +kernel
theorem dX3_readersWhole_25 : decode cX3_readersWhole 25 = .ok (.iconst 1, 1) := by decide +kernel
theorem dX3_readersWhole_26 : decode cX3_readersWhole 26 = .ok (.iload_n 3, 1) := by decide +kernel
theorem dX3_readersWhole_27 : decode cX3_readersWhole 27 = .ok (.ishl, 1) := by decide +kernel
theorem dX3_readersWhole_28 : decode cX3_readersWhole 28 = .ok (.ior, 1) := by decide +kernel
theorem dX3_readersWhole_29 : decode cX3_readersWhole 29 = .ok (.istore_n 2, 1) := by decide +kernel
theorem dX3_readersWhole_30 : decode cX3_readersWhole 30 = .ok (.iinc 3 1, 3) := by decide +kernel
theorem dX3_readersWhole_33 : decode cX3_readersWhole 33 = .ok (.goto (-29), 3) := by decide +kernel
theorem dX3_readersWhole_36 : decode cX3_readersWhole 36 = .ok (.iload_n 2, 1) := by decide +kernel
theorem dX3_readersWhole_37 : decode cX3_readersWhole 37 = .ok (.ireturn, 1) := by decide +kernel
theorem dX3_wholesOfAll_0 : decode cX3_wholesOfAll 0 = .ok (.iconst 0, 1) := by decide +kernel
theorem dX3_wholesOfAll_1 : decode cX3_wholesOfAll 1 = .ok (.istore_n 1, 1) := by decide +kernel
theorem dX3_wholesOfAll_2 : decode cX3_wholesOfAll 2 = .ok (.iconst 0, 1) := by decide +kernel
theorem dX3_wholesOfAll_3 : decode cX3_wholesOfAll 3 = .ok (.istore_n 2, 1) := by decide +kernel
theorem dX3_wholesOfAll_4 : decode cX3_wholesOfAll 4 = .ok (.iload_n 2, 1) := by decide +kernel
theorem dX3_wholesOfAll_5 : decode cX3_wholesOfAll 5 = .ok (.aload_n 0, 1) := by decide +kernel
theorem dX3_wholesOfAll_6 : decode cX3_wholesOfAll 6 = .ok (.getfield 12, 3) := by decide +kernel
theorem dX3_wholesOfAll_9 : decode cX3_wholesOfAll 9 = .ok (.getfield 78, 3) := by decide +kernel
theorem dX3_wholesOfAll_12 : decode cX3_wholesOfAll 12 = .ok (.if_icmp .ge 40, 3) := by decide +kernel
theorem dX3_wholesOfAll_15 : decode cX3_wholesOfAll 15 = .ok (.iconst 0, 1) := by decide +kernel
theorem dX3_wholesOfAll_16 : decode cX3_wholesOfAll 16 = .ok (.istore_n 3, 1) := by decide +kernel
theorem dX3_wholesOfAll_17 : decode cX3_wholesOfAll 17 = .ok (.iload_n 3, 1) := by decide +kernel
theorem dX3_wholesOfAll_18 : decode cX3_wholesOfAll 18 = .ok (.aload_n 0, 1) := by decide +kernel
theorem dX3_wholesOfAll_19 : decode cX3_wholesOfAll 19 = .ok (.getfield 12, 3) := by decide +kernel
theorem dX3_wholesOfAll_22 : decode cX3_wholesOfAll 22 = .ok (.getfield 38, 3) := by decide +kernel
theorem dX3_wholesOfAll_25 : decode cX3_wholesOfAll 25 = .ok (.if_icmp .ge 21, 3) := by decide +kernel
theorem dX3_wholesOfAll_28 : decode cX3_wholesOfAll 28 = .ok (.aload_n 0, 1) := by decide +kernel
theorem dX3_wholesOfAll_29 : decode cX3_wholesOfAll 29 = .ok (.iload_n 2, 1) := by decide +kernel
theorem dX3_wholesOfAll_30 : decode cX3_wholesOfAll 30 = .ok (.iload_n 3, 1) := by decide +kernel
theorem dX3_wholesOfAll_31 : decode cX3_wholesOfAll 31 = .ok (.invokevirtual 93, 3) := by decide +kernel
theorem dX3_wholesOfAll_34 : decode cX3_wholesOfAll 34 = .ok (.ifCond .eq 6, 3) := by decide +kernel
theorem dX3_wholesOfAll_37 : decode cX3_wholesOfAll 37 = .ok (.iinc 1 1, 3) := by decide +kernel
theorem dX3_wholesOfAll_40 : decode cX3_wholesOfAll 40 = .ok (.iinc 3 1, 3) := by decide +kernel
theorem dX3_wholesOfAll_43 : decode cX3_wholesOfAll 43 = .ok (.goto (-26), 3) := by decide +kernel
theorem dX3_wholesOfAll_46 : decode cX3_wholesOfAll 46 = .ok (.iinc 2 1, 3) := by decide +kernel
theorem dX3_wholesOfAll_49 : decode cX3_wholesOfAll 49 = .ok (.goto (-45), 3) := by decide +kernel
theorem dX3_wholesOfAll_52 : decode cX3_wholesOfAll 52 = .ok (.iload_n 1, 1) := by decide +kernel
theorem dX3_wholesOfAll_53 : decode cX3_wholesOfAll 53 = .ok (.ireturn, 1) := by decide +kernel
theorem dX3_isWholeAlone_0 : decode cX3_isWholeAlone 0 = .ok (.aload_n 0, 1) := by decide +kernel
theorem dX3_isWholeAlone_1 : decode cX3_isWholeAlone 1 = .ok (.getfield 22, 3) := by decide +kernel
theorem dX3_isWholeAlone_4 : decode cX3_isWholeAlone 4 = .ok (.iload_n 2, 1) := by decide +kernel
theorem dX3_isWholeAlone_5 : decode cX3_isWholeAlone 5 = .ok (.iaload, 1) := by decide +kernel
theorem dX3_isWholeAlone_6 : decode cX3_isWholeAlone 6 = .ok (.aload_n 0, 1) := by decide +kernel
theorem dX3_isWholeAlone_7 : decode cX3_isWholeAlone 7 = .ok (.getfield 18, 3) := by decide +kernel
theorem dX3_isWholeAlone_10 : decode cX3_isWholeAlone 10 = .ok (.iload_n 2, 1) := by decide +kernel
theorem dX3_isWholeAlone_11 : decode cX3_isWholeAlone 11 = .ok (.iaload, 1) := by decide +kernel
theorem dX3_isWholeAlone_12 : decode cX3_isWholeAlone 12 = .ok (.if_icmp .le 12, 3) := by decide +kernel
theorem dX3_isWholeAlone_15 : decode cX3_isWholeAlone 15 = .ok (.aload_n 0, 1) := by decide +kernel
theorem dX3_isWholeAlone_16 : decode cX3_isWholeAlone 16 = .ok (.iload_n 1, 1) := by decide +kernel
theorem dX3_isWholeAlone_17 : decode cX3_isWholeAlone 17 = .ok (.iload_n 2, 1) := by decide +kernel
theorem dX3_isWholeAlone_18 : decode cX3_isWholeAlone 18 = .ok (.invokevirtual 96, 3) := by decide +kernel
theorem dX3_isWholeAlone_21 : decode cX3_isWholeAlone 21 = .ok (.ifCond .ne 5, 3) := by decide +kernel
theorem dX3_isWholeAlone_24 : decode cX3_isWholeAlone 24 = .ok (.iconst 0, 1) := by decide +kernel
theorem dX3_isWholeAlone_25 : decode cX3_isWholeAlone 25 = .ok (.ireturn, 1) := by decide +kernel
theorem dX3_isWholeAlone_26 : decode cX3_isWholeAlone 26 = .ok (.aload_n 0, 1) := by decide +kernel
theorem dX3_isWholeAlone_27 : decode cX3_isWholeAlone 27 = .ok (.getfield 18, 3) := by decide +kernel
theorem dX3_isWholeAlone_30 : decode cX3_isWholeAlone 30 = .ok (.iload_n 2, 1) := by decide +kernel
theorem dX3_isWholeAlone_31 : decode cX3_isWholeAlone 31 = .ok (.iaload, 1) := by decide +kernel
theorem dX3_isWholeAlone_32 : decode cX3_isWholeAlone 32 = .ok (.istore_n 3, 1) := by decide +kernel
theorem dX3_isWholeAlone_33 : decode cX3_isWholeAlone 33 = .ok (.iload_n 3, 1) := by decide +kernel
theorem dX3_isWholeAlone_34 : decode cX3_isWholeAlone 34 = .ok (.aload_n 0, 1) := by decide +kernel
theorem dX3_isWholeAlone_35 : decode cX3_isWholeAlone 35 = .ok (.getfield 22, 3) := by decide +kernel
theorem dX3_isWholeAlone_38 : decode cX3_isWholeAlone 38 = .ok (.iload_n 2, 1) := by decide +kernel
theorem dX3_isWholeAlone_39 : decode cX3_isWholeAlone 39 = .ok (.iaload, 1) := by decide +kernel
theorem dX3_isWholeAlone_40 : decode cX3_isWholeAlone 40 = .ok (.if_icmp .ge 20, 3) := by decide +kernel
theorem dX3_isWholeAlone_43 : decode cX3_isWholeAlone 43 = .ok (.aload_n 0, 1) := by decide +kernel
theorem dX3_isWholeAlone_44 : decode cX3_isWholeAlone 44 = .ok (.iload_n 1, 1) := by decide +kernel
theorem dX3_isWholeAlone_45 : decode cX3_isWholeAlone 45 = .ok (.iload_n 3, 1) := by decide +kernel
theorem dX3_isWholeAlone_46 : decode cX3_isWholeAlone 46 = .ok (.invokevirtual 71, 3) := by decide +kernel
theorem dX3_isWholeAlone_49 : decode cX3_isWholeAlone 49 = .ok (.ifCond .eq 5, 3) := by decide +kernel
theorem dX3_isWholeAlone_52 : decode cX3_isWholeAlone 52 = .ok (.iconst 0, 1) := by decide +kernel
theorem dX3_isWholeAlone_53 : decode cX3_isWholeAlone 53 = .ok (.ireturn, 1) := by decide +kernel
theorem dX3_isWholeAlone_54 : decode cX3_isWholeAlone 54 = .ok (.iinc 3 1, 3) := by decide +kernel
theorem dX3_isWholeAlone_57 : decode cX3_isWholeAlone 57 = .ok (.goto (-24), 3) := by decide +kernel
theorem dX3_isWholeAlone_60 : decode cX3_isWholeAlone 60 = .ok (.iconst 1, 1) := by decide +kernel
theorem dX3_isWholeAlone_61 : decode cX3_isWholeAlone 61 = .ok (.ireturn, 1) := by decide +kernel
theorem dX3_rivalsOf_0 : decode cX3_rivalsOf 0 = .ok (.iconst 0, 1) := by decide +kernel
theorem dX3_rivalsOf_1 : decode cX3_rivalsOf 1 = .ok (.istore_n 3, 1) := by decide +kernel
theorem dX3_rivalsOf_2 : decode cX3_rivalsOf 2 = .ok (.iconst 0, 1) := by decide +kernel
theorem dX3_rivalsOf_3 : decode cX3_rivalsOf 3 = .ok (.istore 4, 2) := by decide +kernel
theorem dX3_rivalsOf_5 : decode cX3_rivalsOf 5 = .ok (.iload 4, 2) := by decide +kernel
theorem dX3_rivalsOf_7 : decode cX3_rivalsOf 7 = .ok (.aload_n 0, 1) := by decide +kernel
theorem dX3_rivalsOf_8 : decode cX3_rivalsOf 8 = .ok (.getfield 12, 3) := by decide +kernel
theorem dX3_rivalsOf_11 : decode cX3_rivalsOf 11 = .ok (.getfield 38, 3) := by decide +kernel
theorem dX3_rivalsOf_14 : decode cX3_rivalsOf 14 = .ok (.if_icmp .ge 49, 3) := by decide +kernel
theorem dX3_rivalsOf_17 : decode cX3_rivalsOf 17 = .ok (.iload 4, 2) := by decide +kernel
theorem dX3_rivalsOf_19 : decode cX3_rivalsOf 19 = .ok (.iload_n 2, 1) := by decide +kernel
theorem dX3_rivalsOf_20 : decode cX3_rivalsOf 20 = .ok (.if_icmp .eq 37, 3) := by decide +kernel
theorem dX3_rivalsOf_23 : decode cX3_rivalsOf 23 = .ok (.aload_n 0, 1) := by decide +kernel
theorem dX3_rivalsOf_24 : decode cX3_rivalsOf 24 = .ok (.iload 4, 2) := by decide +kernel
theorem dX3_rivalsOf_26 : decode cX3_rivalsOf 26 = .ok (.iload_n 2, 1) := by decide +kernel
theorem dX3_rivalsOf_27 : decode cX3_rivalsOf 27 = .ok (.invokevirtual 99, 3) := by decide +kernel
theorem dX3_rivalsOf_30 : decode cX3_rivalsOf 30 = .ok (.ifCond .eq 27, 3) := by decide +kernel
theorem dX3_rivalsOf_33 : decode cX3_rivalsOf 33 = .ok (.aload_n 0, 1) := by decide +kernel
theorem dX3_rivalsOf_34 : decode cX3_rivalsOf 34 = .ok (.iload_n 1, 1) := by decide +kernel
theorem dX3_rivalsOf_35 : decode cX3_rivalsOf 35 = .ok (.iload 4, 2) := by decide +kernel
theorem dX3_rivalsOf_37 : decode cX3_rivalsOf 37 = .ok (.invokevirtual 96, 3) := by decide +kernel
theorem dX3_rivalsOf_40 : decode cX3_rivalsOf 40 = .ok (.ifCond .eq 17, 3) := by decide +kernel
theorem dX3_rivalsOf_43 : decode cX3_rivalsOf 43 = .ok (.aload_n 0, 1) := by decide +kernel
theorem dX3_rivalsOf_44 : decode cX3_rivalsOf 44 = .ok (.iload_n 1, 1) := by decide +kernel
theorem dX3_rivalsOf_45 : decode cX3_rivalsOf 45 = .ok (.iload 4, 2) := by decide +kernel
theorem dX3_rivalsOf_47 : decode cX3_rivalsOf 47 = .ok (.iload_n 2, 1) := by decide +kernel
theorem dX3_rivalsOf_48 : decode cX3_rivalsOf 48 = .ok (.invokevirtual 102, 3) := by decide +kernel
theorem dX3_rivalsOf_51 : decode cX3_rivalsOf 51 = .ok (.ifCond .eq 6, 3) := by decide +kernel
theorem dX3_rivalsOf_54 : decode cX3_rivalsOf 54 = .ok (.iinc 3 1, 3) := by decide +kernel
theorem dX3_rivalsOf_57 : decode cX3_rivalsOf 57 = .ok (.iinc 4 1, 3) := by decide +kernel
theorem dX3_rivalsOf_60 : decode cX3_rivalsOf 60 = .ok (.goto (-55), 3) := by decide +kernel
theorem dX3_rivalsOf_63 : decode cX3_rivalsOf 63 = .ok (.iload_n 3, 1) := by decide +kernel
theorem dX3_rivalsOf_64 : decode cX3_rivalsOf 64 = .ok (.ireturn, 1) := by decide +kernel
theorem dX3_overlap_0 : decode cX3_overlap 0 = .ok (.aload_n 0, 1) := by decide +kernel
theorem dX3_overlap_1 : decode cX3_overlap 1 = .ok (.getfield 18, 3) := by decide +kernel
theorem dX3_overlap_4 : decode cX3_overlap 4 = .ok (.iload_n 1, 1) := by decide +kernel
theorem dX3_overlap_5 : decode cX3_overlap 5 = .ok (.iaload, 1) := by decide +kernel
theorem dX3_overlap_6 : decode cX3_overlap 6 = .ok (.aload_n 0, 1) := by decide +kernel
theorem dX3_overlap_7 : decode cX3_overlap 7 = .ok (.getfield 18, 3) := by decide +kernel
theorem dX3_overlap_10 : decode cX3_overlap 10 = .ok (.iload_n 2, 1) := by decide +kernel
theorem dX3_overlap_11 : decode cX3_overlap 11 = .ok (.iaload, 1) := by decide +kernel
theorem dX3_overlap_12 : decode cX3_overlap 12 = .ok (.invokestatic 106, 3) := by decide +kernel
theorem dX3_overlap_15 : decode cX3_overlap 15 = .ok (.aload_n 0, 1) := by decide +kernel
theorem dX3_overlap_16 : decode cX3_overlap 16 = .ok (.getfield 22, 3) := by decide +kernel
theorem dX3_overlap_19 : decode cX3_overlap 19 = .ok (.iload_n 1, 1) := by decide +kernel
theorem dX3_overlap_20 : decode cX3_overlap 20 = .ok (.iaload, 1) := by decide +kernel
theorem dX3_overlap_21 : decode cX3_overlap 21 = .ok (.aload_n 0, 1) := by decide +kernel
theorem dX3_overlap_22 : decode cX3_overlap 22 = .ok (.getfield 22, 3) := by decide +kernel
theorem dX3_overlap_25 : decode cX3_overlap 25 = .ok (.iload_n 2, 1) := by decide +kernel
theorem dX3_overlap_26 : decode cX3_overlap 26 = .ok (.iaload, 1) := by decide +kernel
theorem dX3_overlap_27 : decode cX3_overlap 27 = .ok (.invokestatic 109, 3) := by decide +kernel
theorem dX3_overlap_30 : decode cX3_overlap 30 = .ok (.if_icmp .ge 7, 3) := by decide +kernel
theorem dX3_overlap_33 : decode cX3_overlap 33 = .ok (.iconst 1, 1) := by decide +kernel
theorem dX3_overlap_34 : decode cX3_overlap 34 = .ok (.goto 4, 3) := by decide +kernel
theorem dX3_overlap_37 : decode cX3_overlap 37 = .ok (.iconst 0, 1) := by decide +kernel
theorem dX3_overlap_38 : decode cX3_overlap 38 = .ok (.ireturn, 1) := by decide +kernel
theorem dX3_isBefore_0 : decode cX3_isBefore 0 = .ok (.aload_n 0, 1) := by decide +kernel
theorem dX3_isBefore_1 : decode cX3_isBefore 1 = .ok (.iload_n 1, 1) := by decide +kernel
theorem dX3_isBefore_2 : decode cX3_isBefore 2 = .ok (.iload_n 2, 1) := by decide +kernel
theorem dX3_isBefore_3 : decode cX3_isBefore 3 = .ok (.invokevirtual 68, 3) := by decide +kernel
theorem dX3_isBefore_6 : decode cX3_isBefore 6 = .ok (.istore 4, 2) := by decide +kernel
theorem dX3_isBefore_8 : decode cX3_isBefore 8 = .ok (.aload_n 0, 1) := by decide +kernel
theorem dX3_isBefore_9 : decode cX3_isBefore 9 = .ok (.iload_n 1, 1) := by decide +kernel
theorem dX3_isBefore_10 : decode cX3_isBefore 10 = .ok (.iload_n 3, 1) := by decide +kernel
theorem dX3_isBefore_11 : decode cX3_isBefore 11 = .ok (.invokevirtual 68, 3) := by decide +kernel
theorem dX3_isBefore_14 : decode cX3_isBefore 14 = .ok (.istore 5, 2) := by decide +kernel
theorem dX3_isBefore_16 : decode cX3_isBefore 16 = .ok (.iload 4, 2) := by decide +kernel
theorem dX3_isBefore_18 : decode cX3_isBefore 18 = .ok (.iload 5, 2) := by decide +kernel
theorem dX3_isBefore_20 : decode cX3_isBefore 20 = .ok (.if_icmp .lt 15, 3) := by decide +kernel
theorem dX3_isBefore_23 : decode cX3_isBefore 23 = .ok (.iload 4, 2) := by decide +kernel
theorem dX3_isBefore_25 : decode cX3_isBefore 25 = .ok (.iload 5, 2) := by decide +kernel
theorem dX3_isBefore_27 : decode cX3_isBefore 27 = .ok (.if_icmp .ne 12, 3) := by decide +kernel
theorem dX3_isBefore_30 : decode cX3_isBefore 30 = .ok (.iload_n 2, 1) := by decide +kernel
theorem dX3_isBefore_31 : decode cX3_isBefore 31 = .ok (.iload_n 3, 1) := by decide +kernel
theorem dX3_isBefore_32 : decode cX3_isBefore 32 = .ok (.if_icmp .ge 7, 3) := by decide +kernel
theorem dX3_isBefore_35 : decode cX3_isBefore 35 = .ok (.iconst 1, 1) := by decide +kernel
theorem dX3_isBefore_36 : decode cX3_isBefore 36 = .ok (.goto 4, 3) := by decide +kernel
theorem dX3_isBefore_39 : decode cX3_isBefore 39 = .ok (.iconst 0, 1) := by decide +kernel
theorem dX3_isBefore_40 : decode cX3_isBefore 40 = .ok (.ireturn, 1) := by decide +kernel
theorem dX3_choicesOf_0 : decode cX3_choicesOf 0 = .ok (.aload_n 0, 1) := by decide +kernel
theorem dX3_choicesOf_1 : decode cX3_choicesOf 1 = .ok (.iload_n 1, 1) := by decide +kernel
theorem dX3_choicesOf_2 : decode cX3_choicesOf 2 = .ok (.iload_n 2, 1) := by decide +kernel
theorem dX3_choicesOf_3 : decode cX3_choicesOf 3 = .ok (.invokevirtual 71, 3) := by decide +kernel
theorem dX3_choicesOf_6 : decode cX3_choicesOf 6 = .ok (.ifCond .eq 5, 3) := by decide +kernel
theorem dX3_choicesOf_9 : decode cX3_choicesOf 9 = .ok (.iconst 0, 1) := by decide +kernel
theorem dX3_choicesOf_10 : decode cX3_choicesOf 10 = .ok (.ireturn, 1) := by decide +kernel
theorem dX3_choicesOf_11 : decode cX3_choicesOf 11 = .ok (.iconst 0, 1) := by decide +kernel
theorem dX3_choicesOf_12 : decode cX3_choicesOf 12 = .ok (.istore_n 3, 1) := by decide +kernel
theorem dX3_choicesOf_13 : decode cX3_choicesOf 13 = .ok (.iconst 0, 1) := by decide +kernel
theorem dX3_choicesOf_14 : decode cX3_choicesOf 14 = .ok (.istore 4, 2) := by decide +kernel
theorem dX3_choicesOf_16 : decode cX3_choicesOf 16 = .ok (.iload 4, 2) := by decide +kernel
theorem dX3_choicesOf_18 : decode cX3_choicesOf 18 = .ok (.aload_n 0, 1) := by decide +kernel
theorem dX3_choicesOf_19 : decode cX3_choicesOf 19 = .ok (.getfield 12, 3) := by decide +kernel
theorem dX3_choicesOf_22 : decode cX3_choicesOf 22 = .ok (.getfield 38, 3) := by decide +kernel
theorem dX3_choicesOf_25 : decode cX3_choicesOf 25 = .ok (.if_icmp .ge 32, 3) := by decide +kernel
theorem dX3_choicesOf_28 : decode cX3_choicesOf 28 = .ok (.aload_n 0, 1) := by decide +kernel
theorem dX3_choicesOf_29 : decode cX3_choicesOf 29 = .ok (.iload 4, 2) := by decide +kernel
theorem dX3_choicesOf_31 : decode cX3_choicesOf 31 = .ok (.iload_n 2, 1) := by decide +kernel
theorem dX3_choicesOf_32 : decode cX3_choicesOf 32 = .ok (.invokevirtual 75, 3) := by decide +kernel
theorem dX3_choicesOf_35 : decode cX3_choicesOf 35 = .ok (.ifCond .eq 16, 3) := by decide +kernel
theorem dX3_choicesOf_38 : decode cX3_choicesOf 38 = .ok (.aload_n 0, 1) := by decide +kernel
theorem dX3_choicesOf_39 : decode cX3_choicesOf 39 = .ok (.iload_n 1, 1) := by decide +kernel
theorem dX3_choicesOf_40 : decode cX3_choicesOf 40 = .ok (.iload 4, 2) := by decide +kernel
theorem dX3_choicesOf_42 : decode cX3_choicesOf 42 = .ok (.invokevirtual 96, 3) := by decide +kernel
theorem dX3_choicesOf_45 : decode cX3_choicesOf 45 = .ok (.ifCond .eq 6, 3) := by decide +kernel
theorem dX3_choicesOf_48 : decode cX3_choicesOf 48 = .ok (.iinc 3 1, 3) := by decide +kernel
theorem dX3_choicesOf_51 : decode cX3_choicesOf 51 = .ok (.iinc 4 1, 3) := by decide +kernel
theorem dX3_choicesOf_54 : decode cX3_choicesOf 54 = .ok (.goto (-38), 3) := by decide +kernel
theorem dX3_choicesOf_57 : decode cX3_choicesOf 57 = .ok (.iload_n 3, 1) := by decide +kernel
theorem dX3_choicesOf_58 : decode cX3_choicesOf 58 = .ok (.ireturn, 1) := by decide +kernel
theorem dX4_init_0 : decode cX4_init 0 = .ok (.aload_n 0, 1) := by decide +kernel
theorem dX4_init_1 : decode cX4_init 1 = .ok (.invokespecial 3, 3) := by decide +kernel
theorem dX4_init_4 : decode cX4_init 4 = .ok (.aload_n 0, 1) := by decide +kernel
theorem dX4_init_5 : decode cX4_init 5 = .ok (.bipush 6, 2) := by decide +kernel
theorem dX4_init_7 : decode cX4_init 7 = .ok (.newarray .int, 2) := by decide +kernel
theorem dX4_init_9 : decode cX4_init 9 = .ok (.putfield 9, 3) := by decide +kernel
theorem dX4_init_12 : decode cX4_init 12 = .ok (.aload_n 0, 1) := by decide +kernel
theorem dX4_init_13 : decode cX4_init 13 = .ok (.bipush 6, 2) := by decide +kernel
theorem dX4_init_15 : decode cX4_init 15 = .ok (.newarray .int, 2) := by decide +kernel
theorem dX4_init_17 : decode cX4_init 17 = .ok (.putfield 15, 3) := by decide +kernel
theorem dX4_init_20 : decode cX4_init 20 = .ok (.return_, 1) := by decide +kernel
theorem dX4_add_0 : decode cX4_add 0 = .ok (.aload_n 0, 1) := by decide +kernel
theorem dX4_add_1 : decode cX4_add 1 = .ok (.getfield 9, 3) := by decide +kernel
theorem dX4_add_4 : decode cX4_add 4 = .ok (.aload_n 0, 1) := by decide +kernel
theorem dX4_add_5 : decode cX4_add 5 = .ok (.getfield 18, 3) := by decide +kernel
theorem dX4_add_8 : decode cX4_add 8 = .ok (.iload_n 1, 1) := by decide +kernel
theorem dX4_add_9 : decode cX4_add 9 = .ok (.iastore, 1) := by decide +kernel
theorem dX4_add_10 : decode cX4_add 10 = .ok (.aload_n 0, 1) := by decide +kernel
theorem dX4_add_11 : decode cX4_add 11 = .ok (.getfield 15, 3) := by decide +kernel
theorem dX4_add_14 : decode cX4_add 14 = .ok (.aload_n 0, 1) := by decide +kernel
theorem dX4_add_15 : decode cX4_add 15 = .ok (.getfield 18, 3) := by decide +kernel
theorem dX4_add_18 : decode cX4_add 18 = .ok (.iload_n 2, 1) := by decide +kernel
theorem dX4_add_19 : decode cX4_add 19 = .ok (.iastore, 1) := by decide +kernel
theorem dX4_add_20 : decode cX4_add 20 = .ok (.aload_n 0, 1) := by decide +kernel
theorem dX4_add_21 : decode cX4_add 21 = .ok (.dup, 1) := by decide +kernel
theorem dX4_add_22 : decode cX4_add 22 = .ok (.getfield 18, 3) := by decide +kernel
theorem dX4_add_25 : decode cX4_add 25 = .ok (.iconst 1, 1) := by decide +kernel
theorem dX4_add_26 : decode cX4_add 26 = .ok (.iadd, 1) := by decide +kernel
theorem dX4_add_27 : decode cX4_add 27 = .ok (.putfield 18, 3) := by decide +kernel
theorem dX4_add_30 : decode cX4_add 30 = .ok (.return_, 1) := by decide +kernel
