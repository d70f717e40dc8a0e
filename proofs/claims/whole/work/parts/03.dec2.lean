theorem dX12_takeSign_0 : decode cX12_takeSign 0 = .ok (.aload_n 0, 1) := by decide +kernel
theorem dX12_takeSign_1 : decode cX12_takeSign 1 = .ok (.iload_n 1, 1) := by decide +kernel
theorem dX12_takeSign_2 : decode cX12_takeSign 2 = .ok (.invokevirtual 149, 3) := by decide +kernel
theorem dX12_takeSign_5 : decode cX12_takeSign 5 = .ok (.ifCond .eq 16, 3) := by decide +kernel
theorem dX12_takeSign_8 : decode cX12_takeSign 8 = .ok (.aload_n 0, 1) := by decide +kernel
theorem dX12_takeSign_9 : decode cX12_takeSign 9 = .ok (.dup, 1) := by decide +kernel
theorem dX12_takeSign_10 : decode cX12_takeSign 10 = .ok (.getfield 143, 3) := by decide +kernel
theorem dX12_takeSign_13 : decode cX12_takeSign 13 = .ok (.iconst 1, 1) := by decide +kernel
theorem dX12_takeSign_14 : decode cX12_takeSign 14 = .ok (.iadd, 1) := by decide +kernel
theorem dX12_takeSign_15 : decode cX12_takeSign 15 = .ok (.putfield 143, 3) := by decide +kernel
theorem dX12_takeSign_18 : decode cX12_takeSign 18 = .ok (.goto 8, 3) := by decide +kernel
theorem dX12_takeSign_21 : decode cX12_takeSign 21 = .ok (.aload_n 0, 1) := by decide +kernel
theorem dX12_takeSign_22 : decode cX12_takeSign 22 = .ok (.iconst 1, 1) := by decide +kernel
theorem dX12_takeSign_23 : decode cX12_takeSign 23 = .ok (.invokevirtual 152, 3) := by decide +kernel
theorem dX12_takeSign_26 : decode cX12_takeSign 26 = .ok (.return_, 1) := by decide +kernel
theorem dX12_hasSign_0 : decode cX12_hasSign 0 = .ok (.aload_n 0, 1) := by decide +kernel
theorem dX12_hasSign_1 : decode cX12_hasSign 1 = .ok (.iload_n 1, 1) := by decide +kernel
theorem dX12_hasSign_2 : decode cX12_hasSign 2 = .ok (.invokevirtual 149, 3) := by decide +kernel
theorem dX12_hasSign_5 : decode cX12_hasSign 5 = .ok (.istore_n 2, 1) := by decide +kernel
theorem dX12_hasSign_6 : decode cX12_hasSign 6 = .ok (.aload_n 0, 1) := by decide +kernel
theorem dX12_hasSign_7 : decode cX12_hasSign 7 = .ok (.dup, 1) := by decide +kernel
theorem dX12_hasSign_8 : decode cX12_hasSign 8 = .ok (.getfield 143, 3) := by decide +kernel
theorem dX12_hasSign_11 : decode cX12_hasSign 11 = .ok (.iload_n 2, 1) := by decide +kernel
theorem dX12_hasSign_12 : decode cX12_hasSign 12 = .ok (.ifCond .eq 7, 3) := by decide +kernel
theorem dX12_hasSign_15 : decode cX12_hasSign 15 = .ok (.iconst 1, 1) := by decide +kernel
theorem dX12_hasSign_16 : decode cX12_hasSign 16 = .ok (.goto 4, 3) := by decide +kernel
theorem dX12_hasSign_19 : decode cX12_hasSign 19 = .ok (.iconst 0, 1) := by decide +kernel
theorem dX12_hasSign_20 : decode cX12_hasSign 20 = .ok (.iadd, 1) := by decide +kernel
theorem dX12_hasSign_21 : decode cX12_hasSign 21 = .ok (.putfield 143, 3) := by decide +kernel
theorem dX12_hasSign_24 : decode cX12_hasSign 24 = .ok (.iload_n 2, 1) := by decide +kernel
theorem dX12_hasSign_25 : decode cX12_hasSign 25 = .ok (.ireturn, 1) := by decide +kernel
theorem dX12_hasWord_0 : decode cX12_hasWord 0 = .ok (.aload_n 0, 1) := by decide +kernel
theorem dX12_hasWord_1 : decode cX12_hasWord 1 = .ok (.iload_n 1, 1) := by decide +kernel
theorem dX12_hasWord_2 : decode cX12_hasWord 2 = .ok (.invokevirtual 155, 3) := by decide +kernel
theorem dX12_hasWord_5 : decode cX12_hasWord 5 = .ok (.istore_n 2, 1) := by decide +kernel
theorem dX12_hasWord_6 : decode cX12_hasWord 6 = .ok (.aload_n 0, 1) := by decide +kernel
theorem dX12_hasWord_7 : decode cX12_hasWord 7 = .ok (.dup, 1) := by decide +kernel
theorem dX12_hasWord_8 : decode cX12_hasWord 8 = .ok (.getfield 143, 3) := by decide +kernel
theorem dX12_hasWord_11 : decode cX12_hasWord 11 = .ok (.iload_n 2, 1) := by decide +kernel
theorem dX12_hasWord_12 : decode cX12_hasWord 12 = .ok (.ifCond .eq 7, 3) := by decide +kernel
theorem dX12_hasWord_15 : decode cX12_hasWord 15 = .ok (.iconst 1, 1) := by decide +kernel
theorem dX12_hasWord_16 : decode cX12_hasWord 16 = .ok (.goto 4, 3) := by decide +kernel
theorem dX12_hasWord_19 : decode cX12_hasWord 19 = .ok (.iconst 0, 1) := by decide +kernel
theorem dX12_hasWord_20 : decode cX12_hasWord 20 = .ok (.iadd, 1) := by decide +kernel
theorem dX12_hasWord_21 : decode cX12_hasWord 21 = .ok (.putfield 143, 3) := by decide +kernel
theorem dX12_hasWord_24 : decode cX12_hasWord 24 = .ok (.iload_n 2, 1) := by decide +kernel
theorem dX12_hasWord_25 : decode cX12_hasWord 25 = .ok (.ireturn, 1) := by decide +kernel
theorem dX12_takeWord_0 : decode cX12_takeWord 0 = .ok (.aload_n 0, 1) := by decide +kernel
theorem dX12_takeWord_1 : decode cX12_takeWord 1 = .ok (.iload_n 1, 1) := by decide +kernel
theorem dX12_takeWord_2 : decode cX12_takeWord 2 = .ok (.invokevirtual 158, 3) := by decide +kernel
theorem dX12_takeWord_5 : decode cX12_takeWord 5 = .ok (.ifCond .ne 8, 3) := by decide +kernel
theorem dX12_takeWord_8 : decode cX12_takeWord 8 = .ok (.aload_n 0, 1) := by decide +kernel
theorem dX12_takeWord_9 : decode cX12_takeWord 9 = .ok (.iconst 1, 1) := by decide +kernel
theorem dX12_takeWord_10 : decode cX12_takeWord 10 = .ok (.invokevirtual 152, 3) := by decide +kernel
theorem dX12_takeWord_13 : decode cX12_takeWord 13 = .ok (.return_, 1) := by decide +kernel
theorem dX12_within_0 : decode cX12_within 0 = .ok (.iload_n 0, 1) := by decide +kernel
theorem dX12_within_1 : decode cX12_within 1 = .ok (.iload_n 1, 1) := by decide +kernel
theorem dX12_within_2 : decode cX12_within 2 = .ok (.if_icmp .lt 12, 3) := by decide +kernel
theorem dX12_within_5 : decode cX12_within 5 = .ok (.iload_n 0, 1) := by decide +kernel
theorem dX12_within_6 : decode cX12_within 6 = .ok (.iload_n 2, 1) := by decide +kernel
theorem dX12_within_7 : decode cX12_within 7 = .ok (.if_icmp .gt 7, 3) := by decide +kernel
theorem dX12_within_10 : decode cX12_within 10 = .ok (.iconst 1, 1) := by decide +kernel
theorem dX12_within_11 : decode cX12_within 11 = .ok (.goto 4, 3) := by decide +kernel
theorem dX12_within_14 : decode cX12_within 14 = .ok (.iconst 0, 1) := by decide +kernel
theorem dX12_within_15 : decode cX12_within 15 = .ok (.ireturn, 1) := by decide +kernel
theorem dX12_standsAsAlways_0 : decode cX12_standsAsAlways 0 = .ok (.iconst 0, 1) := by decide +kernel
theorem dX12_standsAsAlways_1 : decode cX12_standsAsAlways 1 = .ok (.istore_n 2, 1) := by decide +kernel
theorem dX12_standsAsAlways_2 : decode cX12_standsAsAlways 2 = .ok (.iload_n 2, 1) := by decide +kernel
theorem dX12_standsAsAlways_3 : decode cX12_standsAsAlways 3 = .ok (.bipush 90, 2) := by decide +kernel
theorem dX12_standsAsAlways_5 : decode cX12_standsAsAlways 5 = .ok (.if_icmp .ge 18, 3) := by decide +kernel
theorem dX12_standsAsAlways_8 : decode cX12_standsAsAlways 8 = .ok (.aload_n 0, 1) := by decide +kernel
theorem dX12_standsAsAlways_9 : decode cX12_standsAsAlways 9 = .ok (.getfield 79, 3) := by decide +kernel
theorem dX12_standsAsAlways_12 : decode cX12_standsAsAlways 12 = .ok (.iload_n 1, 1) := by decide +kernel
theorem dX12_standsAsAlways_13 : decode cX12_standsAsAlways 13 = .ok (.iload_n 2, 1) := by decide +kernel
theorem dX12_standsAsAlways_14 : decode cX12_standsAsAlways 14 = .ok (.iadd, 1) := by decide +kernel
theorem dX12_standsAsAlways_15 : decode cX12_standsAsAlways 15 = .ok (.iconst 0, 1) := by decide +kernel
theorem dX12_standsAsAlways_16 : decode cX12_standsAsAlways 16 = .ok (.iastore, 1) := by decide +kernel
theorem dX12_standsAsAlways_17 : decode cX12_standsAsAlways 17 = .ok (.iinc 2 1, 3) := by decide +kernel
theorem dX12_standsAsAlways_20 : decode cX12_standsAsAlways 20 = .ok (.goto (-18), 3) := by decide +kernel
theorem dX12_standsAsAlways_23 : decode cX12_standsAsAlways 23 = .ok (.aload_n 0, 1) := by decide +kernel
theorem dX12_standsAsAlways_24 : decode cX12_standsAsAlways 24 = .ok (.getfield 79, 3) := by decide +kernel
theorem dX12_standsAsAlways_27 : decode cX12_standsAsAlways 27 = .ok (.iload_n 1, 1) := by decide +kernel
theorem dX12_standsAsAlways_28 : decode cX12_standsAsAlways 28 = .ok (.iconst 3, 1) := by decide +kernel
theorem dX12_standsAsAlways_29 : decode cX12_standsAsAlways 29 = .ok (.iadd, 1) := by decide +kernel
theorem dX12_standsAsAlways_30 : decode cX12_standsAsAlways 30 = .ok (.iconst 2, 1) := by decide +kernel
theorem dX12_standsAsAlways_31 : decode cX12_standsAsAlways 31 = .ok (.iastore, 1) := by decide +kernel
theorem dX12_standsAsAlways_32 : decode cX12_standsAsAlways 32 = .ok (.aload_n 0, 1) := by decide +kernel
theorem dX12_standsAsAlways_33 : decode cX12_standsAsAlways 33 = .ok (.getfield 79, 3) := by decide +kernel
theorem dX12_standsAsAlways_36 : decode cX12_standsAsAlways 36 = .ok (.iload_n 1, 1) := by decide +kernel
theorem dX12_standsAsAlways_37 : decode cX12_standsAsAlways 37 = .ok (.iconst 4, 1) := by decide +kernel
theorem dX12_standsAsAlways_38 : decode cX12_standsAsAlways 38 = .ok (.iadd, 1) := by decide +kernel
theorem dX12_standsAsAlways_39 : decode cX12_standsAsAlways 39 = .ok (.iconst (-1), 1) := by decide +kernel
theorem dX12_standsAsAlways_40 : decode cX12_standsAsAlways 40 = .ok (.iastore, 1) := by decide +kernel
theorem dX12_standsAsAlways_41 : decode cX12_standsAsAlways 41 = .ok (.return_, 1) := by decide +kernel
theorem dX12_takeNumber_0 : decode cX12_takeNumber 0 = .ok (.aload_n 0, 1) := by decide +kernel
theorem dX12_takeNumber_1 : decode cX12_takeNumber 1 = .ok (.getfield 146, 3) := by decide +kernel
theorem dX12_takeNumber_4 : decode cX12_takeNumber 4 = .ok (.ifCond .ne 24, 3) := by decide +kernel
theorem dX12_takeNumber_7 : decode cX12_takeNumber 7 = .ok (.aload_n 0, 1) := by decide +kernel
theorem dX12_takeNumber_8 : decode cX12_takeNumber 8 = .ok (.getfield 24, 3) := by decide +kernel
theorem dX12_takeNumber_11 : decode cX12_takeNumber 11 = .ok (.aload_n 0, 1) := by decide +kernel
theorem dX12_takeNumber_12 : decode cX12_takeNumber 12 = .ok (.getfield 143, 3) := by decide +kernel
theorem dX12_takeNumber_15 : decode cX12_takeNumber 15 = .ok (.iaload, 1) := by decide +kernel
theorem dX12_takeNumber_16 : decode cX12_takeNumber 16 = .ok (.iconst 2, 1) := by decide +kernel
theorem dX12_takeNumber_17 : decode cX12_takeNumber 17 = .ok (.if_icmp .eq 11, 3) := by decide +kernel
theorem dX12_takeNumber_20 : decode cX12_takeNumber 20 = .ok (.aload_n 0, 1) := by decide +kernel
theorem dX12_takeNumber_21 : decode cX12_takeNumber 21 = .ok (.iconst 1, 1) := by decide +kernel
theorem dX12_takeNumber_22 : decode cX12_takeNumber 22 = .ok (.invokevirtual 152, 3) := by decide +kernel
theorem dX12_takeNumber_25 : decode cX12_takeNumber 25 = .ok (.goto 45, 3) := by decide +kernel
theorem dX12_takeNumber_28 : decode cX12_takeNumber 28 = .ok (.aload_n 0, 1) := by decide +kernel
theorem dX12_takeNumber_29 : decode cX12_takeNumber 29 = .ok (.getfield 146, 3) := by decide +kernel
theorem dX12_takeNumber_32 : decode cX12_takeNumber 32 = .ok (.ifCond .ne 38, 3) := by decide +kernel
theorem dX12_takeNumber_35 : decode cX12_takeNumber 35 = .ok (.aload_n 0, 1) := by decide +kernel
theorem dX12_takeNumber_36 : decode cX12_takeNumber 36 = .ok (.getfield 30, 3) := by decide +kernel
theorem dX12_takeNumber_39 : decode cX12_takeNumber 39 = .ok (.aload_n 0, 1) := by decide +kernel
theorem dX12_takeNumber_40 : decode cX12_takeNumber 40 = .ok (.getfield 143, 3) := by decide +kernel
theorem dX12_takeNumber_43 : decode cX12_takeNumber 43 = .ok (.laload, 1) := by decide +kernel
theorem dX12_takeNumber_44 : decode cX12_takeNumber 44 = .ok (.iload_n 1, 1) := by decide +kernel
theorem dX12_takeNumber_45 : decode cX12_takeNumber 45 = .ok (.i2l, 1) := by decide +kernel
theorem dX12_takeNumber_46 : decode cX12_takeNumber 46 = .ok (.lcmp, 1) := by decide +kernel
theorem dX12_takeNumber_47 : decode cX12_takeNumber 47 = .ok (.ifCond .lt 18, 3) := by decide +kernel
theorem dX12_takeNumber_50 : decode cX12_takeNumber 50 = .ok (.aload_n 0, 1) := by decide +kernel
theorem dX12_takeNumber_51 : decode cX12_takeNumber 51 = .ok (.getfield 30, 3) := by decide +kernel
theorem dX12_takeNumber_54 : decode cX12_takeNumber 54 = .ok (.aload_n 0, 1) := by decide +kernel
theorem dX12_takeNumber_55 : decode cX12_takeNumber 55 = .ok (.getfield 143, 3) := by decide +kernel
theorem dX12_takeNumber_58 : decode cX12_takeNumber 58 = .ok (.laload, 1) := by decide +kernel
theorem dX12_takeNumber_59 : decode cX12_takeNumber 59 = .ok (.iload_n 2, 1) := by decide +kernel
theorem dX12_takeNumber_60 : decode cX12_takeNumber 60 = .ok (.i2l, 1) := by decide +kernel
theorem dX12_takeNumber_61 : decode cX12_takeNumber 61 = .ok (.lcmp, 1) := by decide +kernel
theorem dX12_takeNumber_62 : decode cX12_takeNumber 62 = .ok (.ifCond .le 8, 3) := by decide +kernel
theorem dX12_takeNumber_65 : decode cX12_takeNumber 65 = .ok (.aload_n 0, 1) := by decide +kernel
theorem dX12_takeNumber_66 : decode cX12_takeNumber 66 = .ok (.iconst 4, 1) := by decide +kernel
theorem dX12_takeNumber_67 : decode cX12_takeNumber 67 = .ok (.invokevirtual 152, 3) := by decide +kernel
theorem dX12_takeNumber_70 : decode cX12_takeNumber 70 = .ok (.aload_n 0, 1) := by decide +kernel
theorem dX12_takeNumber_71 : decode cX12_takeNumber 71 = .ok (.getfield 146, 3) := by decide +kernel
theorem dX12_takeNumber_74 : decode cX12_takeNumber 74 = .ok (.ifCond .le 5, 3) := by decide +kernel
theorem dX12_takeNumber_77 : decode cX12_takeNumber 77 = .ok (.iconst 0, 1) := by decide +kernel
theorem dX12_takeNumber_78 : decode cX12_takeNumber 78 = .ok (.ireturn, 1) := by decide +kernel
theorem dX12_takeNumber_79 : decode cX12_takeNumber 79 = .ok (.aload_n 0, 1) := by decide +kernel
theorem dX12_takeNumber_80 : decode cX12_takeNumber 80 = .ok (.dup, 1) := by decide +kernel
theorem dX12_takeNumber_81 : decode cX12_takeNumber 81 = .ok (.getfield 143, 3) := by decide +kernel
theorem dX12_takeNumber_84 : decode cX12_takeNumber 84 = .ok (.iconst 1, 1) := by decide +kernel
theorem dX12_takeNumber_85 : decode cX12_takeNumber 85 = .ok (.iadd, 1) := by decide +kernel
theorem dX12_takeNumber_86 : decode cX12_takeNumber 86 = .ok (.putfield 143, 3) := by decide +kernel
theorem dX12_takeNumber_89 : decode cX12_takeNumber 89 = .ok (.aload_n 0, 1) := by decide +kernel
theorem dX12_takeNumber_90 : decode cX12_takeNumber 90 = .ok (.getfield 30, 3) := by decide +kernel
theorem dX12_takeNumber_93 : decode cX12_takeNumber 93 = .ok (.aload_n 0, 1) := by decide +kernel
theorem dX12_takeNumber_94 : decode cX12_takeNumber 94 = .ok (.getfield 143, 3) := by decide +kernel
theorem dX12_takeNumber_97 : decode cX12_takeNumber 97 = .ok (.iconst 1, 1) := by decide +kernel
theorem dX12_takeNumber_98 : decode cX12_takeNumber 98 = .ok (.isub, 1) := by decide +kernel
theorem dX12_takeNumber_99 : decode cX12_takeNumber 99 = .ok (.laload, 1) := by decide +kernel
theorem dX12_takeNumber_100 : decode cX12_takeNumber 100 = .ok (.l2i, 1) := by decide +kernel
theorem dX12_takeNumber_101 : decode cX12_takeNumber 101 = .ok (.ireturn, 1) := by decide +kernel
theorem dX12_wordHere_0 : decode cX12_wordHere 0 = .ok (.iconst (-1), 1) := by decide +kernel
theorem dX12_wordHere_1 : decode cX12_wordHere 1 = .ok (.istore_n 3, 1) := by decide +kernel
theorem dX12_wordHere_2 : decode cX12_wordHere 2 = .ok (.iconst 0, 1) := by decide +kernel
theorem dX12_wordHere_3 : decode cX12_wordHere 3 = .ok (.istore 4, 2) := by decide +kernel
theorem dX12_wordHere_5 : decode cX12_wordHere 5 = .ok (.iload 4, 2) := by decide +kernel
theorem dX12_wordHere_7 : decode cX12_wordHere 7 = .ok (.iload_n 2, 1) := by decide +kernel
theorem dX12_wordHere_8 : decode cX12_wordHere 8 = .ok (.if_icmp .ge 27, 3) := by decide +kernel
theorem dX12_wordHere_11 : decode cX12_wordHere 11 = .ok (.aload_n 0, 1) := by decide +kernel
theorem dX12_wordHere_12 : decode cX12_wordHere 12 = .ok (.iload_n 1, 1) := by decide +kernel
theorem dX12_wordHere_13 : decode cX12_wordHere 13 = .ok (.iload 4, 2) := by decide +kernel
theorem dX12_wordHere_15 : decode cX12_wordHere 15 = .ok (.iadd, 1) := by decide +kernel
theorem dX12_wordHere_16 : decode cX12_wordHere 16 = .ok (.invokevirtual 155, 3) := by decide +kernel
theorem dX12_wordHere_19 : decode cX12_wordHere 19 = .ok (.ifCond .eq 8, 3) := by decide +kernel
theorem dX12_wordHere_22 : decode cX12_wordHere 22 = .ok (.iload 4, 2) := by decide +kernel
theorem dX12_wordHere_24 : decode cX12_wordHere 24 = .ok (.goto 4, 3) := by decide +kernel
theorem dX12_wordHere_27 : decode cX12_wordHere 27 = .ok (.iload_n 3, 1) := by decide +kernel
theorem dX12_wordHere_28 : decode cX12_wordHere 28 = .ok (.istore_n 3, 1) := by decide +kernel
theorem dX12_wordHere_29 : decode cX12_wordHere 29 = .ok (.iinc 4 1, 3) := by decide +kernel
theorem dX12_wordHere_32 : decode cX12_wordHere 32 = .ok (.goto (-27), 3) := by decide +kernel
theorem dX12_wordHere_35 : decode cX12_wordHere 35 = .ok (.iload_n 3, 1) := by decide +kernel
theorem dX12_wordHere_36 : decode cX12_wordHere 36 = .ok (.ireturn, 1) := by decide +kernel
theorem dX12_takeOne_0 : decode cX12_takeOne 0 = .ok (.aload_n 0, 1) := by decide +kernel
theorem dX12_takeOne_1 : decode cX12_takeOne 1 = .ok (.getfield 146, 3) := by decide +kernel
theorem dX12_takeOne_4 : decode cX12_takeOne 4 = .ok (.ifCond .le 7, 3) := by decide +kernel
theorem dX12_takeOne_7 : decode cX12_takeOne 7 = .ok (.iconst (-1), 1) := by decide +kernel
theorem dX12_takeOne_8 : decode cX12_takeOne 8 = .ok (.goto 9, 3) := by decide +kernel
theorem dX12_takeOne_11 : decode cX12_takeOne 11 = .ok (.aload_n 0, 1) := by decide +kernel
theorem dX12_takeOne_12 : decode cX12_takeOne 12 = .ok (.iload_n 1, 1) := by decide +kernel
theorem dX12_takeOne_13 : decode cX12_takeOne 13 = .ok (.iload_n 2, 1) := by decide +kernel
theorem dX12_takeOne_14 : decode cX12_takeOne 14 = .ok (.invokevirtual 161, 3) := by decide +kernel
theorem dX12_takeOne_17 : decode cX12_takeOne 17 = .ok (.istore_n 3, 1) := by decide +kernel
theorem dX12_takeOne_18 : decode cX12_takeOne 18 = .ok (.aload_n 0, 1) := by decide +kernel
theorem dX12_takeOne_19 : decode cX12_takeOne 19 = .ok (.getfield 146, 3) := by decide +kernel
theorem dX12_takeOne_22 : decode cX12_takeOne 22 = .ok (.ifCond .ne 12, 3) := by decide +kernel
theorem dX12_takeOne_25 : decode cX12_takeOne 25 = .ok (.iload_n 3, 1) := by decide +kernel
theorem dX12_takeOne_26 : decode cX12_takeOne 26 = .ok (.ifCond .ge 8, 3) := by decide +kernel
theorem dX12_takeOne_29 : decode cX12_takeOne 29 = .ok (.aload_n 0, 1) := by decide +kernel
theorem dX12_takeOne_30 : decode cX12_takeOne 30 = .ok (.iconst 1, 1) := by decide +kernel
theorem dX12_takeOne_31 : decode cX12_takeOne 31 = .ok (.invokevirtual 152, 3) := by decide +kernel
theorem dX12_takeOne_34 : decode cX12_takeOne 34 = .ok (.aload_n 0, 1) := by decide +kernel
theorem dX12_takeOne_35 : decode cX12_takeOne 35 = .ok (.dup, 1) := by decide +kernel
theorem dX12_takeOne_36 : decode cX12_takeOne 36 = .ok (.getfield 143, 3) := by decide +kernel
theorem dX12_takeOne_39 : decode cX12_takeOne 39 = .ok (.aload_n 0, 1) := by decide +kernel
theorem dX12_takeOne_40 : decode cX12_takeOne 40 = .ok (.getfield 146, 3) := by decide +kernel
theorem dX12_takeOne_43 : decode cX12_takeOne 43 = .ok (.ifCond .le 7, 3) := by decide +kernel
theorem dX12_takeOne_46 : decode cX12_takeOne 46 = .ok (.iconst 0, 1) := by decide +kernel
theorem dX12_takeOne_47 : decode cX12_takeOne 47 = .ok (.goto 4, 3) := by decide +kernel
theorem dX12_takeOne_50 : decode cX12_takeOne 50 = .ok (.iconst 1, 1) := by decide +kernel
theorem dX12_takeOne_51 : decode cX12_takeOne 51 = .ok (.iadd, 1) := by decide +kernel
theorem dX12_takeOne_52 : decode cX12_takeOne 52 = .ok (.putfield 143, 3) := by decide +kernel
theorem dX12_takeOne_55 : decode cX12_takeOne 55 = .ok (.aload_n 0, 1) := by decide +kernel
theorem dX12_takeOne_56 : decode cX12_takeOne 56 = .ok (.getfield 146, 3) := by decide +kernel
theorem dX12_takeOne_59 : decode cX12_takeOne 59 = .ok (.ifCond .le 7, 3) := by decide +kernel
theorem dX12_takeOne_62 : decode cX12_takeOne 62 = .ok (.iconst 0, 1) := by decide +kernel
theorem dX12_takeOne_63 : decode cX12_takeOne 63 = .ok (.goto 4, 3) := by decide +kernel
theorem dX12_takeOne_66 : decode cX12_takeOne 66 = .ok (.iload_n 3, 1) := by decide +kernel
theorem dX12_takeOne_67 : decode cX12_takeOne 67 = .ok (.ireturn, 1) := by decide +kernel
theorem dX12_isName_0 : decode cX12_isName 0 = .ok (.aload_n 0, 1) := by decide +kernel
theorem dX12_isName_1 : decode cX12_isName 1 = .ok (.getfield 146, 3) := by decide +kernel
theorem dX12_isName_4 : decode cX12_isName 4 = .ok (.ifCond .ne 30, 3) := by decide +kernel
theorem dX12_isName_7 : decode cX12_isName 7 = .ok (.aload_n 0, 1) := by decide +kernel
theorem dX12_isName_8 : decode cX12_isName 8 = .ok (.getfield 24, 3) := by decide +kernel
theorem dX12_isName_11 : decode cX12_isName 11 = .ok (.aload_n 0, 1) := by decide +kernel
theorem dX12_isName_12 : decode cX12_isName 12 = .ok (.getfield 143, 3) := by decide +kernel
theorem dX12_isName_15 : decode cX12_isName 15 = .ok (.iaload, 1) := by decide +kernel
theorem dX12_isName_16 : decode cX12_isName 16 = .ok (.iconst 1, 1) := by decide +kernel
theorem dX12_isName_17 : decode cX12_isName 17 = .ok (.if_icmp .ne 17, 3) := by decide +kernel
theorem dX12_isName_20 : decode cX12_isName 20 = .ok (.aload_n 0, 1) := by decide +kernel
theorem dX12_isName_21 : decode cX12_isName 21 = .ok (.iconst 0, 1) := by decide +kernel
theorem dX12_isName_22 : decode cX12_isName 22 = .ok (.bipush 18, 2) := by decide +kernel
theorem dX12_isName_24 : decode cX12_isName 24 = .ok (.invokevirtual 161, 3) := by decide +kernel
theorem dX12_isName_27 : decode cX12_isName 27 = .ok (.ifCond .ge 7, 3) := by decide +kernel
theorem dX12_isName_30 : decode cX12_isName 30 = .ok (.iconst 1, 1) := by decide +kernel
theorem dX12_isName_31 : decode cX12_isName 31 = .ok (.goto 4, 3) := by decide +kernel
theorem dX12_isName_34 : decode cX12_isName 34 = .ok (.iconst 0, 1) := by decide +kernel
theorem dX12_isName_35 : decode cX12_isName 35 = .ok (.ireturn, 1) := by decide +kernel
theorem dX12_nameAt_0 : decode cX12_nameAt 0 = .ok (.iconst (-1), 1) := by decide +kernel
theorem dX12_nameAt_1 : decode cX12_nameAt 1 = .ok (.istore_n 3, 1) := by decide +kernel
theorem dX12_nameAt_2 : decode cX12_nameAt 2 = .ok (.iconst 0, 1) := by decide +kernel
theorem dX12_nameAt_3 : decode cX12_nameAt 3 = .ok (.istore 4, 2) := by decide +kernel
theorem dX12_nameAt_5 : decode cX12_nameAt 5 = .ok (.iload 4, 2) := by decide +kernel
theorem dX12_nameAt_7 : decode cX12_nameAt 7 = .ok (.iload_n 2, 1) := by decide +kernel
theorem dX12_nameAt_8 : decode cX12_nameAt 8 = .ok (.if_icmp .ge 38, 3) := by decide +kernel
theorem dX12_nameAt_11 : decode cX12_nameAt 11 = .ok (.aload_n 0, 1) := by decide +kernel
theorem dX12_nameAt_12 : decode cX12_nameAt 12 = .ok (.getfield 85, 3) := by decide +kernel
theorem dX12_nameAt_15 : decode cX12_nameAt 15 = .ok (.iload_n 1, 1) := by decide +kernel
theorem dX12_nameAt_16 : decode cX12_nameAt 16 = .ok (.iload 4, 2) := by decide +kernel
theorem dX12_nameAt_18 : decode cX12_nameAt 18 = .ok (.iadd, 1) := by decide +kernel
theorem dX12_nameAt_19 : decode cX12_nameAt 19 = .ok (.laload, 1) := by decide +kernel
theorem dX12_nameAt_20 : decode cX12_nameAt 20 = .ok (.aload_n 0, 1) := by decide +kernel
theorem dX12_nameAt_21 : decode cX12_nameAt 21 = .ok (.getfield 30, 3) := by decide +kernel
theorem dX12_nameAt_24 : decode cX12_nameAt 24 = .ok (.aload_n 0, 1) := by decide +kernel
theorem dX12_nameAt_25 : decode cX12_nameAt 25 = .ok (.getfield 143, 3) := by decide +kernel
theorem dX12_nameAt_28 : decode cX12_nameAt 28 = .ok (.laload, 1) := by decide +kernel
theorem dX12_nameAt_29 : decode cX12_nameAt 29 = .ok (.lcmp, 1) := by decide +kernel
theorem dX12_nameAt_30 : decode cX12_nameAt 30 = .ok (.ifCond .ne 8, 3) := by decide +kernel
theorem dX12_nameAt_33 : decode cX12_nameAt 33 = .ok (.iload 4, 2) := by decide +kernel
theorem dX12_nameAt_35 : decode cX12_nameAt 35 = .ok (.goto 4, 3) := by decide +kernel
theorem dX12_nameAt_38 : decode cX12_nameAt 38 = .ok (.iload_n 3, 1) := by decide +kernel
theorem dX12_nameAt_39 : decode cX12_nameAt 39 = .ok (.istore_n 3, 1) := by decide +kernel
theorem dX12_nameAt_40 : decode cX12_nameAt 40 = .ok (.iinc 4 1, 3) := by decide +kernel
theorem dX12_nameAt_43 : decode cX12_nameAt 43 = .ok (.goto (-38), 3) := by decide +kernel
theorem dX12_nameAt_46 : decode cX12_nameAt 46 = .ok (.iload_n 3, 1) := by decide +kernel
theorem dX12_nameAt_47 : decode cX12_nameAt 47 = .ok (.ireturn, 1) := by decide +kernel
theorem dX12_takeTold_0 : decode cX12_takeTold 0 = .ok (.aload_n 0, 1) := by decide +kernel
theorem dX12_takeTold_1 : decode cX12_takeTold 1 = .ok (.getfield 146, 3) := by decide +kernel
theorem dX12_takeTold_4 : decode cX12_takeTold 4 = .ok (.ifCond .ne 15, 3) := by decide +kernel
theorem dX12_takeTold_7 : decode cX12_takeTold 7 = .ok (.aload_n 0, 1) := by decide +kernel
theorem dX12_takeTold_8 : decode cX12_takeTold 8 = .ok (.invokevirtual 165, 3) := by decide +kernel
theorem dX12_takeTold_11 : decode cX12_takeTold 11 = .ok (.ifCond .ne 8, 3) := by decide +kernel
theorem dX12_takeTold_14 : decode cX12_takeTold 14 = .ok (.aload_n 0, 1) := by decide +kernel
theorem dX12_takeTold_15 : decode cX12_takeTold 15 = .ok (.iconst 1, 1) := by decide +kernel
theorem dX12_takeTold_16 : decode cX12_takeTold 16 = .ok (.invokevirtual 152, 3) := by decide +kernel
theorem dX12_takeTold_19 : decode cX12_takeTold 19 = .ok (.aload_n 0, 1) := by decide +kernel
theorem dX12_takeTold_20 : decode cX12_takeTold 20 = .ok (.getfield 146, 3) := by decide +kernel
theorem dX12_takeTold_23 : decode cX12_takeTold 23 = .ok (.ifCond .le 7, 3) := by decide +kernel
theorem dX12_takeTold_26 : decode cX12_takeTold 26 = .ok (.iconst (-1), 1) := by decide +kernel
theorem dX12_takeTold_27 : decode cX12_takeTold 27 = .ok (.goto 9, 3) := by decide +kernel
theorem dX12_takeTold_30 : decode cX12_takeTold 30 = .ok (.aload_n 0, 1) := by decide +kernel
theorem dX12_takeTold_31 : decode cX12_takeTold 31 = .ok (.iload_n 1, 1) := by decide +kernel
theorem dX12_takeTold_32 : decode cX12_takeTold 32 = .ok (.iload_n 2, 1) := by decide +kernel
theorem dX12_takeTold_33 : decode cX12_takeTold 33 = .ok (.invokevirtual 169, 3) := by decide +kernel
theorem dX12_takeTold_36 : decode cX12_takeTold 36 = .ok (.istore 4, 2) := by decide +kernel
theorem dX12_takeTold_38 : decode cX12_takeTold 38 = .ok (.aload_n 0, 1) := by decide +kernel
theorem dX12_takeTold_39 : decode cX12_takeTold 39 = .ok (.getfield 146, 3) := by decide +kernel
theorem dX12_takeTold_42 : decode cX12_takeTold 42 = .ok (.ifCond .ne 16, 3) := by decide +kernel
theorem dX12_takeTold_45 : decode cX12_takeTold 45 = .ok (.iload 4, 2) := by decide +kernel
theorem dX12_takeTold_47 : decode cX12_takeTold 47 = .ok (.ifCond .ge 11, 3) := by decide +kernel
theorem dX12_takeTold_50 : decode cX12_takeTold 50 = .ok (.aload_n 0, 1) := by decide +kernel
theorem dX12_takeTold_51 : decode cX12_takeTold 51 = .ok (.iconst 2, 1) := by decide +kernel
theorem dX12_takeTold_52 : decode cX12_takeTold 52 = .ok (.invokevirtual 152, 3) := by decide +kernel
theorem dX12_takeTold_55 : decode cX12_takeTold 55 = .ok (.goto 21, 3) := by decide +kernel
theorem dX12_takeTold_58 : decode cX12_takeTold 58 = .ok (.aload_n 0, 1) := by decide +kernel
theorem dX12_takeTold_59 : decode cX12_takeTold 59 = .ok (.getfield 146, 3) := by decide +kernel
theorem dX12_takeTold_62 : decode cX12_takeTold 62 = .ok (.ifCond .ne 14, 3) := by decide +kernel
theorem dX12_takeTold_65 : decode cX12_takeTold 65 = .ok (.iload 4, 2) := by decide +kernel
theorem dX12_takeTold_67 : decode cX12_takeTold 67 = .ok (.iload_n 3, 1) := by decide +kernel
theorem dX12_takeTold_68 : decode cX12_takeTold 68 = .ok (.if_icmp .ne 8, 3) := by decide +kernel
theorem dX12_takeTold_71 : decode cX12_takeTold 71 = .ok (.aload_n 0, 1) := by decide +kernel
theorem dX12_takeTold_72 : decode cX12_takeTold 72 = .ok (.iconst 3, 1) := by decide +kernel
theorem dX12_takeTold_73 : decode cX12_takeTold 73 = .ok (.invokevirtual 152, 3) := by decide +kernel
theorem dX12_takeTold_76 : decode cX12_takeTold 76 = .ok (.aload_n 0, 1) := by decide +kernel
theorem dX12_takeTold_77 : decode cX12_takeTold 77 = .ok (.dup, 1) := by decide +kernel
theorem dX12_takeTold_78 : decode cX12_takeTold 78 = .ok (.getfield 143, 3) := by decide +kernel
theorem dX12_takeTold_81 : decode cX12_takeTold 81 = .ok (.aload_n 0, 1) := by decide +kernel
theorem dX12_takeTold_82 : decode cX12_takeTold 82 = .ok (.getfield 146, 3) := by decide +kernel
theorem dX12_takeTold_85 : decode cX12_takeTold 85 = .ok (.ifCond .le 7, 3) := by decide +kernel
theorem dX12_takeTold_88 : decode cX12_takeTold 88 = .ok (.iconst 0, 1) := by decide +kernel
theorem dX12_takeTold_89 : decode cX12_takeTold 89 = .ok (.goto 4, 3) := by decide +kernel
theorem dX12_takeTold_92 : decode cX12_takeTold 92 = .ok (.iconst 1, 1) := by decide +kernel
theorem dX12_takeTold_93 : decode cX12_takeTold 93 = .ok (.iadd, 1) := by decide +kernel
theorem dX12_takeTold_94 : decode cX12_takeTold 94 = .ok (.putfield 143, 3) := by decide +kernel
theorem dX12_takeTold_97 : decode cX12_takeTold 97 = .ok (.aload_n 0, 1) := by decide +kernel
theorem dX12_takeTold_98 : decode cX12_takeTold 98 = .ok (.getfield 146, 3) := by decide +kernel
theorem dX12_takeTold_101 : decode cX12_takeTold 101 = .ok (.ifCond .le 7, 3) := by decide +kernel
theorem dX12_takeTold_104 : decode cX12_takeTold 104 = .ok (.iconst 0, 1) := by decide +kernel
theorem dX12_takeTold_105 : decode cX12_takeTold 105 = .ok (.goto 5, 3) := by decide +kernel
theorem dX12_takeTold_108 : decode cX12_takeTold 108 = .ok (.iload 4, 2) := by decide +kernel
theorem dX12_takeTold_110 : decode cX12_takeTold 110 = .ok (.ireturn, 1) := by decide +kernel
theorem dX12_queue_0 : decode cX12_queue 0 = .ok (.aload_n 0, 1) := by decide +kernel
theorem dX12_queue_1 : decode cX12_queue 1 = .ok (.iconst 0, 1) := by decide +kernel
theorem dX12_queue_2 : decode cX12_queue 2 = .ok (.putfield 1, 3) := by decide +kernel
theorem dX12_queue_5 : decode cX12_queue 5 = .ok (.aload_n 0, 1) := by decide +kernel
theorem dX12_queue_6 : decode cX12_queue 6 = .ok (.invokevirtual 172, 3) := by decide +kernel
theorem dX12_queue_9 : decode cX12_queue 9 = .ok (.aload_n 0, 1) := by decide +kernel
theorem dX12_queue_10 : decode cX12_queue 10 = .ok (.iconst 0, 1) := by decide +kernel
theorem dX12_queue_11 : decode cX12_queue 11 = .ok (.putfield 175, 3) := by decide +kernel
theorem dX12_queue_14 : decode cX12_queue 14 = .ok (.aload_n 0, 1) := by decide +kernel
theorem dX12_queue_15 : decode cX12_queue 15 = .ok (.bipush 90, 2) := by decide +kernel
theorem dX12_queue_17 : decode cX12_queue 17 = .ok (.invokevirtual 113, 3) := by decide +kernel
theorem dX12_queue_20 : decode cX12_queue 20 = .ok (.aload_n 0, 1) := by decide +kernel
theorem dX12_queue_21 : decode cX12_queue 21 = .ok (.getfield 146, 3) := by decide +kernel
theorem dX12_queue_24 : decode cX12_queue 24 = .ok (.ifCond .ne 28, 3) := by decide +kernel
theorem dX12_queue_27 : decode cX12_queue 27 = .ok (.aload_n 0, 1) := by decide +kernel
theorem dX12_queue_28 : decode cX12_queue 28 = .ok (.getfield 24, 3) := by decide +kernel
theorem dX12_queue_31 : decode cX12_queue 31 = .ok (.aload_n 0, 1) := by decide +kernel
theorem dX12_queue_32 : decode cX12_queue 32 = .ok (.getfield 143, 3) := by decide +kernel
theorem dX12_queue_35 : decode cX12_queue 35 = .ok (.iaload, 1) := by decide +kernel
theorem dX12_queue_36 : decode cX12_queue 36 = .ok (.ifCond .eq 16, 3) := by decide +kernel
theorem dX12_queue_39 : decode cX12_queue 39 = .ok (.aload_n 0, 1) := by decide +kernel
theorem dX12_queue_40 : decode cX12_queue 40 = .ok (.invokevirtual 178, 3) := by decide +kernel
theorem dX12_queue_43 : decode cX12_queue 43 = .ok (.aload_n 0, 1) := by decide +kernel
theorem dX12_queue_44 : decode cX12_queue 44 = .ok (.bipush 59, 2) := by decide +kernel
theorem dX12_queue_46 : decode cX12_queue 46 = .ok (.invokevirtual 181, 3) := by decide +kernel
theorem dX12_queue_49 : decode cX12_queue 49 = .ok (.goto (-29), 3) := by decide +kernel
theorem dX12_queue_52 : decode cX12_queue 52 = .ok (.aload_n 0, 1) := by decide +kernel
theorem dX12_queue_53 : decode cX12_queue 53 = .ok (.getfield 146, 3) := by decide +kernel
theorem dX12_queue_56 : decode cX12_queue 56 = .ok (.ifCond .le 8, 3) := by decide +kernel
theorem dX12_queue_59 : decode cX12_queue 59 = .ok (.aload_n 0, 1) := by decide +kernel
theorem dX12_queue_60 : decode cX12_queue 60 = .ok (.getfield 146, 3) := by decide +kernel
theorem dX12_queue_63 : decode cX12_queue 63 = .ok (.ireturn, 1) := by decide +kernel
theorem dX12_queue_64 : decode cX12_queue 64 = .ok (.iconst 0, 1) := by decide +kernel
theorem dX12_queue_65 : decode cX12_queue 65 = .ok (.istore_n 1, 1) := by decide +kernel
theorem dX12_queue_66 : decode cX12_queue 66 = .ok (.iload_n 1, 1) := by decide +kernel
theorem dX12_queue_67 : decode cX12_queue 67 = .ok (.bipush 90, 2) := by decide +kernel
theorem dX12_queue_69 : decode cX12_queue 69 = .ok (.if_icmp .ge 24, 3) := by decide +kernel
theorem dX12_queue_72 : decode cX12_queue 72 = .ok (.aload_n 0, 1) := by decide +kernel
theorem dX12_queue_73 : decode cX12_queue 73 = .ok (.getfield 79, 3) := by decide +kernel
theorem dX12_queue_76 : decode cX12_queue 76 = .ok (.iload_n 1, 1) := by decide +kernel
theorem dX12_queue_77 : decode cX12_queue 77 = .ok (.aload_n 0, 1) := by decide +kernel
theorem dX12_queue_78 : decode cX12_queue 78 = .ok (.getfield 79, 3) := by decide +kernel
theorem dX12_queue_81 : decode cX12_queue 81 = .ok (.bipush 90, 2) := by decide +kernel
theorem dX12_queue_83 : decode cX12_queue 83 = .ok (.iload_n 1, 1) := by decide +kernel
theorem dX12_queue_84 : decode cX12_queue 84 = .ok (.iadd, 1) := by decide +kernel
theorem dX12_queue_85 : decode cX12_queue 85 = .ok (.iaload, 1) := by decide +kernel
theorem dX12_queue_86 : decode cX12_queue 86 = .ok (.iastore, 1) := by decide +kernel
theorem dX12_queue_87 : decode cX12_queue 87 = .ok (.iinc 1 1, 3) := by decide +kernel
theorem dX12_queue_90 : decode cX12_queue 90 = .ok (.goto (-24), 3) := by decide +kernel
theorem dX12_queue_93 : decode cX12_queue 93 = .ok (.iconst 0, 1) := by decide +kernel
theorem dX12_queue_94 : decode cX12_queue 94 = .ok (.istore_n 1, 1) := by decide +kernel
theorem dX12_queue_95 : decode cX12_queue 95 = .ok (.iload_n 1, 1) := by decide +kernel
theorem dX12_queue_96 : decode cX12_queue 96 = .ok (.aload_n 0, 1) := by decide +kernel
theorem dX12_queue_97 : decode cX12_queue 97 = .ok (.getfield 175, 3) := by decide +kernel
theorem dX12_queue_100 : decode cX12_queue 100 = .ok (.if_icmp .ge 25, 3) := by decide +kernel
theorem dX12_queue_103 : decode cX12_queue 103 = .ok (.aload_n 0, 1) := by decide +kernel
theorem dX12_queue_104 : decode cX12_queue 104 = .ok (.getfield 82, 3) := by decide +kernel
theorem dX12_queue_107 : decode cX12_queue 107 = .ok (.iload_n 1, 1) := by decide +kernel
theorem dX12_queue_108 : decode cX12_queue 108 = .ok (.aload_n 0, 1) := by decide +kernel
theorem dX12_queue_109 : decode cX12_queue 109 = .ok (.getfield 82, 3) := by decide +kernel
theorem dX12_queue_112 : decode cX12_queue 112 = .ok (.sipush 1100, 3) := by decide +kernel
theorem dX12_queue_115 : decode cX12_queue 115 = .ok (.iload_n 1, 1) := by decide +kernel
theorem dX12_queue_116 : decode cX12_queue 116 = .ok (.iadd, 1) := by decide +kernel
theorem dX12_queue_117 : decode cX12_queue 117 = .ok (.iaload, 1) := by decide +kernel
theorem dX12_queue_118 : decode cX12_queue 118 = .ok (.iastore, 1) := by decide +kernel
theorem dX12_queue_119 : decode cX12_queue 119 = .ok (.iinc 1 1, 3) := by decide +kernel
theorem dX12_queue_122 : decode cX12_queue 122 = .ok (.goto (-27), 3) := by decide +kernel
theorem dX12_queue_125 : decode cX12_queue 125 = .ok (.iconst 0, 1) := by decide +kernel
theorem dX12_queue_126 : decode cX12_queue 126 = .ok (.istore_n 1, 1) := by decide +kernel
theorem dX12_queue_127 : decode cX12_queue 127 = .ok (.iload_n 1, 1) := by decide +kernel
theorem dX12_queue_128 : decode cX12_queue 128 = .ok (.bipush 25, 2) := by decide +kernel
theorem dX12_queue_130 : decode cX12_queue 130 = .ok (.if_icmp .ge 24, 3) := by decide +kernel
theorem dX12_queue_133 : decode cX12_queue 133 = .ok (.aload_n 0, 1) := by decide +kernel
theorem dX12_queue_134 : decode cX12_queue 134 = .ok (.getfield 85, 3) := by decide +kernel
theorem dX12_queue_137 : decode cX12_queue 137 = .ok (.iload_n 1, 1) := by decide +kernel
theorem dX12_queue_138 : decode cX12_queue 138 = .ok (.aload_n 0, 1) := by decide +kernel
theorem dX12_queue_139 : decode cX12_queue 139 = .ok (.getfield 85, 3) := by decide +kernel
theorem dX12_queue_142 : decode cX12_queue 142 = .ok (.bipush 25, 2) := by decide +kernel
theorem dX12_queue_144 : decode cX12_queue 144 = .ok (.iload_n 1, 1) := by decide +kernel
theorem dX12_queue_145 : decode cX12_queue 145 = .ok (.iadd, 1) := by decide +kernel
theorem dX12_queue_146 : decode cX12_queue 146 = .ok (.laload, 1) := by decide +kernel
theorem dX12_queue_147 : decode cX12_queue 147 = .ok (.lastore, 1) := by decide +kernel
theorem dX12_queue_148 : decode cX12_queue 148 = .ok (.iinc 1 1, 3) := by decide +kernel
theorem dX12_queue_151 : decode cX12_queue 151 = .ok (.goto (-24), 3) := by decide +kernel
theorem dX12_queue_154 : decode cX12_queue 154 = .ok (.aload_n 0, 1) := by decide +kernel
theorem dX12_queue_155 : decode cX12_queue 155 = .ok (.invokevirtual 117, 3) := by decide +kernel
theorem dX12_queue_158 : decode cX12_queue 158 = .ok (.iconst 0, 1) := by decide +kernel
theorem dX12_queue_159 : decode cX12_queue 159 = .ok (.ireturn, 1) := by decide +kernel
theorem dX12_read_0 : decode cX12_read 0 = .ok (.aload_n 0, 1) := by decide +kernel
theorem dX12_read_1 : decode cX12_read 1 = .ok (.getfield 79, 3) := by decide +kernel
theorem dX12_read_4 : decode cX12_read 4 = .ok (.bipush 90, 2) := by decide +kernel
theorem dX12_read_6 : decode cX12_read 6 = .ok (.iload_n 1, 1) := by decide +kernel
theorem dX12_read_7 : decode cX12_read 7 = .ok (.iadd, 1) := by decide +kernel
theorem dX12_read_8 : decode cX12_read 8 = .ok (.iaload, 1) := by decide +kernel
theorem dX12_read_9 : decode cX12_read 9 = .ok (.ireturn, 1) := by decide +kernel
theorem dX12_readName_0 : decode cX12_readName 0 = .ok (.iload_n 2, 1) := by decide +kernel
theorem dX12_readName_1 : decode cX12_readName 1 = .ok (.iload_n 3, 1) := by decide +kernel
theorem dX12_readName_2 : decode cX12_readName 2 = .ok (.if_icmp .ne 9, 3) := by decide +kernel
theorem dX12_readName_5 : decode cX12_readName 5 = .ok (.aload_n 0, 1) := by decide +kernel
theorem dX12_readName_6 : decode cX12_readName 6 = .ok (.iconst 5, 1) := by decide +kernel
theorem dX12_readName_7 : decode cX12_readName 7 = .ok (.invokevirtual 152, 3) := by decide +kernel
theorem dX12_readName_10 : decode cX12_readName 10 = .ok (.return_, 1) := by decide +kernel
theorem dX12_readName_11 : decode cX12_readName 11 = .ok (.aload_n 0, 1) := by decide +kernel
theorem dX12_readName_12 : decode cX12_readName 12 = .ok (.dup, 1) := by decide +kernel
theorem dX12_readName_13 : decode cX12_readName 13 = .ok (.getfield 143, 3) := by decide +kernel
theorem dX12_readName_16 : decode cX12_readName 16 = .ok (.iconst 1, 1) := by decide +kernel
theorem dX12_readName_17 : decode cX12_readName 17 = .ok (.iadd, 1) := by decide +kernel
theorem dX12_readName_18 : decode cX12_readName 18 = .ok (.putfield 143, 3) := by decide +kernel
theorem dX12_readName_21 : decode cX12_readName 21 = .ok (.aload_n 0, 1) := by decide +kernel
theorem dX12_readName_22 : decode cX12_readName 22 = .ok (.invokevirtual 165, 3) := by decide +kernel
theorem dX12_readName_25 : decode cX12_readName 25 = .ok (.ifCond .ne 11, 3) := by decide +kernel
theorem dX12_readName_28 : decode cX12_readName 28 = .ok (.aload_n 0, 1) := by decide +kernel
theorem dX12_readName_29 : decode cX12_readName 29 = .ok (.iconst 1, 1) := by decide +kernel
theorem dX12_readName_30 : decode cX12_readName 30 = .ok (.invokevirtual 152, 3) := by decide +kernel
theorem dX12_readName_33 : decode cX12_readName 33 = .ok (.goto 50, 3) := by decide +kernel
theorem dX12_readName_36 : decode cX12_readName 36 = .ok (.aload_n 0, 1) := by decide +kernel
theorem dX12_readName_37 : decode cX12_readName 37 = .ok (.bipush 25, 2) := by decide +kernel
theorem dX12_readName_39 : decode cX12_readName 39 = .ok (.aload_n 0, 1) := by decide +kernel
theorem dX12_readName_40 : decode cX12_readName 40 = .ok (.iconst 0, 1) := by decide +kernel
theorem dX12_readName_41 : decode cX12_readName 41 = .ok (.invokevirtual 184, 3) := by decide +kernel
theorem dX12_readName_44 : decode cX12_readName 44 = .ok (.invokevirtual 169, 3) := by decide +kernel
theorem dX12_readName_47 : decode cX12_readName 47 = .ok (.ifCond .ge 31, 3) := by decide +kernel
theorem dX12_readName_50 : decode cX12_readName 50 = .ok (.aload_n 0, 1) := by decide +kernel
theorem dX12_readName_51 : decode cX12_readName 51 = .ok (.bipush 28, 2) := by decide +kernel
theorem dX12_readName_53 : decode cX12_readName 53 = .ok (.aload_n 0, 1) := by decide +kernel
theorem dX12_readName_54 : decode cX12_readName 54 = .ok (.iconst 1, 1) := by decide +kernel
theorem dX12_readName_55 : decode cX12_readName 55 = .ok (.invokevirtual 184, 3) := by decide +kernel
theorem dX12_readName_58 : decode cX12_readName 58 = .ok (.invokevirtual 169, 3) := by decide +kernel
theorem dX12_readName_61 : decode cX12_readName 61 = .ok (.ifCond .ge 17, 3) := by decide +kernel
theorem dX12_readName_64 : decode cX12_readName 64 = .ok (.aload_n 0, 1) := by decide +kernel
theorem dX12_readName_65 : decode cX12_readName 65 = .ok (.bipush 30, 2) := by decide +kernel
theorem dX12_readName_67 : decode cX12_readName 67 = .ok (.aload_n 0, 1) := by decide +kernel
theorem dX12_readName_68 : decode cX12_readName 68 = .ok (.iconst 2, 1) := by decide +kernel
theorem dX12_readName_69 : decode cX12_readName 69 = .ok (.invokevirtual 184, 3) := by decide +kernel
theorem dX12_readName_72 : decode cX12_readName 72 = .ok (.invokevirtual 169, 3) := by decide +kernel
theorem dX12_readName_75 : decode cX12_readName 75 = .ok (.ifCond .lt 8, 3) := by decide +kernel
theorem dX12_readName_78 : decode cX12_readName 78 = .ok (.aload_n 0, 1) := by decide +kernel
theorem dX12_readName_79 : decode cX12_readName 79 = .ok (.iconst 3, 1) := by decide +kernel
theorem dX12_readName_80 : decode cX12_readName 80 = .ok (.invokevirtual 152, 3) := by decide +kernel
theorem dX12_readName_83 : decode cX12_readName 83 = .ok (.aload_n 0, 1) := by decide +kernel
theorem dX12_readName_84 : decode cX12_readName 84 = .ok (.getfield 146, 3) := by decide +kernel
theorem dX12_readName_87 : decode cX12_readName 87 = .ok (.ifCond .ne 33, 3) := by decide +kernel
theorem dX12_readName_90 : decode cX12_readName 90 = .ok (.aload_n 0, 1) := by decide +kernel
theorem dX12_readName_91 : decode cX12_readName 91 = .ok (.getfield 85, 3) := by decide +kernel
theorem dX12_readName_94 : decode cX12_readName 94 = .ok (.bipush 25, 2) := by decide +kernel
theorem dX12_readName_96 : decode cX12_readName 96 = .ok (.iload_n 1, 1) := by decide +kernel
theorem dX12_readName_97 : decode cX12_readName 97 = .ok (.iadd, 1) := by decide +kernel
theorem dX12_readName_98 : decode cX12_readName 98 = .ok (.iload_n 2, 1) := by decide +kernel
theorem dX12_readName_99 : decode cX12_readName 99 = .ok (.iadd, 1) := by decide +kernel
theorem dX12_readName_100 : decode cX12_readName 100 = .ok (.aload_n 0, 1) := by decide +kernel
theorem dX12_readName_101 : decode cX12_readName 101 = .ok (.getfield 30, 3) := by decide +kernel
theorem dX12_readName_104 : decode cX12_readName 104 = .ok (.aload_n 0, 1) := by decide +kernel
theorem dX12_readName_105 : decode cX12_readName 105 = .ok (.getfield 143, 3) := by decide +kernel
theorem dX12_readName_108 : decode cX12_readName 108 = .ok (.laload, 1) := by decide +kernel
theorem dX12_readName_109 : decode cX12_readName 109 = .ok (.lastore, 1) := by decide +kernel
theorem dX12_readName_110 : decode cX12_readName 110 = .ok (.aload_n 0, 1) := by decide +kernel
theorem dX12_readName_111 : decode cX12_readName 111 = .ok (.dup, 1) := by decide +kernel
theorem dX12_readName_112 : decode cX12_readName 112 = .ok (.getfield 143, 3) := by decide +kernel
theorem dX12_readName_115 : decode cX12_readName 115 = .ok (.iconst 1, 1) := by decide +kernel
theorem dX12_readName_116 : decode cX12_readName 116 = .ok (.iadd, 1) := by decide +kernel
theorem dX12_readName_117 : decode cX12_readName 117 = .ok (.putfield 143, 3) := by decide +kernel
theorem dX12_readName_120 : decode cX12_readName 120 = .ok (.return_, 1) := by decide +kernel
theorem dX12_isOnce_0 : decode cX12_isOnce 0 = .ok (.aload_n 0, 1) := by decide +kernel
theorem dX12_isOnce_1 : decode cX12_isOnce 1 = .ok (.bipush 87, 2) := by decide +kernel
theorem dX12_isOnce_3 : decode cX12_isOnce 3 = .ok (.invokevirtual 184, 3) := by decide +kernel
theorem dX12_isOnce_6 : decode cX12_isOnce 6 = .ok (.iload_n 1, 1) := by decide +kernel
theorem dX12_isOnce_7 : decode cX12_isOnce 7 = .ok (.ishr, 1) := by decide +kernel
theorem dX12_isOnce_8 : decode cX12_isOnce 8 = .ok (.iconst 1, 1) := by decide +kernel
theorem dX12_isOnce_9 : decode cX12_isOnce 9 = .ok (.iand, 1) := by decide +kernel
theorem dX12_isOnce_10 : decode cX12_isOnce 10 = .ok (.iconst 1, 1) := by decide +kernel
theorem dX12_isOnce_11 : decode cX12_isOnce 11 = .ok (.if_icmp .ne 10, 3) := by decide +kernel
theorem dX12_isOnce_14 : decode cX12_isOnce 14 = .ok (.aload_n 0, 1) := by decide +kernel
theorem dX12_isOnce_15 : decode cX12_isOnce 15 = .ok (.iconst 3, 1) := by decide +kernel
theorem dX12_isOnce_16 : decode cX12_isOnce 16 = .ok (.invokevirtual 152, 3) := by decide +kernel
theorem dX12_isOnce_19 : decode cX12_isOnce 19 = .ok (.iconst 0, 1) := by decide +kernel
theorem dX12_isOnce_20 : decode cX12_isOnce 20 = .ok (.ireturn, 1) := by decide +kernel
theorem dX12_isOnce_21 : decode cX12_isOnce 21 = .ok (.aload_n 0, 1) := by decide +kernel
theorem dX12_isOnce_22 : decode cX12_isOnce 22 = .ok (.getfield 79, 3) := by decide +kernel
theorem dX12_isOnce_25 : decode cX12_isOnce 25 = .ok (.sipush 177, 3) := by decide +kernel
theorem dX12_isOnce_28 : decode cX12_isOnce 28 = .ok (.dup2, 1) := by decide +kernel
theorem dX12_isOnce_29 : decode cX12_isOnce 29 = .ok (.iaload, 1) := by decide +kernel
theorem dX12_isOnce_30 : decode cX12_isOnce 30 = .ok (.iconst 1, 1) := by decide +kernel
theorem dX12_isOnce_31 : decode cX12_isOnce 31 = .ok (.iload_n 1, 1) := by decide +kernel
theorem dX12_isOnce_32 : decode cX12_isOnce 32 = .ok (.ishl, 1) := by decide +kernel
theorem dX12_isOnce_33 : decode cX12_isOnce 33 = .ok (.ior, 1) := by decide +kernel
theorem dX12_isOnce_34 : decode cX12_isOnce 34 = .ok (.iastore, 1) := by decide +kernel
theorem dX12_isOnce_35 : decode cX12_isOnce 35 = .ok (.aload_n 0, 1) := by decide +kernel
theorem dX12_isOnce_36 : decode cX12_isOnce 36 = .ok (.dup, 1) := by decide +kernel
theorem dX12_isOnce_37 : decode cX12_isOnce 37 = .ok (.getfield 143, 3) := by decide +kernel
theorem dX12_isOnce_40 : decode cX12_isOnce 40 = .ok (.iconst 1, 1) := by decide +kernel
theorem dX12_isOnce_41 : decode cX12_isOnce 41 = .ok (.iadd, 1) := by decide +kernel
theorem dX12_isOnce_42 : decode cX12_isOnce 42 = .ok (.putfield 143, 3) := by decide +kernel
theorem dX12_isOnce_45 : decode cX12_isOnce 45 = .ok (.iconst 1, 1) := by decide +kernel
theorem dX12_isOnce_46 : decode cX12_isOnce 46 = .ok (.ireturn, 1) := by decide +kernel
theorem dX12_readLine_0 : decode cX12_readLine 0 = .ok (.aload_n 0, 1) := by decide +kernel
theorem dX12_readLine_1 : decode cX12_readLine 1 = .ok (.iconst 0, 1) := by decide +kernel
theorem dX12_readLine_2 : decode cX12_readLine 2 = .ok (.invokevirtual 155, 3) := by decide +kernel
theorem dX12_readLine_5 : decode cX12_readLine 5 = .ok (.ifCond .eq 39, 3) := by decide +kernel
theorem dX12_readLine_8 : decode cX12_readLine 8 = .ok (.aload_n 0, 1) := by decide +kernel
theorem dX12_readLine_9 : decode cX12_readLine 9 = .ok (.iconst 0, 1) := by decide +kernel
theorem dX12_readLine_10 : decode cX12_readLine 10 = .ok (.aload_n 0, 1) := by decide +kernel
theorem dX12_readLine_11 : decode cX12_readLine 11 = .ok (.iconst 0, 1) := by decide +kernel
theorem dX12_readLine_12 : decode cX12_readLine 12 = .ok (.invokevirtual 184, 3) := by decide +kernel
theorem dX12_readLine_15 : decode cX12_readLine 15 = .ok (.iconst 3, 1) := by decide +kernel
theorem dX12_readLine_16 : decode cX12_readLine 16 = .ok (.invokevirtual 187, 3) := by decide +kernel
theorem dX12_readLine_19 : decode cX12_readLine 19 = .ok (.aload_n 0, 1) := by decide +kernel
theorem dX12_readLine_20 : decode cX12_readLine 20 = .ok (.getfield 79, 3) := by decide +kernel
theorem dX12_readLine_23 : decode cX12_readLine 23 = .ok (.bipush 90, 2) := by decide +kernel
theorem dX12_readLine_25 : decode cX12_readLine 25 = .ok (.dup2, 1) := by decide +kernel
theorem dX12_readLine_26 : decode cX12_readLine 26 = .ok (.iaload, 1) := by decide +kernel
theorem dX12_readLine_27 : decode cX12_readLine 27 = .ok (.aload_n 0, 1) := by decide +kernel
theorem dX12_readLine_28 : decode cX12_readLine 28 = .ok (.getfield 146, 3) := by decide +kernel
theorem dX12_readLine_31 : decode cX12_readLine 31 = .ok (.ifCond .le 7, 3) := by decide +kernel
theorem dX12_readLine_34 : decode cX12_readLine 34 = .ok (.iconst 0, 1) := by decide +kernel
theorem dX12_readLine_35 : decode cX12_readLine 35 = .ok (.goto 4, 3) := by decide +kernel
theorem dX12_readLine_38 : decode cX12_readLine 38 = .ok (.iconst 1, 1) := by decide +kernel
theorem dX12_readLine_39 : decode cX12_readLine 39 = .ok (.iadd, 1) := by decide +kernel
theorem dX12_readLine_40 : decode cX12_readLine 40 = .ok (.iastore, 1) := by decide +kernel
theorem dX12_readLine_41 : decode cX12_readLine 41 = .ok (.goto 160, 3) := by decide +kernel
theorem dX12_readLine_44 : decode cX12_readLine 44 = .ok (.aload_n 0, 1) := by decide +kernel
theorem dX12_readLine_45 : decode cX12_readLine 45 = .ok (.iconst 1, 1) := by decide +kernel
theorem dX12_readLine_46 : decode cX12_readLine 46 = .ok (.invokevirtual 155, 3) := by decide +kernel
theorem dX12_readLine_49 : decode cX12_readLine 49 = .ok (.ifCond .eq 57, 3) := by decide +kernel
theorem dX12_readLine_52 : decode cX12_readLine 52 = .ok (.aload_n 0, 1) := by decide +kernel
theorem dX12_readLine_53 : decode cX12_readLine 53 = .ok (.iconst 3, 1) := by decide +kernel
theorem dX12_readLine_54 : decode cX12_readLine 54 = .ok (.aload_n 0, 1) := by decide +kernel
theorem dX12_readLine_55 : decode cX12_readLine 55 = .ok (.iconst 1, 1) := by decide +kernel
theorem dX12_readLine_56 : decode cX12_readLine 56 = .ok (.invokevirtual 184, 3) := by decide +kernel
theorem dX12_readLine_59 : decode cX12_readLine 59 = .ok (.iconst 2, 1) := by decide +kernel
theorem dX12_readLine_60 : decode cX12_readLine 60 = .ok (.invokevirtual 187, 3) := by decide +kernel
theorem dX12_readLine_63 : decode cX12_readLine 63 = .ok (.aload_n 0, 1) := by decide +kernel
theorem dX12_readLine_64 : decode cX12_readLine 64 = .ok (.bipush 11, 2) := by decide +kernel
theorem dX12_readLine_66 : decode cX12_readLine 66 = .ok (.iconst 4, 1) := by decide +kernel
theorem dX12_readLine_67 : decode cX12_readLine 67 = .ok (.invokevirtual 191, 3) := by decide +kernel
theorem dX12_readLine_70 : decode cX12_readLine 70 = .ok (.istore_n 1, 1) := by decide +kernel
theorem dX12_readLine_71 : decode cX12_readLine 71 = .ok (.aload_n 0, 1) := by decide +kernel
theorem dX12_readLine_72 : decode cX12_readLine 72 = .ok (.getfield 146, 3) := by decide +kernel
theorem dX12_readLine_75 : decode cX12_readLine 75 = .ok (.ifCond .ne 28, 3) := by decide +kernel
theorem dX12_readLine_78 : decode cX12_readLine 78 = .ok (.aload_n 0, 1) := by decide +kernel
theorem dX12_readLine_79 : decode cX12_readLine 79 = .ok (.getfield 79, 3) := by decide +kernel
theorem dX12_readLine_82 : decode cX12_readLine 82 = .ok (.bipush 95, 2) := by decide +kernel
theorem dX12_readLine_84 : decode cX12_readLine 84 = .ok (.aload_n 0, 1) := by decide +kernel
theorem dX12_readLine_85 : decode cX12_readLine 85 = .ok (.iconst 1, 1) := by decide +kernel
theorem dX12_readLine_86 : decode cX12_readLine 86 = .ok (.invokevirtual 184, 3) := by decide +kernel
theorem dX12_readLine_89 : decode cX12_readLine 89 = .ok (.iadd, 1) := by decide +kernel
theorem dX12_readLine_90 : decode cX12_readLine 90 = .ok (.iload_n 1, 1) := by decide +kernel
theorem dX12_readLine_91 : decode cX12_readLine 91 = .ok (.iastore, 1) := by decide +kernel
theorem dX12_readLine_92 : decode cX12_readLine 92 = .ok (.aload_n 0, 1) := by decide +kernel
theorem dX12_readLine_93 : decode cX12_readLine 93 = .ok (.getfield 79, 3) := by decide +kernel
theorem dX12_readLine_96 : decode cX12_readLine 96 = .ok (.bipush 91, 2) := by decide +kernel
theorem dX12_readLine_98 : decode cX12_readLine 98 = .ok (.dup2, 1) := by decide +kernel
theorem dX12_readLine_99 : decode cX12_readLine 99 = .ok (.iaload, 1) := by decide +kernel
theorem dX12_readLine_100 : decode cX12_readLine 100 = .ok (.iconst 1, 1) := by decide +kernel
theorem dX12_readLine_101 : decode cX12_readLine 101 = .ok (.iadd, 1) := by decide +kernel
theorem dX12_readLine_102 : decode cX12_readLine 102 = .ok (.iastore, 1) := by decide +kernel
theorem dX12_readLine_103 : decode cX12_readLine 103 = .ok (.goto 98, 3) := by decide +kernel
theorem dX12_readLine_106 : decode cX12_readLine 106 = .ok (.aload_n 0, 1) := by decide +kernel
theorem dX12_readLine_107 : decode cX12_readLine 107 = .ok (.iconst 2, 1) := by decide +kernel
theorem dX12_readLine_108 : decode cX12_readLine 108 = .ok (.invokevirtual 155, 3) := by decide +kernel
theorem dX12_readLine_111 : decode cX12_readLine 111 = .ok (.ifCond .eq 10, 3) := by decide +kernel
theorem dX12_readLine_114 : decode cX12_readLine 114 = .ok (.aload_n 0, 1) := by decide +kernel
theorem dX12_readLine_115 : decode cX12_readLine 115 = .ok (.invokevirtual 194, 3) := by decide +kernel
theorem dX12_readLine_118 : decode cX12_readLine 118 = .ok (.goto 83, 3) := by decide +kernel
theorem dX12_readLine_121 : decode cX12_readLine 121 = .ok (.aload_n 0, 1) := by decide +kernel
theorem dX12_readLine_122 : decode cX12_readLine 122 = .ok (.iconst 5, 1) := by decide +kernel
theorem dX12_readLine_123 : decode cX12_readLine 123 = .ok (.invokevirtual 155, 3) := by decide +kernel
theorem dX12_readLine_126 : decode cX12_readLine 126 = .ok (.ifCond .eq 28, 3) := by decide +kernel
theorem dX12_readLine_129 : decode cX12_readLine 129 = .ok (.aload_n 0, 1) := by decide +kernel
theorem dX12_readLine_130 : decode cX12_readLine 130 = .ok (.iconst 0, 1) := by decide +kernel
theorem dX12_readLine_131 : decode cX12_readLine 131 = .ok (.invokevirtual 197, 3) := by decide +kernel
theorem dX12_readLine_134 : decode cX12_readLine 134 = .ok (.ifCond .eq 67, 3) := by decide +kernel
theorem dX12_readLine_137 : decode cX12_readLine 137 = .ok (.aload_n 0, 1) := by decide +kernel
theorem dX12_readLine_138 : decode cX12_readLine 138 = .ok (.getfield 79, 3) := by decide +kernel
theorem dX12_readLine_141 : decode cX12_readLine 141 = .ok (.bipush 93, 2) := by decide +kernel
theorem dX12_readLine_143 : decode cX12_readLine 143 = .ok (.aload_n 0, 1) := by decide +kernel
theorem dX12_readLine_144 : decode cX12_readLine 144 = .ok (.iconst 0, 1) := by decide +kernel
theorem dX12_readLine_145 : decode cX12_readLine 145 = .ok (.bipush 6, 2) := by decide +kernel
theorem dX12_readLine_147 : decode cX12_readLine 147 = .ok (.invokevirtual 200, 3) := by decide +kernel
theorem dX12_readLine_150 : decode cX12_readLine 150 = .ok (.iastore, 1) := by decide +kernel
theorem dX12_readLine_151 : decode cX12_readLine 151 = .ok (.goto 50, 3) := by decide +kernel
theorem dX12_readLine_154 : decode cX12_readLine 154 = .ok (.aload_n 0, 1) := by decide +kernel
theorem dX12_readLine_155 : decode cX12_readLine 155 = .ok (.bipush 6, 2) := by decide +kernel
theorem dX12_readLine_157 : decode cX12_readLine 157 = .ok (.invokevirtual 155, 3) := by decide +kernel
theorem dX12_readLine_160 : decode cX12_readLine 160 = .ok (.ifCond .ne 11, 3) := by decide +kernel
theorem dX12_readLine_163 : decode cX12_readLine 163 = .ok (.aload_n 0, 1) := by decide +kernel
theorem dX12_readLine_164 : decode cX12_readLine 164 = .ok (.iconst 1, 1) := by decide +kernel
theorem dX12_readLine_165 : decode cX12_readLine 165 = .ok (.invokevirtual 152, 3) := by decide +kernel
theorem dX12_readLine_168 : decode cX12_readLine 168 = .ok (.goto 33, 3) := by decide +kernel
theorem dX12_readLine_171 : decode cX12_readLine 171 = .ok (.aload_n 0, 1) := by decide +kernel
theorem dX12_readLine_172 : decode cX12_readLine 172 = .ok (.iconst 1, 1) := by decide +kernel
theorem dX12_readLine_173 : decode cX12_readLine 173 = .ok (.invokevirtual 197, 3) := by decide +kernel
theorem dX12_readLine_176 : decode cX12_readLine 176 = .ok (.ifCond .eq 25, 3) := by decide +kernel
theorem dX12_readLine_179 : decode cX12_readLine 179 = .ok (.aload_n 0, 1) := by decide +kernel
theorem dX12_readLine_180 : decode cX12_readLine 180 = .ok (.getfield 79, 3) := by decide +kernel
theorem dX12_readLine_183 : decode cX12_readLine 183 = .ok (.bipush 94, 2) := by decide +kernel
theorem dX12_readLine_185 : decode cX12_readLine 185 = .ok (.aload_n 0, 1) := by decide +kernel
theorem dX12_readLine_186 : decode cX12_readLine 186 = .ok (.getfield 175, 3) := by decide +kernel
theorem dX12_readLine_189 : decode cX12_readLine 189 = .ok (.iastore, 1) := by decide +kernel
theorem dX12_readLine_190 : decode cX12_readLine 190 = .ok (.aload_n 0, 1) := by decide +kernel
theorem dX12_readLine_191 : decode cX12_readLine 191 = .ok (.iconst 0, 1) := by decide +kernel
theorem dX12_readLine_192 : decode cX12_readLine 192 = .ok (.invokevirtual 203, 3) := by decide +kernel
theorem dX12_readLine_195 : decode cX12_readLine 195 = .ok (.aload_n 0, 1) := by decide +kernel
theorem dX12_readLine_196 : decode cX12_readLine 196 = .ok (.iconst 0, 1) := by decide +kernel
theorem dX12_readLine_197 : decode cX12_readLine 197 = .ok (.iconst 0, 1) := by decide +kernel
theorem dX12_readLine_198 : decode cX12_readLine 198 = .ok (.invokevirtual 206, 3) := by decide +kernel
theorem dX12_readLine_201 : decode cX12_readLine 201 = .ok (.return_, 1) := by decide +kernel
theorem dX12_readItem_0 : decode cX12_readItem 0 = .ok (.aload_n 0, 1) := by decide +kernel
theorem dX12_readItem_1 : decode cX12_readItem 1 = .ok (.iconst 2, 1) := by decide +kernel
theorem dX12_readItem_2 : decode cX12_readItem 2 = .ok (.invokevirtual 184, 3) := by decide +kernel
theorem dX12_readItem_5 : decode cX12_readItem 5 = .ok (.istore_n 1, 1) := by decide +kernel
theorem dX12_readItem_6 : decode cX12_readItem 6 = .ok (.aload_n 0, 1) := by decide +kernel
theorem dX12_readItem_7 : decode cX12_readItem 7 = .ok (.iconst 5, 1) := by decide +kernel
theorem dX12_readItem_8 : decode cX12_readItem 8 = .ok (.iload_n 1, 1) := by decide +kernel
theorem dX12_readItem_9 : decode cX12_readItem 9 = .ok (.bipush 20, 2) := by decide +kernel
theorem dX12_readItem_11 : decode cX12_readItem 11 = .ok (.invokevirtual 187, 3) := by decide +kernel
theorem dX12_readItem_14 : decode cX12_readItem 14 = .ok (.aload_n 0, 1) := by decide +kernel
theorem dX12_readItem_15 : decode cX12_readItem 15 = .ok (.bipush 11, 2) := by decide +kernel
theorem dX12_readItem_17 : decode cX12_readItem 17 = .ok (.iconst 4, 1) := by decide +kernel
theorem dX12_readItem_18 : decode cX12_readItem 18 = .ok (.invokevirtual 191, 3) := by decide +kernel
theorem dX12_readItem_21 : decode cX12_readItem 21 = .ok (.istore_n 2, 1) := by decide +kernel
theorem dX12_readItem_22 : decode cX12_readItem 22 = .ok (.aload_n 0, 1) := by decide +kernel
theorem dX12_readItem_23 : decode cX12_readItem 23 = .ok (.iconst 0, 1) := by decide +kernel
theorem dX12_readItem_24 : decode cX12_readItem 24 = .ok (.sipush 999, 3) := by decide +kernel
theorem dX12_readItem_27 : decode cX12_readItem 27 = .ok (.invokevirtual 200, 3) := by decide +kernel
theorem dX12_readItem_30 : decode cX12_readItem 30 = .ok (.istore_n 3, 1) := by decide +kernel
theorem dX12_readItem_31 : decode cX12_readItem 31 = .ok (.aload_n 0, 1) := by decide +kernel
theorem dX12_readItem_32 : decode cX12_readItem 32 = .ok (.iconst 3, 1) := by decide +kernel
theorem dX12_readItem_33 : decode cX12_readItem 33 = .ok (.invokevirtual 210, 3) := by decide +kernel
theorem dX12_readItem_36 : decode cX12_readItem 36 = .ok (.aload_n 0, 1) := by decide +kernel
theorem dX12_readItem_37 : decode cX12_readItem 37 = .ok (.iconst 1, 1) := by decide +kernel
theorem dX12_readItem_38 : decode cX12_readItem 38 = .ok (.bipush 99, 2) := by decide +kernel
theorem dX12_readItem_40 : decode cX12_readItem 40 = .ok (.invokevirtual 200, 3) := by decide +kernel
theorem dX12_readItem_43 : decode cX12_readItem 43 = .ok (.istore 4, 2) := by decide +kernel
theorem dX12_readItem_45 : decode cX12_readItem 45 = .ok (.aload_n 0, 1) := by decide +kernel
theorem dX12_readItem_46 : decode cX12_readItem 46 = .ok (.iconst 4, 1) := by decide +kernel
theorem dX12_readItem_47 : decode cX12_readItem 47 = .ok (.invokevirtual 210, 3) := by decide +kernel
theorem dX12_readItem_50 : decode cX12_readItem 50 = .ok (.aload_n 0, 1) := by decide +kernel
theorem dX12_readItem_51 : decode cX12_readItem 51 = .ok (.bipush 25, 2) := by decide +kernel
theorem dX12_readItem_53 : decode cX12_readItem 53 = .ok (.aload_n 0, 1) := by decide +kernel
theorem dX12_readItem_54 : decode cX12_readItem 54 = .ok (.iconst 0, 1) := by decide +kernel
theorem dX12_readItem_55 : decode cX12_readItem 55 = .ok (.invokevirtual 184, 3) := by decide +kernel
theorem dX12_readItem_58 : decode cX12_readItem 58 = .ok (.iconst (-1), 1) := by decide +kernel
theorem dX12_readItem_59 : decode cX12_readItem 59 = .ok (.invokevirtual 213, 3) := by decide +kernel
theorem dX12_readItem_62 : decode cX12_readItem 62 = .ok (.istore 5, 2) := by decide +kernel
theorem dX12_readItem_64 : decode cX12_readItem 64 = .ok (.aload_n 0, 1) := by decide +kernel
theorem dX12_readItem_65 : decode cX12_readItem 65 = .ok (.getfield 146, 3) := by decide +kernel
theorem dX12_readItem_68 : decode cX12_readItem 68 = .ok (.ifCond .ne 62, 3) := by decide +kernel
theorem dX12_readItem_71 : decode cX12_readItem 71 = .ok (.bipush 97, 2) := by decide +kernel
theorem dX12_readItem_73 : decode cX12_readItem 73 = .ok (.iconst 4, 1) := by decide +kernel
theorem dX12_readItem_74 : decode cX12_readItem 74 = .ok (.iload_n 1, 1) := by decide +kernel
theorem dX12_readItem_75 : decode cX12_readItem 75 = .ok (.imul, 1) := by decide +kernel
theorem dX12_readItem_76 : decode cX12_readItem 76 = .ok (.iadd, 1) := by decide +kernel
theorem dX12_readItem_77 : decode cX12_readItem 77 = .ok (.istore 6, 2) := by decide +kernel
theorem dX12_readItem_79 : decode cX12_readItem 79 = .ok (.aload_n 0, 1) := by decide +kernel
theorem dX12_readItem_80 : decode cX12_readItem 80 = .ok (.getfield 79, 3) := by decide +kernel
theorem dX12_readItem_83 : decode cX12_readItem 83 = .ok (.iload 6, 2) := by decide +kernel
theorem dX12_readItem_85 : decode cX12_readItem 85 = .ok (.iload_n 2, 1) := by decide +kernel
theorem dX12_readItem_86 : decode cX12_readItem 86 = .ok (.iastore, 1) := by decide +kernel
theorem dX12_readItem_87 : decode cX12_readItem 87 = .ok (.aload_n 0, 1) := by decide +kernel
theorem dX12_readItem_88 : decode cX12_readItem 88 = .ok (.getfield 79, 3) := by decide +kernel
theorem dX12_readItem_91 : decode cX12_readItem 91 = .ok (.iload 6, 2) := by decide +kernel
theorem dX12_readItem_93 : decode cX12_readItem 93 = .ok (.iconst 1, 1) := by decide +kernel
theorem dX12_readItem_94 : decode cX12_readItem 94 = .ok (.iadd, 1) := by decide +kernel
theorem dX12_readItem_95 : decode cX12_readItem 95 = .ok (.iload_n 3, 1) := by decide +kernel
theorem dX12_readItem_96 : decode cX12_readItem 96 = .ok (.iastore, 1) := by decide +kernel
theorem dX12_readItem_97 : decode cX12_readItem 97 = .ok (.aload_n 0, 1) := by decide +kernel
theorem dX12_readItem_98 : decode cX12_readItem 98 = .ok (.getfield 79, 3) := by decide +kernel
theorem dX12_readItem_101 : decode cX12_readItem 101 = .ok (.iload 6, 2) := by decide +kernel
theorem dX12_readItem_103 : decode cX12_readItem 103 = .ok (.iconst 2, 1) := by decide +kernel
theorem dX12_readItem_104 : decode cX12_readItem 104 = .ok (.iadd, 1) := by decide +kernel
theorem dX12_readItem_105 : decode cX12_readItem 105 = .ok (.iload 4, 2) := by decide +kernel
theorem dX12_readItem_107 : decode cX12_readItem 107 = .ok (.iastore, 1) := by decide +kernel
theorem dX12_readItem_108 : decode cX12_readItem 108 = .ok (.aload_n 0, 1) := by decide +kernel
theorem dX12_readItem_109 : decode cX12_readItem 109 = .ok (.getfield 79, 3) := by decide +kernel
theorem dX12_readItem_112 : decode cX12_readItem 112 = .ok (.iload 6, 2) := by decide +kernel
theorem dX12_readItem_114 : decode cX12_readItem 114 = .ok (.iconst 3, 1) := by decide +kernel
theorem dX12_readItem_115 : decode cX12_readItem 115 = .ok (.iadd, 1) := by decide +kernel
theorem dX12_readItem_116 : decode cX12_readItem 116 = .ok (.iload 5, 2) := by decide +kernel
theorem dX12_readItem_118 : decode cX12_readItem 118 = .ok (.iastore, 1) := by decide +kernel
theorem dX12_readItem_119 : decode cX12_readItem 119 = .ok (.aload_n 0, 1) := by decide +kernel
theorem dX12_readItem_120 : decode cX12_readItem 120 = .ok (.getfield 79, 3) := by decide +kernel
theorem dX12_readItem_123 : decode cX12_readItem 123 = .ok (.bipush 92, 2) := by decide +kernel
theorem dX12_readItem_125 : decode cX12_readItem 125 = .ok (.dup2, 1) := by decide +kernel
theorem dX12_readItem_126 : decode cX12_readItem 126 = .ok (.iaload, 1) := by decide +kernel
theorem dX12_readItem_127 : decode cX12_readItem 127 = .ok (.iconst 1, 1) := by decide +kernel
theorem dX12_readItem_128 : decode cX12_readItem 128 = .ok (.iadd, 1) := by decide +kernel
theorem dX12_readItem_129 : decode cX12_readItem 129 = .ok (.iastore, 1) := by decide +kernel
theorem dX12_readItem_130 : decode cX12_readItem 130 = .ok (.return_, 1) := by decide +kernel
theorem dX12_work_0 : decode cX12_work 0 = .ok (.aload_n 0, 1) := by decide +kernel
theorem dX12_work_1 : decode cX12_work 1 = .ok (.iconst 0, 1) := by decide +kernel
theorem dX12_work_2 : decode cX12_work 2 = .ok (.putfield 1, 3) := by decide +kernel
theorem dX12_work_5 : decode cX12_work 5 = .ok (.aload_n 0, 1) := by decide +kernel
theorem dX12_work_6 : decode cX12_work 6 = .ok (.invokevirtual 172, 3) := by decide +kernel
theorem dX12_work_9 : decode cX12_work 9 = .ok (.iconst 0, 1) := by decide +kernel
theorem dX12_work_10 : decode cX12_work 10 = .ok (.istore_n 1, 1) := by decide +kernel
theorem dX12_work_11 : decode cX12_work 11 = .ok (.aload_n 0, 1) := by decide +kernel
theorem dX12_work_12 : decode cX12_work 12 = .ok (.getfield 146, 3) := by decide +kernel
theorem dX12_work_15 : decode cX12_work 15 = .ok (.ifCond .ne 189, 3) := by decide +kernel
theorem dX12_work_18 : decode cX12_work 18 = .ok (.aload_n 0, 1) := by decide +kernel
theorem dX12_work_19 : decode cX12_work 19 = .ok (.getfield 24, 3) := by decide +kernel
theorem dX12_work_22 : decode cX12_work 22 = .ok (.aload_n 0, 1) := by decide +kernel
theorem dX12_work_23 : decode cX12_work 23 = .ok (.getfield 143, 3) := by decide +kernel
theorem dX12_work_26 : decode cX12_work 26 = .ok (.iaload, 1) := by decide +kernel
theorem dX12_work_27 : decode cX12_work 27 = .ok (.ifCond .eq 177, 3) := by decide +kernel
theorem dX12_work_30 : decode cX12_work 30 = .ok (.aload_n 0, 1) := by decide +kernel
theorem dX12_work_31 : decode cX12_work 31 = .ok (.bipush 7, 2) := by decide +kernel
theorem dX12_work_33 : decode cX12_work 33 = .ok (.iconst 4, 1) := by decide +kernel
theorem dX12_work_34 : decode cX12_work 34 = .ok (.invokevirtual 161, 3) := by decide +kernel
theorem dX12_work_37 : decode cX12_work 37 = .ok (.istore_n 2, 1) := by decide +kernel
theorem dX12_work_38 : decode cX12_work 38 = .ok (.iload_n 2, 1) := by decide +kernel
theorem dX12_work_39 : decode cX12_work 39 = .ok (.ifCond .ge 11, 3) := by decide +kernel
theorem dX12_work_42 : decode cX12_work 42 = .ok (.aload_n 0, 1) := by decide +kernel
theorem dX12_work_43 : decode cX12_work 43 = .ok (.iconst 1, 1) := by decide +kernel
theorem dX12_work_44 : decode cX12_work 44 = .ok (.invokevirtual 152, 3) := by decide +kernel
theorem dX12_work_47 : decode cX12_work 47 = .ok (.goto 148, 3) := by decide +kernel
theorem dX12_work_50 : decode cX12_work 50 = .ok (.iload_n 1, 1) := by decide +kernel
theorem dX12_work_51 : decode cX12_work 51 = .ok (.bipush 30, 2) := by decide +kernel
theorem dX12_work_53 : decode cX12_work 53 = .ok (.if_icmp .ne 11, 3) := by decide +kernel
theorem dX12_work_56 : decode cX12_work 56 = .ok (.aload_n 0, 1) := by decide +kernel
theorem dX12_work_57 : decode cX12_work 57 = .ok (.iconst 5, 1) := by decide +kernel
theorem dX12_work_58 : decode cX12_work 58 = .ok (.invokevirtual 152, 3) := by decide +kernel
theorem dX12_work_61 : decode cX12_work 61 = .ok (.goto 134, 3) := by decide +kernel
theorem dX12_work_64 : decode cX12_work 64 = .ok (.aload_n 0, 1) := by decide +kernel
theorem dX12_work_65 : decode cX12_work 65 = .ok (.dup, 1) := by decide +kernel
theorem dX12_work_66 : decode cX12_work 66 = .ok (.getfield 143, 3) := by decide +kernel
theorem dX12_work_69 : decode cX12_work 69 = .ok (.iconst 1, 1) := by decide +kernel
theorem dX12_work_70 : decode cX12_work 70 = .ok (.iadd, 1) := by decide +kernel
theorem dX12_work_71 : decode cX12_work 71 = .ok (.putfield 143, 3) := by decide +kernel
theorem dX12_work_74 : decode cX12_work 74 = .ok (.bipush 95, 2) := by decide +kernel
theorem dX12_work_76 : decode cX12_work 76 = .ok (.iconst 3, 1) := by decide +kernel
theorem dX12_work_77 : decode cX12_work 77 = .ok (.iload_n 1, 1) := by decide +kernel
theorem dX12_work_78 : decode cX12_work 78 = .ok (.imul, 1) := by decide +kernel
theorem dX12_work_79 : decode cX12_work 79 = .ok (.iadd, 1) := by decide +kernel
theorem dX12_work_80 : decode cX12_work 80 = .ok (.istore_n 3, 1) := by decide +kernel
theorem dX12_work_81 : decode cX12_work 81 = .ok (.aload_n 0, 1) := by decide +kernel
theorem dX12_work_82 : decode cX12_work 82 = .ok (.getfield 88, 3) := by decide +kernel
theorem dX12_work_85 : decode cX12_work 85 = .ok (.iload_n 3, 1) := by decide +kernel
theorem dX12_work_86 : decode cX12_work 86 = .ok (.iload_n 2, 1) := by decide +kernel
theorem dX12_work_87 : decode cX12_work 87 = .ok (.iastore, 1) := by decide +kernel
theorem dX12_work_88 : decode cX12_work 88 = .ok (.iload_n 2, 1) := by decide +kernel
theorem dX12_work_89 : decode cX12_work 89 = .ok (.ifCond .ne 16, 3) := by decide +kernel
theorem dX12_work_92 : decode cX12_work 92 = .ok (.aload_n 0, 1) := by decide +kernel
theorem dX12_work_93 : decode cX12_work 93 = .ok (.iconst 5, 1) := by decide +kernel
theorem dX12_work_94 : decode cX12_work 94 = .ok (.aload_n 0, 1) := by decide +kernel
theorem dX12_work_95 : decode cX12_work 95 = .ok (.invokevirtual 217, 3) := by decide +kernel
theorem dX12_work_98 : decode cX12_work 98 = .ok (.iconst (-1), 1) := by decide +kernel
theorem dX12_work_99 : decode cX12_work 99 = .ok (.invokevirtual 213, 3) := by decide +kernel
theorem dX12_work_102 : decode cX12_work 102 = .ok (.goto 13, 3) := by decide +kernel
theorem dX12_work_105 : decode cX12_work 105 = .ok (.aload_n 0, 1) := by decide +kernel
theorem dX12_work_106 : decode cX12_work 106 = .ok (.iconst 0, 1) := by decide +kernel
theorem dX12_work_107 : decode cX12_work 107 = .ok (.aload_n 0, 1) := by decide +kernel
theorem dX12_work_108 : decode cX12_work 108 = .ok (.invokevirtual 221, 3) := by decide +kernel
theorem dX12_work_111 : decode cX12_work 111 = .ok (.iconst (-1), 1) := by decide +kernel
theorem dX12_work_112 : decode cX12_work 112 = .ok (.invokevirtual 213, 3) := by decide +kernel
theorem dX12_work_115 : decode cX12_work 115 = .ok (.istore 4, 2) := by decide +kernel
theorem dX12_work_117 : decode cX12_work 117 = .ok (.aload_n 0, 1) := by decide +kernel
theorem dX12_work_118 : decode cX12_work 118 = .ok (.getfield 88, 3) := by decide +kernel
theorem dX12_work_121 : decode cX12_work 121 = .ok (.iload_n 3, 1) := by decide +kernel
theorem dX12_work_122 : decode cX12_work 122 = .ok (.iconst 1, 1) := by decide +kernel
theorem dX12_work_123 : decode cX12_work 123 = .ok (.iadd, 1) := by decide +kernel
theorem dX12_work_124 : decode cX12_work 124 = .ok (.iload 4, 2) := by decide +kernel
theorem dX12_work_126 : decode cX12_work 126 = .ok (.iastore, 1) := by decide +kernel
theorem dX12_work_127 : decode cX12_work 127 = .ok (.aload_n 0, 1) := by decide +kernel
theorem dX12_work_128 : decode cX12_work 128 = .ok (.getfield 88, 3) := by decide +kernel
theorem dX12_work_131 : decode cX12_work 131 = .ok (.iload_n 3, 1) := by decide +kernel
theorem dX12_work_132 : decode cX12_work 132 = .ok (.iconst 2, 1) := by decide +kernel
theorem dX12_work_133 : decode cX12_work 133 = .ok (.iadd, 1) := by decide +kernel
theorem dX12_work_134 : decode cX12_work 134 = .ok (.iload_n 2, 1) := by decide +kernel
theorem dX12_work_135 : decode cX12_work 135 = .ok (.ifCond .ne 16, 3) := by decide +kernel
theorem dX12_work_138 : decode cX12_work 138 = .ok (.aload_n 0, 1) := by decide +kernel
theorem dX12_work_139 : decode cX12_work 139 = .ok (.iconst 0, 1) := by decide +kernel
theorem dX12_work_140 : decode cX12_work 140 = .ok (.aload_n 0, 1) := by decide +kernel
theorem dX12_work_141 : decode cX12_work 141 = .ok (.invokevirtual 221, 3) := by decide +kernel
theorem dX12_work_144 : decode cX12_work 144 = .ok (.iconst (-1), 1) := by decide +kernel
theorem dX12_work_145 : decode cX12_work 145 = .ok (.invokevirtual 213, 3) := by decide +kernel
theorem dX12_work_148 : decode cX12_work 148 = .ok (.goto 43, 3) := by decide +kernel
theorem dX12_work_151 : decode cX12_work 151 = .ok (.iload_n 2, 1) := by decide +kernel
theorem dX12_work_152 : decode cX12_work 152 = .ok (.iconst 2, 1) := by decide +kernel
theorem dX12_work_153 : decode cX12_work 153 = .ok (.if_icmp .ne 17, 3) := by decide +kernel
theorem dX12_work_156 : decode cX12_work 156 = .ok (.aload_n 0, 1) := by decide +kernel
theorem dX12_work_157 : decode cX12_work 157 = .ok (.iconst 0, 1) := by decide +kernel
theorem dX12_work_158 : decode cX12_work 158 = .ok (.aload_n 0, 1) := by decide +kernel
theorem dX12_work_159 : decode cX12_work 159 = .ok (.invokevirtual 221, 3) := by decide +kernel
theorem dX12_work_162 : decode cX12_work 162 = .ok (.iload 4, 2) := by decide +kernel
theorem dX12_work_164 : decode cX12_work 164 = .ok (.invokevirtual 213, 3) := by decide +kernel
theorem dX12_work_167 : decode cX12_work 167 = .ok (.goto 24, 3) := by decide +kernel
theorem dX12_work_170 : decode cX12_work 170 = .ok (.iload_n 2, 1) := by decide +kernel
theorem dX12_work_171 : decode cX12_work 171 = .ok (.iconst 3, 1) := by decide +kernel
theorem dX12_work_172 : decode cX12_work 172 = .ok (.if_icmp .ne 18, 3) := by decide +kernel
theorem dX12_work_175 : decode cX12_work 175 = .ok (.aload_n 0, 1) := by decide +kernel
theorem dX12_work_176 : decode cX12_work 176 = .ok (.iconst 3, 1) := by decide +kernel
theorem dX12_work_177 : decode cX12_work 177 = .ok (.aload_n 0, 1) := by decide +kernel
theorem dX12_work_178 : decode cX12_work 178 = .ok (.getfield 79, 3) := by decide +kernel
theorem dX12_work_181 : decode cX12_work 181 = .ok (.iconst 1, 1) := by decide +kernel
theorem dX12_work_182 : decode cX12_work 182 = .ok (.iaload, 1) := by decide +kernel
theorem dX12_work_183 : decode cX12_work 183 = .ok (.iconst (-1), 1) := by decide +kernel
theorem dX12_work_184 : decode cX12_work 184 = .ok (.invokevirtual 213, 3) := by decide +kernel
theorem dX12_work_187 : decode cX12_work 187 = .ok (.goto 4, 3) := by decide +kernel
theorem dX12_work_190 : decode cX12_work 190 = .ok (.iconst 0, 1) := by decide +kernel
theorem dX12_work_191 : decode cX12_work 191 = .ok (.iastore, 1) := by decide +kernel
theorem dX12_work_192 : decode cX12_work 192 = .ok (.iinc 1 1, 3) := by decide +kernel
theorem dX12_work_195 : decode cX12_work 195 = .ok (.aload_n 0, 1) := by decide +kernel
theorem dX12_work_196 : decode cX12_work 196 = .ok (.bipush 59, 2) := by decide +kernel
theorem dX12_work_198 : decode cX12_work 198 = .ok (.invokevirtual 181, 3) := by decide +kernel
theorem dX12_work_201 : decode cX12_work 201 = .ok (.goto (-190), 3) := by decide +kernel
theorem dX12_work_204 : decode cX12_work 204 = .ok (.aload_n 0, 1) := by decide +kernel
theorem dX12_work_205 : decode cX12_work 205 = .ok (.getfield 146, 3) := by decide +kernel
theorem dX12_work_208 : decode cX12_work 208 = .ok (.ifCond .le 8, 3) := by decide +kernel
theorem dX12_work_211 : decode cX12_work 211 = .ok (.aload_n 0, 1) := by decide +kernel
theorem dX12_work_212 : decode cX12_work 212 = .ok (.getfield 146, 3) := by decide +kernel
theorem dX12_work_215 : decode cX12_work 215 = .ok (.ireturn, 1) := by decide +kernel
theorem dX12_work_216 : decode cX12_work 216 = .ok (.aload_n 0, 1) := by decide +kernel
theorem dX12_work_217 : decode cX12_work 217 = .ok (.getfield 88, 3) := by decide +kernel
theorem dX12_work_220 : decode cX12_work 220 = .ok (.iconst 0, 1) := by decide +kernel
theorem dX12_work_221 : decode cX12_work 221 = .ok (.iload_n 1, 1) := by decide +kernel
theorem dX12_work_222 : decode cX12_work 222 = .ok (.iastore, 1) := by decide +kernel
theorem dX12_work_223 : decode cX12_work 223 = .ok (.iconst 0, 1) := by decide +kernel
theorem dX12_work_224 : decode cX12_work 224 = .ok (.istore_n 2, 1) := by decide +kernel
theorem dX12_work_225 : decode cX12_work 225 = .ok (.iload_n 2, 1) := by decide +kernel
theorem dX12_work_226 : decode cX12_work 226 = .ok (.iconst 3, 1) := by decide +kernel
theorem dX12_work_227 : decode cX12_work 227 = .ok (.iload_n 1, 1) := by decide +kernel
theorem dX12_work_228 : decode cX12_work 228 = .ok (.imul, 1) := by decide +kernel
theorem dX12_work_229 : decode cX12_work 229 = .ok (.if_icmp .ge 26, 3) := by decide +kernel
theorem dX12_work_232 : decode cX12_work 232 = .ok (.aload_n 0, 1) := by decide +kernel
theorem dX12_work_233 : decode cX12_work 233 = .ok (.getfield 88, 3) := by decide +kernel
theorem dX12_work_236 : decode cX12_work 236 = .ok (.iconst 1, 1) := by decide +kernel
theorem dX12_work_237 : decode cX12_work 237 = .ok (.iload_n 2, 1) := by decide +kernel
theorem dX12_work_238 : decode cX12_work 238 = .ok (.iadd, 1) := by decide +kernel
theorem dX12_work_239 : decode cX12_work 239 = .ok (.aload_n 0, 1) := by decide +kernel
theorem dX12_work_240 : decode cX12_work 240 = .ok (.getfield 88, 3) := by decide +kernel
theorem dX12_work_243 : decode cX12_work 243 = .ok (.bipush 95, 2) := by decide +kernel
theorem dX12_work_245 : decode cX12_work 245 = .ok (.iload_n 2, 1) := by decide +kernel
theorem dX12_work_246 : decode cX12_work 246 = .ok (.iadd, 1) := by decide +kernel
theorem dX12_work_247 : decode cX12_work 247 = .ok (.iaload, 1) := by decide +kernel
theorem dX12_work_248 : decode cX12_work 248 = .ok (.iastore, 1) := by decide +kernel
theorem dX12_work_249 : decode cX12_work 249 = .ok (.iinc 2 1, 3) := by decide +kernel
theorem dX12_work_252 : decode cX12_work 252 = .ok (.goto (-27), 3) := by decide +kernel
theorem dX12_work_255 : decode cX12_work 255 = .ok (.iconst 0, 1) := by decide +kernel
theorem dX12_work_256 : decode cX12_work 256 = .ok (.ireturn, 1) := by decide +kernel
theorem dX12_emit_0 : decode cX12_emit 0 = .ok (.aload_n 0, 1) := by decide +kernel
theorem dX12_emit_1 : decode cX12_emit 1 = .ok (.getfield 82, 3) := by decide +kernel
theorem dX12_emit_4 : decode cX12_emit 4 = .ok (.sipush 1100, 3) := by decide +kernel
theorem dX12_emit_7 : decode cX12_emit 7 = .ok (.aload_n 0, 1) := by decide +kernel
theorem dX12_emit_8 : decode cX12_emit 8 = .ok (.getfield 175, 3) := by decide +kernel
theorem dX12_emit_11 : decode cX12_emit 11 = .ok (.iadd, 1) := by decide +kernel
theorem dX12_emit_12 : decode cX12_emit 12 = .ok (.iload_n 1, 1) := by decide +kernel
theorem dX12_emit_13 : decode cX12_emit 13 = .ok (.bipush 16, 2) := by decide +kernel
theorem dX12_emit_15 : decode cX12_emit 15 = .ok (.iload_n 2, 1) := by decide +kernel
theorem dX12_emit_16 : decode cX12_emit 16 = .ok (.imul, 1) := by decide +kernel
theorem dX12_emit_17 : decode cX12_emit 17 = .ok (.iadd, 1) := by decide +kernel
theorem dX12_emit_18 : decode cX12_emit 18 = .ok (.iastore, 1) := by decide +kernel
theorem dX12_emit_19 : decode cX12_emit 19 = .ok (.aload_n 0, 1) := by decide +kernel
theorem dX12_emit_20 : decode cX12_emit 20 = .ok (.dup, 1) := by decide +kernel
theorem dX12_emit_21 : decode cX12_emit 21 = .ok (.getfield 175, 3) := by decide +kernel
theorem dX12_emit_24 : decode cX12_emit 24 = .ok (.iconst 1, 1) := by decide +kernel
theorem dX12_emit_25 : decode cX12_emit 25 = .ok (.iadd, 1) := by decide +kernel
theorem dX12_emit_26 : decode cX12_emit 26 = .ok (.putfield 175, 3) := by decide +kernel
theorem dX12_emit_29 : decode cX12_emit 29 = .ok (.return_, 1) := by decide +kernel
theorem dX12_allOf_0 : decode cX12_allOf 0 = .ok (.aload_n 0, 1) := by decide +kernel
theorem dX12_allOf_1 : decode cX12_allOf 1 = .ok (.iload_n 1, 1) := by decide +kernel
theorem dX12_allOf_2 : decode cX12_allOf 2 = .ok (.invokevirtual 224, 3) := by decide +kernel
theorem dX12_allOf_5 : decode cX12_allOf 5 = .ok (.aload_n 0, 1) := by decide +kernel
theorem dX12_allOf_6 : decode cX12_allOf 6 = .ok (.bipush 16, 2) := by decide +kernel
theorem dX12_allOf_8 : decode cX12_allOf 8 = .ok (.invokevirtual 155, 3) := by decide +kernel
theorem dX12_allOf_11 : decode cX12_allOf 11 = .ok (.ifCond .ne 12, 3) := by decide +kernel
theorem dX12_allOf_14 : decode cX12_allOf 14 = .ok (.aload_n 0, 1) := by decide +kernel
theorem dX12_allOf_15 : decode cX12_allOf 15 = .ok (.bipush 17, 2) := by decide +kernel
theorem dX12_allOf_17 : decode cX12_allOf 17 = .ok (.invokevirtual 155, 3) := by decide +kernel
theorem dX12_allOf_20 : decode cX12_allOf 20 = .ok (.ifCond .eq 44, 3) := by decide +kernel
theorem dX12_allOf_23 : decode cX12_allOf 23 = .ok (.aload_n 0, 1) := by decide +kernel
theorem dX12_allOf_24 : decode cX12_allOf 24 = .ok (.bipush 16, 2) := by decide +kernel
theorem dX12_allOf_26 : decode cX12_allOf 26 = .ok (.invokevirtual 155, 3) := by decide +kernel
theorem dX12_allOf_29 : decode cX12_allOf 29 = .ok (.istore_n 2, 1) := by decide +kernel
theorem dX12_allOf_30 : decode cX12_allOf 30 = .ok (.aload_n 0, 1) := by decide +kernel
theorem dX12_allOf_31 : decode cX12_allOf 31 = .ok (.dup, 1) := by decide +kernel
theorem dX12_allOf_32 : decode cX12_allOf 32 = .ok (.getfield 143, 3) := by decide +kernel
theorem dX12_allOf_35 : decode cX12_allOf 35 = .ok (.iconst 1, 1) := by decide +kernel
theorem dX12_allOf_36 : decode cX12_allOf 36 = .ok (.iadd, 1) := by decide +kernel
theorem dX12_allOf_37 : decode cX12_allOf 37 = .ok (.putfield 143, 3) := by decide +kernel
theorem dX12_allOf_40 : decode cX12_allOf 40 = .ok (.aload_n 0, 1) := by decide +kernel
theorem dX12_allOf_41 : decode cX12_allOf 41 = .ok (.iload_n 1, 1) := by decide +kernel
theorem dX12_allOf_42 : decode cX12_allOf 42 = .ok (.invokevirtual 224, 3) := by decide +kernel
theorem dX12_allOf_45 : decode cX12_allOf 45 = .ok (.aload_n 0, 1) := by decide +kernel
theorem dX12_allOf_46 : decode cX12_allOf 46 = .ok (.iload_n 2, 1) := by decide +kernel
theorem dX12_allOf_47 : decode cX12_allOf 47 = .ok (.ifCond .eq 8, 3) := by decide +kernel
theorem dX12_allOf_50 : decode cX12_allOf 50 = .ok (.bipush 9, 2) := by decide +kernel
theorem dX12_allOf_52 : decode cX12_allOf 52 = .ok (.goto 5, 3) := by decide +kernel
theorem dX12_allOf_55 : decode cX12_allOf 55 = .ok (.bipush 10, 2) := by decide +kernel
theorem dX12_allOf_57 : decode cX12_allOf 57 = .ok (.iconst 0, 1) := by decide +kernel
theorem dX12_allOf_58 : decode cX12_allOf 58 = .ok (.invokevirtual 206, 3) := by decide +kernel
theorem dX12_allOf_61 : decode cX12_allOf 61 = .ok (.goto (-56), 3) := by decide +kernel
theorem dX12_allOf_64 : decode cX12_allOf 64 = .ok (.return_, 1) := by decide +kernel
theorem dX12_test_0 : decode cX12_test 0 = .ok (.aload_n 0, 1) := by decide +kernel
theorem dX12_test_1 : decode cX12_test 1 = .ok (.iload_n 1, 1) := by decide +kernel
theorem dX12_test_2 : decode cX12_test 2 = .ok (.invokevirtual 227, 3) := by decide +kernel
theorem dX12_test_5 : decode cX12_test 5 = .ok (.aload_n 0, 1) := by decide +kernel
theorem dX12_test_6 : decode cX12_test 6 = .ok (.bipush 60, 2) := by decide +kernel
theorem dX12_test_8 : decode cX12_test 8 = .ok (.invokevirtual 149, 3) := by decide +kernel
theorem dX12_test_11 : decode cX12_test 11 = .ok (.istore_n 2, 1) := by decide +kernel
theorem dX12_test_12 : decode cX12_test 12 = .ok (.aload_n 0, 1) := by decide +kernel
theorem dX12_test_13 : decode cX12_test 13 = .ok (.bipush 60, 2) := by decide +kernel
theorem dX12_test_15 : decode cX12_test 15 = .ok (.invokevirtual 230, 3) := by decide +kernel
theorem dX12_test_18 : decode cX12_test 18 = .ok (.ifCond .ne 12, 3) := by decide +kernel
theorem dX12_test_21 : decode cX12_test 21 = .ok (.aload_n 0, 1) := by decide +kernel
theorem dX12_test_22 : decode cX12_test 22 = .ok (.bipush 61, 2) := by decide +kernel
theorem dX12_test_24 : decode cX12_test 24 = .ok (.invokevirtual 230, 3) := by decide +kernel
theorem dX12_test_27 : decode cX12_test 27 = .ok (.ifCond .eq 24, 3) := by decide +kernel
theorem dX12_test_30 : decode cX12_test 30 = .ok (.aload_n 0, 1) := by decide +kernel
theorem dX12_test_31 : decode cX12_test 31 = .ok (.iload_n 1, 1) := by decide +kernel
theorem dX12_test_32 : decode cX12_test 32 = .ok (.invokevirtual 227, 3) := by decide +kernel
theorem dX12_test_35 : decode cX12_test 35 = .ok (.aload_n 0, 1) := by decide +kernel
theorem dX12_test_36 : decode cX12_test 36 = .ok (.iload_n 2, 1) := by decide +kernel
theorem dX12_test_37 : decode cX12_test 37 = .ok (.ifCond .eq 8, 3) := by decide +kernel
theorem dX12_test_40 : decode cX12_test 40 = .ok (.bipush 7, 2) := by decide +kernel
theorem dX12_test_42 : decode cX12_test 42 = .ok (.goto 5, 3) := by decide +kernel
theorem dX12_test_45 : decode cX12_test 45 = .ok (.bipush 8, 2) := by decide +kernel
theorem dX12_test_47 : decode cX12_test 47 = .ok (.iconst 0, 1) := by decide +kernel
theorem dX12_test_48 : decode cX12_test 48 = .ok (.invokevirtual 206, 3) := by decide +kernel
theorem dX12_test_51 : decode cX12_test 51 = .ok (.return_, 1) := by decide +kernel
theorem dX12_sums_0 : decode cX12_sums 0 = .ok (.aload_n 0, 1) := by decide +kernel
theorem dX12_sums_1 : decode cX12_sums 1 = .ok (.iload_n 1, 1) := by decide +kernel
theorem dX12_sums_2 : decode cX12_sums 2 = .ok (.invokevirtual 233, 3) := by decide +kernel
theorem dX12_sums_5 : decode cX12_sums 5 = .ok (.aload_n 0, 1) := by decide +kernel
theorem dX12_sums_6 : decode cX12_sums 6 = .ok (.bipush 43, 2) := by decide +kernel
theorem dX12_sums_8 : decode cX12_sums 8 = .ok (.invokevirtual 149, 3) := by decide +kernel
theorem dX12_sums_11 : decode cX12_sums 11 = .ok (.ifCond .ne 12, 3) := by decide +kernel
theorem dX12_sums_14 : decode cX12_sums 14 = .ok (.aload_n 0, 1) := by decide +kernel
theorem dX12_sums_15 : decode cX12_sums 15 = .ok (.bipush 45, 2) := by decide +kernel
theorem dX12_sums_17 : decode cX12_sums 17 = .ok (.invokevirtual 149, 3) := by decide +kernel
theorem dX12_sums_20 : decode cX12_sums 20 = .ok (.ifCond .eq 42, 3) := by decide +kernel
theorem dX12_sums_23 : decode cX12_sums 23 = .ok (.aload_n 0, 1) := by decide +kernel
theorem dX12_sums_24 : decode cX12_sums 24 = .ok (.bipush 43, 2) := by decide +kernel
theorem dX12_sums_26 : decode cX12_sums 26 = .ok (.invokevirtual 149, 3) := by decide +kernel
theorem dX12_sums_29 : decode cX12_sums 29 = .ok (.istore_n 2, 1) := by decide +kernel
theorem dX12_sums_30 : decode cX12_sums 30 = .ok (.aload_n 0, 1) := by decide +kernel
theorem dX12_sums_31 : decode cX12_sums 31 = .ok (.dup, 1) := by decide +kernel
theorem dX12_sums_32 : decode cX12_sums 32 = .ok (.getfield 143, 3) := by decide +kernel
theorem dX12_sums_35 : decode cX12_sums 35 = .ok (.iconst 1, 1) := by decide +kernel
theorem dX12_sums_36 : decode cX12_sums 36 = .ok (.iadd, 1) := by decide +kernel
theorem dX12_sums_37 : decode cX12_sums 37 = .ok (.putfield 143, 3) := by decide +kernel
theorem dX12_sums_40 : decode cX12_sums 40 = .ok (.aload_n 0, 1) := by decide +kernel
theorem dX12_sums_41 : decode cX12_sums 41 = .ok (.iload_n 1, 1) := by decide +kernel
theorem dX12_sums_42 : decode cX12_sums 42 = .ok (.invokevirtual 233, 3) := by decide +kernel
theorem dX12_sums_45 : decode cX12_sums 45 = .ok (.aload_n 0, 1) := by decide +kernel
theorem dX12_sums_46 : decode cX12_sums 46 = .ok (.iload_n 2, 1) := by decide +kernel
theorem dX12_sums_47 : decode cX12_sums 47 = .ok (.ifCond .eq 7, 3) := by decide +kernel
theorem dX12_sums_50 : decode cX12_sums 50 = .ok (.iconst 4, 1) := by decide +kernel
theorem dX12_sums_51 : decode cX12_sums 51 = .ok (.goto 4, 3) := by decide +kernel
theorem dX12_sums_54 : decode cX12_sums 54 = .ok (.iconst 5, 1) := by decide +kernel
theorem dX12_sums_55 : decode cX12_sums 55 = .ok (.iconst 0, 1) := by decide +kernel
theorem dX12_sums_56 : decode cX12_sums 56 = .ok (.invokevirtual 206, 3) := by decide +kernel
theorem dX12_sums_59 : decode cX12_sums 59 = .ok (.goto (-54), 3) := by decide +kernel
theorem dX12_sums_62 : decode cX12_sums 62 = .ok (.return_, 1) := by decide +kernel
theorem dX12_products_0 : decode cX12_products 0 = .ok (.aload_n 0, 1) := by decide +kernel
theorem dX12_products_1 : decode cX12_products 1 = .ok (.iload_n 1, 1) := by decide +kernel
theorem dX12_products_2 : decode cX12_products 2 = .ok (.invokevirtual 236, 3) := by decide +kernel
theorem dX12_products_5 : decode cX12_products 5 = .ok (.aload_n 0, 1) := by decide +kernel
theorem dX12_products_6 : decode cX12_products 6 = .ok (.bipush 42, 2) := by decide +kernel
theorem dX12_products_8 : decode cX12_products 8 = .ok (.invokevirtual 230, 3) := by decide +kernel
theorem dX12_products_11 : decode cX12_products 11 = .ok (.ifCond .eq 18, 3) := by decide +kernel
theorem dX12_products_14 : decode cX12_products 14 = .ok (.aload_n 0, 1) := by decide +kernel
theorem dX12_products_15 : decode cX12_products 15 = .ok (.iload_n 1, 1) := by decide +kernel
theorem dX12_products_16 : decode cX12_products 16 = .ok (.invokevirtual 236, 3) := by decide +kernel
theorem dX12_products_19 : decode cX12_products 19 = .ok (.aload_n 0, 1) := by decide +kernel
theorem dX12_products_20 : decode cX12_products 20 = .ok (.bipush 6, 2) := by decide +kernel
theorem dX12_products_22 : decode cX12_products 22 = .ok (.iconst 0, 1) := by decide +kernel
theorem dX12_products_23 : decode cX12_products 23 = .ok (.invokevirtual 206, 3) := by decide +kernel
theorem dX12_products_26 : decode cX12_products 26 = .ok (.goto (-21), 3) := by decide +kernel
theorem dX12_products_29 : decode cX12_products 29 = .ok (.return_, 1) := by decide +kernel
theorem dX12_takePart_0 : decode cX12_takePart 0 = .ok (.aload_n 0, 1) := by decide +kernel
theorem dX12_takePart_1 : decode cX12_takePart 1 = .ok (.getfield 146, 3) := by decide +kernel
theorem dX12_takePart_4 : decode cX12_takePart 4 = .ok (.ifCond .le 4, 3) := by decide +kernel
theorem dX12_takePart_7 : decode cX12_takePart 7 = .ok (.return_, 1) := by decide +kernel
theorem dX12_takePart_8 : decode cX12_takePart 8 = .ok (.aload_n 0, 1) := by decide +kernel
theorem dX12_takePart_9 : decode cX12_takePart 9 = .ok (.getfield 24, 3) := by decide +kernel
theorem dX12_takePart_12 : decode cX12_takePart 12 = .ok (.aload_n 0, 1) := by decide +kernel
theorem dX12_takePart_13 : decode cX12_takePart 13 = .ok (.getfield 143, 3) := by decide +kernel
theorem dX12_takePart_16 : decode cX12_takePart 16 = .ok (.iaload, 1) := by decide +kernel
theorem dX12_takePart_17 : decode cX12_takePart 17 = .ok (.iconst 2, 1) := by decide +kernel
theorem dX12_takePart_18 : decode cX12_takePart 18 = .ok (.if_icmp .ne 7, 3) := by decide +kernel
theorem dX12_takePart_21 : decode cX12_takePart 21 = .ok (.iconst 1, 1) := by decide +kernel
theorem dX12_takePart_22 : decode cX12_takePart 22 = .ok (.goto 4, 3) := by decide +kernel
theorem dX12_takePart_25 : decode cX12_takePart 25 = .ok (.iconst 0, 1) := by decide +kernel
theorem dX12_takePart_26 : decode cX12_takePart 26 = .ok (.istore_n 2, 1) := by decide +kernel
theorem dX12_takePart_27 : decode cX12_takePart 27 = .ok (.aload_n 0, 1) := by decide +kernel
theorem dX12_takePart_28 : decode cX12_takePart 28 = .ok (.bipush 18, 2) := by decide +kernel
theorem dX12_takePart_30 : decode cX12_takePart 30 = .ok (.iconst 4, 1) := by decide +kernel
theorem dX12_takePart_31 : decode cX12_takePart 31 = .ok (.invokevirtual 161, 3) := by decide +kernel
theorem dX12_takePart_34 : decode cX12_takePart 34 = .ok (.istore_n 3, 1) := by decide +kernel
theorem dX12_takePart_35 : decode cX12_takePart 35 = .ok (.iload_n 3, 1) := by decide +kernel
theorem dX12_takePart_36 : decode cX12_takePart 36 = .ok (.ifCond .ge 33, 3) := by decide +kernel
theorem dX12_takePart_39 : decode cX12_takePart 39 = .ok (.iload_n 2, 1) := by decide +kernel
theorem dX12_takePart_40 : decode cX12_takePart 40 = .ok (.ifCond .ne 29, 3) := by decide +kernel
theorem dX12_takePart_43 : decode cX12_takePart 43 = .ok (.aload_n 0, 1) := by decide +kernel
theorem dX12_takePart_44 : decode cX12_takePart 44 = .ok (.bipush 40, 2) := by decide +kernel
theorem dX12_takePart_46 : decode cX12_takePart 46 = .ok (.invokevirtual 149, 3) := by decide +kernel
theorem dX12_takePart_49 : decode cX12_takePart 49 = .ok (.ifCond .ne 20, 3) := by decide +kernel
theorem dX12_takePart_52 : decode cX12_takePart 52 = .ok (.aload_n 0, 1) := by decide +kernel
theorem dX12_takePart_53 : decode cX12_takePart 53 = .ok (.bipush 15, 2) := by decide +kernel
theorem dX12_takePart_55 : decode cX12_takePart 55 = .ok (.invokevirtual 155, 3) := by decide +kernel
theorem dX12_takePart_58 : decode cX12_takePart 58 = .ok (.ifCond .ne 11, 3) := by decide +kernel
theorem dX12_takePart_61 : decode cX12_takePart 61 = .ok (.aload_n 0, 1) := by decide +kernel
theorem dX12_takePart_62 : decode cX12_takePart 62 = .ok (.iconst 1, 1) := by decide +kernel
theorem dX12_takePart_63 : decode cX12_takePart 63 = .ok (.invokevirtual 152, 3) := by decide +kernel
theorem dX12_takePart_66 : decode cX12_takePart 66 = .ok (.goto 13, 3) := by decide +kernel
theorem dX12_takePart_69 : decode cX12_takePart 69 = .ok (.iload_n 1, 1) := by decide +kernel
theorem dX12_takePart_70 : decode cX12_takePart 70 = .ok (.iconst 5, 1) := by decide +kernel
theorem dX12_takePart_71 : decode cX12_takePart 71 = .ok (.if_icmp .ne 8, 3) := by decide +kernel
theorem dX12_takePart_74 : decode cX12_takePart 74 = .ok (.aload_n 0, 1) := by decide +kernel
theorem dX12_takePart_75 : decode cX12_takePart 75 = .ok (.iconst 5, 1) := by decide +kernel
theorem dX12_takePart_76 : decode cX12_takePart 76 = .ok (.invokevirtual 152, 3) := by decide +kernel
theorem dX12_takePart_79 : decode cX12_takePart 79 = .ok (.aload_n 0, 1) := by decide +kernel
theorem dX12_takePart_80 : decode cX12_takePart 80 = .ok (.getfield 146, 3) := by decide +kernel
theorem dX12_takePart_83 : decode cX12_takePart 83 = .ok (.ifCond .le 4, 3) := by decide +kernel
theorem dX12_takePart_86 : decode cX12_takePart 86 = .ok (.return_, 1) := by decide +kernel
theorem dX12_takePart_87 : decode cX12_takePart 87 = .ok (.aload_n 0, 1) := by decide +kernel
theorem dX12_takePart_88 : decode cX12_takePart 88 = .ok (.bipush 15, 2) := by decide +kernel
theorem dX12_takePart_90 : decode cX12_takePart 90 = .ok (.invokevirtual 158, 3) := by decide +kernel
theorem dX12_takePart_93 : decode cX12_takePart 93 = .ok (.ifCond .eq 19, 3) := by decide +kernel
theorem dX12_takePart_96 : decode cX12_takePart 96 = .ok (.aload_n 0, 1) := by decide +kernel
theorem dX12_takePart_97 : decode cX12_takePart 97 = .ok (.iload_n 1, 1) := by decide +kernel
theorem dX12_takePart_98 : decode cX12_takePart 98 = .ok (.iconst 1, 1) := by decide +kernel
theorem dX12_takePart_99 : decode cX12_takePart 99 = .ok (.iadd, 1) := by decide +kernel
theorem dX12_takePart_100 : decode cX12_takePart 100 = .ok (.invokevirtual 236, 3) := by decide +kernel
theorem dX12_takePart_103 : decode cX12_takePart 103 = .ok (.aload_n 0, 1) := by decide +kernel
theorem dX12_takePart_104 : decode cX12_takePart 104 = .ok (.iconst 3, 1) := by decide +kernel
theorem dX12_takePart_105 : decode cX12_takePart 105 = .ok (.iconst 0, 1) := by decide +kernel
theorem dX12_takePart_106 : decode cX12_takePart 106 = .ok (.invokevirtual 206, 3) := by decide +kernel
theorem dX12_takePart_109 : decode cX12_takePart 109 = .ok (.goto 69, 3) := by decide +kernel
theorem dX12_takePart_112 : decode cX12_takePart 112 = .ok (.aload_n 0, 1) := by decide +kernel
theorem dX12_takePart_113 : decode cX12_takePart 113 = .ok (.bipush 40, 2) := by decide +kernel
theorem dX12_takePart_115 : decode cX12_takePart 115 = .ok (.invokevirtual 230, 3) := by decide +kernel
theorem dX12_takePart_118 : decode cX12_takePart 118 = .ok (.ifCond .eq 19, 3) := by decide +kernel
theorem dX12_takePart_121 : decode cX12_takePart 121 = .ok (.aload_n 0, 1) := by decide +kernel
theorem dX12_takePart_122 : decode cX12_takePart 122 = .ok (.iload_n 1, 1) := by decide +kernel
theorem dX12_takePart_123 : decode cX12_takePart 123 = .ok (.iconst 1, 1) := by decide +kernel
theorem dX12_takePart_124 : decode cX12_takePart 124 = .ok (.iadd, 1) := by decide +kernel
theorem dX12_takePart_125 : decode cX12_takePart 125 = .ok (.invokevirtual 203, 3) := by decide +kernel
theorem dX12_takePart_128 : decode cX12_takePart 128 = .ok (.aload_n 0, 1) := by decide +kernel
theorem dX12_takePart_129 : decode cX12_takePart 129 = .ok (.bipush 41, 2) := by decide +kernel
theorem dX12_takePart_131 : decode cX12_takePart 131 = .ok (.invokevirtual 181, 3) := by decide +kernel
theorem dX12_takePart_134 : decode cX12_takePart 134 = .ok (.goto 44, 3) := by decide +kernel
theorem dX12_takePart_137 : decode cX12_takePart 137 = .ok (.aload_n 0, 1) := by decide +kernel
theorem dX12_takePart_138 : decode cX12_takePart 138 = .ok (.iload_n 2, 1) := by decide +kernel
theorem dX12_takePart_139 : decode cX12_takePart 139 = .ok (.ifCond .eq 7, 3) := by decide +kernel
theorem dX12_takePart_142 : decode cX12_takePart 142 = .ok (.iconst 1, 1) := by decide +kernel
theorem dX12_takePart_143 : decode cX12_takePart 143 = .ok (.goto 4, 3) := by decide +kernel
theorem dX12_takePart_146 : decode cX12_takePart 146 = .ok (.iconst 2, 1) := by decide +kernel
theorem dX12_takePart_147 : decode cX12_takePart 147 = .ok (.iload_n 2, 1) := by decide +kernel
theorem dX12_takePart_148 : decode cX12_takePart 148 = .ok (.ifCond .eq 16, 3) := by decide +kernel
theorem dX12_takePart_151 : decode cX12_takePart 151 = .ok (.aload_n 0, 1) := by decide +kernel
theorem dX12_takePart_152 : decode cX12_takePart 152 = .ok (.getfield 30, 3) := by decide +kernel
theorem dX12_takePart_155 : decode cX12_takePart 155 = .ok (.aload_n 0, 1) := by decide +kernel
theorem dX12_takePart_156 : decode cX12_takePart 156 = .ok (.getfield 143, 3) := by decide +kernel
theorem dX12_takePart_159 : decode cX12_takePart 159 = .ok (.laload, 1) := by decide +kernel
theorem dX12_takePart_160 : decode cX12_takePart 160 = .ok (.l2i, 1) := by decide +kernel
theorem dX12_takePart_161 : decode cX12_takePart 161 = .ok (.goto 4, 3) := by decide +kernel
theorem dX12_takePart_164 : decode cX12_takePart 164 = .ok (.iload_n 3, 1) := by decide +kernel
theorem dX12_takePart_165 : decode cX12_takePart 165 = .ok (.invokevirtual 206, 3) := by decide +kernel
theorem dX12_takePart_168 : decode cX12_takePart 168 = .ok (.aload_n 0, 1) := by decide +kernel
theorem dX12_takePart_169 : decode cX12_takePart 169 = .ok (.dup, 1) := by decide +kernel
theorem dX12_takePart_170 : decode cX12_takePart 170 = .ok (.getfield 143, 3) := by decide +kernel
theorem dX12_takePart_173 : decode cX12_takePart 173 = .ok (.iconst 1, 1) := by decide +kernel
theorem dX12_takePart_174 : decode cX12_takePart 174 = .ok (.iadd, 1) := by decide +kernel
theorem dX12_takePart_175 : decode cX12_takePart 175 = .ok (.putfield 143, 3) := by decide +kernel
theorem dX12_takePart_178 : decode cX12_takePart 178 = .ok (.return_, 1) := by decide +kernel
theorem dX12_worthAt_0 : decode cX12_worthAt 0 = .ok (.iconst 0, 1) := by decide +kernel
theorem dX12_worthAt_1 : decode cX12_worthAt 1 = .ok (.istore_n 2, 1) := by decide +kernel
theorem dX12_worthAt_2 : decode cX12_worthAt 2 = .ok (.iload_n 1, 1) := by decide +kernel
theorem dX12_worthAt_3 : decode cX12_worthAt 3 = .ok (.istore_n 3, 1) := by decide +kernel
theorem dX12_worthAt_4 : decode cX12_worthAt 4 = .ok (.aload_n 0, 1) := by decide +kernel
theorem dX12_worthAt_5 : decode cX12_worthAt 5 = .ok (.getfield 82, 3) := by decide +kernel
theorem dX12_worthAt_8 : decode cX12_worthAt 8 = .ok (.iload_n 3, 1) := by decide +kernel
theorem dX12_worthAt_9 : decode cX12_worthAt 9 = .ok (.iaload, 1) := by decide +kernel
theorem dX12_worthAt_10 : decode cX12_worthAt 10 = .ok (.bipush 16, 2) := by decide +kernel
theorem dX12_worthAt_12 : decode cX12_worthAt 12 = .ok (.irem, 1) := by decide +kernel
theorem dX12_worthAt_13 : decode cX12_worthAt 13 = .ok (.ifCond .eq 139, 3) := by decide +kernel
theorem dX12_worthAt_16 : decode cX12_worthAt 16 = .ok (.aload_n 0, 1) := by decide +kernel
theorem dX12_worthAt_17 : decode cX12_worthAt 17 = .ok (.getfield 82, 3) := by decide +kernel
theorem dX12_worthAt_20 : decode cX12_worthAt 20 = .ok (.iload_n 3, 1) := by decide +kernel
theorem dX12_worthAt_21 : decode cX12_worthAt 21 = .ok (.iaload, 1) := by decide +kernel
theorem dX12_worthAt_22 : decode cX12_worthAt 22 = .ok (.bipush 16, 2) := by decide +kernel
theorem dX12_worthAt_24 : decode cX12_worthAt 24 = .ok (.irem, 1) := by decide +kernel
theorem dX12_worthAt_25 : decode cX12_worthAt 25 = .ok (.istore 4, 2) := by decide +kernel
theorem dX12_worthAt_27 : decode cX12_worthAt 27 = .ok (.iload 4, 2) := by decide +kernel
theorem dX12_worthAt_29 : decode cX12_worthAt 29 = .ok (.iconst 1, 1) := by decide +kernel
theorem dX12_worthAt_30 : decode cX12_worthAt 30 = .ok (.if_icmp .eq 9, 3) := by decide +kernel
theorem dX12_worthAt_33 : decode cX12_worthAt 33 = .ok (.iload 4, 2) := by decide +kernel
theorem dX12_worthAt_35 : decode cX12_worthAt 35 = .ok (.iconst 2, 1) := by decide +kernel
theorem dX12_worthAt_36 : decode cX12_worthAt 36 = .ok (.if_icmp .ne 47, 3) := by decide +kernel
theorem dX12_worthAt_39 : decode cX12_worthAt 39 = .ok (.aload_n 0, 1) := by decide +kernel
theorem dX12_worthAt_40 : decode cX12_worthAt 40 = .ok (.getfield 94, 3) := by decide +kernel
theorem dX12_worthAt_43 : decode cX12_worthAt 43 = .ok (.iload_n 2, 1) := by decide +kernel
theorem dX12_worthAt_44 : decode cX12_worthAt 44 = .ok (.iload 4, 2) := by decide +kernel
theorem dX12_worthAt_46 : decode cX12_worthAt 46 = .ok (.iconst 1, 1) := by decide +kernel
theorem dX12_worthAt_47 : decode cX12_worthAt 47 = .ok (.if_icmp .ne 15, 3) := by decide +kernel
theorem dX12_worthAt_50 : decode cX12_worthAt 50 = .ok (.aload_n 0, 1) := by decide +kernel
theorem dX12_worthAt_51 : decode cX12_worthAt 51 = .ok (.getfield 82, 3) := by decide +kernel
theorem dX12_worthAt_54 : decode cX12_worthAt 54 = .ok (.iload_n 3, 1) := by decide +kernel
theorem dX12_worthAt_55 : decode cX12_worthAt 55 = .ok (.iaload, 1) := by decide +kernel
theorem dX12_worthAt_56 : decode cX12_worthAt 56 = .ok (.bipush 16, 2) := by decide +kernel
theorem dX12_worthAt_58 : decode cX12_worthAt 58 = .ok (.idiv, 1) := by decide +kernel
theorem dX12_worthAt_59 : decode cX12_worthAt 59 = .ok (.goto 17, 3) := by decide +kernel
theorem dX12_worthAt_62 : decode cX12_worthAt 62 = .ok (.aload_n 0, 1) := by decide +kernel
theorem dX12_worthAt_63 : decode cX12_worthAt 63 = .ok (.getfield 91, 3) := by decide +kernel
theorem dX12_worthAt_66 : decode cX12_worthAt 66 = .ok (.aload_n 0, 1) := by decide +kernel
theorem dX12_worthAt_67 : decode cX12_worthAt 67 = .ok (.getfield 82, 3) := by decide +kernel
theorem dX12_worthAt_70 : decode cX12_worthAt 70 = .ok (.iload_n 3, 1) := by decide +kernel
theorem dX12_worthAt_71 : decode cX12_worthAt 71 = .ok (.iaload, 1) := by decide +kernel
theorem dX12_worthAt_72 : decode cX12_worthAt 72 = .ok (.bipush 16, 2) := by decide +kernel
theorem dX12_worthAt_74 : decode cX12_worthAt 74 = .ok (.idiv, 1) := by decide +kernel
theorem dX12_worthAt_75 : decode cX12_worthAt 75 = .ok (.iaload, 1) := by decide +kernel
theorem dX12_worthAt_76 : decode cX12_worthAt 76 = .ok (.iastore, 1) := by decide +kernel
theorem dX12_worthAt_77 : decode cX12_worthAt 77 = .ok (.iinc 2 1, 3) := by decide +kernel
theorem dX12_worthAt_80 : decode cX12_worthAt 80 = .ok (.goto 66, 3) := by decide +kernel
theorem dX12_worthAt_83 : decode cX12_worthAt 83 = .ok (.iload 4, 2) := by decide +kernel
theorem dX12_worthAt_85 : decode cX12_worthAt 85 = .ok (.iconst 3, 1) := by decide +kernel
theorem dX12_worthAt_86 : decode cX12_worthAt 86 = .ok (.if_icmp .ne 30, 3) := by decide +kernel
theorem dX12_worthAt_89 : decode cX12_worthAt 89 = .ok (.aload_n 0, 1) := by decide +kernel
theorem dX12_worthAt_90 : decode cX12_worthAt 90 = .ok (.getfield 94, 3) := by decide +kernel
theorem dX12_worthAt_93 : decode cX12_worthAt 93 = .ok (.iload_n 2, 1) := by decide +kernel
theorem dX12_worthAt_94 : decode cX12_worthAt 94 = .ok (.iconst 1, 1) := by decide +kernel
theorem dX12_worthAt_95 : decode cX12_worthAt 95 = .ok (.isub, 1) := by decide +kernel
theorem dX12_worthAt_96 : decode cX12_worthAt 96 = .ok (.aload_n 0, 1) := by decide +kernel
theorem dX12_worthAt_97 : decode cX12_worthAt 97 = .ok (.getfield 94, 3) := by decide +kernel
theorem dX12_worthAt_100 : decode cX12_worthAt 100 = .ok (.iload_n 2, 1) := by decide +kernel
theorem dX12_worthAt_101 : decode cX12_worthAt 101 = .ok (.iconst 1, 1) := by decide +kernel
theorem dX12_worthAt_102 : decode cX12_worthAt 102 = .ok (.isub, 1) := by decide +kernel
theorem dX12_worthAt_103 : decode cX12_worthAt 103 = .ok (.iaload, 1) := by decide +kernel
theorem dX12_worthAt_104 : decode cX12_worthAt 104 = .ok (.ifCond .ne 7, 3) := by decide +kernel
theorem dX12_worthAt_107 : decode cX12_worthAt 107 = .ok (.iconst 1, 1) := by decide +kernel
theorem dX12_worthAt_108 : decode cX12_worthAt 108 = .ok (.goto 4, 3) := by decide +kernel
theorem dX12_worthAt_111 : decode cX12_worthAt 111 = .ok (.iconst 0, 1) := by decide +kernel
theorem dX12_worthAt_112 : decode cX12_worthAt 112 = .ok (.iastore, 1) := by decide +kernel
theorem dX12_worthAt_113 : decode cX12_worthAt 113 = .ok (.goto 33, 3) := by decide +kernel
theorem dX12_worthAt_116 : decode cX12_worthAt 116 = .ok (.iinc 2 (-1), 3) := by decide +kernel
theorem dX12_worthAt_119 : decode cX12_worthAt 119 = .ok (.aload_n 0, 1) := by decide +kernel
theorem dX12_worthAt_120 : decode cX12_worthAt 120 = .ok (.getfield 94, 3) := by decide +kernel
theorem dX12_worthAt_123 : decode cX12_worthAt 123 = .ok (.iload_n 2, 1) := by decide +kernel
theorem dX12_worthAt_124 : decode cX12_worthAt 124 = .ok (.iconst 1, 1) := by decide +kernel
theorem dX12_worthAt_125 : decode cX12_worthAt 125 = .ok (.isub, 1) := by decide +kernel
theorem dX12_worthAt_126 : decode cX12_worthAt 126 = .ok (.iload 4, 2) := by decide +kernel
theorem dX12_worthAt_128 : decode cX12_worthAt 128 = .ok (.aload_n 0, 1) := by decide +kernel
theorem dX12_worthAt_129 : decode cX12_worthAt 129 = .ok (.getfield 94, 3) := by decide +kernel
theorem dX12_worthAt_132 : decode cX12_worthAt 132 = .ok (.iload_n 2, 1) := by decide +kernel
theorem dX12_worthAt_133 : decode cX12_worthAt 133 = .ok (.iconst 1, 1) := by decide +kernel
theorem dX12_worthAt_134 : decode cX12_worthAt 134 = .ok (.isub, 1) := by decide +kernel
theorem dX12_worthAt_135 : decode cX12_worthAt 135 = .ok (.iaload, 1) := by decide +kernel
theorem dX12_worthAt_136 : decode cX12_worthAt 136 = .ok (.aload_n 0, 1) := by decide +kernel
theorem dX12_worthAt_137 : decode cX12_worthAt 137 = .ok (.getfield 94, 3) := by decide +kernel
theorem dX12_worthAt_140 : decode cX12_worthAt 140 = .ok (.iload_n 2, 1) := by decide +kernel
theorem dX12_worthAt_141 : decode cX12_worthAt 141 = .ok (.iaload, 1) := by decide +kernel
theorem dX12_worthAt_142 : decode cX12_worthAt 142 = .ok (.invokestatic 239, 3) := by decide +kernel
theorem dX12_worthAt_145 : decode cX12_worthAt 145 = .ok (.iastore, 1) := by decide +kernel
theorem dX12_worthAt_146 : decode cX12_worthAt 146 = .ok (.iinc 3 1, 3) := by decide +kernel
theorem dX12_worthAt_149 : decode cX12_worthAt 149 = .ok (.goto (-145), 3) := by decide +kernel
theorem dX12_worthAt_152 : decode cX12_worthAt 152 = .ok (.aload_n 0, 1) := by decide +kernel
theorem dX12_worthAt_153 : decode cX12_worthAt 153 = .ok (.getfield 94, 3) := by decide +kernel
theorem dX12_worthAt_156 : decode cX12_worthAt 156 = .ok (.iconst 0, 1) := by decide +kernel
theorem dX12_worthAt_157 : decode cX12_worthAt 157 = .ok (.iaload, 1) := by decide +kernel
theorem dX12_worthAt_158 : decode cX12_worthAt 158 = .ok (.ireturn, 1) := by decide +kernel
theorem dX12_worked_0 : decode cX12_worked 0 = .ok (.iload_n 0, 1) := by decide +kernel
theorem dX12_worked_1 : decode cX12_worked 1 = .ok (.tableswitch 87 4 9 #[39, 43, 47, 51, 62, 73], 39) := by decide +kernel
theorem dX12_worked_40 : decode cX12_worked 40 = .ok (.iload_n 1, 1) := by decide +kernel
theorem dX12_worked_41 : decode cX12_worked 41 = .ok (.iload_n 2, 1) := by decide +kernel
theorem dX12_worked_42 : decode cX12_worked 42 = .ok (.iadd, 1) := by decide +kernel
theorem dX12_worked_43 : decode cX12_worked 43 = .ok (.ireturn, 1) := by decide +kernel
theorem dX12_worked_44 : decode cX12_worked 44 = .ok (.iload_n 1, 1) := by decide +kernel
theorem dX12_worked_45 : decode cX12_worked 45 = .ok (.iload_n 2, 1) := by decide +kernel
theorem dX12_worked_46 : decode cX12_worked 46 = .ok (.isub, 1) := by decide +kernel
theorem dX12_worked_47 : decode cX12_worked 47 = .ok (.ireturn, 1) := by decide +kernel
theorem dX12_worked_48 : decode cX12_worked 48 = .ok (.iload_n 1, 1) := by decide +kernel
theorem dX12_worked_49 : decode cX12_worked 49 = .ok (.iload_n 2, 1) := by decide +kernel
theorem dX12_worked_50 : decode cX12_worked 50 = .ok (.imul, 1) := by decide +kernel
theorem dX12_worked_51 : decode cX12_worked 51 = .ok (.ireturn, 1) := by decide +kernel
theorem dX12_worked_52 : decode cX12_worked 52 = .ok (.iload_n 1, 1) := by decide +kernel
theorem dX12_worked_53 : decode cX12_worked 53 = .ok (.iload_n 2, 1) := by decide +kernel
theorem dX12_worked_54 : decode cX12_worked 54 = .ok (.if_icmp .ge 7, 3) := by decide +kernel
theorem dX12_worked_57 : decode cX12_worked 57 = .ok (.iconst 1, 1) := by decide +kernel
theorem dX12_worked_58 : decode cX12_worked 58 = .ok (.goto 4, 3) := by decide +kernel
theorem dX12_worked_61 : decode cX12_worked 61 = .ok (.iconst 0, 1) := by decide +kernel
theorem dX12_worked_62 : decode cX12_worked 62 = .ok (.ireturn, 1) := by decide +kernel
theorem dX12_worked_63 : decode cX12_worked 63 = .ok (.iload_n 1, 1) := by decide +kernel
theorem dX12_worked_64 : decode cX12_worked 64 = .ok (.iload_n 2, 1) := by decide +kernel
theorem dX12_worked_65 : decode cX12_worked 65 = .ok (.if_icmp .ne 7, 3) := by decide +kernel
theorem dX12_worked_68 : decode cX12_worked 68 = .ok (.iconst 1, 1) := by decide +kernel
theorem dX12_worked_69 : decode cX12_worked 69 = .ok (.goto 4, 3) := by decide +kernel
theorem dX12_worked_72 : decode cX12_worked 72 = .ok (.iconst 0, 1) := by decide +kernel
theorem dX12_worked_73 : decode cX12_worked 73 = .ok (.ireturn, 1) := by decide +kernel
theorem dX12_worked_74 : decode cX12_worked 74 = .ok (.iload_n 1, 1) := by decide +kernel
theorem dX12_worked_75 : decode cX12_worked 75 = .ok (.ifCond .eq 11, 3) := by decide +kernel
theorem dX12_worked_78 : decode cX12_worked 78 = .ok (.iload_n 2, 1) := by decide +kernel
theorem dX12_worked_79 : decode cX12_worked 79 = .ok (.ifCond .eq 7, 3) := by decide +kernel
theorem dX12_worked_82 : decode cX12_worked 82 = .ok (.iconst 1, 1) := by decide +kernel
theorem dX12_worked_83 : decode cX12_worked 83 = .ok (.goto 4, 3) := by decide +kernel
theorem dX12_worked_86 : decode cX12_worked 86 = .ok (.iconst 0, 1) := by decide +kernel
theorem dX12_worked_87 : decode cX12_worked 87 = .ok (.ireturn, 1) := by decide +kernel
theorem dX12_worked_88 : decode cX12_worked 88 = .ok (.iload_n 1, 1) := by decide +kernel
theorem dX12_worked_89 : decode cX12_worked 89 = .ok (.ifCond .ne 7, 3) := by decide +kernel
theorem dX12_worked_92 : decode cX12_worked 92 = .ok (.iload_n 2, 1) := by decide +kernel
theorem dX12_worked_93 : decode cX12_worked 93 = .ok (.ifCond .eq 7, 3) := by decide +kernel
theorem dX12_worked_96 : decode cX12_worked 96 = .ok (.iconst 1, 1) := by decide +kernel
theorem dX12_worked_97 : decode cX12_worked 97 = .ok (.goto 4, 3) := by decide +kernel
theorem dX12_worked_100 : decode cX12_worked 100 = .ok (.iconst 0, 1) := by decide +kernel
theorem dX12_worked_101 : decode cX12_worked 101 = .ok (.ireturn, 1) := by decide +kernel
theorem dX12_lengthOf_0 : decode cX12_lengthOf 0 = .ok (.iconst 0, 1) := by decide +kernel
theorem dX12_lengthOf_1 : decode cX12_lengthOf 1 = .ok (.istore_n 2, 1) := by decide +kernel
theorem dX12_lengthOf_2 : decode cX12_lengthOf 2 = .ok (.iload_n 2, 1) := by decide +kernel
theorem dX12_lengthOf_3 : decode cX12_lengthOf 3 = .ok (.bipush 63, 2) := by decide +kernel
theorem dX12_lengthOf_5 : decode cX12_lengthOf 5 = .ok (.if_icmp .ge 17, 3) := by decide +kernel
theorem dX12_lengthOf_8 : decode cX12_lengthOf 8 = .ok (.lload_n 0, 1) := by decide +kernel
theorem dX12_lengthOf_9 : decode cX12_lengthOf 9 = .ok (.iload_n 2, 1) := by decide +kernel
theorem dX12_lengthOf_10 : decode cX12_lengthOf 10 = .ok (.lshr, 1) := by decide +kernel
theorem dX12_lengthOf_11 : decode cX12_lengthOf 11 = .ok (.lconst 0, 1) := by decide +kernel
theorem dX12_lengthOf_12 : decode cX12_lengthOf 12 = .ok (.lcmp, 1) := by decide +kernel
theorem dX12_lengthOf_13 : decode cX12_lengthOf 13 = .ok (.ifCond .le 9, 3) := by decide +kernel
theorem dX12_lengthOf_16 : decode cX12_lengthOf 16 = .ok (.iinc 2 1, 3) := by decide +kernel
theorem dX12_lengthOf_19 : decode cX12_lengthOf 19 = .ok (.goto (-17), 3) := by decide +kernel
theorem dX12_lengthOf_22 : decode cX12_lengthOf 22 = .ok (.iload_n 2, 1) := by decide +kernel
theorem dX12_lengthOf_23 : decode cX12_lengthOf 23 = .ok (.ireturn, 1) := by decide +kernel
theorem dX12_nearest_0 : decode cX12_nearest 0 = .ok (.lload_n 0, 1) := by decide +kernel
theorem dX12_nearest_1 : decode cX12_nearest 1 = .ok (.lconst 0, 1) := by decide +kernel
theorem dX12_nearest_2 : decode cX12_nearest 2 = .ok (.lcmp, 1) := by decide +kernel
theorem dX12_nearest_3 : decode cX12_nearest 3 = .ok (.ifCond .ne 5, 3) := by decide +kernel
theorem dX12_nearest_6 : decode cX12_nearest 6 = .ok (.iconst 0, 1) := by decide +kernel
theorem dX12_nearest_7 : decode cX12_nearest 7 = .ok (.ireturn, 1) := by decide +kernel
theorem dX12_nearest_8 : decode cX12_nearest 8 = .ok (.lload_n 0, 1) := by decide +kernel
theorem dX12_nearest_9 : decode cX12_nearest 9 = .ok (.invokestatic 242, 3) := by decide +kernel
theorem dX12_nearest_12 : decode cX12_nearest 12 = .ok (.bipush 24, 2) := by decide +kernel
theorem dX12_nearest_14 : decode cX12_nearest 14 = .ok (.isub, 1) := by decide +kernel
theorem dX12_nearest_15 : decode cX12_nearest 15 = .ok (.istore 4, 2) := by decide +kernel
theorem dX12_nearest_17 : decode cX12_nearest 17 = .ok (.iload 4, 2) := by decide +kernel
theorem dX12_nearest_19 : decode cX12_nearest 19 = .ok (.ifCond .gt 26, 3) := by decide +kernel
theorem dX12_nearest_22 : decode cX12_nearest 22 = .ok (.iload_n 2, 1) := by decide +kernel
theorem dX12_nearest_23 : decode cX12_nearest 23 = .ok (.iload 4, 2) := by decide +kernel
theorem dX12_nearest_25 : decode cX12_nearest 25 = .ok (.iadd, 1) := by decide +kernel
theorem dX12_nearest_26 : decode cX12_nearest 26 = .ok (.sipush 150, 3) := by decide +kernel
theorem dX12_nearest_29 : decode cX12_nearest 29 = .ok (.iadd, 1) := by decide +kernel
theorem dX12_nearest_30 : decode cX12_nearest 30 = .ok (.bipush 23, 2) := by decide +kernel
theorem dX12_nearest_32 : decode cX12_nearest 32 = .ok (.ishl, 1) := by decide +kernel
theorem dX12_nearest_33 : decode cX12_nearest 33 = .ok (.lload_n 0, 1) := by decide +kernel
theorem dX12_nearest_34 : decode cX12_nearest 34 = .ok (.iload 4, 2) := by decide +kernel
theorem dX12_nearest_36 : decode cX12_nearest 36 = .ok (.ineg, 1) := by decide +kernel
theorem dX12_nearest_37 : decode cX12_nearest 37 = .ok (.lshl, 1) := by decide +kernel
theorem dX12_nearest_38 : decode cX12_nearest 38 = .ok (.ldc2_w 246, 3) := by decide +kernel
theorem dX12_nearest_41 : decode cX12_nearest 41 = .ok (.lsub, 1) := by decide +kernel
theorem dX12_nearest_42 : decode cX12_nearest 42 = .ok (.l2i, 1) := by decide +kernel
theorem dX12_nearest_43 : decode cX12_nearest 43 = .ok (.iadd, 1) := by decide +kernel
theorem dX12_nearest_44 : decode cX12_nearest 44 = .ok (.ireturn, 1) := by decide +kernel
theorem dX12_nearest_45 : decode cX12_nearest 45 = .ok (.lload_n 0, 1) := by decide +kernel
theorem dX12_nearest_46 : decode cX12_nearest 46 = .ok (.iload 4, 2) := by decide +kernel
theorem dX12_nearest_48 : decode cX12_nearest 48 = .ok (.lshr, 1) := by decide +kernel
theorem dX12_nearest_49 : decode cX12_nearest 49 = .ok (.lstore 5, 2) := by decide +kernel
theorem dX12_nearest_51 : decode cX12_nearest 51 = .ok (.lload_n 0, 1) := by decide +kernel
theorem dX12_nearest_52 : decode cX12_nearest 52 = .ok (.lload 5, 2) := by decide +kernel
theorem dX12_nearest_54 : decode cX12_nearest 54 = .ok (.iload 4, 2) := by decide +kernel
theorem dX12_nearest_56 : decode cX12_nearest 56 = .ok (.lshl, 1) := by decide +kernel
theorem dX12_nearest_57 : decode cX12_nearest 57 = .ok (.lsub, 1) := by decide +kernel
theorem dX12_nearest_58 : decode cX12_nearest 58 = .ok (.lstore 7, 2) := by decide +kernel
theorem dX12_nearest_60 : decode cX12_nearest 60 = .ok (.lconst 1, 1) := by decide +kernel
theorem dX12_nearest_61 : decode cX12_nearest 61 = .ok (.iload 4, 2) := by decide +kernel
theorem dX12_nearest_63 : decode cX12_nearest 63 = .ok (.iconst 1, 1) := by decide +kernel
theorem dX12_nearest_64 : decode cX12_nearest 64 = .ok (.isub, 1) := by decide +kernel
theorem dX12_nearest_65 : decode cX12_nearest 65 = .ok (.lshl, 1) := by decide +kernel
theorem dX12_nearest_66 : decode cX12_nearest 66 = .ok (.lstore 9, 2) := by decide +kernel
theorem dX12_nearest_68 : decode cX12_nearest 68 = .ok (.lload 7, 2) := by decide +kernel
theorem dX12_nearest_70 : decode cX12_nearest 70 = .ok (.lload 9, 2) := by decide +kernel
theorem dX12_nearest_72 : decode cX12_nearest 72 = .ok (.lcmp, 1) := by decide +kernel
theorem dX12_nearest_73 : decode cX12_nearest 73 = .ok (.ifCond .gt 24, 3) := by decide +kernel
theorem dX12_nearest_76 : decode cX12_nearest 76 = .ok (.lload 7, 2) := by decide +kernel
theorem dX12_nearest_78 : decode cX12_nearest 78 = .ok (.lload 9, 2) := by decide +kernel
theorem dX12_nearest_80 : decode cX12_nearest 80 = .ok (.lcmp, 1) := by decide +kernel
theorem dX12_nearest_81 : decode cX12_nearest 81 = .ok (.ifCond .ne 20, 3) := by decide +kernel
theorem dX12_nearest_84 : decode cX12_nearest 84 = .ok (.iload_n 3, 1) := by decide +kernel
theorem dX12_nearest_85 : decode cX12_nearest 85 = .ok (.ifCond .ne 12, 3) := by decide +kernel
theorem dX12_nearest_88 : decode cX12_nearest 88 = .ok (.lload 5, 2) := by decide +kernel
theorem dX12_nearest_90 : decode cX12_nearest 90 = .ok (.lconst 1, 1) := by decide +kernel
theorem dX12_nearest_91 : decode cX12_nearest 91 = .ok (.land, 1) := by decide +kernel
theorem dX12_nearest_92 : decode cX12_nearest 92 = .ok (.lconst 1, 1) := by decide +kernel
theorem dX12_nearest_93 : decode cX12_nearest 93 = .ok (.lcmp, 1) := by decide +kernel
theorem dX12_nearest_94 : decode cX12_nearest 94 = .ok (.ifCond .ne 7, 3) := by decide +kernel
theorem dX12_nearest_97 : decode cX12_nearest 97 = .ok (.iconst 1, 1) := by decide +kernel
theorem dX12_nearest_98 : decode cX12_nearest 98 = .ok (.goto 4, 3) := by decide +kernel
theorem dX12_nearest_101 : decode cX12_nearest 101 = .ok (.iconst 0, 1) := by decide +kernel
theorem dX12_nearest_102 : decode cX12_nearest 102 = .ok (.istore 11, 2) := by decide +kernel
theorem dX12_nearest_104 : decode cX12_nearest 104 = .ok (.iload_n 2, 1) := by decide +kernel
theorem dX12_nearest_105 : decode cX12_nearest 105 = .ok (.iload 4, 2) := by decide +kernel
theorem dX12_nearest_107 : decode cX12_nearest 107 = .ok (.iadd, 1) := by decide +kernel
theorem dX12_nearest_108 : decode cX12_nearest 108 = .ok (.sipush 150, 3) := by decide +kernel
theorem dX12_nearest_111 : decode cX12_nearest 111 = .ok (.iadd, 1) := by decide +kernel
theorem dX12_nearest_112 : decode cX12_nearest 112 = .ok (.bipush 23, 2) := by decide +kernel
theorem dX12_nearest_114 : decode cX12_nearest 114 = .ok (.ishl, 1) := by decide +kernel
theorem dX12_nearest_115 : decode cX12_nearest 115 = .ok (.lload 5, 2) := by decide +kernel
theorem dX12_nearest_117 : decode cX12_nearest 117 = .ok (.ldc2_w 246, 3) := by decide +kernel
theorem dX12_nearest_120 : decode cX12_nearest 120 = .ok (.lsub, 1) := by decide +kernel
theorem dX12_nearest_121 : decode cX12_nearest 121 = .ok (.l2i, 1) := by decide +kernel
theorem dX12_nearest_122 : decode cX12_nearest 122 = .ok (.iadd, 1) := by decide +kernel
theorem dX12_nearest_123 : decode cX12_nearest 123 = .ok (.iload 11, 2) := by decide +kernel
theorem dX12_nearest_125 : decode cX12_nearest 125 = .ok (.ifCond .eq 7, 3) := by decide +kernel
theorem dX12_nearest_128 : decode cX12_nearest 128 = .ok (.iconst 1, 1) := by decide +kernel
theorem dX12_nearest_129 : decode cX12_nearest 129 = .ok (.goto 4, 3) := by decide +kernel
theorem dX12_nearest_132 : decode cX12_nearest 132 = .ok (.iconst 0, 1) := by decide +kernel
theorem dX12_nearest_133 : decode cX12_nearest 133 = .ok (.iadd, 1) := by decide +kernel
theorem dX12_nearest_134 : decode cX12_nearest 134 = .ok (.ireturn, 1) := by decide +kernel
theorem dX12_digits_0 : decode cX12_digits 0 = .ok (.iload_n 0, 1) := by decide +kernel
theorem dX12_digits_1 : decode cX12_digits 1 = .ok (.ifCond .ne 7, 3) := by decide +kernel
theorem dX12_digits_4 : decode cX12_digits 4 = .ok (.lconst 0, 1) := by decide +kernel
theorem dX12_digits_5 : decode cX12_digits 5 = .ok (.goto 12, 3) := by decide +kernel
theorem dX12_digits_8 : decode cX12_digits 8 = .ok (.iload_n 0, 1) := by decide +kernel
theorem dX12_digits_9 : decode cX12_digits 9 = .ok (.ldc 248, 2) := by decide +kernel
theorem dX12_digits_11 : decode cX12_digits 11 = .ok (.irem, 1) := by decide +kernel
theorem dX12_digits_12 : decode cX12_digits 12 = .ok (.i2l, 1) := by decide +kernel
theorem dX12_digits_13 : decode cX12_digits 13 = .ok (.ldc2_w 246, 3) := by decide +kernel
theorem dX12_digits_16 : decode cX12_digits 16 = .ok (.ladd, 1) := by decide +kernel
theorem dX12_digits_17 : decode cX12_digits 17 = .ok (.lreturn, 1) := by decide +kernel
theorem dX12_place_0 : decode cX12_place 0 = .ok (.iload_n 0, 1) := by decide +kernel
theorem dX12_place_1 : decode cX12_place 1 = .ok (.bipush 23, 2) := by decide +kernel
theorem dX12_place_3 : decode cX12_place 3 = .ok (.ishr, 1) := by decide +kernel
theorem dX12_place_4 : decode cX12_place 4 = .ok (.sipush 150, 3) := by decide +kernel
theorem dX12_place_7 : decode cX12_place 7 = .ok (.isub, 1) := by decide +kernel
theorem dX12_place_8 : decode cX12_place 8 = .ok (.ireturn, 1) := by decide +kernel
theorem dX12_ofWhole_0 : decode cX12_ofWhole 0 = .ok (.iload_n 0, 1) := by decide +kernel
theorem dX12_ofWhole_1 : decode cX12_ofWhole 1 = .ok (.i2l, 1) := by decide +kernel
theorem dX12_ofWhole_2 : decode cX12_ofWhole 2 = .ok (.iconst 0, 1) := by decide +kernel
theorem dX12_ofWhole_3 : decode cX12_ofWhole 3 = .ok (.iconst 0, 1) := by decide +kernel
theorem dX12_ofWhole_4 : decode cX12_ofWhole 4 = .ok (.invokestatic 249, 3) := by decide +kernel
theorem dX12_ofWhole_7 : decode cX12_ofWhole 7 = .ok (.ireturn, 1) := by decide +kernel
theorem dX12_adds_0 : decode cX12_adds 0 = .ok (.iload_n 0, 1) := by decide +kernel
theorem dX12_adds_1 : decode cX12_adds 1 = .ok (.iload_n 1, 1) := by decide +kernel
theorem dX12_adds_2 : decode cX12_adds 2 = .ok (.if_icmp .le 7, 3) := by decide +kernel
theorem dX12_adds_5 : decode cX12_adds 5 = .ok (.iload_n 0, 1) := by decide +kernel
theorem dX12_adds_6 : decode cX12_adds 6 = .ok (.goto 4, 3) := by decide +kernel
theorem dX12_adds_9 : decode cX12_adds 9 = .ok (.iload_n 1, 1) := by decide +kernel
theorem dX12_adds_10 : decode cX12_adds 10 = .ok (.istore_n 2, 1) := by decide +kernel
theorem dX12_adds_11 : decode cX12_adds 11 = .ok (.iload_n 0, 1) := by decide +kernel
theorem dX12_adds_12 : decode cX12_adds 12 = .ok (.iload_n 1, 1) := by decide +kernel
theorem dX12_adds_13 : decode cX12_adds 13 = .ok (.if_icmp .le 7, 3) := by decide +kernel
theorem dX12_adds_16 : decode cX12_adds 16 = .ok (.iload_n 1, 1) := by decide +kernel
theorem dX12_adds_17 : decode cX12_adds 17 = .ok (.goto 4, 3) := by decide +kernel
theorem dX12_adds_20 : decode cX12_adds 20 = .ok (.iload_n 0, 1) := by decide +kernel
theorem dX12_adds_21 : decode cX12_adds 21 = .ok (.istore_n 3, 1) := by decide +kernel
theorem dX12_adds_22 : decode cX12_adds 22 = .ok (.iload_n 2, 1) := by decide +kernel
theorem dX12_adds_23 : decode cX12_adds 23 = .ok (.invokestatic 253, 3) := by decide +kernel
theorem dX12_adds_26 : decode cX12_adds 26 = .ok (.iload_n 3, 1) := by decide +kernel
theorem dX12_adds_27 : decode cX12_adds 27 = .ok (.invokestatic 253, 3) := by decide +kernel
theorem dX12_adds_30 : decode cX12_adds 30 = .ok (.isub, 1) := by decide +kernel
theorem dX12_adds_31 : decode cX12_adds 31 = .ok (.istore 4, 2) := by decide +kernel
theorem dX12_adds_33 : decode cX12_adds 33 = .ok (.iload_n 3, 1) := by decide +kernel
theorem dX12_adds_34 : decode cX12_adds 34 = .ok (.ifCond .eq 10, 3) := by decide +kernel
theorem dX12_adds_37 : decode cX12_adds 37 = .ok (.iload 4, 2) := by decide +kernel
theorem dX12_adds_39 : decode cX12_adds 39 = .ok (.bipush 36, 2) := by decide +kernel
theorem dX12_adds_41 : decode cX12_adds 41 = .ok (.if_icmp .le 5, 3) := by decide +kernel
theorem dX12_adds_44 : decode cX12_adds 44 = .ok (.iload_n 2, 1) := by decide +kernel
theorem dX12_adds_45 : decode cX12_adds 45 = .ok (.ireturn, 1) := by decide +kernel
theorem dX12_adds_46 : decode cX12_adds 46 = .ok (.iload_n 2, 1) := by decide +kernel
theorem dX12_adds_47 : decode cX12_adds 47 = .ok (.invokestatic 255, 3) := by decide +kernel
theorem dX12_adds_50 : decode cX12_adds 50 = .ok (.iload 4, 2) := by decide +kernel
theorem dX12_adds_52 : decode cX12_adds 52 = .ok (.lshl, 1) := by decide +kernel
theorem dX12_adds_53 : decode cX12_adds 53 = .ok (.iload_n 3, 1) := by decide +kernel
theorem dX12_adds_54 : decode cX12_adds 54 = .ok (.invokestatic 255, 3) := by decide +kernel
theorem dX12_adds_57 : decode cX12_adds 57 = .ok (.ladd, 1) := by decide +kernel
theorem dX12_adds_58 : decode cX12_adds 58 = .ok (.iload_n 3, 1) := by decide +kernel
theorem dX12_adds_59 : decode cX12_adds 59 = .ok (.invokestatic 253, 3) := by decide +kernel
theorem dX12_adds_62 : decode cX12_adds 62 = .ok (.iconst 0, 1) := by decide +kernel
theorem dX12_adds_63 : decode cX12_adds 63 = .ok (.invokestatic 249, 3) := by decide +kernel
theorem dX12_adds_66 : decode cX12_adds 66 = .ok (.ireturn, 1) := by decide +kernel
theorem dX12_lessens_0 : decode cX12_lessens 0 = .ok (.iload_n 0, 1) := by decide +kernel
theorem dX12_lessens_1 : decode cX12_lessens 1 = .ok (.invokestatic 253, 3) := by decide +kernel
theorem dX12_lessens_4 : decode cX12_lessens 4 = .ok (.iload_n 1, 1) := by decide +kernel
theorem dX12_lessens_5 : decode cX12_lessens 5 = .ok (.invokestatic 253, 3) := by decide +kernel
theorem dX12_lessens_8 : decode cX12_lessens 8 = .ok (.isub, 1) := by decide +kernel
theorem dX12_lessens_9 : decode cX12_lessens 9 = .ok (.istore_n 2, 1) := by decide +kernel
theorem dX12_lessens_10 : decode cX12_lessens 10 = .ok (.iload_n 1, 1) := by decide +kernel
theorem dX12_lessens_11 : decode cX12_lessens 11 = .ok (.ifCond .eq 9, 3) := by decide +kernel
theorem dX12_lessens_14 : decode cX12_lessens 14 = .ok (.iload_n 2, 1) := by decide +kernel
theorem dX12_lessens_15 : decode cX12_lessens 15 = .ok (.bipush 36, 2) := by decide +kernel
theorem dX12_lessens_17 : decode cX12_lessens 17 = .ok (.if_icmp .le 5, 3) := by decide +kernel
theorem dX12_lessens_20 : decode cX12_lessens 20 = .ok (.iload_n 0, 1) := by decide +kernel
theorem dX12_lessens_21 : decode cX12_lessens 21 = .ok (.ireturn, 1) := by decide +kernel
theorem dX12_lessens_22 : decode cX12_lessens 22 = .ok (.iload_n 0, 1) := by decide +kernel
theorem dX12_lessens_23 : decode cX12_lessens 23 = .ok (.invokestatic 255, 3) := by decide +kernel
theorem dX12_lessens_26 : decode cX12_lessens 26 = .ok (.iload_n 2, 1) := by decide +kernel
theorem dX12_lessens_27 : decode cX12_lessens 27 = .ok (.lshl, 1) := by decide +kernel
theorem dX12_lessens_28 : decode cX12_lessens 28 = .ok (.iload_n 1, 1) := by decide +kernel
theorem dX12_lessens_29 : decode cX12_lessens 29 = .ok (.invokestatic 255, 3) := by decide +kernel
theorem dX12_lessens_32 : decode cX12_lessens 32 = .ok (.lsub, 1) := by decide +kernel
theorem dX12_lessens_33 : decode cX12_lessens 33 = .ok (.iload_n 1, 1) := by decide +kernel
theorem dX12_lessens_34 : decode cX12_lessens 34 = .ok (.invokestatic 253, 3) := by decide +kernel
theorem dX12_lessens_37 : decode cX12_lessens 37 = .ok (.iconst 0, 1) := by decide +kernel
theorem dX12_lessens_38 : decode cX12_lessens 38 = .ok (.invokestatic 249, 3) := by decide +kernel
theorem dX12_lessens_41 : decode cX12_lessens 41 = .ok (.ireturn, 1) := by decide +kernel
theorem dX12_multiplies_0 : decode cX12_multiplies 0 = .ok (.iload_n 0, 1) := by decide +kernel
theorem dX12_multiplies_1 : decode cX12_multiplies 1 = .ok (.ifCond .eq 7, 3) := by decide +kernel
theorem dX12_multiplies_4 : decode cX12_multiplies 4 = .ok (.iload_n 1, 1) := by decide +kernel
theorem dX12_multiplies_5 : decode cX12_multiplies 5 = .ok (.ifCond .ne 7, 3) := by decide +kernel
theorem dX12_multiplies_8 : decode cX12_multiplies 8 = .ok (.iconst 0, 1) := by decide +kernel
theorem dX12_multiplies_9 : decode cX12_multiplies 9 = .ok (.goto 25, 3) := by decide +kernel
theorem dX12_multiplies_12 : decode cX12_multiplies 12 = .ok (.iload_n 0, 1) := by decide +kernel
theorem dX12_multiplies_13 : decode cX12_multiplies 13 = .ok (.invokestatic 255, 3) := by decide +kernel
theorem dX12_multiplies_16 : decode cX12_multiplies 16 = .ok (.iload_n 1, 1) := by decide +kernel
theorem dX12_multiplies_17 : decode cX12_multiplies 17 = .ok (.invokestatic 255, 3) := by decide +kernel
theorem dX12_multiplies_20 : decode cX12_multiplies 20 = .ok (.lmul, 1) := by decide +kernel
theorem dX12_multiplies_21 : decode cX12_multiplies 21 = .ok (.iload_n 0, 1) := by decide +kernel
theorem dX12_multiplies_22 : decode cX12_multiplies 22 = .ok (.invokestatic 253, 3) := by decide +kernel
theorem dX12_multiplies_25 : decode cX12_multiplies 25 = .ok (.iload_n 1, 1) := by decide +kernel
theorem dX12_multiplies_26 : decode cX12_multiplies 26 = .ok (.invokestatic 253, 3) := by decide +kernel
theorem dX12_multiplies_29 : decode cX12_multiplies 29 = .ok (.iadd, 1) := by decide +kernel
theorem dX12_multiplies_30 : decode cX12_multiplies 30 = .ok (.iconst 0, 1) := by decide +kernel
theorem dX12_multiplies_31 : decode cX12_multiplies 31 = .ok (.invokestatic 249, 3) := by decide +kernel
theorem dX12_multiplies_34 : decode cX12_multiplies 34 = .ok (.ireturn, 1) := by decide +kernel
theorem dX12_divides_0 : decode cX12_divides 0 = .ok (.iload_n 0, 1) := by decide +kernel
theorem dX12_divides_1 : decode cX12_divides 1 = .ok (.ifCond .ne 5, 3) := by decide +kernel
theorem dX12_divides_4 : decode cX12_divides 4 = .ok (.iconst 0, 1) := by decide +kernel
theorem dX12_divides_5 : decode cX12_divides 5 = .ok (.ireturn, 1) := by decide +kernel
theorem dX12_divides_6 : decode cX12_divides 6 = .ok (.iload_n 0, 1) := by decide +kernel
theorem dX12_divides_7 : decode cX12_divides 7 = .ok (.invokestatic 255, 3) := by decide +kernel
theorem dX12_divides_10 : decode cX12_divides 10 = .ok (.bipush 38, 2) := by decide +kernel
theorem dX12_divides_12 : decode cX12_divides 12 = .ok (.lshl, 1) := by decide +kernel
theorem dX12_divides_13 : decode cX12_divides 13 = .ok (.lstore_n 2, 1) := by decide +kernel
theorem dX12_divides_14 : decode cX12_divides 14 = .ok (.lload_n 2, 1) := by decide +kernel
theorem dX12_divides_15 : decode cX12_divides 15 = .ok (.iload_n 1, 1) := by decide +kernel
theorem dX12_divides_16 : decode cX12_divides 16 = .ok (.invokestatic 255, 3) := by decide +kernel
theorem dX12_divides_19 : decode cX12_divides 19 = .ok (.ldiv, 1) := by decide +kernel
theorem dX12_divides_20 : decode cX12_divides 20 = .ok (.iload_n 0, 1) := by decide +kernel
theorem dX12_divides_21 : decode cX12_divides 21 = .ok (.invokestatic 253, 3) := by decide +kernel
theorem dX12_divides_24 : decode cX12_divides 24 = .ok (.bipush 38, 2) := by decide +kernel
theorem dX12_divides_26 : decode cX12_divides 26 = .ok (.isub, 1) := by decide +kernel
theorem dX12_divides_27 : decode cX12_divides 27 = .ok (.iload_n 1, 1) := by decide +kernel
theorem dX12_divides_28 : decode cX12_divides 28 = .ok (.invokestatic 253, 3) := by decide +kernel
theorem dX12_divides_31 : decode cX12_divides 31 = .ok (.isub, 1) := by decide +kernel
theorem dX12_divides_32 : decode cX12_divides 32 = .ok (.lload_n 2, 1) := by decide +kernel
theorem dX12_divides_33 : decode cX12_divides 33 = .ok (.iload_n 1, 1) := by decide +kernel
theorem dX12_divides_34 : decode cX12_divides 34 = .ok (.invokestatic 255, 3) := by decide +kernel
theorem dX12_divides_37 : decode cX12_divides 37 = .ok (.lrem, 1) := by decide +kernel
theorem dX12_divides_38 : decode cX12_divides 38 = .ok (.lconst 0, 1) := by decide +kernel
theorem dX12_divides_39 : decode cX12_divides 39 = .ok (.lcmp, 1) := by decide +kernel
theorem dX12_divides_40 : decode cX12_divides 40 = .ok (.ifCond .eq 7, 3) := by decide +kernel
theorem dX12_divides_43 : decode cX12_divides 43 = .ok (.iconst 1, 1) := by decide +kernel
theorem dX12_divides_44 : decode cX12_divides 44 = .ok (.goto 4, 3) := by decide +kernel
theorem dX12_divides_47 : decode cX12_divides 47 = .ok (.iconst 0, 1) := by decide +kernel
theorem dX12_divides_48 : decode cX12_divides 48 = .ok (.invokestatic 249, 3) := by decide +kernel
theorem dX12_divides_51 : decode cX12_divides 51 = .ok (.ireturn, 1) := by decide +kernel
theorem dX12_cutsOf_0 : decode cX12_cutsOf 0 = .ok (.iload_n 0, 1) := by decide +kernel
theorem dX12_cutsOf_1 : decode cX12_cutsOf 1 = .ok (.invokestatic 253, 3) := by decide +kernel
theorem dX12_cutsOf_4 : decode cX12_cutsOf 4 = .ok (.istore_n 1, 1) := by decide +kernel
theorem dX12_cutsOf_5 : decode cX12_cutsOf 5 = .ok (.iload_n 0, 1) := by decide +kernel
theorem dX12_cutsOf_6 : decode cX12_cutsOf 6 = .ok (.ifCond .eq 9, 3) := by decide +kernel
theorem dX12_cutsOf_9 : decode cX12_cutsOf 9 = .ok (.iload_n 1, 1) := by decide +kernel
theorem dX12_cutsOf_10 : decode cX12_cutsOf 10 = .ok (.bipush (-30), 2) := by decide +kernel
theorem dX12_cutsOf_12 : decode cX12_cutsOf 12 = .ok (.if_icmp .ge 7, 3) := by decide +kernel
theorem dX12_cutsOf_15 : decode cX12_cutsOf 15 = .ok (.iconst 0, 1) := by decide +kernel
theorem dX12_cutsOf_16 : decode cX12_cutsOf 16 = .ok (.goto 25, 3) := by decide +kernel
theorem dX12_cutsOf_19 : decode cX12_cutsOf 19 = .ok (.iload_n 1, 1) := by decide +kernel
theorem dX12_cutsOf_20 : decode cX12_cutsOf 20 = .ok (.ifCond .ge 14, 3) := by decide +kernel
theorem dX12_cutsOf_23 : decode cX12_cutsOf 23 = .ok (.iload_n 0, 1) := by decide +kernel
theorem dX12_cutsOf_24 : decode cX12_cutsOf 24 = .ok (.invokestatic 255, 3) := by decide +kernel
theorem dX12_cutsOf_27 : decode cX12_cutsOf 27 = .ok (.iload_n 1, 1) := by decide +kernel
theorem dX12_cutsOf_28 : decode cX12_cutsOf 28 = .ok (.ineg, 1) := by decide +kernel
theorem dX12_cutsOf_29 : decode cX12_cutsOf 29 = .ok (.lshr, 1) := by decide +kernel
theorem dX12_cutsOf_30 : decode cX12_cutsOf 30 = .ok (.l2i, 1) := by decide +kernel
theorem dX12_cutsOf_31 : decode cX12_cutsOf 31 = .ok (.goto 10, 3) := by decide +kernel
theorem dX12_cutsOf_34 : decode cX12_cutsOf 34 = .ok (.iload_n 0, 1) := by decide +kernel
theorem dX12_cutsOf_35 : decode cX12_cutsOf 35 = .ok (.invokestatic 255, 3) := by decide +kernel
theorem dX12_cutsOf_38 : decode cX12_cutsOf 38 = .ok (.iload_n 1, 1) := by decide +kernel
theorem dX12_cutsOf_39 : decode cX12_cutsOf 39 = .ok (.lshl, 1) := by decide +kernel
theorem dX12_cutsOf_40 : decode cX12_cutsOf 40 = .ok (.l2i, 1) := by decide +kernel
theorem dX12_cutsOf_41 : decode cX12_cutsOf 41 = .ok (.ireturn, 1) := by decide +kernel
theorem dX12_moves_0 : decode cX12_moves 0 = .ok (.iconst 0, 1) := by decide +kernel
theorem dX12_moves_1 : decode cX12_moves 1 = .ok (.istore 4, 2) := by decide +kernel
theorem dX12_moves_3 : decode cX12_moves 3 = .ok (.iload 4, 2) := by decide +kernel
theorem dX12_moves_5 : decode cX12_moves 5 = .ok (.iload_n 3, 1) := by decide +kernel
theorem dX12_moves_6 : decode cX12_moves 6 = .ok (.if_icmp .ge 27, 3) := by decide +kernel
theorem dX12_moves_9 : decode cX12_moves 9 = .ok (.aload_n 0, 1) := by decide +kernel
theorem dX12_moves_10 : decode cX12_moves 10 = .ok (.getfield 97, 3) := by decide +kernel
theorem dX12_moves_13 : decode cX12_moves 13 = .ok (.iload_n 2, 1) := by decide +kernel
theorem dX12_moves_14 : decode cX12_moves 14 = .ok (.iload 4, 2) := by decide +kernel
theorem dX12_moves_16 : decode cX12_moves 16 = .ok (.iadd, 1) := by decide +kernel
theorem dX12_moves_17 : decode cX12_moves 17 = .ok (.aload_n 0, 1) := by decide +kernel
theorem dX12_moves_18 : decode cX12_moves 18 = .ok (.getfield 97, 3) := by decide +kernel
theorem dX12_moves_21 : decode cX12_moves 21 = .ok (.iload_n 1, 1) := by decide +kernel
theorem dX12_moves_22 : decode cX12_moves 22 = .ok (.iload 4, 2) := by decide +kernel
theorem dX12_moves_24 : decode cX12_moves 24 = .ok (.iadd, 1) := by decide +kernel
theorem dX12_moves_25 : decode cX12_moves 25 = .ok (.iaload, 1) := by decide +kernel
theorem dX12_moves_26 : decode cX12_moves 26 = .ok (.iastore, 1) := by decide +kernel
theorem dX12_moves_27 : decode cX12_moves 27 = .ok (.iinc 4 1, 3) := by decide +kernel
theorem dX12_moves_30 : decode cX12_moves 30 = .ok (.goto (-27), 3) := by decide +kernel
theorem dX12_moves_33 : decode cX12_moves 33 = .ok (.return_, 1) := by decide +kernel
theorem dX12_heaps_0 : decode cX12_heaps 0 = .ok (.aload_n 0, 1) := by decide +kernel
theorem dX12_heaps_1 : decode cX12_heaps 1 = .ok (.getfield 79, 3) := by decide +kernel
theorem dX12_heaps_4 : decode cX12_heaps 4 = .ok (.iconst 0, 1) := by decide +kernel
theorem dX12_heaps_5 : decode cX12_heaps 5 = .ok (.iaload, 1) := by decide +kernel
theorem dX12_heaps_6 : decode cX12_heaps 6 = .ok (.ireturn, 1) := by decide +kernel
theorem dX12_items_0 : decode cX12_items 0 = .ok (.aload_n 0, 1) := by decide +kernel
theorem dX12_items_1 : decode cX12_items 1 = .ok (.getfield 79, 3) := by decide +kernel
theorem dX12_items_4 : decode cX12_items 4 = .ok (.iconst 2, 1) := by decide +kernel
theorem dX12_items_5 : decode cX12_items 5 = .ok (.iaload, 1) := by decide +kernel
theorem dX12_items_6 : decode cX12_items 6 = .ok (.ireturn, 1) := by decide +kernel
theorem dX12_itemOf_0 : decode cX12_itemOf 0 = .ok (.aload_n 0, 1) := by decide +kernel
theorem dX12_itemOf_1 : decode cX12_itemOf 1 = .ok (.getfield 79, 3) := by decide +kernel
theorem dX12_itemOf_4 : decode cX12_itemOf 4 = .ok (.bipush 7, 2) := by decide +kernel
theorem dX12_itemOf_6 : decode cX12_itemOf 6 = .ok (.iconst 4, 1) := by decide +kernel
theorem dX12_itemOf_7 : decode cX12_itemOf 7 = .ok (.iload_n 1, 1) := by decide +kernel
theorem dX12_itemOf_8 : decode cX12_itemOf 8 = .ok (.imul, 1) := by decide +kernel
theorem dX12_itemOf_9 : decode cX12_itemOf 9 = .ok (.iadd, 1) := by decide +kernel
theorem dX12_itemOf_10 : decode cX12_itemOf 10 = .ok (.iload_n 2, 1) := by decide +kernel
theorem dX12_itemOf_11 : decode cX12_itemOf 11 = .ok (.iadd, 1) := by decide +kernel
theorem dX12_itemOf_12 : decode cX12_itemOf 12 = .ok (.iaload, 1) := by decide +kernel
theorem dX12_itemOf_13 : decode cX12_itemOf 13 = .ok (.ireturn, 1) := by decide +kernel
theorem dX12_isHeap_0 : decode cX12_isHeap 0 = .ok (.iload_n 1, 1) := by decide +kernel
theorem dX12_isHeap_1 : decode cX12_isHeap 1 = .ok (.ifCond .lt 15, 3) := by decide +kernel
theorem dX12_isHeap_4 : decode cX12_isHeap 4 = .ok (.iload_n 1, 1) := by decide +kernel
theorem dX12_isHeap_5 : decode cX12_isHeap 5 = .ok (.aload_n 0, 1) := by decide +kernel
theorem dX12_isHeap_6 : decode cX12_isHeap 6 = .ok (.invokevirtual 221, 3) := by decide +kernel
theorem dX12_isHeap_9 : decode cX12_isHeap 9 = .ok (.if_icmp .ge 7, 3) := by decide +kernel
theorem dX12_isHeap_12 : decode cX12_isHeap 12 = .ok (.iconst 1, 1) := by decide +kernel
theorem dX12_isHeap_13 : decode cX12_isHeap 13 = .ok (.goto 4, 3) := by decide +kernel
theorem dX12_isHeap_16 : decode cX12_isHeap 16 = .ok (.iconst 0, 1) := by decide +kernel
theorem dX12_isHeap_17 : decode cX12_isHeap 17 = .ok (.ireturn, 1) := by decide +kernel
theorem dX12_isItem_0 : decode cX12_isItem 0 = .ok (.iload_n 1, 1) := by decide +kernel
theorem dX12_isItem_1 : decode cX12_isItem 1 = .ok (.ifCond .lt 15, 3) := by decide +kernel
theorem dX12_isItem_4 : decode cX12_isItem 4 = .ok (.iload_n 1, 1) := by decide +kernel
theorem dX12_isItem_5 : decode cX12_isItem 5 = .ok (.aload_n 0, 1) := by decide +kernel
theorem dX12_isItem_6 : decode cX12_isItem 6 = .ok (.invokevirtual 217, 3) := by decide +kernel
theorem dX12_isItem_9 : decode cX12_isItem 9 = .ok (.if_icmp .ge 7, 3) := by decide +kernel
theorem dX12_isItem_12 : decode cX12_isItem 12 = .ok (.iconst 1, 1) := by decide +kernel
theorem dX12_isItem_13 : decode cX12_isItem 13 = .ok (.goto 4, 3) := by decide +kernel
theorem dX12_isItem_16 : decode cX12_isItem 16 = .ok (.iconst 0, 1) := by decide +kernel
theorem dX12_isItem_17 : decode cX12_isItem 17 = .ok (.ireturn, 1) := by decide +kernel
theorem dX12_keyBy_0 : decode cX12_keyBy 0 = .ok (.aload_n 0, 1) := by decide +kernel
theorem dX12_keyBy_1 : decode cX12_keyBy 1 = .ok (.iload_n 1, 1) := by decide +kernel
theorem dX12_keyBy_2 : decode cX12_keyBy 2 = .ok (.iconst 1, 1) := by decide +kernel
theorem dX12_keyBy_3 : decode cX12_keyBy 3 = .ok (.invokevirtual 259, 3) := by decide +kernel
theorem dX12_keyBy_6 : decode cX12_keyBy 6 = .ok (.invokestatic 262, 3) := by decide +kernel
theorem dX12_keyBy_9 : decode cX12_keyBy 9 = .ok (.aload_n 0, 1) := by decide +kernel
theorem dX12_keyBy_10 : decode cX12_keyBy 10 = .ok (.iload_n 1, 1) := by decide +kernel
theorem dX12_keyBy_11 : decode cX12_keyBy 11 = .ok (.iconst 2, 1) := by decide +kernel
theorem dX12_keyBy_12 : decode cX12_keyBy 12 = .ok (.invokevirtual 259, 3) := by decide +kernel
theorem dX12_keyBy_15 : decode cX12_keyBy 15 = .ok (.invokestatic 262, 3) := by decide +kernel
theorem dX12_keyBy_18 : decode cX12_keyBy 18 = .ok (.invokestatic 265, 3) := by decide +kernel
theorem dX12_keyBy_21 : decode cX12_keyBy 21 = .ok (.istore_n 2, 1) := by decide +kernel
theorem dX12_keyBy_22 : decode cX12_keyBy 22 = .ok (.aload_n 0, 1) := by decide +kernel
theorem dX12_keyBy_23 : decode cX12_keyBy 23 = .ok (.iload_n 1, 1) := by decide +kernel
theorem dX12_keyBy_24 : decode cX12_keyBy 24 = .ok (.iconst 0, 1) := by decide +kernel
theorem dX12_keyBy_25 : decode cX12_keyBy 25 = .ok (.invokevirtual 259, 3) := by decide +kernel
theorem dX12_keyBy_28 : decode cX12_keyBy 28 = .ok (.tableswitch 58 1 3 #[28, 36, 44], 28) := by decide +kernel
theorem dX12_keyBy_56 : decode cX12_keyBy 56 = .ok (.iload_n 2, 1) := by decide +kernel
theorem dX12_keyBy_57 : decode cX12_keyBy 57 = .ok (.ldc_w 268, 3) := by decide +kernel
theorem dX12_keyBy_60 : decode cX12_keyBy 60 = .ok (.invokestatic 269, 3) := by decide +kernel
theorem dX12_keyBy_63 : decode cX12_keyBy 63 = .ok (.ireturn, 1) := by decide +kernel
theorem dX12_keyBy_64 : decode cX12_keyBy 64 = .ok (.iload_n 2, 1) := by decide +kernel
theorem dX12_keyBy_65 : decode cX12_keyBy 65 = .ok (.ldc_w 272, 3) := by decide +kernel
theorem dX12_keyBy_68 : decode cX12_keyBy 68 = .ok (.invokestatic 273, 3) := by decide +kernel
theorem dX12_keyBy_71 : decode cX12_keyBy 71 = .ok (.ireturn, 1) := by decide +kernel
theorem dX12_keyBy_72 : decode cX12_keyBy 72 = .ok (.ldc_w 276, 3) := by decide +kernel
theorem dX12_keyBy_75 : decode cX12_keyBy 75 = .ok (.iload_n 2, 1) := by decide +kernel
theorem dX12_keyBy_76 : decode cX12_keyBy 76 = .ok (.ldc_w 276, 3) := by decide +kernel
theorem dX12_keyBy_79 : decode cX12_keyBy 79 = .ok (.invokestatic 273, 3) := by decide +kernel
theorem dX12_keyBy_82 : decode cX12_keyBy 82 = .ok (.invokestatic 265, 3) := by decide +kernel
theorem dX12_keyBy_85 : decode cX12_keyBy 85 = .ok (.ireturn, 1) := by decide +kernel
theorem dX12_keyBy_86 : decode cX12_keyBy 86 = .ok (.iload_n 2, 1) := by decide +kernel
theorem dX12_keyBy_87 : decode cX12_keyBy 87 = .ok (.ireturn, 1) := by decide +kernel
theorem dX12_empties_0 : decode cX12_empties 0 = .ok (.iconst 0, 1) := by decide +kernel
theorem dX12_empties_1 : decode cX12_empties 1 = .ok (.istore_n 2, 1) := by decide +kernel
theorem dX12_empties_2 : decode cX12_empties 2 = .ok (.iload_n 2, 1) := by decide +kernel
theorem dX12_empties_3 : decode cX12_empties 3 = .ok (.sipush 320, 3) := by decide +kernel
theorem dX12_empties_6 : decode cX12_empties 6 = .ok (.if_icmp .ge 18, 3) := by decide +kernel
theorem dX12_empties_9 : decode cX12_empties 9 = .ok (.aload_n 0, 1) := by decide +kernel
theorem dX12_empties_10 : decode cX12_empties 10 = .ok (.getfield 97, 3) := by decide +kernel
theorem dX12_empties_13 : decode cX12_empties 13 = .ok (.iload_n 1, 1) := by decide +kernel
theorem dX12_empties_14 : decode cX12_empties 14 = .ok (.iload_n 2, 1) := by decide +kernel
theorem dX12_empties_15 : decode cX12_empties 15 = .ok (.iadd, 1) := by decide +kernel
theorem dX12_empties_16 : decode cX12_empties 16 = .ok (.iconst (-1), 1) := by decide +kernel
theorem dX12_empties_17 : decode cX12_empties 17 = .ok (.iastore, 1) := by decide +kernel
theorem dX12_empties_18 : decode cX12_empties 18 = .ok (.iinc 2 1, 3) := by decide +kernel
theorem dX12_empties_21 : decode cX12_empties 21 = .ok (.goto (-19), 3) := by decide +kernel
theorem dX12_empties_24 : decode cX12_empties 24 = .ok (.return_, 1) := by decide +kernel
theorem dX12_starts_0 : decode cX12_starts 0 = .ok (.aload_n 0, 1) := by decide +kernel
theorem dX12_starts_1 : decode cX12_starts 1 = .ok (.iload_n 1, 1) := by decide +kernel
theorem dX12_starts_2 : decode cX12_starts 2 = .ok (.invokevirtual 277, 3) := by decide +kernel
theorem dX12_starts_5 : decode cX12_starts 5 = .ok (.iconst 0, 1) := by decide +kernel
theorem dX12_starts_6 : decode cX12_starts 6 = .ok (.istore_n 2, 1) := by decide +kernel
theorem dX12_starts_7 : decode cX12_starts 7 = .ok (.iload_n 2, 1) := by decide +kernel
theorem dX12_starts_8 : decode cX12_starts 8 = .ok (.aload_n 0, 1) := by decide +kernel
theorem dX12_starts_9 : decode cX12_starts 9 = .ok (.invokevirtual 217, 3) := by decide +kernel
theorem dX12_starts_12 : decode cX12_starts 12 = .ok (.if_icmp .ge 21, 3) := by decide +kernel
theorem dX12_starts_15 : decode cX12_starts 15 = .ok (.aload_n 0, 1) := by decide +kernel
theorem dX12_starts_16 : decode cX12_starts 16 = .ok (.iload_n 1, 1) := by decide +kernel
theorem dX12_starts_17 : decode cX12_starts 17 = .ok (.iload_n 2, 1) := by decide +kernel
theorem dX12_starts_18 : decode cX12_starts 18 = .ok (.aload_n 0, 1) := by decide +kernel
theorem dX12_starts_19 : decode cX12_starts 19 = .ok (.iload_n 2, 1) := by decide +kernel
theorem dX12_starts_20 : decode cX12_starts 20 = .ok (.iconst 3, 1) := by decide +kernel
theorem dX12_starts_21 : decode cX12_starts 21 = .ok (.invokevirtual 259, 3) := by decide +kernel
theorem dX12_starts_24 : decode cX12_starts 24 = .ok (.invokevirtual 280, 3) := by decide +kernel
theorem dX12_starts_27 : decode cX12_starts 27 = .ok (.iinc 2 1, 3) := by decide +kernel
theorem dX12_starts_30 : decode cX12_starts 30 = .ok (.goto (-23), 3) := by decide +kernel
theorem dX12_starts_33 : decode cX12_starts 33 = .ok (.return_, 1) := by decide +kernel
theorem dX12_begins_0 : decode cX12_begins 0 = .ok (.iconst 0, 1) := by decide +kernel
theorem dX12_begins_1 : decode cX12_begins 1 = .ok (.istore_n 1, 1) := by decide +kernel
theorem dX12_begins_2 : decode cX12_begins 2 = .ok (.iload_n 1, 1) := by decide +kernel
theorem dX12_begins_3 : decode cX12_begins 3 = .ok (.aload_n 0, 1) := by decide +kernel
theorem dX12_begins_4 : decode cX12_begins 4 = .ok (.invokevirtual 217, 3) := by decide +kernel
theorem dX12_begins_7 : decode cX12_begins 7 = .ok (.if_icmp .ge 20, 3) := by decide +kernel
theorem dX12_begins_10 : decode cX12_begins 10 = .ok (.aload_n 0, 1) := by decide +kernel
theorem dX12_begins_11 : decode cX12_begins 11 = .ok (.getfield 104, 3) := by decide +kernel
theorem dX12_begins_14 : decode cX12_begins 14 = .ok (.iload_n 1, 1) := by decide +kernel
theorem dX12_begins_15 : decode cX12_begins 15 = .ok (.aload_n 0, 1) := by decide +kernel
theorem dX12_begins_16 : decode cX12_begins 16 = .ok (.iload_n 1, 1) := by decide +kernel
theorem dX12_begins_17 : decode cX12_begins 17 = .ok (.invokevirtual 283, 3) := by decide +kernel
theorem dX12_begins_20 : decode cX12_begins 20 = .ok (.iastore, 1) := by decide +kernel
theorem dX12_begins_21 : decode cX12_begins 21 = .ok (.iinc 1 1, 3) := by decide +kernel
theorem dX12_begins_24 : decode cX12_begins 24 = .ok (.goto (-22), 3) := by decide +kernel
theorem dX12_begins_27 : decode cX12_begins 27 = .ok (.aload_n 0, 1) := by decide +kernel
theorem dX12_begins_28 : decode cX12_begins 28 = .ok (.iconst 0, 1) := by decide +kernel
theorem dX12_begins_29 : decode cX12_begins 29 = .ok (.invokevirtual 286, 3) := by decide +kernel
theorem dX12_begins_32 : decode cX12_begins 32 = .ok (.aload_n 0, 1) := by decide +kernel
theorem dX12_begins_33 : decode cX12_begins 33 = .ok (.getfield 97, 3) := by decide +kernel
theorem dX12_begins_36 : decode cX12_begins 36 = .ok (.sipush 320, 3) := by decide +kernel
theorem dX12_begins_39 : decode cX12_begins 39 = .ok (.iconst 0, 1) := by decide +kernel
theorem dX12_begins_40 : decode cX12_begins 40 = .ok (.iastore, 1) := by decide +kernel
theorem dX12_begins_41 : decode cX12_begins 41 = .ok (.aload_n 0, 1) := by decide +kernel
theorem dX12_begins_42 : decode cX12_begins 42 = .ok (.getfield 88, 3) := by decide +kernel
theorem dX12_begins_45 : decode cX12_begins 45 = .ok (.iconst 0, 1) := by decide +kernel
theorem dX12_begins_46 : decode cX12_begins 46 = .ok (.iconst 0, 1) := by decide +kernel
theorem dX12_begins_47 : decode cX12_begins 47 = .ok (.iastore, 1) := by decide +kernel
theorem dX12_begins_48 : decode cX12_begins 48 = .ok (.aload_n 0, 1) := by decide +kernel
theorem dX12_begins_49 : decode cX12_begins 49 = .ok (.iconst 0, 1) := by decide +kernel
theorem dX12_begins_50 : decode cX12_begins 50 = .ok (.putfield 289, 3) := by decide +kernel
theorem dX12_begins_53 : decode cX12_begins 53 = .ok (.aload_n 0, 1) := by decide +kernel
theorem dX12_begins_54 : decode cX12_begins 54 = .ok (.iconst 0, 1) := by decide +kernel
theorem dX12_begins_55 : decode cX12_begins 55 = .ok (.putfield 292, 3) := by decide +kernel
theorem dX12_begins_58 : decode cX12_begins 58 = .ok (.aload_n 0, 1) := by decide +kernel
theorem dX12_begins_59 : decode cX12_begins 59 = .ok (.getfield 100, 3) := by decide +kernel
theorem dX12_begins_62 : decode cX12_begins 62 = .ok (.iconst 0, 1) := by decide +kernel
theorem dX12_begins_63 : decode cX12_begins 63 = .ok (.iconst 0, 1) := by decide +kernel
theorem dX12_begins_64 : decode cX12_begins 64 = .ok (.bastore, 1) := by decide +kernel
theorem dX12_begins_65 : decode cX12_begins 65 = .ok (.aload_n 0, 1) := by decide +kernel
theorem dX12_begins_66 : decode cX12_begins 66 = .ok (.getfield 100, 3) := by decide +kernel
theorem dX12_begins_69 : decode cX12_begins 69 = .ok (.iconst 1, 1) := by decide +kernel
theorem dX12_begins_70 : decode cX12_begins 70 = .ok (.iconst 0, 1) := by decide +kernel
theorem dX12_begins_71 : decode cX12_begins 71 = .ok (.bastore, 1) := by decide +kernel
theorem dX12_begins_72 : decode cX12_begins 72 = .ok (.return_, 1) := by decide +kernel
theorem dX12_keeps_0 : decode cX12_keeps 0 = .ok (.aload_n 0, 1) := by decide +kernel
theorem dX12_keeps_1 : decode cX12_keeps 1 = .ok (.getfield 289, 3) := by decide +kernel
theorem dX12_keeps_4 : decode cX12_keeps 4 = .ok (.bipush 8, 2) := by decide +kernel
theorem dX12_keeps_6 : decode cX12_keeps 6 = .ok (.if_icmp .ne 50, 3) := by decide +kernel
theorem dX12_keeps_9 : decode cX12_keeps 9 = .ok (.iconst 1, 1) := by decide +kernel
theorem dX12_keeps_10 : decode cX12_keeps 10 = .ok (.istore_n 1, 1) := by decide +kernel
theorem dX12_keeps_11 : decode cX12_keeps 11 = .ok (.iload_n 1, 1) := by decide +kernel
theorem dX12_keeps_12 : decode cX12_keeps 12 = .ok (.bipush 8, 2) := by decide +kernel
theorem dX12_keeps_14 : decode cX12_keeps 14 = .ok (.if_icmp .ge 32, 3) := by decide +kernel
theorem dX12_keeps_17 : decode cX12_keeps 17 = .ok (.aload_n 0, 1) := by decide +kernel
theorem dX12_keeps_18 : decode cX12_keeps 18 = .ok (.sipush 345, 3) := by decide +kernel
theorem dX12_keeps_21 : decode cX12_keeps 21 = .ok (.iconst 3, 1) := by decide +kernel
theorem dX12_keeps_22 : decode cX12_keeps 22 = .ok (.iload_n 1, 1) := by decide +kernel
theorem dX12_keeps_23 : decode cX12_keeps 23 = .ok (.iadd, 1) := by decide +kernel
theorem dX12_keeps_24 : decode cX12_keeps 24 = .ok (.imul, 1) := by decide +kernel
theorem dX12_keeps_25 : decode cX12_keeps 25 = .ok (.sipush 345, 3) := by decide +kernel
theorem dX12_keeps_28 : decode cX12_keeps 28 = .ok (.iconst 3, 1) := by decide +kernel
theorem dX12_keeps_29 : decode cX12_keeps 29 = .ok (.iload_n 1, 1) := by decide +kernel
theorem dX12_keeps_30 : decode cX12_keeps 30 = .ok (.iadd, 1) := by decide +kernel
theorem dX12_keeps_31 : decode cX12_keeps 31 = .ok (.iconst 1, 1) := by decide +kernel
theorem dX12_keeps_32 : decode cX12_keeps 32 = .ok (.isub, 1) := by decide +kernel
theorem dX12_keeps_33 : decode cX12_keeps 33 = .ok (.imul, 1) := by decide +kernel
theorem dX12_keeps_34 : decode cX12_keeps 34 = .ok (.sipush 320, 3) := by decide +kernel
theorem dX12_keeps_37 : decode cX12_keeps 37 = .ok (.invokevirtual 295, 3) := by decide +kernel
theorem dX12_keeps_40 : decode cX12_keeps 40 = .ok (.iinc 1 1, 3) := by decide +kernel
theorem dX12_keeps_43 : decode cX12_keeps 43 = .ok (.goto (-32), 3) := by decide +kernel
theorem dX12_keeps_46 : decode cX12_keeps 46 = .ok (.aload_n 0, 1) := by decide +kernel
theorem dX12_keeps_47 : decode cX12_keeps 47 = .ok (.dup, 1) := by decide +kernel
theorem dX12_keeps_48 : decode cX12_keeps 48 = .ok (.getfield 289, 3) := by decide +kernel
theorem dX12_keeps_51 : decode cX12_keeps 51 = .ok (.iconst 1, 1) := by decide +kernel
theorem dX12_keeps_52 : decode cX12_keeps 52 = .ok (.isub, 1) := by decide +kernel
theorem dX12_keeps_53 : decode cX12_keeps 53 = .ok (.putfield 289, 3) := by decide +kernel
theorem dX12_keeps_56 : decode cX12_keeps 56 = .ok (.aload_n 0, 1) := by decide +kernel
theorem dX12_keeps_57 : decode cX12_keeps 57 = .ok (.iconst 0, 1) := by decide +kernel
theorem dX12_keeps_58 : decode cX12_keeps 58 = .ok (.sipush 345, 3) := by decide +kernel
theorem dX12_keeps_61 : decode cX12_keeps 61 = .ok (.iconst 3, 1) := by decide +kernel
theorem dX12_keeps_62 : decode cX12_keeps 62 = .ok (.aload_n 0, 1) := by decide +kernel
theorem dX12_keeps_63 : decode cX12_keeps 63 = .ok (.getfield 289, 3) := by decide +kernel
theorem dX12_keeps_66 : decode cX12_keeps 66 = .ok (.iadd, 1) := by decide +kernel
theorem dX12_keeps_67 : decode cX12_keeps 67 = .ok (.imul, 1) := by decide +kernel
theorem dX12_keeps_68 : decode cX12_keeps 68 = .ok (.sipush 320, 3) := by decide +kernel
theorem dX12_keeps_71 : decode cX12_keeps 71 = .ok (.invokevirtual 295, 3) := by decide +kernel
theorem dX12_keeps_74 : decode cX12_keeps 74 = .ok (.aload_n 0, 1) := by decide +kernel
theorem dX12_keeps_75 : decode cX12_keeps 75 = .ok (.dup, 1) := by decide +kernel
theorem dX12_keeps_76 : decode cX12_keeps 76 = .ok (.getfield 289, 3) := by decide +kernel
theorem dX12_keeps_79 : decode cX12_keeps 79 = .ok (.iconst 1, 1) := by decide +kernel
theorem dX12_keeps_80 : decode cX12_keeps 80 = .ok (.iadd, 1) := by decide +kernel
theorem dX12_keeps_81 : decode cX12_keeps 81 = .ok (.putfield 289, 3) := by decide +kernel
theorem dX12_keeps_84 : decode cX12_keeps 84 = .ok (.return_, 1) := by decide +kernel
theorem dX12_nodeOf_0 : decode cX12_nodeOf 0 = .ok (.aload_n 0, 1) := by decide +kernel
theorem dX12_nodeOf_1 : decode cX12_nodeOf 1 = .ok (.getfield 97, 3) := by decide +kernel
theorem dX12_nodeOf_4 : decode cX12_nodeOf 4 = .ok (.iload_n 1, 1) := by decide +kernel
theorem dX12_nodeOf_5 : decode cX12_nodeOf 5 = .ok (.bipush 8, 2) := by decide +kernel
theorem dX12_nodeOf_7 : decode cX12_nodeOf 7 = .ok (.iload_n 2, 1) := by decide +kernel
theorem dX12_nodeOf_8 : decode cX12_nodeOf 8 = .ok (.imul, 1) := by decide +kernel
theorem dX12_nodeOf_9 : decode cX12_nodeOf 9 = .ok (.iadd, 1) := by decide +kernel
theorem dX12_nodeOf_10 : decode cX12_nodeOf 10 = .ok (.iload_n 3, 1) := by decide +kernel
theorem dX12_nodeOf_11 : decode cX12_nodeOf 11 = .ok (.iadd, 1) := by decide +kernel
theorem dX12_nodeOf_12 : decode cX12_nodeOf 12 = .ok (.iaload, 1) := by decide +kernel
theorem dX12_nodeOf_13 : decode cX12_nodeOf 13 = .ok (.ireturn, 1) := by decide +kernel
theorem dX12_lays_0 : decode cX12_lays 0 = .ok (.aload_n 0, 1) := by decide +kernel
theorem dX12_lays_1 : decode cX12_lays 1 = .ok (.getfield 97, 3) := by decide +kernel
theorem dX12_lays_4 : decode cX12_lays 4 = .ok (.iload_n 1, 1) := by decide +kernel
theorem dX12_lays_5 : decode cX12_lays 5 = .ok (.bipush 8, 2) := by decide +kernel
theorem dX12_lays_7 : decode cX12_lays 7 = .ok (.iload_n 2, 1) := by decide +kernel
theorem dX12_lays_8 : decode cX12_lays 8 = .ok (.imul, 1) := by decide +kernel
theorem dX12_lays_9 : decode cX12_lays 9 = .ok (.iadd, 1) := by decide +kernel
theorem dX12_lays_10 : decode cX12_lays 10 = .ok (.iload_n 3, 1) := by decide +kernel
theorem dX12_lays_11 : decode cX12_lays 11 = .ok (.iadd, 1) := by decide +kernel
theorem dX12_lays_12 : decode cX12_lays 12 = .ok (.iload 4, 2) := by decide +kernel
theorem dX12_lays_14 : decode cX12_lays 14 = .ok (.iastore, 1) := by decide +kernel
theorem dX12_lays_15 : decode cX12_lays 15 = .ok (.return_, 1) := by decide +kernel
theorem dX12_rootAt_0 : decode cX12_rootAt 0 = .ok (.aload_n 0, 1) := by decide +kernel
theorem dX12_rootAt_1 : decode cX12_rootAt 1 = .ok (.getfield 97, 3) := by decide +kernel
theorem dX12_rootAt_4 : decode cX12_rootAt 4 = .ok (.iload_n 1, 1) := by decide +kernel
theorem dX12_rootAt_5 : decode cX12_rootAt 5 = .ok (.sipush 192, 3) := by decide +kernel
theorem dX12_rootAt_8 : decode cX12_rootAt 8 = .ok (.iadd, 1) := by decide +kernel
theorem dX12_rootAt_9 : decode cX12_rootAt 9 = .ok (.bipush 16, 2) := by decide +kernel
theorem dX12_rootAt_11 : decode cX12_rootAt 11 = .ok (.iload_n 2, 1) := by decide +kernel
theorem dX12_rootAt_12 : decode cX12_rootAt 12 = .ok (.imul, 1) := by decide +kernel
theorem dX12_rootAt_13 : decode cX12_rootAt 13 = .ok (.iadd, 1) := by decide +kernel
theorem dX12_rootAt_14 : decode cX12_rootAt 14 = .ok (.iload_n 3, 1) := by decide +kernel
theorem dX12_rootAt_15 : decode cX12_rootAt 15 = .ok (.iadd, 1) := by decide +kernel
theorem dX12_rootAt_16 : decode cX12_rootAt 16 = .ok (.iaload, 1) := by decide +kernel
theorem dX12_rootAt_17 : decode cX12_rootAt 17 = .ok (.ireturn, 1) := by decide +kernel
theorem dX12_roots_0 : decode cX12_roots 0 = .ok (.aload_n 0, 1) := by decide +kernel
theorem dX12_roots_1 : decode cX12_roots 1 = .ok (.getfield 97, 3) := by decide +kernel
theorem dX12_roots_4 : decode cX12_roots 4 = .ok (.iload_n 1, 1) := by decide +kernel
theorem dX12_roots_5 : decode cX12_roots 5 = .ok (.sipush 192, 3) := by decide +kernel
theorem dX12_roots_8 : decode cX12_roots 8 = .ok (.iadd, 1) := by decide +kernel
theorem dX12_roots_9 : decode cX12_roots 9 = .ok (.bipush 16, 2) := by decide +kernel
theorem dX12_roots_11 : decode cX12_roots 11 = .ok (.iload_n 2, 1) := by decide +kernel
theorem dX12_roots_12 : decode cX12_roots 12 = .ok (.imul, 1) := by decide +kernel
theorem dX12_roots_13 : decode cX12_roots 13 = .ok (.iadd, 1) := by decide +kernel
theorem dX12_roots_14 : decode cX12_roots 14 = .ok (.iload_n 3, 1) := by decide +kernel
theorem dX12_roots_15 : decode cX12_roots 15 = .ok (.iadd, 1) := by decide +kernel
theorem dX12_roots_16 : decode cX12_roots 16 = .ok (.iload 4, 2) := by decide +kernel
theorem dX12_roots_18 : decode cX12_roots 18 = .ok (.iastore, 1) := by decide +kernel
theorem dX12_roots_19 : decode cX12_roots 19 = .ok (.return_, 1) := by decide +kernel
theorem dX12_isLeaf_0 : decode cX12_isLeaf 0 = .ok (.aload_n 0, 1) := by decide +kernel
theorem dX12_isLeaf_1 : decode cX12_isLeaf 1 = .ok (.iload_n 1, 1) := by decide +kernel
theorem dX12_isLeaf_2 : decode cX12_isLeaf 2 = .ok (.iload_n 2, 1) := by decide +kernel
theorem dX12_isLeaf_3 : decode cX12_isLeaf 3 = .ok (.bipush 6, 2) := by decide +kernel
theorem dX12_isLeaf_5 : decode cX12_isLeaf 5 = .ok (.invokevirtual 298, 3) := by decide +kernel
theorem dX12_isLeaf_8 : decode cX12_isLeaf 8 = .ok (.ifCond .ge 18, 3) := by decide +kernel
theorem dX12_isLeaf_11 : decode cX12_isLeaf 11 = .ok (.aload_n 0, 1) := by decide +kernel
theorem dX12_isLeaf_12 : decode cX12_isLeaf 12 = .ok (.iload_n 1, 1) := by decide +kernel
theorem dX12_isLeaf_13 : decode cX12_isLeaf 13 = .ok (.iload_n 2, 1) := by decide +kernel
theorem dX12_isLeaf_14 : decode cX12_isLeaf 14 = .ok (.bipush 7, 2) := by decide +kernel
theorem dX12_isLeaf_16 : decode cX12_isLeaf 16 = .ok (.invokevirtual 298, 3) := by decide +kernel
theorem dX12_isLeaf_19 : decode cX12_isLeaf 19 = .ok (.ifCond .ge 7, 3) := by decide +kernel
theorem dX12_isLeaf_22 : decode cX12_isLeaf 22 = .ok (.iconst 1, 1) := by decide +kernel
theorem dX12_isLeaf_23 : decode cX12_isLeaf 23 = .ok (.goto 4, 3) := by decide +kernel
theorem dX12_isLeaf_26 : decode cX12_isLeaf 26 = .ok (.iconst 0, 1) := by decide +kernel
theorem dX12_isLeaf_27 : decode cX12_isLeaf 27 = .ok (.ireturn, 1) := by decide +kernel
theorem dX12_freeNode_0 : decode cX12_freeNode 0 = .ok (.iconst 0, 1) := by decide +kernel
theorem dX12_freeNode_1 : decode cX12_freeNode 1 = .ok (.istore_n 2, 1) := by decide +kernel
theorem dX12_freeNode_2 : decode cX12_freeNode 2 = .ok (.aload_n 0, 1) := by decide +kernel
theorem dX12_freeNode_3 : decode cX12_freeNode 3 = .ok (.iload_n 1, 1) := by decide +kernel
theorem dX12_freeNode_4 : decode cX12_freeNode 4 = .ok (.iload_n 2, 1) := by decide +kernel
theorem dX12_freeNode_5 : decode cX12_freeNode 5 = .ok (.iconst 0, 1) := by decide +kernel
theorem dX12_freeNode_6 : decode cX12_freeNode 6 = .ok (.invokevirtual 298, 3) := by decide +kernel
theorem dX12_freeNode_9 : decode cX12_freeNode 9 = .ok (.ifCond .lt 9, 3) := by decide +kernel
theorem dX12_freeNode_12 : decode cX12_freeNode 12 = .ok (.iinc 2 1, 3) := by decide +kernel
theorem dX12_freeNode_15 : decode cX12_freeNode 15 = .ok (.goto (-13), 3) := by decide +kernel
theorem dX12_freeNode_18 : decode cX12_freeNode 18 = .ok (.iload_n 2, 1) := by decide +kernel
theorem dX12_freeNode_19 : decode cX12_freeNode 19 = .ok (.ireturn, 1) := by decide +kernel
theorem dX12_frees_0 : decode cX12_frees 0 = .ok (.iconst 0, 1) := by decide +kernel
theorem dX12_frees_1 : decode cX12_frees 1 = .ok (.istore_n 3, 1) := by decide +kernel
theorem dX12_frees_2 : decode cX12_frees 2 = .ok (.iload_n 3, 1) := by decide +kernel
theorem dX12_frees_3 : decode cX12_frees 3 = .ok (.bipush 8, 2) := by decide +kernel
theorem dX12_frees_5 : decode cX12_frees 5 = .ok (.if_icmp .ge 17, 3) := by decide +kernel
theorem dX12_frees_8 : decode cX12_frees 8 = .ok (.aload_n 0, 1) := by decide +kernel
theorem dX12_frees_9 : decode cX12_frees 9 = .ok (.iload_n 1, 1) := by decide +kernel
theorem dX12_frees_10 : decode cX12_frees 10 = .ok (.iload_n 2, 1) := by decide +kernel
theorem dX12_frees_11 : decode cX12_frees 11 = .ok (.iload_n 3, 1) := by decide +kernel
theorem dX12_frees_12 : decode cX12_frees 12 = .ok (.iconst (-1), 1) := by decide +kernel
theorem dX12_frees_13 : decode cX12_frees 13 = .ok (.invokevirtual 301, 3) := by decide +kernel
theorem dX12_frees_16 : decode cX12_frees 16 = .ok (.iinc 3 1, 3) := by decide +kernel
theorem dX12_frees_19 : decode cX12_frees 19 = .ok (.goto (-17), 3) := by decide +kernel
theorem dX12_frees_22 : decode cX12_frees 22 = .ok (.return_, 1) := by decide +kernel
theorem dX12_makes_0 : decode cX12_makes 0 = .ok (.aload_n 0, 1) := by decide +kernel
theorem dX12_makes_1 : decode cX12_makes 1 = .ok (.iload_n 1, 1) := by decide +kernel
theorem dX12_makes_2 : decode cX12_makes 2 = .ok (.iload_n 2, 1) := by decide +kernel
theorem dX12_makes_3 : decode cX12_makes 3 = .ok (.invokevirtual 305, 3) := by decide +kernel
theorem dX12_makes_6 : decode cX12_makes 6 = .ok (.aload_n 0, 1) := by decide +kernel
theorem dX12_makes_7 : decode cX12_makes 7 = .ok (.iload_n 1, 1) := by decide +kernel
theorem dX12_makes_8 : decode cX12_makes 8 = .ok (.iload_n 2, 1) := by decide +kernel
theorem dX12_makes_9 : decode cX12_makes 9 = .ok (.iconst 0, 1) := by decide +kernel
theorem dX12_makes_10 : decode cX12_makes 10 = .ok (.iload_n 3, 1) := by decide +kernel
theorem dX12_makes_11 : decode cX12_makes 11 = .ok (.invokevirtual 301, 3) := by decide +kernel
theorem dX12_makes_14 : decode cX12_makes 14 = .ok (.aload_n 0, 1) := by decide +kernel
theorem dX12_makes_15 : decode cX12_makes 15 = .ok (.iload_n 1, 1) := by decide +kernel
theorem dX12_makes_16 : decode cX12_makes 16 = .ok (.iload_n 2, 1) := by decide +kernel
theorem dX12_makes_17 : decode cX12_makes 17 = .ok (.iconst 1, 1) := by decide +kernel
theorem dX12_makes_18 : decode cX12_makes 18 = .ok (.iload 4, 2) := by decide +kernel
theorem dX12_makes_20 : decode cX12_makes 20 = .ok (.invokevirtual 301, 3) := by decide +kernel
theorem dX12_makes_23 : decode cX12_makes 23 = .ok (.aload_n 0, 1) := by decide +kernel
theorem dX12_makes_24 : decode cX12_makes 24 = .ok (.iload_n 1, 1) := by decide +kernel
theorem dX12_makes_25 : decode cX12_makes 25 = .ok (.iload_n 2, 1) := by decide +kernel
theorem dX12_makes_26 : decode cX12_makes 26 = .ok (.iconst 2, 1) := by decide +kernel
theorem dX12_makes_27 : decode cX12_makes 27 = .ok (.iconst 0, 1) := by decide +kernel
theorem dX12_makes_28 : decode cX12_makes 28 = .ok (.invokevirtual 301, 3) := by decide +kernel
theorem dX12_makes_31 : decode cX12_makes 31 = .ok (.aload_n 0, 1) := by decide +kernel
theorem dX12_makes_32 : decode cX12_makes 32 = .ok (.iload_n 1, 1) := by decide +kernel
theorem dX12_makes_33 : decode cX12_makes 33 = .ok (.iload_n 2, 1) := by decide +kernel
theorem dX12_makes_34 : decode cX12_makes 34 = .ok (.iconst 3, 1) := by decide +kernel
theorem dX12_makes_35 : decode cX12_makes 35 = .ok (.iconst 0, 1) := by decide +kernel
theorem dX12_makes_36 : decode cX12_makes 36 = .ok (.invokevirtual 301, 3) := by decide +kernel
theorem dX12_makes_39 : decode cX12_makes 39 = .ok (.return_, 1) := by decide +kernel
theorem dX12_pours_0 : decode cX12_pours 0 = .ok (.aload_n 0, 1) := by decide +kernel
theorem dX12_pours_1 : decode cX12_pours 1 = .ok (.iload_n 1, 1) := by decide +kernel
theorem dX12_pours_2 : decode cX12_pours 2 = .ok (.iload_n 2, 1) := by decide +kernel
theorem dX12_pours_3 : decode cX12_pours 3 = .ok (.iconst 3, 1) := by decide +kernel
theorem dX12_pours_4 : decode cX12_pours 4 = .ok (.invokevirtual 298, 3) := by decide +kernel
theorem dX12_pours_7 : decode cX12_pours 7 = .ok (.ifCond .ne 4, 3) := by decide +kernel
theorem dX12_pours_10 : decode cX12_pours 10 = .ok (.return_, 1) := by decide +kernel
theorem dX12_pours_11 : decode cX12_pours 11 = .ok (.aload_n 0, 1) := by decide +kernel
theorem dX12_pours_12 : decode cX12_pours 12 = .ok (.iload_n 1, 1) := by decide +kernel
theorem dX12_pours_13 : decode cX12_pours 13 = .ok (.iload_n 3, 1) := by decide +kernel
theorem dX12_pours_14 : decode cX12_pours 14 = .ok (.iconst 3, 1) := by decide +kernel
theorem dX12_pours_15 : decode cX12_pours 15 = .ok (.invokevirtual 298, 3) := by decide +kernel
theorem dX12_pours_18 : decode cX12_pours 18 = .ok (.ifCond .ne 20, 3) := by decide +kernel
theorem dX12_pours_21 : decode cX12_pours 21 = .ok (.aload_n 0, 1) := by decide +kernel
theorem dX12_pours_22 : decode cX12_pours 22 = .ok (.iload_n 1, 1) := by decide +kernel
theorem dX12_pours_23 : decode cX12_pours 23 = .ok (.iload_n 3, 1) := by decide +kernel
theorem dX12_pours_24 : decode cX12_pours 24 = .ok (.iconst 4, 1) := by decide +kernel
theorem dX12_pours_25 : decode cX12_pours 25 = .ok (.aload_n 0, 1) := by decide +kernel
theorem dX12_pours_26 : decode cX12_pours 26 = .ok (.iload_n 1, 1) := by decide +kernel
theorem dX12_pours_27 : decode cX12_pours 27 = .ok (.iload_n 2, 1) := by decide +kernel
theorem dX12_pours_28 : decode cX12_pours 28 = .ok (.iconst 4, 1) := by decide +kernel
theorem dX12_pours_29 : decode cX12_pours 29 = .ok (.invokevirtual 298, 3) := by decide +kernel
theorem dX12_pours_32 : decode cX12_pours 32 = .ok (.invokevirtual 301, 3) := by decide +kernel
theorem dX12_pours_35 : decode cX12_pours 35 = .ok (.goto 28, 3) := by decide +kernel
theorem dX12_pours_38 : decode cX12_pours 38 = .ok (.aload_n 0, 1) := by decide +kernel
theorem dX12_pours_39 : decode cX12_pours 39 = .ok (.getfield 97, 3) := by decide +kernel
theorem dX12_pours_42 : decode cX12_pours 42 = .ok (.iload_n 1, 1) := by decide +kernel
theorem dX12_pours_43 : decode cX12_pours 43 = .ok (.sipush 300, 3) := by decide +kernel
theorem dX12_pours_46 : decode cX12_pours 46 = .ok (.iadd, 1) := by decide +kernel
theorem dX12_pours_47 : decode cX12_pours 47 = .ok (.aload_n 0, 1) := by decide +kernel
theorem dX12_pours_48 : decode cX12_pours 48 = .ok (.iload_n 1, 1) := by decide +kernel
theorem dX12_pours_49 : decode cX12_pours 49 = .ok (.iload_n 3, 1) := by decide +kernel
theorem dX12_pours_50 : decode cX12_pours 50 = .ok (.iconst 5, 1) := by decide +kernel
theorem dX12_pours_51 : decode cX12_pours 51 = .ok (.invokevirtual 298, 3) := by decide +kernel
theorem dX12_pours_54 : decode cX12_pours 54 = .ok (.iadd, 1) := by decide +kernel
theorem dX12_pours_55 : decode cX12_pours 55 = .ok (.aload_n 0, 1) := by decide +kernel
theorem dX12_pours_56 : decode cX12_pours 56 = .ok (.iload_n 1, 1) := by decide +kernel
theorem dX12_pours_57 : decode cX12_pours 57 = .ok (.iload_n 2, 1) := by decide +kernel
theorem dX12_pours_58 : decode cX12_pours 58 = .ok (.iconst 4, 1) := by decide +kernel
theorem dX12_pours_59 : decode cX12_pours 59 = .ok (.invokevirtual 298, 3) := by decide +kernel
theorem dX12_pours_62 : decode cX12_pours 62 = .ok (.iastore, 1) := by decide +kernel
theorem dX12_pours_63 : decode cX12_pours 63 = .ok (.aload_n 0, 1) := by decide +kernel
theorem dX12_pours_64 : decode cX12_pours 64 = .ok (.iload_n 1, 1) := by decide +kernel
theorem dX12_pours_65 : decode cX12_pours 65 = .ok (.iload_n 3, 1) := by decide +kernel
theorem dX12_pours_66 : decode cX12_pours 66 = .ok (.iconst 5, 1) := by decide +kernel
theorem dX12_pours_67 : decode cX12_pours 67 = .ok (.aload_n 0, 1) := by decide +kernel
theorem dX12_pours_68 : decode cX12_pours 68 = .ok (.iload_n 1, 1) := by decide +kernel
theorem dX12_pours_69 : decode cX12_pours 69 = .ok (.iload_n 2, 1) := by decide +kernel
theorem dX12_pours_70 : decode cX12_pours 70 = .ok (.iconst 5, 1) := by decide +kernel
theorem dX12_pours_71 : decode cX12_pours 71 = .ok (.invokevirtual 298, 3) := by decide +kernel
theorem dX12_pours_74 : decode cX12_pours 74 = .ok (.invokevirtual 301, 3) := by decide +kernel
theorem dX12_pours_77 : decode cX12_pours 77 = .ok (.aload_n 0, 1) := by decide +kernel
theorem dX12_pours_78 : decode cX12_pours 78 = .ok (.iload_n 1, 1) := by decide +kernel
theorem dX12_pours_79 : decode cX12_pours 79 = .ok (.iload_n 3, 1) := by decide +kernel
theorem dX12_pours_80 : decode cX12_pours 80 = .ok (.iconst 3, 1) := by decide +kernel
theorem dX12_pours_81 : decode cX12_pours 81 = .ok (.aload_n 0, 1) := by decide +kernel
theorem dX12_pours_82 : decode cX12_pours 82 = .ok (.iload_n 1, 1) := by decide +kernel
theorem dX12_pours_83 : decode cX12_pours 83 = .ok (.iload_n 3, 1) := by decide +kernel
theorem dX12_pours_84 : decode cX12_pours 84 = .ok (.iconst 3, 1) := by decide +kernel
theorem dX12_pours_85 : decode cX12_pours 85 = .ok (.invokevirtual 298, 3) := by decide +kernel
theorem dX12_pours_88 : decode cX12_pours 88 = .ok (.aload_n 0, 1) := by decide +kernel
theorem dX12_pours_89 : decode cX12_pours 89 = .ok (.iload_n 1, 1) := by decide +kernel
theorem dX12_pours_90 : decode cX12_pours 90 = .ok (.iload_n 2, 1) := by decide +kernel
theorem dX12_pours_91 : decode cX12_pours 91 = .ok (.iconst 3, 1) := by decide +kernel
theorem dX12_pours_92 : decode cX12_pours 92 = .ok (.invokevirtual 298, 3) := by decide +kernel
theorem dX12_pours_95 : decode cX12_pours 95 = .ok (.iadd, 1) := by decide +kernel
theorem dX12_pours_96 : decode cX12_pours 96 = .ok (.invokevirtual 301, 3) := by decide +kernel
theorem dX12_pours_99 : decode cX12_pours 99 = .ok (.aload_n 0, 1) := by decide +kernel
theorem dX12_pours_100 : decode cX12_pours 100 = .ok (.iload_n 1, 1) := by decide +kernel
theorem dX12_pours_101 : decode cX12_pours 101 = .ok (.iload_n 2, 1) := by decide +kernel
theorem dX12_pours_102 : decode cX12_pours 102 = .ok (.iconst 3, 1) := by decide +kernel
theorem dX12_pours_103 : decode cX12_pours 103 = .ok (.iconst 0, 1) := by decide +kernel
theorem dX12_pours_104 : decode cX12_pours 104 = .ok (.invokevirtual 301, 3) := by decide +kernel
theorem dX12_pours_107 : decode cX12_pours 107 = .ok (.aload_n 0, 1) := by decide +kernel
theorem dX12_pours_108 : decode cX12_pours 108 = .ok (.iload_n 1, 1) := by decide +kernel
theorem dX12_pours_109 : decode cX12_pours 109 = .ok (.iload_n 2, 1) := by decide +kernel
theorem dX12_pours_110 : decode cX12_pours 110 = .ok (.iconst 4, 1) := by decide +kernel
theorem dX12_pours_111 : decode cX12_pours 111 = .ok (.iconst (-1), 1) := by decide +kernel
theorem dX12_pours_112 : decode cX12_pours 112 = .ok (.invokevirtual 301, 3) := by decide +kernel
theorem dX12_pours_115 : decode cX12_pours 115 = .ok (.aload_n 0, 1) := by decide +kernel
theorem dX12_pours_116 : decode cX12_pours 116 = .ok (.iload_n 1, 1) := by decide +kernel
theorem dX12_pours_117 : decode cX12_pours 117 = .ok (.iload_n 2, 1) := by decide +kernel
theorem dX12_pours_118 : decode cX12_pours 118 = .ok (.iconst 5, 1) := by decide +kernel
theorem dX12_pours_119 : decode cX12_pours 119 = .ok (.iconst (-1), 1) := by decide +kernel
theorem dX12_pours_120 : decode cX12_pours 120 = .ok (.invokevirtual 301, 3) := by decide +kernel
theorem dX12_pours_123 : decode cX12_pours 123 = .ok (.return_, 1) := by decide +kernel
theorem dX12_sifts_0 : decode cX12_sifts 0 = .ok (.aload_n 0, 1) := by decide +kernel
theorem dX12_sifts_1 : decode cX12_sifts 1 = .ok (.iload_n 1, 1) := by decide +kernel
theorem dX12_sifts_2 : decode cX12_sifts 2 = .ok (.iload_n 2, 1) := by decide +kernel
theorem dX12_sifts_3 : decode cX12_sifts 3 = .ok (.iconst 3, 1) := by decide +kernel
theorem dX12_sifts_4 : decode cX12_sifts 4 = .ok (.invokevirtual 298, 3) := by decide +kernel
theorem dX12_sifts_7 : decode cX12_sifts 7 = .ok (.aload_n 0, 1) := by decide +kernel
theorem dX12_sifts_8 : decode cX12_sifts 8 = .ok (.iload_n 1, 1) := by decide +kernel
theorem dX12_sifts_9 : decode cX12_sifts 9 = .ok (.iload_n 2, 1) := by decide +kernel
theorem dX12_sifts_10 : decode cX12_sifts 10 = .ok (.iconst 1, 1) := by decide +kernel
theorem dX12_sifts_11 : decode cX12_sifts 11 = .ok (.invokevirtual 298, 3) := by decide +kernel
theorem dX12_sifts_14 : decode cX12_sifts 14 = .ok (.if_icmp .ge 137, 3) := by decide +kernel
theorem dX12_sifts_17 : decode cX12_sifts 17 = .ok (.aload_n 0, 1) := by decide +kernel
theorem dX12_sifts_18 : decode cX12_sifts 18 = .ok (.iload_n 1, 1) := by decide +kernel
theorem dX12_sifts_19 : decode cX12_sifts 19 = .ok (.iload_n 2, 1) := by decide +kernel
theorem dX12_sifts_20 : decode cX12_sifts 20 = .ok (.invokevirtual 308, 3) := by decide +kernel
theorem dX12_sifts_23 : decode cX12_sifts 23 = .ok (.ifCond .ne 128, 3) := by decide +kernel
theorem dX12_sifts_26 : decode cX12_sifts 26 = .ok (.aload_n 0, 1) := by decide +kernel
theorem dX12_sifts_27 : decode cX12_sifts 27 = .ok (.iload_n 1, 1) := by decide +kernel
theorem dX12_sifts_28 : decode cX12_sifts 28 = .ok (.iload_n 2, 1) := by decide +kernel
theorem dX12_sifts_29 : decode cX12_sifts 29 = .ok (.bipush 6, 2) := by decide +kernel
theorem dX12_sifts_31 : decode cX12_sifts 31 = .ok (.invokevirtual 298, 3) := by decide +kernel
theorem dX12_sifts_34 : decode cX12_sifts 34 = .ok (.istore_n 3, 1) := by decide +kernel
theorem dX12_sifts_35 : decode cX12_sifts 35 = .ok (.aload_n 0, 1) := by decide +kernel
theorem dX12_sifts_36 : decode cX12_sifts 36 = .ok (.iload_n 1, 1) := by decide +kernel
theorem dX12_sifts_37 : decode cX12_sifts 37 = .ok (.iload_n 2, 1) := by decide +kernel
theorem dX12_sifts_38 : decode cX12_sifts 38 = .ok (.bipush 7, 2) := by decide +kernel
theorem dX12_sifts_40 : decode cX12_sifts 40 = .ok (.invokevirtual 298, 3) := by decide +kernel
theorem dX12_sifts_43 : decode cX12_sifts 43 = .ok (.istore 4, 2) := by decide +kernel
theorem dX12_sifts_45 : decode cX12_sifts 45 = .ok (.iload_n 3, 1) := by decide +kernel
theorem dX12_sifts_46 : decode cX12_sifts 46 = .ok (.ifCond .lt 26, 3) := by decide +kernel
theorem dX12_sifts_49 : decode cX12_sifts 49 = .ok (.iload 4, 2) := by decide +kernel
theorem dX12_sifts_51 : decode cX12_sifts 51 = .ok (.ifCond .lt 43, 3) := by decide +kernel
theorem dX12_sifts_54 : decode cX12_sifts 54 = .ok (.aload_n 0, 1) := by decide +kernel
theorem dX12_sifts_55 : decode cX12_sifts 55 = .ok (.iload_n 1, 1) := by decide +kernel
theorem dX12_sifts_56 : decode cX12_sifts 56 = .ok (.iload 4, 2) := by decide +kernel
theorem dX12_sifts_58 : decode cX12_sifts 58 = .ok (.iconst 2, 1) := by decide +kernel
theorem dX12_sifts_59 : decode cX12_sifts 59 = .ok (.invokevirtual 298, 3) := by decide +kernel
theorem dX12_sifts_62 : decode cX12_sifts 62 = .ok (.aload_n 0, 1) := by decide +kernel
theorem dX12_sifts_63 : decode cX12_sifts 63 = .ok (.iload_n 1, 1) := by decide +kernel
theorem dX12_sifts_64 : decode cX12_sifts 64 = .ok (.iload_n 3, 1) := by decide +kernel
theorem dX12_sifts_65 : decode cX12_sifts 65 = .ok (.iconst 2, 1) := by decide +kernel
theorem dX12_sifts_66 : decode cX12_sifts 66 = .ok (.invokevirtual 298, 3) := by decide +kernel
theorem dX12_sifts_69 : decode cX12_sifts 69 = .ok (.if_icmp .ge 25, 3) := by decide +kernel
theorem dX12_sifts_72 : decode cX12_sifts 72 = .ok (.aload_n 0, 1) := by decide +kernel
theorem dX12_sifts_73 : decode cX12_sifts 73 = .ok (.iload_n 1, 1) := by decide +kernel
theorem dX12_sifts_74 : decode cX12_sifts 74 = .ok (.iload_n 2, 1) := by decide +kernel
theorem dX12_sifts_75 : decode cX12_sifts 75 = .ok (.bipush 6, 2) := by decide +kernel
theorem dX12_sifts_77 : decode cX12_sifts 77 = .ok (.iload 4, 2) := by decide +kernel
theorem dX12_sifts_79 : decode cX12_sifts 79 = .ok (.invokevirtual 301, 3) := by decide +kernel
theorem dX12_sifts_82 : decode cX12_sifts 82 = .ok (.aload_n 0, 1) := by decide +kernel
theorem dX12_sifts_83 : decode cX12_sifts 83 = .ok (.iload_n 1, 1) := by decide +kernel
theorem dX12_sifts_84 : decode cX12_sifts 84 = .ok (.iload_n 2, 1) := by decide +kernel
theorem dX12_sifts_85 : decode cX12_sifts 85 = .ok (.bipush 7, 2) := by decide +kernel
theorem dX12_sifts_87 : decode cX12_sifts 87 = .ok (.iload_n 3, 1) := by decide +kernel
theorem dX12_sifts_88 : decode cX12_sifts 88 = .ok (.invokevirtual 301, 3) := by decide +kernel
theorem dX12_sifts_91 : decode cX12_sifts 91 = .ok (.iload 4, 2) := by decide +kernel
theorem dX12_sifts_93 : decode cX12_sifts 93 = .ok (.istore_n 3, 1) := by decide +kernel
theorem dX12_sifts_94 : decode cX12_sifts 94 = .ok (.aload_n 0, 1) := by decide +kernel
theorem dX12_sifts_95 : decode cX12_sifts 95 = .ok (.iload_n 1, 1) := by decide +kernel
theorem dX12_sifts_96 : decode cX12_sifts 96 = .ok (.iload_n 3, 1) := by decide +kernel
theorem dX12_sifts_97 : decode cX12_sifts 97 = .ok (.iload_n 2, 1) := by decide +kernel
theorem dX12_sifts_98 : decode cX12_sifts 98 = .ok (.invokevirtual 312, 3) := by decide +kernel
theorem dX12_sifts_101 : decode cX12_sifts 101 = .ok (.aload_n 0, 1) := by decide +kernel
theorem dX12_sifts_102 : decode cX12_sifts 102 = .ok (.iload_n 1, 1) := by decide +kernel
theorem dX12_sifts_103 : decode cX12_sifts 103 = .ok (.iload_n 2, 1) := by decide +kernel
theorem dX12_sifts_104 : decode cX12_sifts 104 = .ok (.iconst 2, 1) := by decide +kernel
theorem dX12_sifts_105 : decode cX12_sifts 105 = .ok (.aload_n 0, 1) := by decide +kernel
theorem dX12_sifts_106 : decode cX12_sifts 106 = .ok (.iload_n 1, 1) := by decide +kernel
theorem dX12_sifts_107 : decode cX12_sifts 107 = .ok (.iload_n 3, 1) := by decide +kernel
theorem dX12_sifts_108 : decode cX12_sifts 108 = .ok (.iconst 2, 1) := by decide +kernel
theorem dX12_sifts_109 : decode cX12_sifts 109 = .ok (.invokevirtual 298, 3) := by decide +kernel
theorem dX12_sifts_112 : decode cX12_sifts 112 = .ok (.invokevirtual 301, 3) := by decide +kernel
theorem dX12_sifts_115 : decode cX12_sifts 115 = .ok (.aload_n 0, 1) := by decide +kernel
theorem dX12_sifts_116 : decode cX12_sifts 116 = .ok (.iload_n 1, 1) := by decide +kernel
theorem dX12_sifts_117 : decode cX12_sifts 117 = .ok (.iload_n 3, 1) := by decide +kernel
theorem dX12_sifts_118 : decode cX12_sifts 118 = .ok (.invokevirtual 308, 3) := by decide +kernel
theorem dX12_sifts_121 : decode cX12_sifts 121 = .ok (.ifCond .eq 21, 3) := by decide +kernel
theorem dX12_sifts_124 : decode cX12_sifts 124 = .ok (.aload_n 0, 1) := by decide +kernel
theorem dX12_sifts_125 : decode cX12_sifts 125 = .ok (.iload_n 1, 1) := by decide +kernel
theorem dX12_sifts_126 : decode cX12_sifts 126 = .ok (.iload_n 3, 1) := by decide +kernel
theorem dX12_sifts_127 : decode cX12_sifts 127 = .ok (.invokevirtual 305, 3) := by decide +kernel
theorem dX12_sifts_130 : decode cX12_sifts 130 = .ok (.aload_n 0, 1) := by decide +kernel
theorem dX12_sifts_131 : decode cX12_sifts 131 = .ok (.iload_n 1, 1) := by decide +kernel
theorem dX12_sifts_132 : decode cX12_sifts 132 = .ok (.iload_n 2, 1) := by decide +kernel
theorem dX12_sifts_133 : decode cX12_sifts 133 = .ok (.bipush 6, 2) := by decide +kernel
theorem dX12_sifts_135 : decode cX12_sifts 135 = .ok (.iconst (-1), 1) := by decide +kernel
theorem dX12_sifts_136 : decode cX12_sifts 136 = .ok (.invokevirtual 301, 3) := by decide +kernel
theorem dX12_sifts_139 : decode cX12_sifts 139 = .ok (.goto 9, 3) := by decide +kernel
theorem dX12_sifts_142 : decode cX12_sifts 142 = .ok (.aload_n 0, 1) := by decide +kernel
theorem dX12_sifts_143 : decode cX12_sifts 143 = .ok (.iload_n 1, 1) := by decide +kernel
theorem dX12_sifts_144 : decode cX12_sifts 144 = .ok (.iload_n 3, 1) := by decide +kernel
theorem dX12_sifts_145 : decode cX12_sifts 145 = .ok (.invokevirtual 315, 3) := by decide +kernel
theorem dX12_sifts_148 : decode cX12_sifts 148 = .ok (.goto (-148), 3) := by decide +kernel
theorem dX12_sifts_151 : decode cX12_sifts 151 = .ok (.return_, 1) := by decide +kernel
theorem dX12_itemsUnder_0 : decode cX12_itemsUnder 0 = .ok (.iload_n 2, 1) := by decide +kernel
theorem dX12_itemsUnder_1 : decode cX12_itemsUnder 1 = .ok (.ifCond .ge 7, 3) := by decide +kernel
theorem dX12_itemsUnder_4 : decode cX12_itemsUnder 4 = .ok (.iconst 0, 1) := by decide +kernel
theorem dX12_itemsUnder_5 : decode cX12_itemsUnder 5 = .ok (.goto 38, 3) := by decide +kernel
theorem dX12_itemsUnder_8 : decode cX12_itemsUnder 8 = .ok (.aload_n 0, 1) := by decide +kernel
theorem dX12_itemsUnder_9 : decode cX12_itemsUnder 9 = .ok (.iload_n 1, 1) := by decide +kernel
theorem dX12_itemsUnder_10 : decode cX12_itemsUnder 10 = .ok (.iload_n 2, 1) := by decide +kernel
theorem dX12_itemsUnder_11 : decode cX12_itemsUnder 11 = .ok (.iconst 3, 1) := by decide +kernel
theorem dX12_itemsUnder_12 : decode cX12_itemsUnder 12 = .ok (.invokevirtual 298, 3) := by decide +kernel
theorem dX12_itemsUnder_15 : decode cX12_itemsUnder 15 = .ok (.aload_n 0, 1) := by decide +kernel
theorem dX12_itemsUnder_16 : decode cX12_itemsUnder 16 = .ok (.iload_n 1, 1) := by decide +kernel
theorem dX12_itemsUnder_17 : decode cX12_itemsUnder 17 = .ok (.aload_n 0, 1) := by decide +kernel
theorem dX12_itemsUnder_18 : decode cX12_itemsUnder 18 = .ok (.iload_n 1, 1) := by decide +kernel
theorem dX12_itemsUnder_19 : decode cX12_itemsUnder 19 = .ok (.iload_n 2, 1) := by decide +kernel
theorem dX12_itemsUnder_20 : decode cX12_itemsUnder 20 = .ok (.bipush 6, 2) := by decide +kernel
theorem dX12_itemsUnder_22 : decode cX12_itemsUnder 22 = .ok (.invokevirtual 298, 3) := by decide +kernel
theorem dX12_itemsUnder_25 : decode cX12_itemsUnder 25 = .ok (.invokevirtual 318, 3) := by decide +kernel
theorem dX12_itemsUnder_28 : decode cX12_itemsUnder 28 = .ok (.iadd, 1) := by decide +kernel
theorem dX12_itemsUnder_29 : decode cX12_itemsUnder 29 = .ok (.aload_n 0, 1) := by decide +kernel
theorem dX12_itemsUnder_30 : decode cX12_itemsUnder 30 = .ok (.iload_n 1, 1) := by decide +kernel
theorem dX12_itemsUnder_31 : decode cX12_itemsUnder 31 = .ok (.aload_n 0, 1) := by decide +kernel
theorem dX12_itemsUnder_32 : decode cX12_itemsUnder 32 = .ok (.iload_n 1, 1) := by decide +kernel
theorem dX12_itemsUnder_33 : decode cX12_itemsUnder 33 = .ok (.iload_n 2, 1) := by decide +kernel
theorem dX12_itemsUnder_34 : decode cX12_itemsUnder 34 = .ok (.bipush 7, 2) := by decide +kernel
theorem dX12_itemsUnder_36 : decode cX12_itemsUnder 36 = .ok (.invokevirtual 298, 3) := by decide +kernel
theorem dX12_itemsUnder_39 : decode cX12_itemsUnder 39 = .ok (.invokevirtual 318, 3) := by decide +kernel
theorem dX12_itemsUnder_42 : decode cX12_itemsUnder 42 = .ok (.iadd, 1) := by decide +kernel
theorem dX12_itemsUnder_43 : decode cX12_itemsUnder 43 = .ok (.ireturn, 1) := by decide +kernel
theorem dX12_nodesUnder_0 : decode cX12_nodesUnder 0 = .ok (.iload_n 2, 1) := by decide +kernel
theorem dX12_nodesUnder_1 : decode cX12_nodesUnder 1 = .ok (.ifCond .ge 7, 3) := by decide +kernel
theorem dX12_nodesUnder_4 : decode cX12_nodesUnder 4 = .ok (.iconst 0, 1) := by decide +kernel
theorem dX12_nodesUnder_5 : decode cX12_nodesUnder 5 = .ok (.goto 32, 3) := by decide +kernel
theorem dX12_nodesUnder_8 : decode cX12_nodesUnder 8 = .ok (.iconst 1, 1) := by decide +kernel
theorem dX12_nodesUnder_9 : decode cX12_nodesUnder 9 = .ok (.aload_n 0, 1) := by decide +kernel
theorem dX12_nodesUnder_10 : decode cX12_nodesUnder 10 = .ok (.iload_n 1, 1) := by decide +kernel
theorem dX12_nodesUnder_11 : decode cX12_nodesUnder 11 = .ok (.aload_n 0, 1) := by decide +kernel
theorem dX12_nodesUnder_12 : decode cX12_nodesUnder 12 = .ok (.iload_n 1, 1) := by decide +kernel
theorem dX12_nodesUnder_13 : decode cX12_nodesUnder 13 = .ok (.iload_n 2, 1) := by decide +kernel
theorem dX12_nodesUnder_14 : decode cX12_nodesUnder 14 = .ok (.bipush 6, 2) := by decide +kernel
theorem dX12_nodesUnder_16 : decode cX12_nodesUnder 16 = .ok (.invokevirtual 298, 3) := by decide +kernel
theorem dX12_nodesUnder_19 : decode cX12_nodesUnder 19 = .ok (.invokevirtual 321, 3) := by decide +kernel
theorem dX12_nodesUnder_22 : decode cX12_nodesUnder 22 = .ok (.iadd, 1) := by decide +kernel
theorem dX12_nodesUnder_23 : decode cX12_nodesUnder 23 = .ok (.aload_n 0, 1) := by decide +kernel
theorem dX12_nodesUnder_24 : decode cX12_nodesUnder 24 = .ok (.iload_n 1, 1) := by decide +kernel
theorem dX12_nodesUnder_25 : decode cX12_nodesUnder 25 = .ok (.aload_n 0, 1) := by decide +kernel
theorem dX12_nodesUnder_26 : decode cX12_nodesUnder 26 = .ok (.iload_n 1, 1) := by decide +kernel
theorem dX12_nodesUnder_27 : decode cX12_nodesUnder 27 = .ok (.iload_n 2, 1) := by decide +kernel
theorem dX12_nodesUnder_28 : decode cX12_nodesUnder 28 = .ok (.bipush 7, 2) := by decide +kernel
theorem dX12_nodesUnder_30 : decode cX12_nodesUnder 30 = .ok (.invokevirtual 298, 3) := by decide +kernel
theorem dX12_nodesUnder_33 : decode cX12_nodesUnder 33 = .ok (.invokevirtual 321, 3) := by decide +kernel
theorem dX12_nodesUnder_36 : decode cX12_nodesUnder 36 = .ok (.iadd, 1) := by decide +kernel
theorem dX12_nodesUnder_37 : decode cX12_nodesUnder 37 = .ok (.ireturn, 1) := by decide +kernel
theorem dX12_itemsIn_0 : decode cX12_itemsIn 0 = .ok (.iconst 0, 1) := by decide +kernel
theorem dX12_itemsIn_1 : decode cX12_itemsIn 1 = .ok (.istore_n 3, 1) := by decide +kernel
theorem dX12_itemsIn_2 : decode cX12_itemsIn 2 = .ok (.iconst 0, 1) := by decide +kernel
theorem dX12_itemsIn_3 : decode cX12_itemsIn 3 = .ok (.istore 4, 2) := by decide +kernel
theorem dX12_itemsIn_5 : decode cX12_itemsIn 5 = .ok (.iload 4, 2) := by decide +kernel
theorem dX12_itemsIn_7 : decode cX12_itemsIn 7 = .ok (.bipush 16, 2) := by decide +kernel
theorem dX12_itemsIn_9 : decode cX12_itemsIn 9 = .ok (.if_icmp .ge 25, 3) := by decide +kernel
theorem dX12_itemsIn_12 : decode cX12_itemsIn 12 = .ok (.iload_n 3, 1) := by decide +kernel
theorem dX12_itemsIn_13 : decode cX12_itemsIn 13 = .ok (.aload_n 0, 1) := by decide +kernel
theorem dX12_itemsIn_14 : decode cX12_itemsIn 14 = .ok (.iload_n 1, 1) := by decide +kernel
theorem dX12_itemsIn_15 : decode cX12_itemsIn 15 = .ok (.aload_n 0, 1) := by decide +kernel
theorem dX12_itemsIn_16 : decode cX12_itemsIn 16 = .ok (.iload_n 1, 1) := by decide +kernel
theorem dX12_itemsIn_17 : decode cX12_itemsIn 17 = .ok (.iload_n 2, 1) := by decide +kernel
theorem dX12_itemsIn_18 : decode cX12_itemsIn 18 = .ok (.iload 4, 2) := by decide +kernel
theorem dX12_itemsIn_20 : decode cX12_itemsIn 20 = .ok (.invokevirtual 324, 3) := by decide +kernel
theorem dX12_itemsIn_23 : decode cX12_itemsIn 23 = .ok (.invokevirtual 318, 3) := by decide +kernel
theorem dX12_itemsIn_26 : decode cX12_itemsIn 26 = .ok (.iadd, 1) := by decide +kernel
theorem dX12_itemsIn_27 : decode cX12_itemsIn 27 = .ok (.istore_n 3, 1) := by decide +kernel
theorem dX12_itemsIn_28 : decode cX12_itemsIn 28 = .ok (.iinc 4 1, 3) := by decide +kernel
theorem dX12_itemsIn_31 : decode cX12_itemsIn 31 = .ok (.goto (-26), 3) := by decide +kernel
theorem dX12_itemsIn_34 : decode cX12_itemsIn 34 = .ok (.iload_n 3, 1) := by decide +kernel
theorem dX12_itemsIn_35 : decode cX12_itemsIn 35 = .ok (.ireturn, 1) := by decide +kernel
theorem dX12_grows_0 : decode cX12_grows 0 = .ok (.aload_n 0, 1) := by decide +kernel
theorem dX12_grows_1 : decode cX12_grows 1 = .ok (.getfield 79, 3) := by decide +kernel
theorem dX12_grows_4 : decode cX12_grows 4 = .ok (.iconst 3, 1) := by decide +kernel
theorem dX12_grows_5 : decode cX12_grows 5 = .ok (.iaload, 1) := by decide +kernel
theorem dX12_grows_6 : decode cX12_grows 6 = .ok (.istore 4, 2) := by decide +kernel
theorem dX12_grows_8 : decode cX12_grows 8 = .ok (.aload_n 0, 1) := by decide +kernel
theorem dX12_grows_9 : decode cX12_grows 9 = .ok (.getfield 91, 3) := by decide +kernel
theorem dX12_grows_12 : decode cX12_grows 12 = .ok (.iconst 0, 1) := by decide +kernel
theorem dX12_grows_13 : decode cX12_grows 13 = .ok (.iload_n 1, 1) := by decide +kernel
theorem dX12_grows_14 : decode cX12_grows 14 = .ok (.iastore, 1) := by decide +kernel
theorem dX12_grows_15 : decode cX12_grows 15 = .ok (.aload_n 0, 1) := by decide +kernel
theorem dX12_grows_16 : decode cX12_grows 16 = .ok (.getfield 91, 3) := by decide +kernel
theorem dX12_grows_19 : decode cX12_grows 19 = .ok (.iconst 1, 1) := by decide +kernel
theorem dX12_grows_20 : decode cX12_grows 20 = .ok (.iload_n 2, 1) := by decide +kernel
theorem dX12_grows_21 : decode cX12_grows 21 = .ok (.iastore, 1) := by decide +kernel
theorem dX12_grows_22 : decode cX12_grows 22 = .ok (.aload_n 0, 1) := by decide +kernel
theorem dX12_grows_23 : decode cX12_grows 23 = .ok (.getfield 91, 3) := by decide +kernel
theorem dX12_grows_26 : decode cX12_grows 26 = .ok (.iconst 2, 1) := by decide +kernel
theorem dX12_grows_27 : decode cX12_grows 27 = .ok (.iload 4, 2) := by decide +kernel
theorem dX12_grows_29 : decode cX12_grows 29 = .ok (.iastore, 1) := by decide +kernel
theorem dX12_grows_30 : decode cX12_grows 30 = .ok (.aload_n 0, 1) := by decide +kernel
theorem dX12_grows_31 : decode cX12_grows 31 = .ok (.getfield 91, 3) := by decide +kernel
theorem dX12_grows_34 : decode cX12_grows 34 = .ok (.iconst 3, 1) := by decide +kernel
theorem dX12_grows_35 : decode cX12_grows 35 = .ok (.iload_n 3, 1) := by decide +kernel
theorem dX12_grows_36 : decode cX12_grows 36 = .ok (.iastore, 1) := by decide +kernel
theorem dX12_grows_37 : decode cX12_grows 37 = .ok (.aload_n 0, 1) := by decide +kernel
theorem dX12_grows_38 : decode cX12_grows 38 = .ok (.getfield 79, 3) := by decide +kernel
theorem dX12_grows_41 : decode cX12_grows 41 = .ok (.iconst 4, 1) := by decide +kernel
theorem dX12_grows_42 : decode cX12_grows 42 = .ok (.iaload, 1) := by decide +kernel
theorem dX12_grows_43 : decode cX12_grows 43 = .ok (.ifCond .lt 16, 3) := by decide +kernel
theorem dX12_grows_46 : decode cX12_grows 46 = .ok (.aload_n 0, 1) := by decide +kernel
theorem dX12_grows_47 : decode cX12_grows 47 = .ok (.aload_n 0, 1) := by decide +kernel
theorem dX12_grows_48 : decode cX12_grows 48 = .ok (.getfield 79, 3) := by decide +kernel
theorem dX12_grows_51 : decode cX12_grows 51 = .ok (.iconst 4, 1) := by decide +kernel
theorem dX12_grows_52 : decode cX12_grows 52 = .ok (.iaload, 1) := by decide +kernel
theorem dX12_grows_53 : decode cX12_grows 53 = .ok (.invokevirtual 327, 3) := by decide +kernel
theorem dX12_grows_56 : decode cX12_grows 56 = .ok (.goto 20, 3) := by decide +kernel
theorem dX12_grows_59 : decode cX12_grows 59 = .ok (.iload_n 1, 1) := by decide +kernel
theorem dX12_grows_60 : decode cX12_grows 60 = .ok (.iload 4, 2) := by decide +kernel
theorem dX12_grows_62 : decode cX12_grows 62 = .ok (.if_icmp .gt 7, 3) := by decide +kernel
theorem dX12_grows_65 : decode cX12_grows 65 = .ok (.iconst 1, 1) := by decide +kernel
theorem dX12_grows_66 : decode cX12_grows 66 = .ok (.goto 10, 3) := by decide +kernel
theorem dX12_grows_69 : decode cX12_grows 69 = .ok (.iconst 3, 1) := by decide +kernel
theorem dX12_grows_70 : decode cX12_grows 70 = .ok (.iload_n 2, 1) := by decide +kernel
theorem dX12_grows_71 : decode cX12_grows 71 = .ok (.imul, 1) := by decide +kernel
theorem dX12_grows_72 : decode cX12_grows 72 = .ok (.iconst 1, 1) := by decide +kernel
theorem dX12_grows_73 : decode cX12_grows 73 = .ok (.iadd, 1) := by decide +kernel
theorem dX12_grows_74 : decode cX12_grows 74 = .ok (.iconst 2, 1) := by decide +kernel
theorem dX12_grows_75 : decode cX12_grows 75 = .ok (.idiv, 1) := by decide +kernel
theorem dX12_grows_76 : decode cX12_grows 76 = .ok (.istore 5, 2) := by decide +kernel
theorem dX12_grows_78 : decode cX12_grows 78 = .ok (.iload 5, 2) := by decide +kernel
theorem dX12_grows_80 : decode cX12_grows 80 = .ok (.iconst 1, 1) := by decide +kernel
theorem dX12_grows_81 : decode cX12_grows 81 = .ok (.if_icmp .ge 7, 3) := by decide +kernel
theorem dX12_grows_84 : decode cX12_grows 84 = .ok (.iconst 1, 1) := by decide +kernel
theorem dX12_grows_85 : decode cX12_grows 85 = .ok (.goto 17, 3) := by decide +kernel
theorem dX12_grows_88 : decode cX12_grows 88 = .ok (.iload 5, 2) := by decide +kernel
theorem dX12_grows_90 : decode cX12_grows 90 = .ok (.bipush 99, 2) := by decide +kernel
theorem dX12_grows_92 : decode cX12_grows 92 = .ok (.if_icmp .le 8, 3) := by decide +kernel
theorem dX12_grows_95 : decode cX12_grows 95 = .ok (.bipush 99, 2) := by decide +kernel
theorem dX12_grows_97 : decode cX12_grows 97 = .ok (.goto 5, 3) := by decide +kernel
theorem dX12_grows_100 : decode cX12_grows 100 = .ok (.iload 5, 2) := by decide +kernel
theorem dX12_grows_102 : decode cX12_grows 102 = .ok (.ireturn, 1) := by decide +kernel
theorem dX12_joins_0 : decode cX12_joins 0 = .ok (.iload_n 3, 1) := by decide +kernel
theorem dX12_joins_1 : decode cX12_joins 1 = .ok (.istore 4, 2) := by decide +kernel
theorem dX12_joins_3 : decode cX12_joins 3 = .ok (.aload_n 0, 1) := by decide +kernel
theorem dX12_joins_4 : decode cX12_joins 4 = .ok (.iload_n 1, 1) := by decide +kernel
theorem dX12_joins_5 : decode cX12_joins 5 = .ok (.iload_n 2, 1) := by decide +kernel
theorem dX12_joins_6 : decode cX12_joins 6 = .ok (.invokevirtual 330, 3) := by decide +kernel
theorem dX12_joins_9 : decode cX12_joins 9 = .ok (.aload_n 0, 1) := by decide +kernel
theorem dX12_joins_10 : decode cX12_joins 10 = .ok (.iload_n 1, 1) := by decide +kernel
theorem dX12_joins_11 : decode cX12_joins 11 = .ok (.iload_n 3, 1) := by decide +kernel
theorem dX12_joins_12 : decode cX12_joins 12 = .ok (.invokevirtual 318, 3) := by decide +kernel
theorem dX12_joins_15 : decode cX12_joins 15 = .ok (.iadd, 1) := by decide +kernel
theorem dX12_joins_16 : decode cX12_joins 16 = .ok (.istore 5, 2) := by decide +kernel
theorem dX12_joins_18 : decode cX12_joins 18 = .ok (.aload_n 0, 1) := by decide +kernel
theorem dX12_joins_19 : decode cX12_joins 19 = .ok (.iload_n 1, 1) := by decide +kernel
theorem dX12_joins_20 : decode cX12_joins 20 = .ok (.iload_n 2, 1) := by decide +kernel
theorem dX12_joins_21 : decode cX12_joins 21 = .ok (.aload_n 0, 1) := by decide +kernel
theorem dX12_joins_22 : decode cX12_joins 22 = .ok (.iload_n 1, 1) := by decide +kernel
theorem dX12_joins_23 : decode cX12_joins 23 = .ok (.iload 4, 2) := by decide +kernel
theorem dX12_joins_25 : decode cX12_joins 25 = .ok (.iconst 0, 1) := by decide +kernel
theorem dX12_joins_26 : decode cX12_joins 26 = .ok (.invokevirtual 298, 3) := by decide +kernel
theorem dX12_joins_29 : decode cX12_joins 29 = .ok (.invokevirtual 324, 3) := by decide +kernel
theorem dX12_joins_32 : decode cX12_joins 32 = .ok (.ifCond .lt 138, 3) := by decide +kernel
theorem dX12_joins_35 : decode cX12_joins 35 = .ok (.aload_n 0, 1) := by decide +kernel
theorem dX12_joins_36 : decode cX12_joins 36 = .ok (.iload_n 1, 1) := by decide +kernel
theorem dX12_joins_37 : decode cX12_joins 37 = .ok (.iload 4, 2) := by decide +kernel
theorem dX12_joins_39 : decode cX12_joins 39 = .ok (.iconst 0, 1) := by decide +kernel
theorem dX12_joins_40 : decode cX12_joins 40 = .ok (.invokevirtual 298, 3) := by decide +kernel
theorem dX12_joins_43 : decode cX12_joins 43 = .ok (.istore 6, 2) := by decide +kernel
theorem dX12_joins_45 : decode cX12_joins 45 = .ok (.aload_n 0, 1) := by decide +kernel
theorem dX12_joins_46 : decode cX12_joins 46 = .ok (.iload_n 1, 1) := by decide +kernel
theorem dX12_joins_47 : decode cX12_joins 47 = .ok (.iload_n 2, 1) := by decide +kernel
theorem dX12_joins_48 : decode cX12_joins 48 = .ok (.iload 6, 2) := by decide +kernel
theorem dX12_joins_50 : decode cX12_joins 50 = .ok (.invokevirtual 324, 3) := by decide +kernel
theorem dX12_joins_53 : decode cX12_joins 53 = .ok (.istore 7, 2) := by decide +kernel
theorem dX12_joins_55 : decode cX12_joins 55 = .ok (.aload_n 0, 1) := by decide +kernel
theorem dX12_joins_56 : decode cX12_joins 56 = .ok (.iload_n 1, 1) := by decide +kernel
theorem dX12_joins_57 : decode cX12_joins 57 = .ok (.iload_n 2, 1) := by decide +kernel
theorem dX12_joins_58 : decode cX12_joins 58 = .ok (.iload 6, 2) := by decide +kernel
theorem dX12_joins_60 : decode cX12_joins 60 = .ok (.iconst (-1), 1) := by decide +kernel
theorem dX12_joins_61 : decode cX12_joins 61 = .ok (.invokevirtual 333, 3) := by decide +kernel
theorem dX12_joins_64 : decode cX12_joins 64 = .ok (.aload_n 0, 1) := by decide +kernel
theorem dX12_joins_65 : decode cX12_joins 65 = .ok (.iload_n 1, 1) := by decide +kernel
theorem dX12_joins_66 : decode cX12_joins 66 = .ok (.iload 7, 2) := by decide +kernel
theorem dX12_joins_68 : decode cX12_joins 68 = .ok (.iconst 1, 1) := by decide +kernel
theorem dX12_joins_69 : decode cX12_joins 69 = .ok (.invokevirtual 298, 3) := by decide +kernel
theorem dX12_joins_72 : decode cX12_joins 72 = .ok (.aload_n 0, 1) := by decide +kernel
theorem dX12_joins_73 : decode cX12_joins 73 = .ok (.iload_n 1, 1) := by decide +kernel
theorem dX12_joins_74 : decode cX12_joins 74 = .ok (.iload 4, 2) := by decide +kernel
theorem dX12_joins_76 : decode cX12_joins 76 = .ok (.iconst 1, 1) := by decide +kernel
theorem dX12_joins_77 : decode cX12_joins 77 = .ok (.invokevirtual 298, 3) := by decide +kernel
theorem dX12_joins_80 : decode cX12_joins 80 = .ok (.if_icmp .le 14, 3) := by decide +kernel
theorem dX12_joins_83 : decode cX12_joins 83 = .ok (.aload_n 0, 1) := by decide +kernel
theorem dX12_joins_84 : decode cX12_joins 84 = .ok (.iload_n 1, 1) := by decide +kernel
theorem dX12_joins_85 : decode cX12_joins 85 = .ok (.iload 7, 2) := by decide +kernel
theorem dX12_joins_87 : decode cX12_joins 87 = .ok (.iconst 1, 1) := by decide +kernel
theorem dX12_joins_88 : decode cX12_joins 88 = .ok (.invokevirtual 298, 3) := by decide +kernel
theorem dX12_joins_91 : decode cX12_joins 91 = .ok (.goto 11, 3) := by decide +kernel
theorem dX12_joins_94 : decode cX12_joins 94 = .ok (.aload_n 0, 1) := by decide +kernel
theorem dX12_joins_95 : decode cX12_joins 95 = .ok (.iload_n 1, 1) := by decide +kernel
theorem dX12_joins_96 : decode cX12_joins 96 = .ok (.iload 4, 2) := by decide +kernel
theorem dX12_joins_98 : decode cX12_joins 98 = .ok (.iconst 1, 1) := by decide +kernel
theorem dX12_joins_99 : decode cX12_joins 99 = .ok (.invokevirtual 298, 3) := by decide +kernel
theorem dX12_joins_102 : decode cX12_joins 102 = .ok (.istore 8, 2) := by decide +kernel
theorem dX12_joins_104 : decode cX12_joins 104 = .ok (.aload_n 0, 1) := by decide +kernel
theorem dX12_joins_105 : decode cX12_joins 105 = .ok (.iload_n 1, 1) := by decide +kernel
theorem dX12_joins_106 : decode cX12_joins 106 = .ok (.invokevirtual 336, 3) := by decide +kernel
theorem dX12_joins_109 : decode cX12_joins 109 = .ok (.istore 9, 2) := by decide +kernel
theorem dX12_joins_111 : decode cX12_joins 111 = .ok (.aload_n 0, 1) := by decide +kernel
theorem dX12_joins_112 : decode cX12_joins 112 = .ok (.iload_n 1, 1) := by decide +kernel
theorem dX12_joins_113 : decode cX12_joins 113 = .ok (.iload 9, 2) := by decide +kernel
theorem dX12_joins_115 : decode cX12_joins 115 = .ok (.iload 6, 2) := by decide +kernel
theorem dX12_joins_117 : decode cX12_joins 117 = .ok (.iconst 1, 1) := by decide +kernel
theorem dX12_joins_118 : decode cX12_joins 118 = .ok (.iadd, 1) := by decide +kernel
theorem dX12_joins_119 : decode cX12_joins 119 = .ok (.aload_n 0, 1) := by decide +kernel
theorem dX12_joins_120 : decode cX12_joins 120 = .ok (.iload 6, 2) := by decide +kernel
theorem dX12_joins_122 : decode cX12_joins 122 = .ok (.iconst 1, 1) := by decide +kernel
theorem dX12_joins_123 : decode cX12_joins 123 = .ok (.iadd, 1) := by decide +kernel
theorem dX12_joins_124 : decode cX12_joins 124 = .ok (.iload 8, 2) := by decide +kernel
theorem dX12_joins_126 : decode cX12_joins 126 = .ok (.iload 5, 2) := by decide +kernel
theorem dX12_joins_128 : decode cX12_joins 128 = .ok (.invokevirtual 339, 3) := by decide +kernel
theorem dX12_joins_131 : decode cX12_joins 131 = .ok (.invokevirtual 342, 3) := by decide +kernel
theorem dX12_joins_134 : decode cX12_joins 134 = .ok (.aload_n 0, 1) := by decide +kernel
theorem dX12_joins_135 : decode cX12_joins 135 = .ok (.iload_n 1, 1) := by decide +kernel
theorem dX12_joins_136 : decode cX12_joins 136 = .ok (.iload 9, 2) := by decide +kernel
theorem dX12_joins_138 : decode cX12_joins 138 = .ok (.bipush 6, 2) := by decide +kernel
theorem dX12_joins_140 : decode cX12_joins 140 = .ok (.iload 7, 2) := by decide +kernel
theorem dX12_joins_142 : decode cX12_joins 142 = .ok (.invokevirtual 301, 3) := by decide +kernel
theorem dX12_joins_145 : decode cX12_joins 145 = .ok (.aload_n 0, 1) := by decide +kernel
theorem dX12_joins_146 : decode cX12_joins 146 = .ok (.iload_n 1, 1) := by decide +kernel
theorem dX12_joins_147 : decode cX12_joins 147 = .ok (.iload 9, 2) := by decide +kernel
theorem dX12_joins_149 : decode cX12_joins 149 = .ok (.bipush 7, 2) := by decide +kernel
theorem dX12_joins_151 : decode cX12_joins 151 = .ok (.iload 4, 2) := by decide +kernel
theorem dX12_joins_153 : decode cX12_joins 153 = .ok (.invokevirtual 301, 3) := by decide +kernel
theorem dX12_joins_156 : decode cX12_joins 156 = .ok (.aload_n 0, 1) := by decide +kernel
theorem dX12_joins_157 : decode cX12_joins 157 = .ok (.iload_n 1, 1) := by decide +kernel
theorem dX12_joins_158 : decode cX12_joins 158 = .ok (.iload 9, 2) := by decide +kernel
theorem dX12_joins_160 : decode cX12_joins 160 = .ok (.invokevirtual 315, 3) := by decide +kernel
theorem dX12_joins_163 : decode cX12_joins 163 = .ok (.iload 9, 2) := by decide +kernel
theorem dX12_joins_165 : decode cX12_joins 165 = .ok (.istore 4, 2) := by decide +kernel
theorem dX12_joins_167 : decode cX12_joins 167 = .ok (.goto (-149), 3) := by decide +kernel
theorem dX12_joins_170 : decode cX12_joins 170 = .ok (.aload_n 0, 1) := by decide +kernel
theorem dX12_joins_171 : decode cX12_joins 171 = .ok (.iload_n 1, 1) := by decide +kernel
theorem dX12_joins_172 : decode cX12_joins 172 = .ok (.iload_n 2, 1) := by decide +kernel
theorem dX12_joins_173 : decode cX12_joins 173 = .ok (.aload_n 0, 1) := by decide +kernel
theorem dX12_joins_174 : decode cX12_joins 174 = .ok (.iload_n 1, 1) := by decide +kernel
theorem dX12_joins_175 : decode cX12_joins 175 = .ok (.iload 4, 2) := by decide +kernel
theorem dX12_joins_177 : decode cX12_joins 177 = .ok (.iconst 0, 1) := by decide +kernel
theorem dX12_joins_178 : decode cX12_joins 178 = .ok (.invokevirtual 298, 3) := by decide +kernel
theorem dX12_joins_181 : decode cX12_joins 181 = .ok (.iload 4, 2) := by decide +kernel
theorem dX12_joins_183 : decode cX12_joins 183 = .ok (.invokevirtual 333, 3) := by decide +kernel
theorem dX12_joins_186 : decode cX12_joins 186 = .ok (.return_, 1) := by decide +kernel
theorem dX12_puts_0 : decode cX12_puts 0 = .ok (.aload_n 0, 1) := by decide +kernel
theorem dX12_puts_1 : decode cX12_puts 1 = .ok (.iload_n 1, 1) := by decide +kernel
theorem dX12_puts_2 : decode cX12_puts 2 = .ok (.invokevirtual 336, 3) := by decide +kernel
theorem dX12_puts_5 : decode cX12_puts 5 = .ok (.istore 4, 2) := by decide +kernel
theorem dX12_puts_7 : decode cX12_puts 7 = .ok (.aload_n 0, 1) := by decide +kernel
theorem dX12_puts_8 : decode cX12_puts 8 = .ok (.iload_n 1, 1) := by decide +kernel
theorem dX12_puts_9 : decode cX12_puts 9 = .ok (.iload 4, 2) := by decide +kernel
theorem dX12_puts_11 : decode cX12_puts 11 = .ok (.iconst 0, 1) := by decide +kernel
theorem dX12_puts_12 : decode cX12_puts 12 = .ok (.iconst 1, 1) := by decide +kernel
theorem dX12_puts_13 : decode cX12_puts 13 = .ok (.invokevirtual 342, 3) := by decide +kernel
theorem dX12_puts_16 : decode cX12_puts 16 = .ok (.aload_n 0, 1) := by decide +kernel
theorem dX12_puts_17 : decode cX12_puts 17 = .ok (.iload_n 1, 1) := by decide +kernel
theorem dX12_puts_18 : decode cX12_puts 18 = .ok (.iload 4, 2) := by decide +kernel
theorem dX12_puts_20 : decode cX12_puts 20 = .ok (.iconst 2, 1) := by decide +kernel
theorem dX12_puts_21 : decode cX12_puts 21 = .ok (.aload_n 0, 1) := by decide +kernel
theorem dX12_puts_22 : decode cX12_puts 22 = .ok (.getfield 104, 3) := by decide +kernel
theorem dX12_puts_25 : decode cX12_puts 25 = .ok (.iload_n 2, 1) := by decide +kernel
theorem dX12_puts_26 : decode cX12_puts 26 = .ok (.iaload, 1) := by decide +kernel
theorem dX12_puts_27 : decode cX12_puts 27 = .ok (.invokevirtual 301, 3) := by decide +kernel
theorem dX12_puts_30 : decode cX12_puts 30 = .ok (.aload_n 0, 1) := by decide +kernel
theorem dX12_puts_31 : decode cX12_puts 31 = .ok (.iload_n 1, 1) := by decide +kernel
theorem dX12_puts_32 : decode cX12_puts 32 = .ok (.iload 4, 2) := by decide +kernel
theorem dX12_puts_34 : decode cX12_puts 34 = .ok (.iconst 3, 1) := by decide +kernel
theorem dX12_puts_35 : decode cX12_puts 35 = .ok (.iconst 1, 1) := by decide +kernel
theorem dX12_puts_36 : decode cX12_puts 36 = .ok (.invokevirtual 301, 3) := by decide +kernel
theorem dX12_puts_39 : decode cX12_puts 39 = .ok (.aload_n 0, 1) := by decide +kernel
theorem dX12_puts_40 : decode cX12_puts 40 = .ok (.iload_n 1, 1) := by decide +kernel
theorem dX12_puts_41 : decode cX12_puts 41 = .ok (.iload 4, 2) := by decide +kernel
theorem dX12_puts_43 : decode cX12_puts 43 = .ok (.iconst 4, 1) := by decide +kernel
theorem dX12_puts_44 : decode cX12_puts 44 = .ok (.iload_n 2, 1) := by decide +kernel
theorem dX12_puts_45 : decode cX12_puts 45 = .ok (.invokevirtual 301, 3) := by decide +kernel
theorem dX12_puts_48 : decode cX12_puts 48 = .ok (.aload_n 0, 1) := by decide +kernel
theorem dX12_puts_49 : decode cX12_puts 49 = .ok (.iload_n 1, 1) := by decide +kernel
theorem dX12_puts_50 : decode cX12_puts 50 = .ok (.iload 4, 2) := by decide +kernel
theorem dX12_puts_52 : decode cX12_puts 52 = .ok (.iconst 5, 1) := by decide +kernel
theorem dX12_puts_53 : decode cX12_puts 53 = .ok (.iload_n 2, 1) := by decide +kernel
theorem dX12_puts_54 : decode cX12_puts 54 = .ok (.invokevirtual 301, 3) := by decide +kernel
theorem dX12_puts_57 : decode cX12_puts 57 = .ok (.aload_n 0, 1) := by decide +kernel
theorem dX12_puts_58 : decode cX12_puts 58 = .ok (.getfield 97, 3) := by decide +kernel
theorem dX12_puts_61 : decode cX12_puts 61 = .ok (.iload_n 1, 1) := by decide +kernel
theorem dX12_puts_62 : decode cX12_puts 62 = .ok (.sipush 300, 3) := by decide +kernel
theorem dX12_puts_65 : decode cX12_puts 65 = .ok (.iadd, 1) := by decide +kernel
theorem dX12_puts_66 : decode cX12_puts 66 = .ok (.iload_n 2, 1) := by decide +kernel
theorem dX12_puts_67 : decode cX12_puts 67 = .ok (.iadd, 1) := by decide +kernel
theorem dX12_puts_68 : decode cX12_puts 68 = .ok (.iconst (-1), 1) := by decide +kernel
theorem dX12_puts_69 : decode cX12_puts 69 = .ok (.iastore, 1) := by decide +kernel
theorem dX12_puts_70 : decode cX12_puts 70 = .ok (.aload_n 0, 1) := by decide +kernel
theorem dX12_puts_71 : decode cX12_puts 71 = .ok (.getfield 97, 3) := by decide +kernel
theorem dX12_puts_74 : decode cX12_puts 74 = .ok (.iload_n 1, 1) := by decide +kernel
theorem dX12_puts_75 : decode cX12_puts 75 = .ok (.sipush 260, 3) := by decide +kernel
theorem dX12_puts_78 : decode cX12_puts 78 = .ok (.iadd, 1) := by decide +kernel
theorem dX12_puts_79 : decode cX12_puts 79 = .ok (.iload_n 2, 1) := by decide +kernel
theorem dX12_puts_80 : decode cX12_puts 80 = .ok (.iadd, 1) := by decide +kernel
theorem dX12_puts_81 : decode cX12_puts 81 = .ok (.iconst (-1), 1) := by decide +kernel
theorem dX12_puts_82 : decode cX12_puts 82 = .ok (.iastore, 1) := by decide +kernel
theorem dX12_puts_83 : decode cX12_puts 83 = .ok (.aload_n 0, 1) := by decide +kernel
theorem dX12_puts_84 : decode cX12_puts 84 = .ok (.getfield 97, 3) := by decide +kernel
theorem dX12_puts_87 : decode cX12_puts 87 = .ok (.iload_n 1, 1) := by decide +kernel
theorem dX12_puts_88 : decode cX12_puts 88 = .ok (.sipush 280, 3) := by decide +kernel
theorem dX12_puts_91 : decode cX12_puts 91 = .ok (.iadd, 1) := by decide +kernel
theorem dX12_puts_92 : decode cX12_puts 92 = .ok (.iload_n 2, 1) := by decide +kernel
theorem dX12_puts_93 : decode cX12_puts 93 = .ok (.iadd, 1) := by decide +kernel
theorem dX12_puts_94 : decode cX12_puts 94 = .ok (.iconst (-1), 1) := by decide +kernel
theorem dX12_puts_95 : decode cX12_puts 95 = .ok (.iastore, 1) := by decide +kernel
theorem dX12_puts_96 : decode cX12_puts 96 = .ok (.aload_n 0, 1) := by decide +kernel
theorem dX12_puts_97 : decode cX12_puts 97 = .ok (.iload_n 1, 1) := by decide +kernel
theorem dX12_puts_98 : decode cX12_puts 98 = .ok (.iload_n 3, 1) := by decide +kernel
theorem dX12_puts_99 : decode cX12_puts 99 = .ok (.iload 4, 2) := by decide +kernel
theorem dX12_puts_101 : decode cX12_puts 101 = .ok (.invokevirtual 345, 3) := by decide +kernel
theorem dX12_puts_104 : decode cX12_puts 104 = .ok (.aload_n 0, 1) := by decide +kernel
theorem dX12_puts_105 : decode cX12_puts 105 = .ok (.getfield 97, 3) := by decide +kernel
theorem dX12_puts_108 : decode cX12_puts 108 = .ok (.iload_n 1, 1) := by decide +kernel
theorem dX12_puts_109 : decode cX12_puts 109 = .ok (.sipush 240, 3) := by decide +kernel
theorem dX12_puts_112 : decode cX12_puts 112 = .ok (.iadd, 1) := by decide +kernel
theorem dX12_puts_113 : decode cX12_puts 113 = .ok (.iload_n 2, 1) := by decide +kernel
theorem dX12_puts_114 : decode cX12_puts 114 = .ok (.iadd, 1) := by decide +kernel
theorem dX12_puts_115 : decode cX12_puts 115 = .ok (.iload_n 3, 1) := by decide +kernel
theorem dX12_puts_116 : decode cX12_puts 116 = .ok (.iastore, 1) := by decide +kernel
theorem dX12_puts_117 : decode cX12_puts 117 = .ok (.return_, 1) := by decide +kernel
theorem dX12_melds_0 : decode cX12_melds 0 = .ok (.iconst 0, 1) := by decide +kernel
theorem dX12_melds_1 : decode cX12_melds 1 = .ok (.istore 4, 2) := by decide +kernel
theorem dX12_melds_3 : decode cX12_melds 3 = .ok (.iload 4, 2) := by decide +kernel
theorem dX12_melds_5 : decode cX12_melds 5 = .ok (.bipush 16, 2) := by decide +kernel
theorem dX12_melds_7 : decode cX12_melds 7 = .ok (.if_icmp .ge 41, 3) := by decide +kernel
theorem dX12_melds_10 : decode cX12_melds 10 = .ok (.aload_n 0, 1) := by decide +kernel
theorem dX12_melds_11 : decode cX12_melds 11 = .ok (.iload_n 1, 1) := by decide +kernel
theorem dX12_melds_12 : decode cX12_melds 12 = .ok (.iload_n 2, 1) := by decide +kernel
theorem dX12_melds_13 : decode cX12_melds 13 = .ok (.iload 4, 2) := by decide +kernel
theorem dX12_melds_15 : decode cX12_melds 15 = .ok (.invokevirtual 324, 3) := by decide +kernel
theorem dX12_melds_18 : decode cX12_melds 18 = .ok (.istore 5, 2) := by decide +kernel
theorem dX12_melds_20 : decode cX12_melds 20 = .ok (.iload 5, 2) := by decide +kernel
theorem dX12_melds_22 : decode cX12_melds 22 = .ok (.ifCond .lt 20, 3) := by decide +kernel
theorem dX12_melds_25 : decode cX12_melds 25 = .ok (.aload_n 0, 1) := by decide +kernel
theorem dX12_melds_26 : decode cX12_melds 26 = .ok (.iload_n 1, 1) := by decide +kernel
theorem dX12_melds_27 : decode cX12_melds 27 = .ok (.iload_n 2, 1) := by decide +kernel
theorem dX12_melds_28 : decode cX12_melds 28 = .ok (.iload 4, 2) := by decide +kernel
theorem dX12_melds_30 : decode cX12_melds 30 = .ok (.iconst (-1), 1) := by decide +kernel
theorem dX12_melds_31 : decode cX12_melds 31 = .ok (.invokevirtual 333, 3) := by decide +kernel
theorem dX12_melds_34 : decode cX12_melds 34 = .ok (.aload_n 0, 1) := by decide +kernel
theorem dX12_melds_35 : decode cX12_melds 35 = .ok (.iload_n 1, 1) := by decide +kernel
theorem dX12_melds_36 : decode cX12_melds 36 = .ok (.iload_n 3, 1) := by decide +kernel
theorem dX12_melds_37 : decode cX12_melds 37 = .ok (.iload 5, 2) := by decide +kernel
theorem dX12_melds_39 : decode cX12_melds 39 = .ok (.invokevirtual 345, 3) := by decide +kernel
theorem dX12_melds_42 : decode cX12_melds 42 = .ok (.iinc 4 1, 3) := by decide +kernel
theorem dX12_melds_45 : decode cX12_melds 45 = .ok (.goto (-42), 3) := by decide +kernel
theorem dX12_melds_48 : decode cX12_melds 48 = .ok (.iconst 0, 1) := by decide +kernel
theorem dX12_melds_49 : decode cX12_melds 49 = .ok (.istore 4, 2) := by decide +kernel
theorem dX12_melds_51 : decode cX12_melds 51 = .ok (.iload 4, 2) := by decide +kernel
theorem dX12_melds_53 : decode cX12_melds 53 = .ok (.aload_n 0, 1) := by decide +kernel
theorem dX12_melds_54 : decode cX12_melds 54 = .ok (.invokevirtual 217, 3) := by decide +kernel
theorem dX12_melds_57 : decode cX12_melds 57 = .ok (.if_icmp .ge 56, 3) := by decide +kernel
theorem dX12_melds_60 : decode cX12_melds 60 = .ok (.aload_n 0, 1) := by decide +kernel
theorem dX12_melds_61 : decode cX12_melds 61 = .ok (.getfield 97, 3) := by decide +kernel
theorem dX12_melds_64 : decode cX12_melds 64 = .ok (.iload_n 1, 1) := by decide +kernel
theorem dX12_melds_65 : decode cX12_melds 65 = .ok (.sipush 240, 3) := by decide +kernel
theorem dX12_melds_68 : decode cX12_melds 68 = .ok (.iadd, 1) := by decide +kernel
theorem dX12_melds_69 : decode cX12_melds 69 = .ok (.iload 4, 2) := by decide +kernel
theorem dX12_melds_71 : decode cX12_melds 71 = .ok (.iadd, 1) := by decide +kernel
theorem dX12_melds_72 : decode cX12_melds 72 = .ok (.aload_n 0, 1) := by decide +kernel
theorem dX12_melds_73 : decode cX12_melds 73 = .ok (.getfield 97, 3) := by decide +kernel
theorem dX12_melds_76 : decode cX12_melds 76 = .ok (.iload_n 1, 1) := by decide +kernel
theorem dX12_melds_77 : decode cX12_melds 77 = .ok (.sipush 240, 3) := by decide +kernel
theorem dX12_melds_80 : decode cX12_melds 80 = .ok (.iadd, 1) := by decide +kernel
theorem dX12_melds_81 : decode cX12_melds 81 = .ok (.iload 4, 2) := by decide +kernel
theorem dX12_melds_83 : decode cX12_melds 83 = .ok (.iadd, 1) := by decide +kernel
theorem dX12_melds_84 : decode cX12_melds 84 = .ok (.iaload, 1) := by decide +kernel
theorem dX12_melds_85 : decode cX12_melds 85 = .ok (.iload_n 2, 1) := by decide +kernel
theorem dX12_melds_86 : decode cX12_melds 86 = .ok (.if_icmp .ne 7, 3) := by decide +kernel
theorem dX12_melds_89 : decode cX12_melds 89 = .ok (.iload_n 3, 1) := by decide +kernel
theorem dX12_melds_90 : decode cX12_melds 90 = .ok (.goto 16, 3) := by decide +kernel
theorem dX12_melds_93 : decode cX12_melds 93 = .ok (.aload_n 0, 1) := by decide +kernel
theorem dX12_melds_94 : decode cX12_melds 94 = .ok (.getfield 97, 3) := by decide +kernel
theorem dX12_melds_97 : decode cX12_melds 97 = .ok (.iload_n 1, 1) := by decide +kernel
theorem dX12_melds_98 : decode cX12_melds 98 = .ok (.sipush 240, 3) := by decide +kernel
theorem dX12_melds_101 : decode cX12_melds 101 = .ok (.iadd, 1) := by decide +kernel
theorem dX12_melds_102 : decode cX12_melds 102 = .ok (.iload 4, 2) := by decide +kernel
theorem dX12_melds_104 : decode cX12_melds 104 = .ok (.iadd, 1) := by decide +kernel
theorem dX12_melds_105 : decode cX12_melds 105 = .ok (.iaload, 1) := by decide +kernel
theorem dX12_melds_106 : decode cX12_melds 106 = .ok (.iastore, 1) := by decide +kernel
theorem dX12_melds_107 : decode cX12_melds 107 = .ok (.iinc 4 1, 3) := by decide +kernel
theorem dX12_melds_110 : decode cX12_melds 110 = .ok (.goto (-59), 3) := by decide +kernel
theorem dX12_melds_113 : decode cX12_melds 113 = .ok (.return_, 1) := by decide +kernel
theorem dX12_nextRoot_0 : decode cX12_nextRoot 0 = .ok (.iconst (-1), 1) := by decide +kernel
theorem dX12_nextRoot_1 : decode cX12_nextRoot 1 = .ok (.istore_n 3, 1) := by decide +kernel
theorem dX12_nextRoot_2 : decode cX12_nextRoot 2 = .ok (.iconst 0, 1) := by decide +kernel
theorem dX12_nextRoot_3 : decode cX12_nextRoot 3 = .ok (.istore 4, 2) := by decide +kernel
theorem dX12_nextRoot_5 : decode cX12_nextRoot 5 = .ok (.iload 4, 2) := by decide +kernel
theorem dX12_nextRoot_7 : decode cX12_nextRoot 7 = .ok (.bipush 16, 2) := by decide +kernel
theorem dX12_nextRoot_9 : decode cX12_nextRoot 9 = .ok (.if_icmp .ge 53, 3) := by decide +kernel
theorem dX12_nextRoot_12 : decode cX12_nextRoot 12 = .ok (.aload_n 0, 1) := by decide +kernel
theorem dX12_nextRoot_13 : decode cX12_nextRoot 13 = .ok (.iload_n 1, 1) := by decide +kernel
theorem dX12_nextRoot_14 : decode cX12_nextRoot 14 = .ok (.iload_n 2, 1) := by decide +kernel
theorem dX12_nextRoot_15 : decode cX12_nextRoot 15 = .ok (.iload 4, 2) := by decide +kernel
theorem dX12_nextRoot_17 : decode cX12_nextRoot 17 = .ok (.invokevirtual 324, 3) := by decide +kernel
theorem dX12_nextRoot_20 : decode cX12_nextRoot 20 = .ok (.istore 5, 2) := by decide +kernel
theorem dX12_nextRoot_22 : decode cX12_nextRoot 22 = .ok (.iload 5, 2) := by decide +kernel
theorem dX12_nextRoot_24 : decode cX12_nextRoot 24 = .ok (.ifCond .lt 30, 3) := by decide +kernel
theorem dX12_nextRoot_27 : decode cX12_nextRoot 27 = .ok (.iload_n 3, 1) := by decide +kernel
theorem dX12_nextRoot_28 : decode cX12_nextRoot 28 = .ok (.ifCond .lt 21, 3) := by decide +kernel
theorem dX12_nextRoot_31 : decode cX12_nextRoot 31 = .ok (.aload_n 0, 1) := by decide +kernel
theorem dX12_nextRoot_32 : decode cX12_nextRoot 32 = .ok (.iload_n 1, 1) := by decide +kernel
theorem dX12_nextRoot_33 : decode cX12_nextRoot 33 = .ok (.iload 5, 2) := by decide +kernel
theorem dX12_nextRoot_35 : decode cX12_nextRoot 35 = .ok (.iconst 2, 1) := by decide +kernel
theorem dX12_nextRoot_36 : decode cX12_nextRoot 36 = .ok (.invokevirtual 298, 3) := by decide +kernel
theorem dX12_nextRoot_39 : decode cX12_nextRoot 39 = .ok (.aload_n 0, 1) := by decide +kernel
theorem dX12_nextRoot_40 : decode cX12_nextRoot 40 = .ok (.iload_n 1, 1) := by decide +kernel
theorem dX12_nextRoot_41 : decode cX12_nextRoot 41 = .ok (.iload_n 3, 1) := by decide +kernel
theorem dX12_nextRoot_42 : decode cX12_nextRoot 42 = .ok (.iconst 2, 1) := by decide +kernel
theorem dX12_nextRoot_43 : decode cX12_nextRoot 43 = .ok (.invokevirtual 298, 3) := by decide +kernel
theorem dX12_nextRoot_46 : decode cX12_nextRoot 46 = .ok (.if_icmp .ge 8, 3) := by decide +kernel
theorem dX12_nextRoot_49 : decode cX12_nextRoot 49 = .ok (.iload 5, 2) := by decide +kernel
theorem dX12_nextRoot_51 : decode cX12_nextRoot 51 = .ok (.goto 4, 3) := by decide +kernel
theorem dX12_nextRoot_54 : decode cX12_nextRoot 54 = .ok (.iload_n 3, 1) := by decide +kernel
theorem dX12_nextRoot_55 : decode cX12_nextRoot 55 = .ok (.istore_n 3, 1) := by decide +kernel
theorem dX12_nextRoot_56 : decode cX12_nextRoot 56 = .ok (.iinc 4 1, 3) := by decide +kernel
theorem dX12_nextRoot_59 : decode cX12_nextRoot 59 = .ok (.goto (-54), 3) := by decide +kernel
theorem dX12_nextRoot_62 : decode cX12_nextRoot 62 = .ok (.iload_n 3, 1) := by decide +kernel
theorem dX12_nextRoot_63 : decode cX12_nextRoot 63 = .ok (.ireturn, 1) := by decide +kernel
theorem dX12_takes_0 : decode cX12_takes 0 = .ok (.aload_n 0, 1) := by decide +kernel
theorem dX12_takes_1 : decode cX12_takes 1 = .ok (.iload_n 1, 1) := by decide +kernel
theorem dX12_takes_2 : decode cX12_takes 2 = .ok (.iload_n 2, 1) := by decide +kernel
theorem dX12_takes_3 : decode cX12_takes 3 = .ok (.invokevirtual 348, 3) := by decide +kernel
theorem dX12_takes_6 : decode cX12_takes 6 = .ok (.istore_n 3, 1) := by decide +kernel
theorem dX12_takes_7 : decode cX12_takes 7 = .ok (.iload_n 3, 1) := by decide +kernel
theorem dX12_takes_8 : decode cX12_takes 8 = .ok (.ifCond .ge 5, 3) := by decide +kernel
theorem dX12_takes_11 : decode cX12_takes 11 = .ok (.iconst (-1), 1) := by decide +kernel
theorem dX12_takes_12 : decode cX12_takes 12 = .ok (.ireturn, 1) := by decide +kernel
theorem dX12_takes_13 : decode cX12_takes 13 = .ok (.aload_n 0, 1) := by decide +kernel
theorem dX12_takes_14 : decode cX12_takes 14 = .ok (.iload_n 1, 1) := by decide +kernel
theorem dX12_takes_15 : decode cX12_takes 15 = .ok (.iload_n 3, 1) := by decide +kernel
theorem dX12_takes_16 : decode cX12_takes 16 = .ok (.iconst 4, 1) := by decide +kernel
theorem dX12_takes_17 : decode cX12_takes 17 = .ok (.invokevirtual 298, 3) := by decide +kernel
theorem dX12_takes_20 : decode cX12_takes 20 = .ok (.istore 4, 2) := by decide +kernel
theorem dX12_takes_22 : decode cX12_takes 22 = .ok (.aload_n 0, 1) := by decide +kernel
theorem dX12_takes_23 : decode cX12_takes 23 = .ok (.iload_n 1, 1) := by decide +kernel
theorem dX12_takes_24 : decode cX12_takes 24 = .ok (.iload_n 3, 1) := by decide +kernel
theorem dX12_takes_25 : decode cX12_takes 25 = .ok (.iconst 4, 1) := by decide +kernel
theorem dX12_takes_26 : decode cX12_takes 26 = .ok (.aload_n 0, 1) := by decide +kernel
theorem dX12_takes_27 : decode cX12_takes 27 = .ok (.getfield 97, 3) := by decide +kernel
theorem dX12_takes_30 : decode cX12_takes 30 = .ok (.iload_n 1, 1) := by decide +kernel
theorem dX12_takes_31 : decode cX12_takes 31 = .ok (.sipush 300, 3) := by decide +kernel
theorem dX12_takes_34 : decode cX12_takes 34 = .ok (.iadd, 1) := by decide +kernel
theorem dX12_takes_35 : decode cX12_takes 35 = .ok (.iload 4, 2) := by decide +kernel
theorem dX12_takes_37 : decode cX12_takes 37 = .ok (.iadd, 1) := by decide +kernel
theorem dX12_takes_38 : decode cX12_takes 38 = .ok (.iaload, 1) := by decide +kernel
theorem dX12_takes_39 : decode cX12_takes 39 = .ok (.invokevirtual 301, 3) := by decide +kernel
theorem dX12_takes_42 : decode cX12_takes 42 = .ok (.aload_n 0, 1) := by decide +kernel
theorem dX12_takes_43 : decode cX12_takes 43 = .ok (.iload_n 1, 1) := by decide +kernel
theorem dX12_takes_44 : decode cX12_takes 44 = .ok (.iload_n 3, 1) := by decide +kernel
theorem dX12_takes_45 : decode cX12_takes 45 = .ok (.iconst 3, 1) := by decide +kernel
theorem dX12_takes_46 : decode cX12_takes 46 = .ok (.aload_n 0, 1) := by decide +kernel
theorem dX12_takes_47 : decode cX12_takes 47 = .ok (.iload_n 1, 1) := by decide +kernel
theorem dX12_takes_48 : decode cX12_takes 48 = .ok (.iload_n 3, 1) := by decide +kernel
theorem dX12_takes_49 : decode cX12_takes 49 = .ok (.iconst 3, 1) := by decide +kernel
theorem dX12_takes_50 : decode cX12_takes 50 = .ok (.invokevirtual 298, 3) := by decide +kernel
theorem dX12_takes_53 : decode cX12_takes 53 = .ok (.iconst 1, 1) := by decide +kernel
theorem dX12_takes_54 : decode cX12_takes 54 = .ok (.isub, 1) := by decide +kernel
theorem dX12_takes_55 : decode cX12_takes 55 = .ok (.invokevirtual 301, 3) := by decide +kernel
theorem dX12_takes_58 : decode cX12_takes 58 = .ok (.aload_n 0, 1) := by decide +kernel
theorem dX12_takes_59 : decode cX12_takes 59 = .ok (.iload_n 1, 1) := by decide +kernel
theorem dX12_takes_60 : decode cX12_takes 60 = .ok (.iload_n 3, 1) := by decide +kernel
theorem dX12_takes_61 : decode cX12_takes 61 = .ok (.iconst 3, 1) := by decide +kernel
theorem dX12_takes_62 : decode cX12_takes 62 = .ok (.invokevirtual 298, 3) := by decide +kernel
theorem dX12_takes_65 : decode cX12_takes 65 = .ok (.ifCond .ne 11, 3) := by decide +kernel
theorem dX12_takes_68 : decode cX12_takes 68 = .ok (.aload_n 0, 1) := by decide +kernel
theorem dX12_takes_69 : decode cX12_takes 69 = .ok (.iload_n 1, 1) := by decide +kernel
theorem dX12_takes_70 : decode cX12_takes 70 = .ok (.iload_n 3, 1) := by decide +kernel
theorem dX12_takes_71 : decode cX12_takes 71 = .ok (.iconst 5, 1) := by decide +kernel
theorem dX12_takes_72 : decode cX12_takes 72 = .ok (.iconst (-1), 1) := by decide +kernel
theorem dX12_takes_73 : decode cX12_takes 73 = .ok (.invokevirtual 301, 3) := by decide +kernel
theorem dX12_takes_76 : decode cX12_takes 76 = .ok (.aload_n 0, 1) := by decide +kernel
theorem dX12_takes_77 : decode cX12_takes 77 = .ok (.getfield 97, 3) := by decide +kernel
theorem dX12_takes_80 : decode cX12_takes 80 = .ok (.iload_n 1, 1) := by decide +kernel
theorem dX12_takes_81 : decode cX12_takes 81 = .ok (.sipush 300, 3) := by decide +kernel
theorem dX12_takes_84 : decode cX12_takes 84 = .ok (.iadd, 1) := by decide +kernel
theorem dX12_takes_85 : decode cX12_takes 85 = .ok (.iload 4, 2) := by decide +kernel
theorem dX12_takes_87 : decode cX12_takes 87 = .ok (.iadd, 1) := by decide +kernel
theorem dX12_takes_88 : decode cX12_takes 88 = .ok (.iconst (-1), 1) := by decide +kernel
theorem dX12_takes_89 : decode cX12_takes 89 = .ok (.iastore, 1) := by decide +kernel
theorem dX12_takes_90 : decode cX12_takes 90 = .ok (.aload_n 0, 1) := by decide +kernel
theorem dX12_takes_91 : decode cX12_takes 91 = .ok (.getfield 97, 3) := by decide +kernel
theorem dX12_takes_94 : decode cX12_takes 94 = .ok (.iload_n 1, 1) := by decide +kernel
theorem dX12_takes_95 : decode cX12_takes 95 = .ok (.sipush 240, 3) := by decide +kernel
theorem dX12_takes_98 : decode cX12_takes 98 = .ok (.iadd, 1) := by decide +kernel
theorem dX12_takes_99 : decode cX12_takes 99 = .ok (.iload 4, 2) := by decide +kernel
theorem dX12_takes_101 : decode cX12_takes 101 = .ok (.iadd, 1) := by decide +kernel
theorem dX12_takes_102 : decode cX12_takes 102 = .ok (.iconst (-1), 1) := by decide +kernel
theorem dX12_takes_103 : decode cX12_takes 103 = .ok (.iastore, 1) := by decide +kernel
theorem dX12_takes_104 : decode cX12_takes 104 = .ok (.aload_n 0, 1) := by decide +kernel
theorem dX12_takes_105 : decode cX12_takes 105 = .ok (.iload_n 1, 1) := by decide +kernel
theorem dX12_takes_106 : decode cX12_takes 106 = .ok (.iload_n 3, 1) := by decide +kernel
theorem dX12_takes_107 : decode cX12_takes 107 = .ok (.invokevirtual 308, 3) := by decide +kernel
theorem dX12_takes_110 : decode cX12_takes 110 = .ok (.ifCond .eq 36, 3) := by decide +kernel
theorem dX12_takes_113 : decode cX12_takes 113 = .ok (.aload_n 0, 1) := by decide +kernel
theorem dX12_takes_114 : decode cX12_takes 114 = .ok (.iload_n 1, 1) := by decide +kernel
theorem dX12_takes_115 : decode cX12_takes 115 = .ok (.iload_n 3, 1) := by decide +kernel
theorem dX12_takes_116 : decode cX12_takes 116 = .ok (.iconst 3, 1) := by decide +kernel
theorem dX12_takes_117 : decode cX12_takes 117 = .ok (.invokevirtual 298, 3) := by decide +kernel
theorem dX12_takes_120 : decode cX12_takes 120 = .ok (.ifCond .ne 51, 3) := by decide +kernel
theorem dX12_takes_123 : decode cX12_takes 123 = .ok (.aload_n 0, 1) := by decide +kernel
theorem dX12_takes_124 : decode cX12_takes 124 = .ok (.iload_n 1, 1) := by decide +kernel
theorem dX12_takes_125 : decode cX12_takes 125 = .ok (.iload_n 2, 1) := by decide +kernel
theorem dX12_takes_126 : decode cX12_takes 126 = .ok (.aload_n 0, 1) := by decide +kernel
theorem dX12_takes_127 : decode cX12_takes 127 = .ok (.iload_n 1, 1) := by decide +kernel
theorem dX12_takes_128 : decode cX12_takes 128 = .ok (.iload_n 3, 1) := by decide +kernel
theorem dX12_takes_129 : decode cX12_takes 129 = .ok (.iconst 0, 1) := by decide +kernel
theorem dX12_takes_130 : decode cX12_takes 130 = .ok (.invokevirtual 298, 3) := by decide +kernel
theorem dX12_takes_133 : decode cX12_takes 133 = .ok (.iconst (-1), 1) := by decide +kernel
theorem dX12_takes_134 : decode cX12_takes 134 = .ok (.invokevirtual 333, 3) := by decide +kernel
theorem dX12_takes_137 : decode cX12_takes 137 = .ok (.aload_n 0, 1) := by decide +kernel
theorem dX12_takes_138 : decode cX12_takes 138 = .ok (.iload_n 1, 1) := by decide +kernel
theorem dX12_takes_139 : decode cX12_takes 139 = .ok (.iload_n 3, 1) := by decide +kernel
theorem dX12_takes_140 : decode cX12_takes 140 = .ok (.invokevirtual 305, 3) := by decide +kernel
theorem dX12_takes_143 : decode cX12_takes 143 = .ok (.goto 28, 3) := by decide +kernel
theorem dX12_takes_146 : decode cX12_takes 146 = .ok (.aload_n 0, 1) := by decide +kernel
theorem dX12_takes_147 : decode cX12_takes 147 = .ok (.iload_n 1, 1) := by decide +kernel
theorem dX12_takes_148 : decode cX12_takes 148 = .ok (.iload_n 3, 1) := by decide +kernel
theorem dX12_takes_149 : decode cX12_takes 149 = .ok (.iconst 3, 1) := by decide +kernel
theorem dX12_takes_150 : decode cX12_takes 150 = .ok (.invokevirtual 298, 3) := by decide +kernel
theorem dX12_takes_153 : decode cX12_takes 153 = .ok (.aload_n 0, 1) := by decide +kernel
theorem dX12_takes_154 : decode cX12_takes 154 = .ok (.iload_n 1, 1) := by decide +kernel
theorem dX12_takes_155 : decode cX12_takes 155 = .ok (.iload_n 3, 1) := by decide +kernel
theorem dX12_takes_156 : decode cX12_takes 156 = .ok (.iconst 1, 1) := by decide +kernel
theorem dX12_takes_157 : decode cX12_takes 157 = .ok (.invokevirtual 298, 3) := by decide +kernel
theorem dX12_takes_160 : decode cX12_takes 160 = .ok (.iconst 2, 1) := by decide +kernel
theorem dX12_takes_161 : decode cX12_takes 161 = .ok (.idiv, 1) := by decide +kernel
theorem dX12_takes_162 : decode cX12_takes 162 = .ok (.if_icmp .gt 9, 3) := by decide +kernel
theorem dX12_takes_165 : decode cX12_takes 165 = .ok (.aload_n 0, 1) := by decide +kernel
theorem dX12_takes_166 : decode cX12_takes 166 = .ok (.iload_n 1, 1) := by decide +kernel
theorem dX12_takes_167 : decode cX12_takes 167 = .ok (.iload_n 3, 1) := by decide +kernel
theorem dX12_takes_168 : decode cX12_takes 168 = .ok (.invokevirtual 315, 3) := by decide +kernel
theorem dX12_takes_171 : decode cX12_takes 171 = .ok (.iload 4, 2) := by decide +kernel
theorem dX12_takes_173 : decode cX12_takes 173 = .ok (.ireturn, 1) := by decide +kernel
theorem dX12_shelvedOn_0 : decode cX12_shelvedOn 0 = .ok (.iconst 0, 1) := by decide +kernel
theorem dX12_shelvedOn_1 : decode cX12_shelvedOn 1 = .ok (.istore_n 3, 1) := by decide +kernel
theorem dX12_shelvedOn_2 : decode cX12_shelvedOn 2 = .ok (.iconst 0, 1) := by decide +kernel
theorem dX12_shelvedOn_3 : decode cX12_shelvedOn 3 = .ok (.istore 4, 2) := by decide +kernel
theorem dX12_shelvedOn_5 : decode cX12_shelvedOn 5 = .ok (.iload 4, 2) := by decide +kernel
theorem dX12_shelvedOn_7 : decode cX12_shelvedOn 7 = .ok (.aload_n 0, 1) := by decide +kernel
theorem dX12_shelvedOn_8 : decode cX12_shelvedOn 8 = .ok (.invokevirtual 217, 3) := by decide +kernel
theorem dX12_shelvedOn_11 : decode cX12_shelvedOn 11 = .ok (.if_icmp .ge 34, 3) := by decide +kernel
theorem dX12_shelvedOn_14 : decode cX12_shelvedOn 14 = .ok (.iload_n 3, 1) := by decide +kernel
theorem dX12_shelvedOn_15 : decode cX12_shelvedOn 15 = .ok (.aload_n 0, 1) := by decide +kernel
theorem dX12_shelvedOn_16 : decode cX12_shelvedOn 16 = .ok (.getfield 97, 3) := by decide +kernel
theorem dX12_shelvedOn_19 : decode cX12_shelvedOn 19 = .ok (.iload_n 1, 1) := by decide +kernel
theorem dX12_shelvedOn_20 : decode cX12_shelvedOn 20 = .ok (.sipush 260, 3) := by decide +kernel
theorem dX12_shelvedOn_23 : decode cX12_shelvedOn 23 = .ok (.iadd, 1) := by decide +kernel
theorem dX12_shelvedOn_24 : decode cX12_shelvedOn 24 = .ok (.iload 4, 2) := by decide +kernel
theorem dX12_shelvedOn_26 : decode cX12_shelvedOn 26 = .ok (.iadd, 1) := by decide +kernel
theorem dX12_shelvedOn_27 : decode cX12_shelvedOn 27 = .ok (.iaload, 1) := by decide +kernel
theorem dX12_shelvedOn_28 : decode cX12_shelvedOn 28 = .ok (.iload_n 2, 1) := by decide +kernel
theorem dX12_shelvedOn_29 : decode cX12_shelvedOn 29 = .ok (.if_icmp .ne 7, 3) := by decide +kernel
theorem dX12_shelvedOn_32 : decode cX12_shelvedOn 32 = .ok (.iconst 1, 1) := by decide +kernel
theorem dX12_shelvedOn_33 : decode cX12_shelvedOn 33 = .ok (.goto 4, 3) := by decide +kernel
theorem dX12_shelvedOn_36 : decode cX12_shelvedOn 36 = .ok (.iconst 0, 1) := by decide +kernel
theorem dX12_shelvedOn_37 : decode cX12_shelvedOn 37 = .ok (.iadd, 1) := by decide +kernel
theorem dX12_shelvedOn_38 : decode cX12_shelvedOn 38 = .ok (.istore_n 3, 1) := by decide +kernel
theorem dX12_shelvedOn_39 : decode cX12_shelvedOn 39 = .ok (.iinc 4 1, 3) := by decide +kernel
theorem dX12_shelvedOn_42 : decode cX12_shelvedOn 42 = .ok (.goto (-37), 3) := by decide +kernel
theorem dX12_shelvedOn_45 : decode cX12_shelvedOn 45 = .ok (.iload_n 3, 1) := by decide +kernel
theorem dX12_shelvedOn_46 : decode cX12_shelvedOn 46 = .ok (.ireturn, 1) := by decide +kernel
theorem dX12_isTaken_0 : decode cX12_isTaken 0 = .ok (.iconst 0, 1) := by decide +kernel
theorem dX12_isTaken_1 : decode cX12_isTaken 1 = .ok (.istore 4, 2) := by decide +kernel
theorem dX12_isTaken_3 : decode cX12_isTaken 3 = .ok (.iconst 0, 1) := by decide +kernel
theorem dX12_isTaken_4 : decode cX12_isTaken 4 = .ok (.istore 5, 2) := by decide +kernel
theorem dX12_isTaken_6 : decode cX12_isTaken 6 = .ok (.iload 5, 2) := by decide +kernel
theorem dX12_isTaken_8 : decode cX12_isTaken 8 = .ok (.aload_n 0, 1) := by decide +kernel
theorem dX12_isTaken_9 : decode cX12_isTaken 9 = .ok (.invokevirtual 217, 3) := by decide +kernel
theorem dX12_isTaken_12 : decode cX12_isTaken 12 = .ok (.if_icmp .ge 55, 3) := by decide +kernel
theorem dX12_isTaken_15 : decode cX12_isTaken 15 = .ok (.iload 4, 2) := by decide +kernel
theorem dX12_isTaken_17 : decode cX12_isTaken 17 = .ok (.ifCond .ne 37, 3) := by decide +kernel
theorem dX12_isTaken_20 : decode cX12_isTaken 20 = .ok (.aload_n 0, 1) := by decide +kernel
theorem dX12_isTaken_21 : decode cX12_isTaken 21 = .ok (.getfield 97, 3) := by decide +kernel
theorem dX12_isTaken_24 : decode cX12_isTaken 24 = .ok (.iload_n 1, 1) := by decide +kernel
theorem dX12_isTaken_25 : decode cX12_isTaken 25 = .ok (.sipush 260, 3) := by decide +kernel
theorem dX12_isTaken_28 : decode cX12_isTaken 28 = .ok (.iadd, 1) := by decide +kernel
theorem dX12_isTaken_29 : decode cX12_isTaken 29 = .ok (.iload 5, 2) := by decide +kernel
theorem dX12_isTaken_31 : decode cX12_isTaken 31 = .ok (.iadd, 1) := by decide +kernel
theorem dX12_isTaken_32 : decode cX12_isTaken 32 = .ok (.iaload, 1) := by decide +kernel
theorem dX12_isTaken_33 : decode cX12_isTaken 33 = .ok (.iload_n 2, 1) := by decide +kernel
theorem dX12_isTaken_34 : decode cX12_isTaken 34 = .ok (.if_icmp .ne 24, 3) := by decide +kernel
theorem dX12_isTaken_37 : decode cX12_isTaken 37 = .ok (.aload_n 0, 1) := by decide +kernel
theorem dX12_isTaken_38 : decode cX12_isTaken 38 = .ok (.getfield 97, 3) := by decide +kernel
theorem dX12_isTaken_41 : decode cX12_isTaken 41 = .ok (.iload_n 1, 1) := by decide +kernel
theorem dX12_isTaken_42 : decode cX12_isTaken 42 = .ok (.sipush 280, 3) := by decide +kernel
theorem dX12_isTaken_45 : decode cX12_isTaken 45 = .ok (.iadd, 1) := by decide +kernel
theorem dX12_isTaken_46 : decode cX12_isTaken 46 = .ok (.iload 5, 2) := by decide +kernel
theorem dX12_isTaken_48 : decode cX12_isTaken 48 = .ok (.iadd, 1) := by decide +kernel
theorem dX12_isTaken_49 : decode cX12_isTaken 49 = .ok (.iaload, 1) := by decide +kernel
theorem dX12_isTaken_50 : decode cX12_isTaken 50 = .ok (.iload_n 3, 1) := by decide +kernel
theorem dX12_isTaken_51 : decode cX12_isTaken 51 = .ok (.if_icmp .ne 7, 3) := by decide +kernel
theorem dX12_isTaken_54 : decode cX12_isTaken 54 = .ok (.iconst 1, 1) := by decide +kernel
theorem dX12_isTaken_55 : decode cX12_isTaken 55 = .ok (.goto 4, 3) := by decide +kernel
theorem dX12_isTaken_58 : decode cX12_isTaken 58 = .ok (.iconst 0, 1) := by decide +kernel
theorem dX12_isTaken_59 : decode cX12_isTaken 59 = .ok (.istore 4, 2) := by decide +kernel
theorem dX12_isTaken_61 : decode cX12_isTaken 61 = .ok (.iinc 5 1, 3) := by decide +kernel
theorem dX12_isTaken_64 : decode cX12_isTaken 64 = .ok (.goto (-58), 3) := by decide +kernel
theorem dX12_isTaken_67 : decode cX12_isTaken 67 = .ok (.iload 4, 2) := by decide +kernel
theorem dX12_isTaken_69 : decode cX12_isTaken 69 = .ok (.ireturn, 1) := by decide +kernel
theorem dX12_shelves_0 : decode cX12_shelves 0 = .ok (.aload_n 0, 1) := by decide +kernel
theorem dX12_shelves_1 : decode cX12_shelves 1 = .ok (.iload_n 1, 1) := by decide +kernel
theorem dX12_shelves_2 : decode cX12_shelves 2 = .ok (.iload_n 2, 1) := by decide +kernel
theorem dX12_shelves_3 : decode cX12_shelves 3 = .ok (.invokevirtual 351, 3) := by decide +kernel
theorem dX12_shelves_6 : decode cX12_shelves 6 = .ok (.istore 4, 2) := by decide +kernel
theorem dX12_shelves_8 : decode cX12_shelves 8 = .ok (.aload_n 0, 1) := by decide +kernel
theorem dX12_shelves_9 : decode cX12_shelves 9 = .ok (.iload 4, 2) := by decide +kernel
theorem dX12_shelves_11 : decode cX12_shelves 11 = .ok (.iconst 0, 1) := by decide +kernel
theorem dX12_shelves_12 : decode cX12_shelves 12 = .ok (.invokevirtual 259, 3) := by decide +kernel
theorem dX12_shelves_15 : decode cX12_shelves 15 = .ok (.aload_n 0, 1) := by decide +kernel
theorem dX12_shelves_16 : decode cX12_shelves 16 = .ok (.getfield 79, 3) := by decide +kernel
theorem dX12_shelves_19 : decode cX12_shelves 19 = .ok (.iconst 5, 1) := by decide +kernel
theorem dX12_shelves_20 : decode cX12_shelves 20 = .ok (.iload_n 3, 1) := by decide +kernel
theorem dX12_shelves_21 : decode cX12_shelves 21 = .ok (.iadd, 1) := by decide +kernel
theorem dX12_shelves_22 : decode cX12_shelves 22 = .ok (.iaload, 1) := by decide +kernel
theorem dX12_shelves_23 : decode cX12_shelves 23 = .ok (.if_icmp .ne 13, 3) := by decide +kernel
theorem dX12_shelves_26 : decode cX12_shelves 26 = .ok (.aload_n 0, 1) := by decide +kernel
theorem dX12_shelves_27 : decode cX12_shelves 27 = .ok (.iload_n 1, 1) := by decide +kernel
theorem dX12_shelves_28 : decode cX12_shelves 28 = .ok (.iload_n 3, 1) := by decide +kernel
theorem dX12_shelves_29 : decode cX12_shelves 29 = .ok (.invokevirtual 354, 3) := by decide +kernel
theorem dX12_shelves_32 : decode cX12_shelves 32 = .ok (.iconst 4, 1) := by decide +kernel
theorem dX12_shelves_33 : decode cX12_shelves 33 = .ok (.if_icmp .ne 5, 3) := by decide +kernel
theorem dX12_shelves_36 : decode cX12_shelves 36 = .ok (.iconst 0, 1) := by decide +kernel
theorem dX12_shelves_37 : decode cX12_shelves 37 = .ok (.ireturn, 1) := by decide +kernel
theorem dX12_shelves_38 : decode cX12_shelves 38 = .ok (.iconst 0, 1) := by decide +kernel
theorem dX12_shelves_39 : decode cX12_shelves 39 = .ok (.istore 5, 2) := by decide +kernel
theorem dX12_shelves_41 : decode cX12_shelves 41 = .ok (.aload_n 0, 1) := by decide +kernel
theorem dX12_shelves_42 : decode cX12_shelves 42 = .ok (.iload_n 1, 1) := by decide +kernel
theorem dX12_shelves_43 : decode cX12_shelves 43 = .ok (.iload_n 3, 1) := by decide +kernel
theorem dX12_shelves_44 : decode cX12_shelves 44 = .ok (.iload 5, 2) := by decide +kernel
theorem dX12_shelves_46 : decode cX12_shelves 46 = .ok (.invokevirtual 357, 3) := by decide +kernel
theorem dX12_shelves_49 : decode cX12_shelves 49 = .ok (.ifCond .eq 9, 3) := by decide +kernel
theorem dX12_shelves_52 : decode cX12_shelves 52 = .ok (.iinc 5 1, 3) := by decide +kernel
theorem dX12_shelves_55 : decode cX12_shelves 55 = .ok (.goto (-14), 3) := by decide +kernel
theorem dX12_shelves_58 : decode cX12_shelves 58 = .ok (.aload_n 0, 1) := by decide +kernel
theorem dX12_shelves_59 : decode cX12_shelves 59 = .ok (.getfield 97, 3) := by decide +kernel
theorem dX12_shelves_62 : decode cX12_shelves 62 = .ok (.iload_n 1, 1) := by decide +kernel
theorem dX12_shelves_63 : decode cX12_shelves 63 = .ok (.sipush 260, 3) := by decide +kernel
theorem dX12_shelves_66 : decode cX12_shelves 66 = .ok (.iadd, 1) := by decide +kernel
theorem dX12_shelves_67 : decode cX12_shelves 67 = .ok (.iload 4, 2) := by decide +kernel
theorem dX12_shelves_69 : decode cX12_shelves 69 = .ok (.iadd, 1) := by decide +kernel
theorem dX12_shelves_70 : decode cX12_shelves 70 = .ok (.iload_n 3, 1) := by decide +kernel
theorem dX12_shelves_71 : decode cX12_shelves 71 = .ok (.iastore, 1) := by decide +kernel
theorem dX12_shelves_72 : decode cX12_shelves 72 = .ok (.aload_n 0, 1) := by decide +kernel
theorem dX12_shelves_73 : decode cX12_shelves 73 = .ok (.getfield 97, 3) := by decide +kernel
theorem dX12_shelves_76 : decode cX12_shelves 76 = .ok (.iload_n 1, 1) := by decide +kernel
theorem dX12_shelves_77 : decode cX12_shelves 77 = .ok (.sipush 280, 3) := by decide +kernel
theorem dX12_shelves_80 : decode cX12_shelves 80 = .ok (.iadd, 1) := by decide +kernel
theorem dX12_shelves_81 : decode cX12_shelves 81 = .ok (.iload 4, 2) := by decide +kernel
theorem dX12_shelves_83 : decode cX12_shelves 83 = .ok (.iadd, 1) := by decide +kernel
theorem dX12_shelves_84 : decode cX12_shelves 84 = .ok (.iload 5, 2) := by decide +kernel
theorem dX12_shelves_86 : decode cX12_shelves 86 = .ok (.iastore, 1) := by decide +kernel
theorem dX12_shelves_87 : decode cX12_shelves 87 = .ok (.iconst 1, 1) := by decide +kernel
theorem dX12_shelves_88 : decode cX12_shelves 88 = .ok (.ireturn, 1) := by decide +kernel
theorem dX12_isIn_0 : decode cX12_isIn 0 = .ok (.aload_n 0, 1) := by decide +kernel
theorem dX12_isIn_1 : decode cX12_isIn 1 = .ok (.getfield 97, 3) := by decide +kernel
theorem dX12_isIn_4 : decode cX12_isIn 4 = .ok (.sipush 240, 3) := by decide +kernel
theorem dX12_isIn_7 : decode cX12_isIn 7 = .ok (.iload_n 1, 1) := by decide +kernel
theorem dX12_isIn_8 : decode cX12_isIn 8 = .ok (.iadd, 1) := by decide +kernel
theorem dX12_isIn_9 : decode cX12_isIn 9 = .ok (.iaload, 1) := by decide +kernel
theorem dX12_isIn_10 : decode cX12_isIn 10 = .ok (.ifCond .lt 7, 3) := by decide +kernel
theorem dX12_isIn_13 : decode cX12_isIn 13 = .ok (.iconst 1, 1) := by decide +kernel
theorem dX12_isIn_14 : decode cX12_isIn 14 = .ok (.goto 4, 3) := by decide +kernel
theorem dX12_isIn_17 : decode cX12_isIn 17 = .ok (.iconst 0, 1) := by decide +kernel
theorem dX12_isIn_18 : decode cX12_isIn 18 = .ok (.ireturn, 1) := by decide +kernel
theorem dX12_put_0 : decode cX12_put 0 = .ok (.aload_n 0, 1) := by decide +kernel
theorem dX12_put_1 : decode cX12_put 1 = .ok (.iconst 0, 1) := by decide +kernel
theorem dX12_put_2 : decode cX12_put 2 = .ok (.putfield 1, 3) := by decide +kernel
theorem dX12_put_5 : decode cX12_put 5 = .ok (.aload_n 0, 1) := by decide +kernel
theorem dX12_put_6 : decode cX12_put 6 = .ok (.iload_n 1, 1) := by decide +kernel
theorem dX12_put_7 : decode cX12_put 7 = .ok (.invokevirtual 361, 3) := by decide +kernel
theorem dX12_put_10 : decode cX12_put 10 = .ok (.ifCond .eq 19, 3) := by decide +kernel
theorem dX12_put_13 : decode cX12_put 13 = .ok (.aload_n 0, 1) := by decide +kernel
theorem dX12_put_14 : decode cX12_put 14 = .ok (.iload_n 2, 1) := by decide +kernel
theorem dX12_put_15 : decode cX12_put 15 = .ok (.invokevirtual 364, 3) := by decide +kernel
theorem dX12_put_18 : decode cX12_put 18 = .ok (.ifCond .eq 11, 3) := by decide +kernel
theorem dX12_put_21 : decode cX12_put 21 = .ok (.aload_n 0, 1) := by decide +kernel
theorem dX12_put_22 : decode cX12_put 22 = .ok (.iload_n 1, 1) := by decide +kernel
theorem dX12_put_23 : decode cX12_put 23 = .ok (.invokevirtual 367, 3) := by decide +kernel
theorem dX12_put_26 : decode cX12_put 26 = .ok (.ifCond .eq 5, 3) := by decide +kernel
theorem dX12_put_29 : decode cX12_put 29 = .ok (.iconst 0, 1) := by decide +kernel
theorem dX12_put_30 : decode cX12_put 30 = .ok (.ireturn, 1) := by decide +kernel
theorem dX12_put_31 : decode cX12_put 31 = .ok (.aload_n 0, 1) := by decide +kernel
theorem dX12_put_32 : decode cX12_put 32 = .ok (.invokevirtual 370, 3) := by decide +kernel
theorem dX12_put_35 : decode cX12_put 35 = .ok (.aload_n 0, 1) := by decide +kernel
theorem dX12_put_36 : decode cX12_put 36 = .ok (.iconst 0, 1) := by decide +kernel
theorem dX12_put_37 : decode cX12_put 37 = .ok (.iload_n 1, 1) := by decide +kernel
theorem dX12_put_38 : decode cX12_put 38 = .ok (.iload_n 2, 1) := by decide +kernel
theorem dX12_put_39 : decode cX12_put 39 = .ok (.invokevirtual 280, 3) := by decide +kernel
theorem dX12_put_42 : decode cX12_put 42 = .ok (.iconst 1, 1) := by decide +kernel
theorem dX12_put_43 : decode cX12_put 43 = .ok (.ireturn, 1) := by decide +kernel
theorem dX12_take_0 : decode cX12_take 0 = .ok (.aload_n 0, 1) := by decide +kernel
theorem dX12_take_1 : decode cX12_take 1 = .ok (.iconst 0, 1) := by decide +kernel
theorem dX12_take_2 : decode cX12_take 2 = .ok (.putfield 1, 3) := by decide +kernel
theorem dX12_take_5 : decode cX12_take 5 = .ok (.aload_n 0, 1) := by decide +kernel
theorem dX12_take_6 : decode cX12_take 6 = .ok (.iload_n 1, 1) := by decide +kernel
theorem dX12_take_7 : decode cX12_take 7 = .ok (.invokevirtual 364, 3) := by decide +kernel
theorem dX12_take_10 : decode cX12_take 10 = .ok (.ifCond .eq 12, 3) := by decide +kernel
theorem dX12_take_13 : decode cX12_take 13 = .ok (.aload_n 0, 1) := by decide +kernel
theorem dX12_take_14 : decode cX12_take 14 = .ok (.iconst 0, 1) := by decide +kernel
theorem dX12_take_15 : decode cX12_take 15 = .ok (.iload_n 1, 1) := by decide +kernel
theorem dX12_take_16 : decode cX12_take 16 = .ok (.invokevirtual 348, 3) := by decide +kernel
theorem dX12_take_19 : decode cX12_take 19 = .ok (.ifCond .ge 5, 3) := by decide +kernel
theorem dX12_take_22 : decode cX12_take 22 = .ok (.iconst (-1), 1) := by decide +kernel
theorem dX12_take_23 : decode cX12_take 23 = .ok (.ireturn, 1) := by decide +kernel
theorem dX12_take_24 : decode cX12_take 24 = .ok (.aload_n 0, 1) := by decide +kernel
theorem dX12_take_25 : decode cX12_take 25 = .ok (.invokevirtual 370, 3) := by decide +kernel
theorem dX12_take_28 : decode cX12_take 28 = .ok (.aload_n 0, 1) := by decide +kernel
theorem dX12_take_29 : decode cX12_take 29 = .ok (.iconst 0, 1) := by decide +kernel
theorem dX12_take_30 : decode cX12_take 30 = .ok (.iload_n 1, 1) := by decide +kernel
theorem dX12_take_31 : decode cX12_take 31 = .ok (.invokevirtual 351, 3) := by decide +kernel
theorem dX12_take_34 : decode cX12_take 34 = .ok (.ireturn, 1) := by decide +kernel
theorem dX12_meld_0 : decode cX12_meld 0 = .ok (.aload_n 0, 1) := by decide +kernel
theorem dX12_meld_1 : decode cX12_meld 1 = .ok (.iconst 0, 1) := by decide +kernel
theorem dX12_meld_2 : decode cX12_meld 2 = .ok (.putfield 1, 3) := by decide +kernel
theorem dX12_meld_5 : decode cX12_meld 5 = .ok (.aload_n 0, 1) := by decide +kernel
theorem dX12_meld_6 : decode cX12_meld 6 = .ok (.iload_n 1, 1) := by decide +kernel
theorem dX12_meld_7 : decode cX12_meld 7 = .ok (.invokevirtual 364, 3) := by decide +kernel
theorem dX12_meld_10 : decode cX12_meld 10 = .ok (.ifCond .eq 16, 3) := by decide +kernel
theorem dX12_meld_13 : decode cX12_meld 13 = .ok (.aload_n 0, 1) := by decide +kernel
theorem dX12_meld_14 : decode cX12_meld 14 = .ok (.iload_n 2, 1) := by decide +kernel
theorem dX12_meld_15 : decode cX12_meld 15 = .ok (.invokevirtual 364, 3) := by decide +kernel
theorem dX12_meld_18 : decode cX12_meld 18 = .ok (.ifCond .eq 8, 3) := by decide +kernel
theorem dX12_meld_21 : decode cX12_meld 21 = .ok (.iload_n 1, 1) := by decide +kernel
theorem dX12_meld_22 : decode cX12_meld 22 = .ok (.iload_n 2, 1) := by decide +kernel
theorem dX12_meld_23 : decode cX12_meld 23 = .ok (.if_icmp .ne 5, 3) := by decide +kernel
theorem dX12_meld_26 : decode cX12_meld 26 = .ok (.iconst 0, 1) := by decide +kernel
theorem dX12_meld_27 : decode cX12_meld 27 = .ok (.ireturn, 1) := by decide +kernel
theorem dX12_meld_28 : decode cX12_meld 28 = .ok (.aload_n 0, 1) := by decide +kernel
theorem dX12_meld_29 : decode cX12_meld 29 = .ok (.invokevirtual 370, 3) := by decide +kernel
theorem dX12_meld_32 : decode cX12_meld 32 = .ok (.aload_n 0, 1) := by decide +kernel
theorem dX12_meld_33 : decode cX12_meld 33 = .ok (.iconst 0, 1) := by decide +kernel
theorem dX12_meld_34 : decode cX12_meld 34 = .ok (.iload_n 1, 1) := by decide +kernel
theorem dX12_meld_35 : decode cX12_meld 35 = .ok (.iload_n 2, 1) := by decide +kernel
theorem dX12_meld_36 : decode cX12_meld 36 = .ok (.invokevirtual 373, 3) := by decide +kernel
theorem dX12_meld_39 : decode cX12_meld 39 = .ok (.iconst 1, 1) := by decide +kernel
theorem dX12_meld_40 : decode cX12_meld 40 = .ok (.ireturn, 1) := by decide +kernel
theorem dX12_shelve_0 : decode cX12_shelve 0 = .ok (.aload_n 0, 1) := by decide +kernel
theorem dX12_shelve_1 : decode cX12_shelve 1 = .ok (.iconst 0, 1) := by decide +kernel
theorem dX12_shelve_2 : decode cX12_shelve 2 = .ok (.putfield 1, 3) := by decide +kernel
theorem dX12_shelve_5 : decode cX12_shelve 5 = .ok (.aload_n 0, 1) := by decide +kernel
theorem dX12_shelve_6 : decode cX12_shelve 6 = .ok (.iload_n 1, 1) := by decide +kernel
theorem dX12_shelve_7 : decode cX12_shelve 7 = .ok (.invokevirtual 364, 3) := by decide +kernel
theorem dX12_shelve_10 : decode cX12_shelve 10 = .ok (.ifCond .eq 28, 3) := by decide +kernel
theorem dX12_shelve_13 : decode cX12_shelve 13 = .ok (.iload_n 2, 1) := by decide +kernel
theorem dX12_shelve_14 : decode cX12_shelve 14 = .ok (.iconst 0, 1) := by decide +kernel
theorem dX12_shelve_15 : decode cX12_shelve 15 = .ok (.aload_n 0, 1) := by decide +kernel
theorem dX12_shelve_16 : decode cX12_shelve 16 = .ok (.getfield 79, 3) := by decide +kernel
theorem dX12_shelve_19 : decode cX12_shelve 19 = .ok (.iconst 1, 1) := by decide +kernel
theorem dX12_shelve_20 : decode cX12_shelve 20 = .ok (.iaload, 1) := by decide +kernel
theorem dX12_shelve_21 : decode cX12_shelve 21 = .ok (.iconst 1, 1) := by decide +kernel
theorem dX12_shelve_22 : decode cX12_shelve 22 = .ok (.isub, 1) := by decide +kernel
theorem dX12_shelve_23 : decode cX12_shelve 23 = .ok (.invokestatic 376, 3) := by decide +kernel
theorem dX12_shelve_26 : decode cX12_shelve 26 = .ok (.ifCond .eq 12, 3) := by decide +kernel
theorem dX12_shelve_29 : decode cX12_shelve 29 = .ok (.aload_n 0, 1) := by decide +kernel
theorem dX12_shelve_30 : decode cX12_shelve 30 = .ok (.iconst 0, 1) := by decide +kernel
theorem dX12_shelve_31 : decode cX12_shelve 31 = .ok (.iload_n 1, 1) := by decide +kernel
theorem dX12_shelve_32 : decode cX12_shelve 32 = .ok (.invokevirtual 348, 3) := by decide +kernel
theorem dX12_shelve_35 : decode cX12_shelve 35 = .ok (.ifCond .ge 5, 3) := by decide +kernel
theorem dX12_shelve_38 : decode cX12_shelve 38 = .ok (.iconst (-1), 1) := by decide +kernel
theorem dX12_shelve_39 : decode cX12_shelve 39 = .ok (.ireturn, 1) := by decide +kernel
theorem dX12_shelve_40 : decode cX12_shelve 40 = .ok (.aload_n 0, 1) := by decide +kernel
theorem dX12_shelve_41 : decode cX12_shelve 41 = .ok (.invokevirtual 370, 3) := by decide +kernel
theorem dX12_shelve_44 : decode cX12_shelve 44 = .ok (.aload_n 0, 1) := by decide +kernel
theorem dX12_shelve_45 : decode cX12_shelve 45 = .ok (.iconst 0, 1) := by decide +kernel
theorem dX12_shelve_46 : decode cX12_shelve 46 = .ok (.iload_n 1, 1) := by decide +kernel
theorem dX12_shelve_47 : decode cX12_shelve 47 = .ok (.iload_n 2, 1) := by decide +kernel
theorem dX12_shelve_48 : decode cX12_shelve 48 = .ok (.invokevirtual 379, 3) := by decide +kernel
theorem dX12_shelve_51 : decode cX12_shelve 51 = .ok (.ifCond .eq 7, 3) := by decide +kernel
theorem dX12_shelve_54 : decode cX12_shelve 54 = .ok (.iconst 1, 1) := by decide +kernel
theorem dX12_shelve_55 : decode cX12_shelve 55 = .ok (.goto 4, 3) := by decide +kernel
theorem dX12_shelve_58 : decode cX12_shelve 58 = .ok (.iconst 0, 1) := by decide +kernel
theorem dX12_shelve_59 : decode cX12_shelve 59 = .ok (.ireturn, 1) := by decide +kernel
theorem dX12_undo_0 : decode cX12_undo 0 = .ok (.aload_n 0, 1) := by decide +kernel
theorem dX12_undo_1 : decode cX12_undo 1 = .ok (.iconst 0, 1) := by decide +kernel
theorem dX12_undo_2 : decode cX12_undo 2 = .ok (.putfield 1, 3) := by decide +kernel
theorem dX12_undo_5 : decode cX12_undo 5 = .ok (.aload_n 0, 1) := by decide +kernel
theorem dX12_undo_6 : decode cX12_undo 6 = .ok (.getfield 289, 3) := by decide +kernel
theorem dX12_undo_9 : decode cX12_undo 9 = .ok (.ifCond .ne 5, 3) := by decide +kernel
theorem dX12_undo_12 : decode cX12_undo 12 = .ok (.iconst 0, 1) := by decide +kernel
theorem dX12_undo_13 : decode cX12_undo 13 = .ok (.ireturn, 1) := by decide +kernel
theorem dX12_undo_14 : decode cX12_undo 14 = .ok (.aload_n 0, 1) := by decide +kernel
theorem dX12_undo_15 : decode cX12_undo 15 = .ok (.dup, 1) := by decide +kernel
theorem dX12_undo_16 : decode cX12_undo 16 = .ok (.getfield 289, 3) := by decide +kernel
theorem dX12_undo_19 : decode cX12_undo 19 = .ok (.iconst 1, 1) := by decide +kernel
theorem dX12_undo_20 : decode cX12_undo 20 = .ok (.isub, 1) := by decide +kernel
theorem dX12_undo_21 : decode cX12_undo 21 = .ok (.putfield 289, 3) := by decide +kernel
theorem dX12_undo_24 : decode cX12_undo 24 = .ok (.aload_n 0, 1) := by decide +kernel
theorem dX12_undo_25 : decode cX12_undo 25 = .ok (.sipush 345, 3) := by decide +kernel
theorem dX12_undo_28 : decode cX12_undo 28 = .ok (.iconst 3, 1) := by decide +kernel
theorem dX12_undo_29 : decode cX12_undo 29 = .ok (.aload_n 0, 1) := by decide +kernel
theorem dX12_undo_30 : decode cX12_undo 30 = .ok (.getfield 289, 3) := by decide +kernel
theorem dX12_undo_33 : decode cX12_undo 33 = .ok (.iadd, 1) := by decide +kernel
theorem dX12_undo_34 : decode cX12_undo 34 = .ok (.imul, 1) := by decide +kernel
theorem dX12_undo_35 : decode cX12_undo 35 = .ok (.iconst 0, 1) := by decide +kernel
theorem dX12_undo_36 : decode cX12_undo 36 = .ok (.sipush 320, 3) := by decide +kernel
theorem dX12_undo_39 : decode cX12_undo 39 = .ok (.invokevirtual 295, 3) := by decide +kernel
theorem dX12_undo_42 : decode cX12_undo 42 = .ok (.iconst 1, 1) := by decide +kernel
theorem dX12_undo_43 : decode cX12_undo 43 = .ok (.ireturn, 1) := by decide +kernel
theorem dX12_isListed_0 : decode cX12_isListed 0 = .ok (.aload_n 0, 1) := by decide +kernel
theorem dX12_isListed_1 : decode cX12_isListed 1 = .ok (.iload_n 1, 1) := by decide +kernel
theorem dX12_isListed_2 : decode cX12_isListed 2 = .ok (.iload_n 2, 1) := by decide +kernel
theorem dX12_isListed_3 : decode cX12_isListed 3 = .ok (.iconst 4, 1) := by decide +kernel
theorem dX12_isListed_4 : decode cX12_isListed 4 = .ok (.invokevirtual 298, 3) := by decide +kernel
theorem dX12_isListed_7 : decode cX12_isListed 7 = .ok (.istore 4, 2) := by decide +kernel
theorem dX12_isListed_9 : decode cX12_isListed 9 = .ok (.iload 4, 2) := by decide +kernel
theorem dX12_isListed_11 : decode cX12_isListed 11 = .ok (.ifCond .lt 29, 3) := by decide +kernel
theorem dX12_isListed_14 : decode cX12_isListed 14 = .ok (.iload 4, 2) := by decide +kernel
theorem dX12_isListed_16 : decode cX12_isListed 16 = .ok (.iload_n 3, 1) := by decide +kernel
theorem dX12_isListed_17 : decode cX12_isListed 17 = .ok (.if_icmp .ne 5, 3) := by decide +kernel
theorem dX12_isListed_20 : decode cX12_isListed 20 = .ok (.iconst 1, 1) := by decide +kernel
theorem dX12_isListed_21 : decode cX12_isListed 21 = .ok (.ireturn, 1) := by decide +kernel
theorem dX12_isListed_22 : decode cX12_isListed 22 = .ok (.aload_n 0, 1) := by decide +kernel
theorem dX12_isListed_23 : decode cX12_isListed 23 = .ok (.getfield 97, 3) := by decide +kernel
theorem dX12_isListed_26 : decode cX12_isListed 26 = .ok (.iload_n 1, 1) := by decide +kernel
theorem dX12_isListed_27 : decode cX12_isListed 27 = .ok (.sipush 300, 3) := by decide +kernel
theorem dX12_isListed_30 : decode cX12_isListed 30 = .ok (.iadd, 1) := by decide +kernel
theorem dX12_isListed_31 : decode cX12_isListed 31 = .ok (.iload 4, 2) := by decide +kernel
theorem dX12_isListed_33 : decode cX12_isListed 33 = .ok (.iadd, 1) := by decide +kernel
theorem dX12_isListed_34 : decode cX12_isListed 34 = .ok (.iaload, 1) := by decide +kernel
theorem dX12_isListed_35 : decode cX12_isListed 35 = .ok (.istore 4, 2) := by decide +kernel
theorem dX12_isListed_37 : decode cX12_isListed 37 = .ok (.goto (-28), 3) := by decide +kernel
theorem dX12_isListed_40 : decode cX12_isListed 40 = .ok (.iconst 0, 1) := by decide +kernel
theorem dX12_isListed_41 : decode cX12_isListed 41 = .ok (.ireturn, 1) := by decide +kernel
theorem dX12_nodeWith_0 : decode cX12_nodeWith 0 = .ok (.iconst (-1), 1) := by decide +kernel
theorem dX12_nodeWith_1 : decode cX12_nodeWith 1 = .ok (.istore_n 3, 1) := by decide +kernel
theorem dX12_nodeWith_2 : decode cX12_nodeWith 2 = .ok (.iconst 0, 1) := by decide +kernel
theorem dX12_nodeWith_3 : decode cX12_nodeWith 3 = .ok (.istore 4, 2) := by decide +kernel
theorem dX12_nodeWith_5 : decode cX12_nodeWith 5 = .ok (.iload 4, 2) := by decide +kernel
theorem dX12_nodeWith_7 : decode cX12_nodeWith 7 = .ok (.bipush 24, 2) := by decide +kernel
theorem dX12_nodeWith_9 : decode cX12_nodeWith 9 = .ok (.if_icmp .ge 38, 3) := by decide +kernel
theorem dX12_nodeWith_12 : decode cX12_nodeWith 12 = .ok (.aload_n 0, 1) := by decide +kernel
theorem dX12_nodeWith_13 : decode cX12_nodeWith 13 = .ok (.iload_n 1, 1) := by decide +kernel
theorem dX12_nodeWith_14 : decode cX12_nodeWith 14 = .ok (.iload 4, 2) := by decide +kernel
theorem dX12_nodeWith_16 : decode cX12_nodeWith 16 = .ok (.iconst 0, 1) := by decide +kernel
theorem dX12_nodeWith_17 : decode cX12_nodeWith 17 = .ok (.invokevirtual 298, 3) := by decide +kernel
theorem dX12_nodeWith_20 : decode cX12_nodeWith 20 = .ok (.ifCond .lt 19, 3) := by decide +kernel
theorem dX12_nodeWith_23 : decode cX12_nodeWith 23 = .ok (.aload_n 0, 1) := by decide +kernel
theorem dX12_nodeWith_24 : decode cX12_nodeWith 24 = .ok (.iload_n 1, 1) := by decide +kernel
theorem dX12_nodeWith_25 : decode cX12_nodeWith 25 = .ok (.iload 4, 2) := by decide +kernel
theorem dX12_nodeWith_27 : decode cX12_nodeWith 27 = .ok (.iload_n 2, 1) := by decide +kernel
theorem dX12_nodeWith_28 : decode cX12_nodeWith 28 = .ok (.invokevirtual 382, 3) := by decide +kernel
theorem dX12_nodeWith_31 : decode cX12_nodeWith 31 = .ok (.ifCond .eq 8, 3) := by decide +kernel
theorem dX12_nodeWith_34 : decode cX12_nodeWith 34 = .ok (.iload 4, 2) := by decide +kernel
theorem dX12_nodeWith_36 : decode cX12_nodeWith 36 = .ok (.goto 4, 3) := by decide +kernel
theorem dX12_nodeWith_39 : decode cX12_nodeWith 39 = .ok (.iload_n 3, 1) := by decide +kernel
theorem dX12_nodeWith_40 : decode cX12_nodeWith 40 = .ok (.istore_n 3, 1) := by decide +kernel
theorem dX12_nodeWith_41 : decode cX12_nodeWith 41 = .ok (.iinc 4 1, 3) := by decide +kernel
theorem dX12_nodeWith_44 : decode cX12_nodeWith 44 = .ok (.goto (-39), 3) := by decide +kernel
theorem dX12_nodeWith_47 : decode cX12_nodeWith 47 = .ok (.iload_n 3, 1) := by decide +kernel
theorem dX12_nodeWith_48 : decode cX12_nodeWith 48 = .ok (.ireturn, 1) := by decide +kernel
theorem dX12_isRaised_0 : decode cX12_isRaised 0 = .ok (.aload_n 0, 1) := by decide +kernel
theorem dX12_isRaised_1 : decode cX12_isRaised 1 = .ok (.iload_n 1, 1) := by decide +kernel
theorem dX12_isRaised_2 : decode cX12_isRaised 2 = .ok (.iload_n 2, 1) := by decide +kernel
theorem dX12_isRaised_3 : decode cX12_isRaised 3 = .ok (.invokevirtual 385, 3) := by decide +kernel
theorem dX12_isRaised_6 : decode cX12_isRaised 6 = .ok (.istore_n 3, 1) := by decide +kernel
theorem dX12_isRaised_7 : decode cX12_isRaised 7 = .ok (.iload_n 3, 1) := by decide +kernel
theorem dX12_isRaised_8 : decode cX12_isRaised 8 = .ok (.ifCond .lt 23, 3) := by decide +kernel
theorem dX12_isRaised_11 : decode cX12_isRaised 11 = .ok (.aload_n 0, 1) := by decide +kernel
theorem dX12_isRaised_12 : decode cX12_isRaised 12 = .ok (.getfield 104, 3) := by decide +kernel
theorem dX12_isRaised_15 : decode cX12_isRaised 15 = .ok (.iload_n 2, 1) := by decide +kernel
theorem dX12_isRaised_16 : decode cX12_isRaised 16 = .ok (.iaload, 1) := by decide +kernel
theorem dX12_isRaised_17 : decode cX12_isRaised 17 = .ok (.aload_n 0, 1) := by decide +kernel
theorem dX12_isRaised_18 : decode cX12_isRaised 18 = .ok (.iload_n 1, 1) := by decide +kernel
theorem dX12_isRaised_19 : decode cX12_isRaised 19 = .ok (.iload_n 3, 1) := by decide +kernel
theorem dX12_isRaised_20 : decode cX12_isRaised 20 = .ok (.iconst 2, 1) := by decide +kernel
theorem dX12_isRaised_21 : decode cX12_isRaised 21 = .ok (.invokevirtual 298, 3) := by decide +kernel
theorem dX12_isRaised_24 : decode cX12_isRaised 24 = .ok (.if_icmp .ge 7, 3) := by decide +kernel
theorem dX12_isRaised_27 : decode cX12_isRaised 27 = .ok (.iconst 1, 1) := by decide +kernel
theorem dX12_isRaised_28 : decode cX12_isRaised 28 = .ok (.goto 4, 3) := by decide +kernel
theorem dX12_isRaised_31 : decode cX12_isRaised 31 = .ok (.iconst 0, 1) := by decide +kernel
theorem dX12_isRaised_32 : decode cX12_isRaised 32 = .ok (.ireturn, 1) := by decide +kernel
theorem dX12_raisedIn_0 : decode cX12_raisedIn 0 = .ok (.iconst 0, 1) := by decide +kernel
theorem dX12_raisedIn_1 : decode cX12_raisedIn 1 = .ok (.istore_n 3, 1) := by decide +kernel
