theorem dX7_addBytes_17 : decode cX7_addBytes 17 = .ok (.iload 4, 2) := by decide +kernel
theorem dX7_addBytes_19 : decode cX7_addBytes 19 = .ok (.bipush 10, 2) := by decide +kernel
theorem dX7_addBytes_21 : decode cX7_addBytes 21 = .ok (.if_icmp .eq 17, 3) := by decide +kernel
theorem dX7_addBytes_24 : decode cX7_addBytes 24 = .ok (.iload 4, 2) := by decide +kernel
theorem dX7_addBytes_26 : decode cX7_addBytes 26 = .ok (.bipush 32, 2) := by decide +kernel
theorem dX7_addBytes_28 : decode cX7_addBytes 28 = .ok (.if_icmp .lt 14, 3) := by decide +kernel
theorem dX7_addBytes_31 : decode cX7_addBytes 31 = .ok (.iload 4, 2) := by decide +kernel
theorem dX7_addBytes_33 : decode cX7_addBytes 33 = .ok (.bipush 126, 2) := by decide +kernel
theorem dX7_addBytes_35 : decode cX7_addBytes 35 = .ok (.if_icmp .gt 7, 3) := by decide +kernel
theorem dX7_addBytes_38 : decode cX7_addBytes 38 = .ok (.iconst 1, 1) := by decide +kernel
theorem dX7_addBytes_39 : decode cX7_addBytes 39 = .ok (.goto 4, 3) := by decide +kernel
theorem dX7_addBytes_42 : decode cX7_addBytes 42 = .ok (.iconst 0, 1) := by decide +kernel
theorem dX7_addBytes_43 : decode cX7_addBytes 43 = .ok (.istore 5, 2) := by decide +kernel
theorem dX7_addBytes_45 : decode cX7_addBytes 45 = .ok (.iload 5, 2) := by decide +kernel
theorem dX7_addBytes_47 : decode cX7_addBytes 47 = .ok (.ifCond .eq 44, 3) := by decide +kernel
theorem dX7_addBytes_50 : decode cX7_addBytes 50 = .ok (.aload_n 0, 1) := by decide +kernel
theorem dX7_addBytes_51 : decode cX7_addBytes 51 = .ok (.getfield 15, 3) := by decide +kernel
theorem dX7_addBytes_54 : decode cX7_addBytes 54 = .ok (.ifCond .lt 37, 3) := by decide +kernel
theorem dX7_addBytes_57 : decode cX7_addBytes 57 = .ok (.aload_n 0, 1) := by decide +kernel
theorem dX7_addBytes_58 : decode cX7_addBytes 58 = .ok (.getfield 15, 3) := by decide +kernel
theorem dX7_addBytes_61 : decode cX7_addBytes 61 = .ok (.aload_n 0, 1) := by decide +kernel
theorem dX7_addBytes_62 : decode cX7_addBytes 62 = .ok (.getfield 11, 3) := by decide +kernel
theorem dX7_addBytes_65 : decode cX7_addBytes 65 = .ok (.arraylength, 1) := by decide +kernel
theorem dX7_addBytes_66 : decode cX7_addBytes 66 = .ok (.if_icmp .ge 25, 3) := by decide +kernel
theorem dX7_addBytes_69 : decode cX7_addBytes 69 = .ok (.aload_n 0, 1) := by decide +kernel
theorem dX7_addBytes_70 : decode cX7_addBytes 70 = .ok (.getfield 11, 3) := by decide +kernel
theorem dX7_addBytes_73 : decode cX7_addBytes 73 = .ok (.aload_n 0, 1) := by decide +kernel
theorem dX7_addBytes_74 : decode cX7_addBytes 74 = .ok (.getfield 15, 3) := by decide +kernel
theorem dX7_addBytes_77 : decode cX7_addBytes 77 = .ok (.iload 4, 2) := by decide +kernel
theorem dX7_addBytes_79 : decode cX7_addBytes 79 = .ok (.i2b, 1) := by decide +kernel
theorem dX7_addBytes_80 : decode cX7_addBytes 80 = .ok (.bastore, 1) := by decide +kernel
theorem dX7_addBytes_81 : decode cX7_addBytes 81 = .ok (.aload_n 0, 1) := by decide +kernel
theorem dX7_addBytes_82 : decode cX7_addBytes 82 = .ok (.dup, 1) := by decide +kernel
theorem dX7_addBytes_83 : decode cX7_addBytes 83 = .ok (.getfield 15, 3) := by decide +kernel
theorem dX7_addBytes_86 : decode cX7_addBytes 86 = .ok (.iconst 1, 1) := by decide +kernel
theorem dX7_addBytes_87 : decode cX7_addBytes 87 = .ok (.iadd, 1) := by decide +kernel
theorem dX7_addBytes_88 : decode cX7_addBytes 88 = .ok (.putfield 15, 3) := by decide +kernel
theorem dX7_addBytes_91 : decode cX7_addBytes 91 = .ok (.iinc 3 (-8), 3) := by decide +kernel
theorem dX7_addBytes_94 : decode cX7_addBytes 94 = .ok (.goto (-91), 3) := by decide +kernel
theorem dX7_addBytes_97 : decode cX7_addBytes 97 = .ok (.return_, 1) := by decide +kernel
theorem dX7_begin_0 : decode cX7_begin 0 = .ok (.aload_n 0, 1) := by decide +kernel
theorem dX7_begin_1 : decode cX7_begin 1 = .ok (.iconst 0, 1) := by decide +kernel
theorem dX7_begin_2 : decode cX7_begin 2 = .ok (.putfield 19, 3) := by decide +kernel
theorem dX7_begin_5 : decode cX7_begin 5 = .ok (.aload_n 0, 1) := by decide +kernel
theorem dX7_begin_6 : decode cX7_begin 6 = .ok (.invokevirtual 49, 3) := by decide +kernel
theorem dX7_begin_9 : decode cX7_begin 9 = .ok (.return_, 1) := by decide +kernel
theorem dX7_next_0 : decode cX7_next 0 = .ok (.aload_n 0, 1) := by decide +kernel
theorem dX7_next_1 : decode cX7_next 1 = .ok (.getfield 19, 3) := by decide +kernel
theorem dX7_next_4 : decode cX7_next 4 = .ok (.aload_n 0, 1) := by decide +kernel
theorem dX7_next_5 : decode cX7_next 5 = .ok (.getfield 15, 3) := by decide +kernel
theorem dX7_next_8 : decode cX7_next 8 = .ok (.if_icmp .ge 42, 3) := by decide +kernel
theorem dX7_next_11 : decode cX7_next 11 = .ok (.aload_n 0, 1) := by decide +kernel
theorem dX7_next_12 : decode cX7_next 12 = .ok (.aload_n 0, 1) := by decide +kernel
theorem dX7_next_13 : decode cX7_next 13 = .ok (.getfield 19, 3) := by decide +kernel
theorem dX7_next_16 : decode cX7_next 16 = .ok (.invokevirtual 52, 3) := by decide +kernel
theorem dX7_next_19 : decode cX7_next 19 = .ok (.bipush 32, 2) := by decide +kernel
theorem dX7_next_21 : decode cX7_next 21 = .ok (.if_icmp .eq 16, 3) := by decide +kernel
theorem dX7_next_24 : decode cX7_next 24 = .ok (.aload_n 0, 1) := by decide +kernel
theorem dX7_next_25 : decode cX7_next 25 = .ok (.aload_n 0, 1) := by decide +kernel
theorem dX7_next_26 : decode cX7_next 26 = .ok (.getfield 19, 3) := by decide +kernel
theorem dX7_next_29 : decode cX7_next 29 = .ok (.invokevirtual 52, 3) := by decide +kernel
theorem dX7_next_32 : decode cX7_next 32 = .ok (.bipush 10, 2) := by decide +kernel
theorem dX7_next_34 : decode cX7_next 34 = .ok (.if_icmp .ne 16, 3) := by decide +kernel
theorem dX7_next_37 : decode cX7_next 37 = .ok (.aload_n 0, 1) := by decide +kernel
theorem dX7_next_38 : decode cX7_next 38 = .ok (.dup, 1) := by decide +kernel
theorem dX7_next_39 : decode cX7_next 39 = .ok (.getfield 19, 3) := by decide +kernel
theorem dX7_next_42 : decode cX7_next 42 = .ok (.iconst 1, 1) := by decide +kernel
theorem dX7_next_43 : decode cX7_next 43 = .ok (.iadd, 1) := by decide +kernel
theorem dX7_next_44 : decode cX7_next 44 = .ok (.putfield 19, 3) := by decide +kernel
theorem dX7_next_47 : decode cX7_next 47 = .ok (.goto (-47), 3) := by decide +kernel
theorem dX7_next_50 : decode cX7_next 50 = .ok (.aload_n 0, 1) := by decide +kernel
theorem dX7_next_51 : decode cX7_next 51 = .ok (.aload_n 0, 1) := by decide +kernel
theorem dX7_next_52 : decode cX7_next 52 = .ok (.getfield 19, 3) := by decide +kernel
theorem dX7_next_55 : decode cX7_next 55 = .ok (.putfield 25, 3) := by decide +kernel
theorem dX7_next_58 : decode cX7_next 58 = .ok (.aload_n 0, 1) := by decide +kernel
theorem dX7_next_59 : decode cX7_next 59 = .ok (.getstatic 28, 3) := by decide +kernel
theorem dX7_next_62 : decode cX7_next 62 = .ok (.putfield 34, 3) := by decide +kernel
theorem dX7_next_65 : decode cX7_next 65 = .ok (.aload_n 0, 1) := by decide +kernel
theorem dX7_next_66 : decode cX7_next 66 = .ok (.lconst 0, 1) := by decide +kernel
theorem dX7_next_67 : decode cX7_next 67 = .ok (.putfield 37, 3) := by decide +kernel
theorem dX7_next_70 : decode cX7_next 70 = .ok (.aload_n 0, 1) := by decide +kernel
theorem dX7_next_71 : decode cX7_next 71 = .ok (.iconst (-1), 1) := by decide +kernel
theorem dX7_next_72 : decode cX7_next 72 = .ok (.putfield 41, 3) := by decide +kernel
theorem dX7_next_75 : decode cX7_next 75 = .ok (.aload_n 0, 1) := by decide +kernel
theorem dX7_next_76 : decode cX7_next 76 = .ok (.iconst (-1), 1) := by decide +kernel
theorem dX7_next_77 : decode cX7_next 77 = .ok (.putfield 44, 3) := by decide +kernel
theorem dX7_next_80 : decode cX7_next 80 = .ok (.aload_n 0, 1) := by decide +kernel
theorem dX7_next_81 : decode cX7_next 81 = .ok (.aload_n 0, 1) := by decide +kernel
theorem dX7_next_82 : decode cX7_next 82 = .ok (.getfield 19, 3) := by decide +kernel
theorem dX7_next_85 : decode cX7_next 85 = .ok (.invokevirtual 52, 3) := by decide +kernel
theorem dX7_next_88 : decode cX7_next 88 = .ok (.istore_n 1, 1) := by decide +kernel
theorem dX7_next_89 : decode cX7_next 89 = .ok (.iload_n 1, 1) := by decide +kernel
theorem dX7_next_90 : decode cX7_next 90 = .ok (.iconst (-1), 1) := by decide +kernel
theorem dX7_next_91 : decode cX7_next 91 = .ok (.if_icmp .ne 11, 3) := by decide +kernel
theorem dX7_next_94 : decode cX7_next 94 = .ok (.aload_n 0, 1) := by decide +kernel
theorem dX7_next_95 : decode cX7_next 95 = .ok (.iconst 0, 1) := by decide +kernel
theorem dX7_next_96 : decode cX7_next 96 = .ok (.putfield 22, 3) := by decide +kernel
theorem dX7_next_99 : decode cX7_next 99 = .ok (.goto 36, 3) := by decide +kernel
theorem dX7_next_102 : decode cX7_next 102 = .ok (.iload_n 1, 1) := by decide +kernel
theorem dX7_next_103 : decode cX7_next 103 = .ok (.invokestatic 56, 3) := by decide +kernel
theorem dX7_next_106 : decode cX7_next 106 = .ok (.ifCond .eq 10, 3) := by decide +kernel
theorem dX7_next_109 : decode cX7_next 109 = .ok (.aload_n 0, 1) := by decide +kernel
theorem dX7_next_110 : decode cX7_next 110 = .ok (.invokevirtual 60, 3) := by decide +kernel
theorem dX7_next_113 : decode cX7_next 113 = .ok (.goto 22, 3) := by decide +kernel
theorem dX7_next_116 : decode cX7_next 116 = .ok (.iload_n 1, 1) := by decide +kernel
theorem dX7_next_117 : decode cX7_next 117 = .ok (.invokestatic 63, 3) := by decide +kernel
theorem dX7_next_120 : decode cX7_next 120 = .ok (.ifCond .eq 10, 3) := by decide +kernel
theorem dX7_next_123 : decode cX7_next 123 = .ok (.aload_n 0, 1) := by decide +kernel
theorem dX7_next_124 : decode cX7_next 124 = .ok (.invokevirtual 66, 3) := by decide +kernel
theorem dX7_next_127 : decode cX7_next 127 = .ok (.goto 8, 3) := by decide +kernel
theorem dX7_next_130 : decode cX7_next 130 = .ok (.aload_n 0, 1) := by decide +kernel
theorem dX7_next_131 : decode cX7_next 131 = .ok (.iload_n 1, 1) := by decide +kernel
theorem dX7_next_132 : decode cX7_next 132 = .ok (.invokevirtual 69, 3) := by decide +kernel
theorem dX7_next_135 : decode cX7_next 135 = .ok (.return_, 1) := by decide +kernel
theorem dX7_readWord_0 : decode cX7_readWord 0 = .ok (.aload_n 0, 1) := by decide +kernel
theorem dX7_readWord_1 : decode cX7_readWord 1 = .ok (.getfield 19, 3) := by decide +kernel
theorem dX7_readWord_4 : decode cX7_readWord 4 = .ok (.aload_n 0, 1) := by decide +kernel
theorem dX7_readWord_5 : decode cX7_readWord 5 = .ok (.getfield 15, 3) := by decide +kernel
theorem dX7_readWord_8 : decode cX7_readWord 8 = .ok (.if_icmp .ge 49, 3) := by decide +kernel
theorem dX7_readWord_11 : decode cX7_readWord 11 = .ok (.aload_n 0, 1) := by decide +kernel
theorem dX7_readWord_12 : decode cX7_readWord 12 = .ok (.aload_n 0, 1) := by decide +kernel
theorem dX7_readWord_13 : decode cX7_readWord 13 = .ok (.getfield 19, 3) := by decide +kernel
theorem dX7_readWord_16 : decode cX7_readWord 16 = .ok (.invokevirtual 52, 3) := by decide +kernel
theorem dX7_readWord_19 : decode cX7_readWord 19 = .ok (.invokestatic 56, 3) := by decide +kernel
theorem dX7_readWord_22 : decode cX7_readWord 22 = .ok (.ifCond .eq 35, 3) := by decide +kernel
theorem dX7_readWord_25 : decode cX7_readWord 25 = .ok (.aload_n 0, 1) := by decide +kernel
theorem dX7_readWord_26 : decode cX7_readWord 26 = .ok (.aload_n 0, 1) := by decide +kernel
theorem dX7_readWord_27 : decode cX7_readWord 27 = .ok (.getfield 37, 3) := by decide +kernel
theorem dX7_readWord_30 : decode cX7_readWord 30 = .ok (.aload_n 0, 1) := by decide +kernel
theorem dX7_readWord_31 : decode cX7_readWord 31 = .ok (.aload_n 0, 1) := by decide +kernel
theorem dX7_readWord_32 : decode cX7_readWord 32 = .ok (.getfield 19, 3) := by decide +kernel
theorem dX7_readWord_35 : decode cX7_readWord 35 = .ok (.invokevirtual 52, 3) := by decide +kernel
theorem dX7_readWord_38 : decode cX7_readWord 38 = .ok (.invokestatic 73, 3) := by decide +kernel
theorem dX7_readWord_41 : decode cX7_readWord 41 = .ok (.putfield 37, 3) := by decide +kernel
theorem dX7_readWord_44 : decode cX7_readWord 44 = .ok (.aload_n 0, 1) := by decide +kernel
theorem dX7_readWord_45 : decode cX7_readWord 45 = .ok (.dup, 1) := by decide +kernel
theorem dX7_readWord_46 : decode cX7_readWord 46 = .ok (.getfield 19, 3) := by decide +kernel
theorem dX7_readWord_49 : decode cX7_readWord 49 = .ok (.iconst 1, 1) := by decide +kernel
theorem dX7_readWord_50 : decode cX7_readWord 50 = .ok (.iadd, 1) := by decide +kernel
theorem dX7_readWord_51 : decode cX7_readWord 51 = .ok (.putfield 19, 3) := by decide +kernel
theorem dX7_readWord_54 : decode cX7_readWord 54 = .ok (.goto (-54), 3) := by decide +kernel
theorem dX7_readWord_57 : decode cX7_readWord 57 = .ok (.aload_n 0, 1) := by decide +kernel
theorem dX7_readWord_58 : decode cX7_readWord 58 = .ok (.aload_n 0, 1) := by decide +kernel
theorem dX7_readWord_59 : decode cX7_readWord 59 = .ok (.getfield 19, 3) := by decide +kernel
theorem dX7_readWord_62 : decode cX7_readWord 62 = .ok (.aload_n 0, 1) := by decide +kernel
theorem dX7_readWord_63 : decode cX7_readWord 63 = .ok (.getfield 25, 3) := by decide +kernel
theorem dX7_readWord_66 : decode cX7_readWord 66 = .ok (.isub, 1) := by decide +kernel
theorem dX7_readWord_67 : decode cX7_readWord 67 = .ok (.bipush 8, 2) := by decide +kernel
theorem dX7_readWord_69 : decode cX7_readWord 69 = .ok (.if_icmp .le 7, 3) := by decide +kernel
theorem dX7_readWord_72 : decode cX7_readWord 72 = .ok (.iconst 4, 1) := by decide +kernel
theorem dX7_readWord_73 : decode cX7_readWord 73 = .ok (.goto 4, 3) := by decide +kernel
theorem dX7_readWord_76 : decode cX7_readWord 76 = .ok (.iconst 1, 1) := by decide +kernel
theorem dX7_readWord_77 : decode cX7_readWord 77 = .ok (.putfield 22, 3) := by decide +kernel
theorem dX7_readWord_80 : decode cX7_readWord 80 = .ok (.aload_n 0, 1) := by decide +kernel
theorem dX7_readWord_81 : decode cX7_readWord 81 = .ok (.aload_n 0, 1) := by decide +kernel
theorem dX7_readWord_82 : decode cX7_readWord 82 = .ok (.getfield 22, 3) := by decide +kernel
theorem dX7_readWord_85 : decode cX7_readWord 85 = .ok (.iconst 1, 1) := by decide +kernel
theorem dX7_readWord_86 : decode cX7_readWord 86 = .ok (.if_icmp .ne 13, 3) := by decide +kernel
theorem dX7_readWord_89 : decode cX7_readWord 89 = .ok (.aload_n 0, 1) := by decide +kernel
theorem dX7_readWord_90 : decode cX7_readWord 90 = .ok (.getfield 37, 3) := by decide +kernel
theorem dX7_readWord_93 : decode cX7_readWord 93 = .ok (.invokestatic 77, 3) := by decide +kernel
theorem dX7_readWord_96 : decode cX7_readWord 96 = .ok (.goto 6, 3) := by decide +kernel
theorem dX7_readWord_99 : decode cX7_readWord 99 = .ok (.getstatic 28, 3) := by decide +kernel
theorem dX7_readWord_102 : decode cX7_readWord 102 = .ok (.putfield 34, 3) := by decide +kernel
theorem dX7_readWord_105 : decode cX7_readWord 105 = .ok (.return_, 1) := by decide +kernel
theorem dX7_readNumber_0 : decode cX7_readNumber 0 = .ok (.iconst 0, 1) := by decide +kernel
theorem dX7_readNumber_1 : decode cX7_readNumber 1 = .ok (.istore_n 1, 1) := by decide +kernel
theorem dX7_readNumber_2 : decode cX7_readNumber 2 = .ok (.aload_n 0, 1) := by decide +kernel
theorem dX7_readNumber_3 : decode cX7_readNumber 3 = .ok (.getfield 19, 3) := by decide +kernel
theorem dX7_readNumber_6 : decode cX7_readNumber 6 = .ok (.aload_n 0, 1) := by decide +kernel
theorem dX7_readNumber_7 : decode cX7_readNumber 7 = .ok (.getfield 15, 3) := by decide +kernel
theorem dX7_readNumber_10 : decode cX7_readNumber 10 = .ok (.if_icmp .ge 47, 3) := by decide +kernel
theorem dX7_readNumber_13 : decode cX7_readNumber 13 = .ok (.aload_n 0, 1) := by decide +kernel
theorem dX7_readNumber_14 : decode cX7_readNumber 14 = .ok (.aload_n 0, 1) := by decide +kernel
theorem dX7_readNumber_15 : decode cX7_readNumber 15 = .ok (.getfield 19, 3) := by decide +kernel
theorem dX7_readNumber_18 : decode cX7_readNumber 18 = .ok (.invokevirtual 52, 3) := by decide +kernel
theorem dX7_readNumber_21 : decode cX7_readNumber 21 = .ok (.invokestatic 63, 3) := by decide +kernel
theorem dX7_readNumber_24 : decode cX7_readNumber 24 = .ok (.ifCond .eq 33, 3) := by decide +kernel
theorem dX7_readNumber_27 : decode cX7_readNumber 27 = .ok (.iload_n 1, 1) := by decide +kernel
theorem dX7_readNumber_28 : decode cX7_readNumber 28 = .ok (.bipush 10, 2) := by decide +kernel
theorem dX7_readNumber_30 : decode cX7_readNumber 30 = .ok (.imul, 1) := by decide +kernel
theorem dX7_readNumber_31 : decode cX7_readNumber 31 = .ok (.aload_n 0, 1) := by decide +kernel
theorem dX7_readNumber_32 : decode cX7_readNumber 32 = .ok (.aload_n 0, 1) := by decide +kernel
theorem dX7_readNumber_33 : decode cX7_readNumber 33 = .ok (.getfield 19, 3) := by decide +kernel
theorem dX7_readNumber_36 : decode cX7_readNumber 36 = .ok (.invokevirtual 52, 3) := by decide +kernel
theorem dX7_readNumber_39 : decode cX7_readNumber 39 = .ok (.iadd, 1) := by decide +kernel
theorem dX7_readNumber_40 : decode cX7_readNumber 40 = .ok (.bipush 48, 2) := by decide +kernel
theorem dX7_readNumber_42 : decode cX7_readNumber 42 = .ok (.isub, 1) := by decide +kernel
theorem dX7_readNumber_43 : decode cX7_readNumber 43 = .ok (.istore_n 1, 1) := by decide +kernel
theorem dX7_readNumber_44 : decode cX7_readNumber 44 = .ok (.aload_n 0, 1) := by decide +kernel
theorem dX7_readNumber_45 : decode cX7_readNumber 45 = .ok (.dup, 1) := by decide +kernel
theorem dX7_readNumber_46 : decode cX7_readNumber 46 = .ok (.getfield 19, 3) := by decide +kernel
theorem dX7_readNumber_49 : decode cX7_readNumber 49 = .ok (.iconst 1, 1) := by decide +kernel
theorem dX7_readNumber_50 : decode cX7_readNumber 50 = .ok (.iadd, 1) := by decide +kernel
theorem dX7_readNumber_51 : decode cX7_readNumber 51 = .ok (.putfield 19, 3) := by decide +kernel
theorem dX7_readNumber_54 : decode cX7_readNumber 54 = .ok (.goto (-52), 3) := by decide +kernel
theorem dX7_readNumber_57 : decode cX7_readNumber 57 = .ok (.aload_n 0, 1) := by decide +kernel
theorem dX7_readNumber_58 : decode cX7_readNumber 58 = .ok (.aload_n 0, 1) := by decide +kernel
theorem dX7_readNumber_59 : decode cX7_readNumber 59 = .ok (.getfield 19, 3) := by decide +kernel
theorem dX7_readNumber_62 : decode cX7_readNumber 62 = .ok (.aload_n 0, 1) := by decide +kernel
theorem dX7_readNumber_63 : decode cX7_readNumber 63 = .ok (.getfield 25, 3) := by decide +kernel
theorem dX7_readNumber_66 : decode cX7_readNumber 66 = .ok (.isub, 1) := by decide +kernel
theorem dX7_readNumber_67 : decode cX7_readNumber 67 = .ok (.iconst 4, 1) := by decide +kernel
theorem dX7_readNumber_68 : decode cX7_readNumber 68 = .ok (.if_icmp .le 7, 3) := by decide +kernel
theorem dX7_readNumber_71 : decode cX7_readNumber 71 = .ok (.iconst 4, 1) := by decide +kernel
theorem dX7_readNumber_72 : decode cX7_readNumber 72 = .ok (.goto 4, 3) := by decide +kernel
theorem dX7_readNumber_75 : decode cX7_readNumber 75 = .ok (.iconst 2, 1) := by decide +kernel
theorem dX7_readNumber_76 : decode cX7_readNumber 76 = .ok (.putfield 22, 3) := by decide +kernel
theorem dX7_readNumber_79 : decode cX7_readNumber 79 = .ok (.aload_n 0, 1) := by decide +kernel
theorem dX7_readNumber_80 : decode cX7_readNumber 80 = .ok (.aload_n 0, 1) := by decide +kernel
theorem dX7_readNumber_81 : decode cX7_readNumber 81 = .ok (.getfield 22, 3) := by decide +kernel
theorem dX7_readNumber_84 : decode cX7_readNumber 84 = .ok (.iconst 2, 1) := by decide +kernel
theorem dX7_readNumber_85 : decode cX7_readNumber 85 = .ok (.if_icmp .ne 7, 3) := by decide +kernel
theorem dX7_readNumber_88 : decode cX7_readNumber 88 = .ok (.iload_n 1, 1) := by decide +kernel
theorem dX7_readNumber_89 : decode cX7_readNumber 89 = .ok (.goto 4, 3) := by decide +kernel
theorem dX7_readNumber_92 : decode cX7_readNumber 92 = .ok (.iconst (-1), 1) := by decide +kernel
theorem dX7_readNumber_93 : decode cX7_readNumber 93 = .ok (.putfield 41, 3) := by decide +kernel
theorem dX7_readNumber_96 : decode cX7_readNumber 96 = .ok (.return_, 1) := by decide +kernel
theorem dX7_readSign_0 : decode cX7_readSign 0 = .ok (.aload_n 0, 1) := by decide +kernel
theorem dX7_readSign_1 : decode cX7_readSign 1 = .ok (.dup, 1) := by decide +kernel
theorem dX7_readSign_2 : decode cX7_readSign 2 = .ok (.getfield 19, 3) := by decide +kernel
theorem dX7_readSign_5 : decode cX7_readSign 5 = .ok (.iconst 1, 1) := by decide +kernel
theorem dX7_readSign_6 : decode cX7_readSign 6 = .ok (.iadd, 1) := by decide +kernel
theorem dX7_readSign_7 : decode cX7_readSign 7 = .ok (.putfield 19, 3) := by decide +kernel
theorem dX7_readSign_10 : decode cX7_readSign 10 = .ok (.iload_n 1, 1) := by decide +kernel
theorem dX7_readSign_11 : decode cX7_readSign 11 = .ok (.bipush 40, 2) := by decide +kernel
theorem dX7_readSign_13 : decode cX7_readSign 13 = .ok (.if_icmp .eq 45, 3) := by decide +kernel
theorem dX7_readSign_16 : decode cX7_readSign 16 = .ok (.iload_n 1, 1) := by decide +kernel
theorem dX7_readSign_17 : decode cX7_readSign 17 = .ok (.bipush 41, 2) := by decide +kernel
theorem dX7_readSign_19 : decode cX7_readSign 19 = .ok (.if_icmp .eq 39, 3) := by decide +kernel
theorem dX7_readSign_22 : decode cX7_readSign 22 = .ok (.iload_n 1, 1) := by decide +kernel
theorem dX7_readSign_23 : decode cX7_readSign 23 = .ok (.bipush 60, 2) := by decide +kernel
theorem dX7_readSign_25 : decode cX7_readSign 25 = .ok (.if_icmp .eq 33, 3) := by decide +kernel
theorem dX7_readSign_28 : decode cX7_readSign 28 = .ok (.iload_n 1, 1) := by decide +kernel
theorem dX7_readSign_29 : decode cX7_readSign 29 = .ok (.bipush 61, 2) := by decide +kernel
theorem dX7_readSign_31 : decode cX7_readSign 31 = .ok (.if_icmp .eq 27, 3) := by decide +kernel
theorem dX7_readSign_34 : decode cX7_readSign 34 = .ok (.iload_n 1, 1) := by decide +kernel
theorem dX7_readSign_35 : decode cX7_readSign 35 = .ok (.bipush 43, 2) := by decide +kernel
theorem dX7_readSign_37 : decode cX7_readSign 37 = .ok (.if_icmp .eq 21, 3) := by decide +kernel
theorem dX7_readSign_40 : decode cX7_readSign 40 = .ok (.iload_n 1, 1) := by decide +kernel
theorem dX7_readSign_41 : decode cX7_readSign 41 = .ok (.bipush 45, 2) := by decide +kernel
theorem dX7_readSign_43 : decode cX7_readSign 43 = .ok (.if_icmp .eq 15, 3) := by decide +kernel
theorem dX7_readSign_46 : decode cX7_readSign 46 = .ok (.iload_n 1, 1) := by decide +kernel
theorem dX7_readSign_47 : decode cX7_readSign 47 = .ok (.bipush 42, 2) := by decide +kernel
theorem dX7_readSign_49 : decode cX7_readSign 49 = .ok (.if_icmp .eq 9, 3) := by decide +kernel
theorem dX7_readSign_52 : decode cX7_readSign 52 = .ok (.iload_n 1, 1) := by decide +kernel
theorem dX7_readSign_53 : decode cX7_readSign 53 = .ok (.bipush 59, 2) := by decide +kernel
theorem dX7_readSign_55 : decode cX7_readSign 55 = .ok (.if_icmp .ne 7, 3) := by decide +kernel
theorem dX7_readSign_58 : decode cX7_readSign 58 = .ok (.iconst 1, 1) := by decide +kernel
theorem dX7_readSign_59 : decode cX7_readSign 59 = .ok (.goto 4, 3) := by decide +kernel
theorem dX7_readSign_62 : decode cX7_readSign 62 = .ok (.iconst 0, 1) := by decide +kernel
theorem dX7_readSign_63 : decode cX7_readSign 63 = .ok (.istore_n 2, 1) := by decide +kernel
theorem dX7_readSign_64 : decode cX7_readSign 64 = .ok (.aload_n 0, 1) := by decide +kernel
theorem dX7_readSign_65 : decode cX7_readSign 65 = .ok (.iload_n 2, 1) := by decide +kernel
theorem dX7_readSign_66 : decode cX7_readSign 66 = .ok (.ifCond .eq 7, 3) := by decide +kernel
theorem dX7_readSign_69 : decode cX7_readSign 69 = .ok (.iconst 3, 1) := by decide +kernel
theorem dX7_readSign_70 : decode cX7_readSign 70 = .ok (.goto 4, 3) := by decide +kernel
theorem dX7_readSign_73 : decode cX7_readSign 73 = .ok (.iconst 4, 1) := by decide +kernel
theorem dX7_readSign_74 : decode cX7_readSign 74 = .ok (.putfield 22, 3) := by decide +kernel
theorem dX7_readSign_77 : decode cX7_readSign 77 = .ok (.aload_n 0, 1) := by decide +kernel
theorem dX7_readSign_78 : decode cX7_readSign 78 = .ok (.iload_n 2, 1) := by decide +kernel
theorem dX7_readSign_79 : decode cX7_readSign 79 = .ok (.ifCond .eq 7, 3) := by decide +kernel
theorem dX7_readSign_82 : decode cX7_readSign 82 = .ok (.iload_n 1, 1) := by decide +kernel
theorem dX7_readSign_83 : decode cX7_readSign 83 = .ok (.goto 4, 3) := by decide +kernel
theorem dX7_readSign_86 : decode cX7_readSign 86 = .ok (.iconst (-1), 1) := by decide +kernel
theorem dX7_readSign_87 : decode cX7_readSign 87 = .ok (.putfield 44, 3) := by decide +kernel
theorem dX7_readSign_90 : decode cX7_readSign 90 = .ok (.return_, 1) := by decide +kernel
theorem dX7_signAt_0 : decode cX7_signAt 0 = .ok (.iload_n 1, 1) := by decide +kernel
theorem dX7_signAt_1 : decode cX7_signAt 1 = .ok (.ifCond .lt 29, 3) := by decide +kernel
theorem dX7_signAt_4 : decode cX7_signAt 4 = .ok (.iload_n 1, 1) := by decide +kernel
theorem dX7_signAt_5 : decode cX7_signAt 5 = .ok (.aload_n 0, 1) := by decide +kernel
theorem dX7_signAt_6 : decode cX7_signAt 6 = .ok (.getfield 15, 3) := by decide +kernel
theorem dX7_signAt_9 : decode cX7_signAt 9 = .ok (.if_icmp .ge 21, 3) := by decide +kernel
theorem dX7_signAt_12 : decode cX7_signAt 12 = .ok (.iload_n 1, 1) := by decide +kernel
theorem dX7_signAt_13 : decode cX7_signAt 13 = .ok (.aload_n 0, 1) := by decide +kernel
theorem dX7_signAt_14 : decode cX7_signAt 14 = .ok (.getfield 11, 3) := by decide +kernel
theorem dX7_signAt_17 : decode cX7_signAt 17 = .ok (.arraylength, 1) := by decide +kernel
theorem dX7_signAt_18 : decode cX7_signAt 18 = .ok (.if_icmp .ge 12, 3) := by decide +kernel
theorem dX7_signAt_21 : decode cX7_signAt 21 = .ok (.aload_n 0, 1) := by decide +kernel
theorem dX7_signAt_22 : decode cX7_signAt 22 = .ok (.getfield 11, 3) := by decide +kernel
theorem dX7_signAt_25 : decode cX7_signAt 25 = .ok (.iload_n 1, 1) := by decide +kernel
theorem dX7_signAt_26 : decode cX7_signAt 26 = .ok (.baload, 1) := by decide +kernel
theorem dX7_signAt_27 : decode cX7_signAt 27 = .ok (.goto 4, 3) := by decide +kernel
theorem dX7_signAt_30 : decode cX7_signAt 30 = .ok (.iconst (-1), 1) := by decide +kernel
theorem dX7_signAt_31 : decode cX7_signAt 31 = .ok (.ireturn, 1) := by decide +kernel
theorem dX7_isLetter_0 : decode cX7_isLetter 0 = .ok (.iload_n 0, 1) := by decide +kernel
theorem dX7_isLetter_1 : decode cX7_isLetter 1 = .ok (.bipush 97, 2) := by decide +kernel
theorem dX7_isLetter_3 : decode cX7_isLetter 3 = .ok (.if_icmp .lt 13, 3) := by decide +kernel
theorem dX7_isLetter_6 : decode cX7_isLetter 6 = .ok (.iload_n 0, 1) := by decide +kernel
theorem dX7_isLetter_7 : decode cX7_isLetter 7 = .ok (.bipush 122, 2) := by decide +kernel
theorem dX7_isLetter_9 : decode cX7_isLetter 9 = .ok (.if_icmp .gt 7, 3) := by decide +kernel
theorem dX7_isLetter_12 : decode cX7_isLetter 12 = .ok (.iconst 1, 1) := by decide +kernel
theorem dX7_isLetter_13 : decode cX7_isLetter 13 = .ok (.goto 4, 3) := by decide +kernel
theorem dX7_isLetter_16 : decode cX7_isLetter 16 = .ok (.iconst 0, 1) := by decide +kernel
theorem dX7_isLetter_17 : decode cX7_isLetter 17 = .ok (.ireturn, 1) := by decide +kernel
theorem dX7_isDigit_0 : decode cX7_isDigit 0 = .ok (.iload_n 0, 1) := by decide +kernel
theorem dX7_isDigit_1 : decode cX7_isDigit 1 = .ok (.bipush 48, 2) := by decide +kernel
theorem dX7_isDigit_3 : decode cX7_isDigit 3 = .ok (.if_icmp .lt 13, 3) := by decide +kernel
theorem dX7_isDigit_6 : decode cX7_isDigit 6 = .ok (.iload_n 0, 1) := by decide +kernel
theorem dX7_isDigit_7 : decode cX7_isDigit 7 = .ok (.bipush 57, 2) := by decide +kernel
theorem dX7_isDigit_9 : decode cX7_isDigit 9 = .ok (.if_icmp .gt 7, 3) := by decide +kernel
theorem dX7_isDigit_12 : decode cX7_isDigit 12 = .ok (.iconst 1, 1) := by decide +kernel
theorem dX7_isDigit_13 : decode cX7_isDigit 13 = .ok (.goto 4, 3) := by decide +kernel
theorem dX7_isDigit_16 : decode cX7_isDigit 16 = .ok (.iconst 0, 1) := by decide +kernel
theorem dX7_isDigit_17 : decode cX7_isDigit 17 = .ok (.ireturn, 1) := by decide +kernel
theorem dX8_init_0 : decode cX8_init 0 = .ok (.aload_n 0, 1) := by decide +kernel
theorem dX8_init_1 : decode cX8_init 1 = .ok (.invokespecial 3, 3) := by decide +kernel
theorem dX8_init_4 : decode cX8_init 4 = .ok (.aload_n 0, 1) := by decide +kernel
theorem dX8_init_5 : decode cX8_init 5 = .ok (.new 9, 3) := by decide +kernel
theorem dX8_init_8 : decode cX8_init 8 = .ok (.dup, 1) := by decide +kernel
theorem dX8_init_9 : decode cX8_init 9 = .ok (.bipush 20, 2) := by decide +kernel
theorem dX8_init_11 : decode cX8_init 11 = .ok (.invokespecial 11, 3) := by decide +kernel
theorem dX8_init_14 : decode cX8_init 14 = .ok (.putfield 14, 3) := by decide +kernel
theorem dX8_init_17 : decode cX8_init 17 = .ok (.aload_n 0, 1) := by decide +kernel
theorem dX8_init_18 : decode cX8_init 18 = .ok (.iconst 0, 1) := by decide +kernel
theorem dX8_init_19 : decode cX8_init 19 = .ok (.putfield 20, 3) := by decide +kernel
theorem dX8_init_22 : decode cX8_init 22 = .ok (.aload_n 0, 1) := by decide +kernel
theorem dX8_init_23 : decode cX8_init 23 = .ok (.new 9, 3) := by decide +kernel
theorem dX8_init_26 : decode cX8_init 26 = .ok (.dup, 1) := by decide +kernel
theorem dX8_init_27 : decode cX8_init 27 = .ok (.bipush 20, 2) := by decide +kernel
theorem dX8_init_29 : decode cX8_init 29 = .ok (.invokespecial 11, 3) := by decide +kernel
theorem dX8_init_32 : decode cX8_init 32 = .ok (.putfield 24, 3) := by decide +kernel
theorem dX8_init_35 : decode cX8_init 35 = .ok (.aload_n 0, 1) := by decide +kernel
theorem dX8_init_36 : decode cX8_init 36 = .ok (.new 9, 3) := by decide +kernel
theorem dX8_init_39 : decode cX8_init 39 = .ok (.dup, 1) := by decide +kernel
theorem dX8_init_40 : decode cX8_init 40 = .ok (.bipush 30, 2) := by decide +kernel
theorem dX8_init_42 : decode cX8_init 42 = .ok (.invokespecial 11, 3) := by decide +kernel
theorem dX8_init_45 : decode cX8_init 45 = .ok (.putfield 27, 3) := by decide +kernel
theorem dX8_init_48 : decode cX8_init 48 = .ok (.aload_n 0, 1) := by decide +kernel
theorem dX8_init_49 : decode cX8_init 49 = .ok (.lconst 0, 1) := by decide +kernel
theorem dX8_init_50 : decode cX8_init 50 = .ok (.putfield 30, 3) := by decide +kernel
theorem dX8_init_53 : decode cX8_init 53 = .ok (.aload_n 0, 1) := by decide +kernel
theorem dX8_init_54 : decode cX8_init 54 = .ok (.aload_n 1, 1) := by decide +kernel
theorem dX8_init_55 : decode cX8_init 55 = .ok (.putfield 34, 3) := by decide +kernel
theorem dX8_init_58 : decode cX8_init 58 = .ok (.aload_n 0, 1) := by decide +kernel
theorem dX8_init_59 : decode cX8_init 59 = .ok (.new 38, 3) := by decide +kernel
theorem dX8_init_62 : decode cX8_init 62 = .ok (.dup, 1) := by decide +kernel
theorem dX8_init_63 : decode cX8_init 63 = .ok (.aload_n 1, 1) := by decide +kernel
theorem dX8_init_64 : decode cX8_init 64 = .ok (.invokespecial 40, 3) := by decide +kernel
theorem dX8_init_67 : decode cX8_init 67 = .ok (.putfield 43, 3) := by decide +kernel
theorem dX8_init_70 : decode cX8_init 70 = .ok (.return_, 1) := by decide +kernel
theorem dX8_takeAll_0 : decode cX8_takeAll 0 = .ok (.aload_n 0, 1) := by decide +kernel
theorem dX8_takeAll_1 : decode cX8_takeAll 1 = .ok (.getfield 43, 3) := by decide +kernel
theorem dX8_takeAll_4 : decode cX8_takeAll 4 = .ok (.aload_n 1, 1) := by decide +kernel
theorem dX8_takeAll_5 : decode cX8_takeAll 5 = .ok (.invokevirtual 47, 3) := by decide +kernel
theorem dX8_takeAll_8 : decode cX8_takeAll 8 = .ok (.aload_n 0, 1) := by decide +kernel
theorem dX8_takeAll_9 : decode cX8_takeAll 9 = .ok (.getfield 14, 3) := by decide +kernel
theorem dX8_takeAll_12 : decode cX8_takeAll 12 = .ok (.iconst (-1), 1) := by decide +kernel
theorem dX8_takeAll_13 : decode cX8_takeAll 13 = .ok (.invokevirtual 51, 3) := by decide +kernel
theorem dX8_takeAll_16 : decode cX8_takeAll 16 = .ok (.aload_n 0, 1) := by decide +kernel
theorem dX8_takeAll_17 : decode cX8_takeAll 17 = .ok (.iconst 0, 1) := by decide +kernel
theorem dX8_takeAll_18 : decode cX8_takeAll 18 = .ok (.putfield 20, 3) := by decide +kernel
theorem dX8_takeAll_21 : decode cX8_takeAll 21 = .ok (.iconst 0, 1) := by decide +kernel
theorem dX8_takeAll_22 : decode cX8_takeAll 22 = .ok (.istore_n 3, 1) := by decide +kernel
theorem dX8_takeAll_23 : decode cX8_takeAll 23 = .ok (.iload_n 3, 1) := by decide +kernel
theorem dX8_takeAll_24 : decode cX8_takeAll 24 = .ok (.bipush 20, 2) := by decide +kernel
theorem dX8_takeAll_26 : decode cX8_takeAll 26 = .ok (.if_icmp .ge 49, 3) := by decide +kernel
theorem dX8_takeAll_29 : decode cX8_takeAll 29 = .ok (.aload_n 0, 1) := by decide +kernel
theorem dX8_takeAll_30 : decode cX8_takeAll 30 = .ok (.getfield 43, 3) := by decide +kernel
theorem dX8_takeAll_33 : decode cX8_takeAll 33 = .ok (.iload_n 2, 1) := by decide +kernel
theorem dX8_takeAll_34 : decode cX8_takeAll 34 = .ok (.invokevirtual 54, 3) := by decide +kernel
theorem dX8_takeAll_37 : decode cX8_takeAll 37 = .ok (.istore 4, 2) := by decide +kernel
theorem dX8_takeAll_39 : decode cX8_takeAll 39 = .ok (.iload 4, 2) := by decide +kernel
theorem dX8_takeAll_41 : decode cX8_takeAll 41 = .ok (.iconst (-1), 1) := by decide +kernel
theorem dX8_takeAll_42 : decode cX8_takeAll 42 = .ok (.if_icmp .ne 4, 3) := by decide +kernel
theorem dX8_takeAll_45 : decode cX8_takeAll 45 = .ok (.return_, 1) := by decide +kernel
theorem dX8_takeAll_46 : decode cX8_takeAll 46 = .ok (.aload_n 0, 1) := by decide +kernel
theorem dX8_takeAll_47 : decode cX8_takeAll 47 = .ok (.getfield 14, 3) := by decide +kernel
theorem dX8_takeAll_50 : decode cX8_takeAll 50 = .ok (.aload_n 0, 1) := by decide +kernel
theorem dX8_takeAll_51 : decode cX8_takeAll 51 = .ok (.getfield 20, 3) := by decide +kernel
theorem dX8_takeAll_54 : decode cX8_takeAll 54 = .ok (.iload 4, 2) := by decide +kernel
theorem dX8_takeAll_56 : decode cX8_takeAll 56 = .ok (.invokevirtual 58, 3) := by decide +kernel
theorem dX8_takeAll_59 : decode cX8_takeAll 59 = .ok (.aload_n 0, 1) := by decide +kernel
theorem dX8_takeAll_60 : decode cX8_takeAll 60 = .ok (.dup, 1) := by decide +kernel
theorem dX8_takeAll_61 : decode cX8_takeAll 61 = .ok (.getfield 20, 3) := by decide +kernel
theorem dX8_takeAll_64 : decode cX8_takeAll 64 = .ok (.iconst 1, 1) := by decide +kernel
theorem dX8_takeAll_65 : decode cX8_takeAll 65 = .ok (.iadd, 1) := by decide +kernel
theorem dX8_takeAll_66 : decode cX8_takeAll 66 = .ok (.putfield 20, 3) := by decide +kernel
theorem dX8_takeAll_69 : decode cX8_takeAll 69 = .ok (.iinc 3 1, 3) := by decide +kernel
theorem dX8_takeAll_72 : decode cX8_takeAll 72 = .ok (.goto (-49), 3) := by decide +kernel
theorem dX8_takeAll_75 : decode cX8_takeAll 75 = .ok (.return_, 1) := by decide +kernel
theorem dX8_awayOf_0 : decode cX8_awayOf 0 = .ok (.iconst 0, 1) := by decide +kernel
theorem dX8_awayOf_1 : decode cX8_awayOf 1 = .ok (.istore_n 2, 1) := by decide +kernel
theorem dX8_awayOf_2 : decode cX8_awayOf 2 = .ok (.iconst 0, 1) := by decide +kernel
theorem dX8_awayOf_3 : decode cX8_awayOf 3 = .ok (.istore_n 3, 1) := by decide +kernel
theorem dX8_awayOf_4 : decode cX8_awayOf 4 = .ok (.iconst 0, 1) := by decide +kernel
theorem dX8_awayOf_5 : decode cX8_awayOf 5 = .ok (.istore 4, 2) := by decide +kernel
theorem dX8_awayOf_7 : decode cX8_awayOf 7 = .ok (.iload 4, 2) := by decide +kernel
theorem dX8_awayOf_9 : decode cX8_awayOf 9 = .ok (.aload_n 0, 1) := by decide +kernel
theorem dX8_awayOf_10 : decode cX8_awayOf 10 = .ok (.getfield 20, 3) := by decide +kernel
theorem dX8_awayOf_13 : decode cX8_awayOf 13 = .ok (.if_icmp .ge 57, 3) := by decide +kernel
theorem dX8_awayOf_16 : decode cX8_awayOf 16 = .ok (.aload_n 0, 1) := by decide +kernel
theorem dX8_awayOf_17 : decode cX8_awayOf 17 = .ok (.getfield 14, 3) := by decide +kernel
theorem dX8_awayOf_20 : decode cX8_awayOf 20 = .ok (.iload 4, 2) := by decide +kernel
theorem dX8_awayOf_22 : decode cX8_awayOf 22 = .ok (.invokevirtual 62, 3) := by decide +kernel
theorem dX8_awayOf_25 : decode cX8_awayOf 25 = .ok (.iload_n 1, 1) := by decide +kernel
theorem dX8_awayOf_26 : decode cX8_awayOf 26 = .ok (.if_icmp .ne 8, 3) := by decide +kernel
theorem dX8_awayOf_29 : decode cX8_awayOf 29 = .ok (.iload 4, 2) := by decide +kernel
theorem dX8_awayOf_31 : decode cX8_awayOf 31 = .ok (.goto 4, 3) := by decide +kernel
theorem dX8_awayOf_34 : decode cX8_awayOf 34 = .ok (.iload_n 2, 1) := by decide +kernel
theorem dX8_awayOf_35 : decode cX8_awayOf 35 = .ok (.istore_n 2, 1) := by decide +kernel
theorem dX8_awayOf_36 : decode cX8_awayOf 36 = .ok (.iload_n 3, 1) := by decide +kernel
theorem dX8_awayOf_37 : decode cX8_awayOf 37 = .ok (.aload_n 0, 1) := by decide +kernel
theorem dX8_awayOf_38 : decode cX8_awayOf 38 = .ok (.getfield 34, 3) := by decide +kernel
theorem dX8_awayOf_41 : decode cX8_awayOf 41 = .ok (.aload_n 0, 1) := by decide +kernel
theorem dX8_awayOf_42 : decode cX8_awayOf 42 = .ok (.getfield 14, 3) := by decide +kernel
theorem dX8_awayOf_45 : decode cX8_awayOf 45 = .ok (.iload 4, 2) := by decide +kernel
theorem dX8_awayOf_47 : decode cX8_awayOf 47 = .ok (.invokevirtual 62, 3) := by decide +kernel
theorem dX8_awayOf_50 : decode cX8_awayOf 50 = .ok (.iload_n 1, 1) := by decide +kernel
theorem dX8_awayOf_51 : decode cX8_awayOf 51 = .ok (.invokevirtual 65, 3) := by decide +kernel
theorem dX8_awayOf_54 : decode cX8_awayOf 54 = .ok (.ifCond .eq 7, 3) := by decide +kernel
theorem dX8_awayOf_57 : decode cX8_awayOf 57 = .ok (.iconst 1, 1) := by decide +kernel
theorem dX8_awayOf_58 : decode cX8_awayOf 58 = .ok (.goto 4, 3) := by decide +kernel
theorem dX8_awayOf_61 : decode cX8_awayOf 61 = .ok (.iconst 0, 1) := by decide +kernel
theorem dX8_awayOf_62 : decode cX8_awayOf 62 = .ok (.iadd, 1) := by decide +kernel
theorem dX8_awayOf_63 : decode cX8_awayOf 63 = .ok (.istore_n 3, 1) := by decide +kernel
theorem dX8_awayOf_64 : decode cX8_awayOf 64 = .ok (.iinc 4 1, 3) := by decide +kernel
theorem dX8_awayOf_67 : decode cX8_awayOf 67 = .ok (.goto (-60), 3) := by decide +kernel
theorem dX8_awayOf_70 : decode cX8_awayOf 70 = .ok (.iload_n 2, 1) := by decide +kernel
theorem dX8_awayOf_71 : decode cX8_awayOf 71 = .ok (.iload_n 3, 1) := by decide +kernel
theorem dX8_awayOf_72 : decode cX8_awayOf 72 = .ok (.isub, 1) := by decide +kernel
theorem dX8_awayOf_73 : decode cX8_awayOf 73 = .ok (.ireturn, 1) := by decide +kernel
theorem dX8_farthest_0 : decode cX8_farthest 0 = .ok (.iconst 0, 1) := by decide +kernel
theorem dX8_farthest_1 : decode cX8_farthest 1 = .ok (.istore_n 1, 1) := by decide +kernel
theorem dX8_farthest_2 : decode cX8_farthest 2 = .ok (.iconst 0, 1) := by decide +kernel
theorem dX8_farthest_3 : decode cX8_farthest 3 = .ok (.istore_n 2, 1) := by decide +kernel
theorem dX8_farthest_4 : decode cX8_farthest 4 = .ok (.iload_n 2, 1) := by decide +kernel
theorem dX8_farthest_5 : decode cX8_farthest 5 = .ok (.aload_n 0, 1) := by decide +kernel
theorem dX8_farthest_6 : decode cX8_farthest 6 = .ok (.getfield 20, 3) := by decide +kernel
theorem dX8_farthest_9 : decode cX8_farthest 9 = .ok (.if_icmp .ge 29, 3) := by decide +kernel
theorem dX8_farthest_12 : decode cX8_farthest 12 = .ok (.iload_n 1, 1) := by decide +kernel
theorem dX8_farthest_13 : decode cX8_farthest 13 = .ok (.aload_n 0, 1) := by decide +kernel
theorem dX8_farthest_14 : decode cX8_farthest 14 = .ok (.aload_n 0, 1) := by decide +kernel
theorem dX8_farthest_15 : decode cX8_farthest 15 = .ok (.getfield 14, 3) := by decide +kernel
theorem dX8_farthest_18 : decode cX8_farthest 18 = .ok (.iload_n 2, 1) := by decide +kernel
theorem dX8_farthest_19 : decode cX8_farthest 19 = .ok (.invokevirtual 62, 3) := by decide +kernel
theorem dX8_farthest_22 : decode cX8_farthest 22 = .ok (.invokevirtual 71, 3) := by decide +kernel
theorem dX8_farthest_25 : decode cX8_farthest 25 = .ok (.invokestatic 74, 3) := by decide +kernel
theorem dX8_farthest_28 : decode cX8_farthest 28 = .ok (.invokestatic 79, 3) := by decide +kernel
theorem dX8_farthest_31 : decode cX8_farthest 31 = .ok (.istore_n 1, 1) := by decide +kernel
theorem dX8_farthest_32 : decode cX8_farthest 32 = .ok (.iinc 2 1, 3) := by decide +kernel
theorem dX8_farthest_35 : decode cX8_farthest 35 = .ok (.goto (-31), 3) := by decide +kernel
theorem dX8_farthest_38 : decode cX8_farthest 38 = .ok (.iload_n 1, 1) := by decide +kernel
theorem dX8_farthest_39 : decode cX8_farthest 39 = .ok (.ireturn, 1) := by decide +kernel
theorem dX8_wrongPairs_0 : decode cX8_wrongPairs 0 = .ok (.iconst 0, 1) := by decide +kernel
theorem dX8_wrongPairs_1 : decode cX8_wrongPairs 1 = .ok (.istore_n 1, 1) := by decide +kernel
theorem dX8_wrongPairs_2 : decode cX8_wrongPairs 2 = .ok (.iconst 0, 1) := by decide +kernel
theorem dX8_wrongPairs_3 : decode cX8_wrongPairs 3 = .ok (.istore_n 2, 1) := by decide +kernel
theorem dX8_wrongPairs_4 : decode cX8_wrongPairs 4 = .ok (.iload_n 2, 1) := by decide +kernel
theorem dX8_wrongPairs_5 : decode cX8_wrongPairs 5 = .ok (.aload_n 0, 1) := by decide +kernel
theorem dX8_wrongPairs_6 : decode cX8_wrongPairs 6 = .ok (.getfield 20, 3) := by decide +kernel
theorem dX8_wrongPairs_9 : decode cX8_wrongPairs 9 = .ok (.if_icmp .ge 64, 3) := by decide +kernel
theorem dX8_wrongPairs_12 : decode cX8_wrongPairs 12 = .ok (.iconst 0, 1) := by decide +kernel
theorem dX8_wrongPairs_13 : decode cX8_wrongPairs 13 = .ok (.istore_n 3, 1) := by decide +kernel
theorem dX8_wrongPairs_14 : decode cX8_wrongPairs 14 = .ok (.iload_n 3, 1) := by decide +kernel
theorem dX8_wrongPairs_15 : decode cX8_wrongPairs 15 = .ok (.iload_n 2, 1) := by decide +kernel
theorem dX8_wrongPairs_16 : decode cX8_wrongPairs 16 = .ok (.if_icmp .ge 51, 3) := by decide +kernel
theorem dX8_wrongPairs_19 : decode cX8_wrongPairs 19 = .ok (.iload_n 1, 1) := by decide +kernel
theorem dX8_wrongPairs_20 : decode cX8_wrongPairs 20 = .ok (.aload_n 0, 1) := by decide +kernel
theorem dX8_wrongPairs_21 : decode cX8_wrongPairs 21 = .ok (.getfield 34, 3) := by decide +kernel
theorem dX8_wrongPairs_24 : decode cX8_wrongPairs 24 = .ok (.aload_n 0, 1) := by decide +kernel
theorem dX8_wrongPairs_25 : decode cX8_wrongPairs 25 = .ok (.getfield 14, 3) := by decide +kernel
theorem dX8_wrongPairs_28 : decode cX8_wrongPairs 28 = .ok (.iload_n 2, 1) := by decide +kernel
theorem dX8_wrongPairs_29 : decode cX8_wrongPairs 29 = .ok (.invokevirtual 62, 3) := by decide +kernel
theorem dX8_wrongPairs_32 : decode cX8_wrongPairs 32 = .ok (.invokevirtual 83, 3) := by decide +kernel
theorem dX8_wrongPairs_35 : decode cX8_wrongPairs 35 = .ok (.aload_n 0, 1) := by decide +kernel
theorem dX8_wrongPairs_36 : decode cX8_wrongPairs 36 = .ok (.getfield 34, 3) := by decide +kernel
theorem dX8_wrongPairs_39 : decode cX8_wrongPairs 39 = .ok (.aload_n 0, 1) := by decide +kernel
theorem dX8_wrongPairs_40 : decode cX8_wrongPairs 40 = .ok (.getfield 14, 3) := by decide +kernel
theorem dX8_wrongPairs_43 : decode cX8_wrongPairs 43 = .ok (.iload_n 3, 1) := by decide +kernel
theorem dX8_wrongPairs_44 : decode cX8_wrongPairs 44 = .ok (.invokevirtual 62, 3) := by decide +kernel
theorem dX8_wrongPairs_47 : decode cX8_wrongPairs 47 = .ok (.invokevirtual 83, 3) := by decide +kernel
theorem dX8_wrongPairs_50 : decode cX8_wrongPairs 50 = .ok (.fcmp .g, 1) := by decide +kernel
theorem dX8_wrongPairs_51 : decode cX8_wrongPairs 51 = .ok (.ifCond .ge 7, 3) := by decide +kernel
theorem dX8_wrongPairs_54 : decode cX8_wrongPairs 54 = .ok (.iconst 1, 1) := by decide +kernel
theorem dX8_wrongPairs_55 : decode cX8_wrongPairs 55 = .ok (.goto 4, 3) := by decide +kernel
theorem dX8_wrongPairs_58 : decode cX8_wrongPairs 58 = .ok (.iconst 0, 1) := by decide +kernel
theorem dX8_wrongPairs_59 : decode cX8_wrongPairs 59 = .ok (.iadd, 1) := by decide +kernel
theorem dX8_wrongPairs_60 : decode cX8_wrongPairs 60 = .ok (.istore_n 1, 1) := by decide +kernel
theorem dX8_wrongPairs_61 : decode cX8_wrongPairs 61 = .ok (.iinc 3 1, 3) := by decide +kernel
theorem dX8_wrongPairs_64 : decode cX8_wrongPairs 64 = .ok (.goto (-50), 3) := by decide +kernel
theorem dX8_wrongPairs_67 : decode cX8_wrongPairs 67 = .ok (.iinc 2 1, 3) := by decide +kernel
theorem dX8_wrongPairs_70 : decode cX8_wrongPairs 70 = .ok (.goto (-66), 3) := by decide +kernel
theorem dX8_wrongPairs_73 : decode cX8_wrongPairs 73 = .ok (.iload_n 1, 1) := by decide +kernel
theorem dX8_wrongPairs_74 : decode cX8_wrongPairs 74 = .ok (.ireturn, 1) := by decide +kernel
theorem dX8_sum_0 : decode cX8_sum 0 = .ok (.fconst 0, 1) := by decide +kernel
theorem dX8_sum_1 : decode cX8_sum 1 = .ok (.fstore_n 1, 1) := by decide +kernel
theorem dX8_sum_2 : decode cX8_sum 2 = .ok (.iconst 0, 1) := by decide +kernel
theorem dX8_sum_3 : decode cX8_sum 3 = .ok (.istore_n 2, 1) := by decide +kernel
theorem dX8_sum_4 : decode cX8_sum 4 = .ok (.iload_n 2, 1) := by decide +kernel
theorem dX8_sum_5 : decode cX8_sum 5 = .ok (.aload_n 0, 1) := by decide +kernel
theorem dX8_sum_6 : decode cX8_sum 6 = .ok (.getfield 20, 3) := by decide +kernel
theorem dX8_sum_9 : decode cX8_sum 9 = .ok (.if_icmp .ge 27, 3) := by decide +kernel
theorem dX8_sum_12 : decode cX8_sum 12 = .ok (.fload_n 1, 1) := by decide +kernel
theorem dX8_sum_13 : decode cX8_sum 13 = .ok (.aload_n 0, 1) := by decide +kernel
theorem dX8_sum_14 : decode cX8_sum 14 = .ok (.getfield 34, 3) := by decide +kernel
theorem dX8_sum_17 : decode cX8_sum 17 = .ok (.aload_n 0, 1) := by decide +kernel
theorem dX8_sum_18 : decode cX8_sum 18 = .ok (.getfield 14, 3) := by decide +kernel
theorem dX8_sum_21 : decode cX8_sum 21 = .ok (.iload_n 2, 1) := by decide +kernel
theorem dX8_sum_22 : decode cX8_sum 22 = .ok (.invokevirtual 62, 3) := by decide +kernel
theorem dX8_sum_25 : decode cX8_sum 25 = .ok (.invokevirtual 83, 3) := by decide +kernel
theorem dX8_sum_28 : decode cX8_sum 28 = .ok (.fadd, 1) := by decide +kernel
theorem dX8_sum_29 : decode cX8_sum 29 = .ok (.fstore_n 1, 1) := by decide +kernel
theorem dX8_sum_30 : decode cX8_sum 30 = .ok (.iinc 2 1, 3) := by decide +kernel
theorem dX8_sum_33 : decode cX8_sum 33 = .ok (.goto (-29), 3) := by decide +kernel
theorem dX8_sum_36 : decode cX8_sum 36 = .ok (.fload_n 1, 1) := by decide +kernel
theorem dX8_sum_37 : decode cX8_sum 37 = .ok (.freturn, 1) := by decide +kernel
theorem dX8_splitOf_0 : decode cX8_splitOf 0 = .ok (.aload_n 0, 1) := by decide +kernel
theorem dX8_splitOf_1 : decode cX8_splitOf 1 = .ok (.getfield 43, 3) := by decide +kernel
theorem dX8_splitOf_4 : decode cX8_splitOf 4 = .ok (.aload_n 1, 1) := by decide +kernel
theorem dX8_splitOf_5 : decode cX8_splitOf 5 = .ok (.invokevirtual 47, 3) := by decide +kernel
theorem dX8_splitOf_8 : decode cX8_splitOf 8 = .ok (.aload_n 0, 1) := by decide +kernel
theorem dX8_splitOf_9 : decode cX8_splitOf 9 = .ok (.iload_n 2, 1) := by decide +kernel
theorem dX8_splitOf_10 : decode cX8_splitOf 10 = .ok (.invokevirtual 87, 3) := by decide +kernel
theorem dX8_splitOf_13 : decode cX8_splitOf 13 = .ok (.ireturn, 1) := by decide +kernel
theorem dX8_greatestOfThird_0 : decode cX8_greatestOfThird 0 = .ok (.iconst 1, 1) := by decide +kernel
theorem dX8_greatestOfThird_1 : decode cX8_greatestOfThird 1 = .ok (.aload_n 0, 1) := by decide +kernel
theorem dX8_greatestOfThird_2 : decode cX8_greatestOfThird 2 = .ok (.getfield 43, 3) := by decide +kernel
theorem dX8_greatestOfThird_5 : decode cX8_greatestOfThird 5 = .ok (.iload_n 1, 1) := by decide +kernel
theorem dX8_greatestOfThird_6 : decode cX8_greatestOfThird 6 = .ok (.invokevirtual 90, 3) := by decide +kernel
theorem dX8_greatestOfThird_9 : decode cX8_greatestOfThird 9 = .ok (.iconst 3, 1) := by decide +kernel
theorem dX8_greatestOfThird_10 : decode cX8_greatestOfThird 10 = .ok (.idiv, 1) := by decide +kernel
theorem dX8_greatestOfThird_11 : decode cX8_greatestOfThird 11 = .ok (.invokestatic 79, 3) := by decide +kernel
theorem dX8_greatestOfThird_14 : decode cX8_greatestOfThird 14 = .ok (.istore_n 2, 1) := by decide +kernel
theorem dX8_greatestOfThird_15 : decode cX8_greatestOfThird 15 = .ok (.iconst (-1), 1) := by decide +kernel
theorem dX8_greatestOfThird_16 : decode cX8_greatestOfThird 16 = .ok (.istore_n 3, 1) := by decide +kernel
theorem dX8_greatestOfThird_17 : decode cX8_greatestOfThird 17 = .ok (.iconst 0, 1) := by decide +kernel
theorem dX8_greatestOfThird_18 : decode cX8_greatestOfThird 18 = .ok (.istore 4, 2) := by decide +kernel
theorem dX8_greatestOfThird_20 : decode cX8_greatestOfThird 20 = .ok (.iload 4, 2) := by decide +kernel
theorem dX8_greatestOfThird_22 : decode cX8_greatestOfThird 22 = .ok (.iload_n 2, 1) := by decide +kernel
theorem dX8_greatestOfThird_23 : decode cX8_greatestOfThird 23 = .ok (.if_icmp .ge 46, 3) := by decide +kernel
theorem dX8_greatestOfThird_26 : decode cX8_greatestOfThird 26 = .ok (.aload_n 0, 1) := by decide +kernel
theorem dX8_greatestOfThird_27 : decode cX8_greatestOfThird 27 = .ok (.getfield 43, 3) := by decide +kernel
theorem dX8_greatestOfThird_30 : decode cX8_greatestOfThird 30 = .ok (.iload_n 1, 1) := by decide +kernel
theorem dX8_greatestOfThird_31 : decode cX8_greatestOfThird 31 = .ok (.invokevirtual 54, 3) := by decide +kernel
theorem dX8_greatestOfThird_34 : decode cX8_greatestOfThird 34 = .ok (.istore 5, 2) := by decide +kernel
theorem dX8_greatestOfThird_36 : decode cX8_greatestOfThird 36 = .ok (.iload 5, 2) := by decide +kernel
theorem dX8_greatestOfThird_38 : decode cX8_greatestOfThird 38 = .ok (.iconst (-1), 1) := by decide +kernel
theorem dX8_greatestOfThird_39 : decode cX8_greatestOfThird 39 = .ok (.if_icmp .eq 24, 3) := by decide +kernel
theorem dX8_greatestOfThird_42 : decode cX8_greatestOfThird 42 = .ok (.iload_n 3, 1) := by decide +kernel
theorem dX8_greatestOfThird_43 : decode cX8_greatestOfThird 43 = .ok (.iconst (-1), 1) := by decide +kernel
theorem dX8_greatestOfThird_44 : decode cX8_greatestOfThird 44 = .ok (.if_icmp .eq 16, 3) := by decide +kernel
theorem dX8_greatestOfThird_47 : decode cX8_greatestOfThird 47 = .ok (.aload_n 0, 1) := by decide +kernel
theorem dX8_greatestOfThird_48 : decode cX8_greatestOfThird 48 = .ok (.getfield 34, 3) := by decide +kernel
theorem dX8_greatestOfThird_51 : decode cX8_greatestOfThird 51 = .ok (.iload_n 3, 1) := by decide +kernel
theorem dX8_greatestOfThird_52 : decode cX8_greatestOfThird 52 = .ok (.iload 5, 2) := by decide +kernel
theorem dX8_greatestOfThird_54 : decode cX8_greatestOfThird 54 = .ok (.invokevirtual 65, 3) := by decide +kernel
theorem dX8_greatestOfThird_57 : decode cX8_greatestOfThird 57 = .ok (.ifCond .eq 6, 3) := by decide +kernel
theorem dX8_greatestOfThird_60 : decode cX8_greatestOfThird 60 = .ok (.iload 5, 2) := by decide +kernel
theorem dX8_greatestOfThird_62 : decode cX8_greatestOfThird 62 = .ok (.istore_n 3, 1) := by decide +kernel
theorem dX8_greatestOfThird_63 : decode cX8_greatestOfThird 63 = .ok (.iinc 4 1, 3) := by decide +kernel
theorem dX8_greatestOfThird_66 : decode cX8_greatestOfThird 66 = .ok (.goto (-46), 3) := by decide +kernel
theorem dX8_greatestOfThird_69 : decode cX8_greatestOfThird 69 = .ok (.iload_n 3, 1) := by decide +kernel
theorem dX8_greatestOfThird_70 : decode cX8_greatestOfThird 70 = .ok (.ireturn, 1) := by decide +kernel
theorem dX8_stepsTo_0 : decode cX8_stepsTo 0 = .ok (.aload_n 1, 1) := by decide +kernel
theorem dX8_stepsTo_1 : decode cX8_stepsTo 1 = .ok (.iload_n 2, 1) := by decide +kernel
theorem dX8_stepsTo_2 : decode cX8_stepsTo 2 = .ok (.iload_n 3, 1) := by decide +kernel
theorem dX8_stepsTo_3 : decode cX8_stepsTo 3 = .ok (.invokevirtual 93, 3) := by decide +kernel
theorem dX8_stepsTo_6 : decode cX8_stepsTo 6 = .ok (.istore 4, 2) := by decide +kernel
theorem dX8_stepsTo_8 : decode cX8_stepsTo 8 = .ok (.iload 4, 2) := by decide +kernel
theorem dX8_stepsTo_10 : decode cX8_stepsTo 10 = .ok (.iconst (-1), 1) := by decide +kernel
theorem dX8_stepsTo_11 : decode cX8_stepsTo 11 = .ok (.if_icmp .ne 5, 3) := by decide +kernel
theorem dX8_stepsTo_14 : decode cX8_stepsTo 14 = .ok (.iconst (-1), 1) := by decide +kernel
theorem dX8_stepsTo_15 : decode cX8_stepsTo 15 = .ok (.ireturn, 1) := by decide +kernel
theorem dX8_stepsTo_16 : decode cX8_stepsTo 16 = .ok (.iconst 0, 1) := by decide +kernel
theorem dX8_stepsTo_17 : decode cX8_stepsTo 17 = .ok (.istore 5, 2) := by decide +kernel
theorem dX8_stepsTo_19 : decode cX8_stepsTo 19 = .ok (.iload 5, 2) := by decide +kernel
theorem dX8_stepsTo_21 : decode cX8_stepsTo 21 = .ok (.bipush 20, 2) := by decide +kernel
theorem dX8_stepsTo_23 : decode cX8_stepsTo 23 = .ok (.if_icmp .ge 36, 3) := by decide +kernel
theorem dX8_stepsTo_26 : decode cX8_stepsTo 26 = .ok (.aload_n 0, 1) := by decide +kernel
theorem dX8_stepsTo_27 : decode cX8_stepsTo 27 = .ok (.getfield 24, 3) := by decide +kernel
theorem dX8_stepsTo_30 : decode cX8_stepsTo 30 = .ok (.iload 5, 2) := by decide +kernel
theorem dX8_stepsTo_32 : decode cX8_stepsTo 32 = .ok (.aload_n 1, 1) := by decide +kernel
theorem dX8_stepsTo_33 : decode cX8_stepsTo 33 = .ok (.getfield 96, 3) := by decide +kernel
theorem dX8_stepsTo_36 : decode cX8_stepsTo 36 = .ok (.iload 5, 2) := by decide +kernel
theorem dX8_stepsTo_38 : decode cX8_stepsTo 38 = .ok (.invokevirtual 62, 3) := by decide +kernel
theorem dX8_stepsTo_41 : decode cX8_stepsTo 41 = .ok (.iload_n 2, 1) := by decide +kernel
theorem dX8_stepsTo_42 : decode cX8_stepsTo 42 = .ok (.if_icmp .ne 7, 3) := by decide +kernel
theorem dX8_stepsTo_45 : decode cX8_stepsTo 45 = .ok (.iconst 1, 1) := by decide +kernel
theorem dX8_stepsTo_46 : decode cX8_stepsTo 46 = .ok (.goto 4, 3) := by decide +kernel
theorem dX8_stepsTo_49 : decode cX8_stepsTo 49 = .ok (.iconst 0, 1) := by decide +kernel
theorem dX8_stepsTo_50 : decode cX8_stepsTo 50 = .ok (.invokevirtual 58, 3) := by decide +kernel
theorem dX8_stepsTo_53 : decode cX8_stepsTo 53 = .ok (.iinc 5 1, 3) := by decide +kernel
theorem dX8_stepsTo_56 : decode cX8_stepsTo 56 = .ok (.goto (-37), 3) := by decide +kernel
theorem dX8_stepsTo_59 : decode cX8_stepsTo 59 = .ok (.iconst 1, 1) := by decide +kernel
theorem dX8_stepsTo_60 : decode cX8_stepsTo 60 = .ok (.istore 5, 2) := by decide +kernel
theorem dX8_stepsTo_62 : decode cX8_stepsTo 62 = .ok (.iload 5, 2) := by decide +kernel
theorem dX8_stepsTo_64 : decode cX8_stepsTo 64 = .ok (.bipush 20, 2) := by decide +kernel
theorem dX8_stepsTo_66 : decode cX8_stepsTo 66 = .ok (.if_icmp .gt 33, 3) := by decide +kernel
theorem dX8_stepsTo_69 : decode cX8_stepsTo 69 = .ok (.aload_n 0, 1) := by decide +kernel
theorem dX8_stepsTo_70 : decode cX8_stepsTo 70 = .ok (.invokevirtual 99, 3) := by decide +kernel
theorem dX8_stepsTo_73 : decode cX8_stepsTo 73 = .ok (.istore 6, 2) := by decide +kernel
theorem dX8_stepsTo_75 : decode cX8_stepsTo 75 = .ok (.iload 6, 2) := by decide +kernel
theorem dX8_stepsTo_77 : decode cX8_stepsTo 77 = .ok (.iload 4, 2) := by decide +kernel
theorem dX8_stepsTo_79 : decode cX8_stepsTo 79 = .ok (.if_icmp .ne 6, 3) := by decide +kernel
theorem dX8_stepsTo_82 : decode cX8_stepsTo 82 = .ok (.iload 5, 2) := by decide +kernel
theorem dX8_stepsTo_84 : decode cX8_stepsTo 84 = .ok (.ireturn, 1) := by decide +kernel
theorem dX8_stepsTo_85 : decode cX8_stepsTo 85 = .ok (.aload_n 0, 1) := by decide +kernel
theorem dX8_stepsTo_86 : decode cX8_stepsTo 86 = .ok (.iload 6, 2) := by decide +kernel
theorem dX8_stepsTo_88 : decode cX8_stepsTo 88 = .ok (.iload 4, 2) := by decide +kernel
theorem dX8_stepsTo_90 : decode cX8_stepsTo 90 = .ok (.invokevirtual 103, 3) := by decide +kernel
theorem dX8_stepsTo_93 : decode cX8_stepsTo 93 = .ok (.iinc 5 1, 3) := by decide +kernel
theorem dX8_stepsTo_96 : decode cX8_stepsTo 96 = .ok (.goto (-34), 3) := by decide +kernel
theorem dX8_stepsTo_99 : decode cX8_stepsTo 99 = .ok (.iconst (-1), 1) := by decide +kernel
theorem dX8_stepsTo_100 : decode cX8_stepsTo 100 = .ok (.ireturn, 1) := by decide +kernel
theorem dX8_splitOfChosen_0 : decode cX8_splitOfChosen 0 = .ok (.aload_n 0, 1) := by decide +kernel
theorem dX8_splitOfChosen_1 : decode cX8_splitOfChosen 1 = .ok (.getfield 43, 3) := by decide +kernel
theorem dX8_splitOfChosen_4 : decode cX8_splitOfChosen 4 = .ok (.invokevirtual 106, 3) := by decide +kernel
theorem dX8_splitOfChosen_7 : decode cX8_splitOfChosen 7 = .ok (.iconst 0, 1) := by decide +kernel
theorem dX8_splitOfChosen_8 : decode cX8_splitOfChosen 8 = .ok (.istore_n 1, 1) := by decide +kernel
theorem dX8_splitOfChosen_9 : decode cX8_splitOfChosen 9 = .ok (.iload_n 1, 1) := by decide +kernel
theorem dX8_splitOfChosen_10 : decode cX8_splitOfChosen 10 = .ok (.bipush 20, 2) := by decide +kernel
theorem dX8_splitOfChosen_12 : decode cX8_splitOfChosen 12 = .ok (.if_icmp .ge 31, 3) := by decide +kernel
theorem dX8_splitOfChosen_15 : decode cX8_splitOfChosen 15 = .ok (.aload_n 0, 1) := by decide +kernel
theorem dX8_splitOfChosen_16 : decode cX8_splitOfChosen 16 = .ok (.getfield 24, 3) := by decide +kernel
theorem dX8_splitOfChosen_19 : decode cX8_splitOfChosen 19 = .ok (.iload_n 1, 1) := by decide +kernel
theorem dX8_splitOfChosen_20 : decode cX8_splitOfChosen 20 = .ok (.invokevirtual 62, 3) := by decide +kernel
theorem dX8_splitOfChosen_23 : decode cX8_splitOfChosen 23 = .ok (.iconst 1, 1) := by decide +kernel
theorem dX8_splitOfChosen_24 : decode cX8_splitOfChosen 24 = .ok (.if_icmp .ne 13, 3) := by decide +kernel
theorem dX8_splitOfChosen_27 : decode cX8_splitOfChosen 27 = .ok (.aload_n 0, 1) := by decide +kernel
theorem dX8_splitOfChosen_28 : decode cX8_splitOfChosen 28 = .ok (.getfield 43, 3) := by decide +kernel
theorem dX8_splitOfChosen_31 : decode cX8_splitOfChosen 31 = .ok (.iload_n 1, 1) := by decide +kernel
theorem dX8_splitOfChosen_32 : decode cX8_splitOfChosen 32 = .ok (.iconst 0, 1) := by decide +kernel
theorem dX8_splitOfChosen_33 : decode cX8_splitOfChosen 33 = .ok (.invokevirtual 109, 3) := by decide +kernel
theorem dX8_splitOfChosen_36 : decode cX8_splitOfChosen 36 = .ok (.pop, 1) := by decide +kernel
theorem dX8_splitOfChosen_37 : decode cX8_splitOfChosen 37 = .ok (.iinc 1 1, 3) := by decide +kernel
theorem dX8_splitOfChosen_40 : decode cX8_splitOfChosen 40 = .ok (.goto (-31), 3) := by decide +kernel
theorem dX8_splitOfChosen_43 : decode cX8_splitOfChosen 43 = .ok (.aload_n 0, 1) := by decide +kernel
theorem dX8_splitOfChosen_44 : decode cX8_splitOfChosen 44 = .ok (.iconst 0, 1) := by decide +kernel
theorem dX8_splitOfChosen_45 : decode cX8_splitOfChosen 45 = .ok (.invokevirtual 87, 3) := by decide +kernel
theorem dX8_splitOfChosen_48 : decode cX8_splitOfChosen 48 = .ok (.ireturn, 1) := by decide +kernel
theorem dX8_keepSide_0 : decode cX8_keepSide 0 = .ok (.aload_n 0, 1) := by decide +kernel
theorem dX8_keepSide_1 : decode cX8_keepSide 1 = .ok (.getfield 34, 3) := by decide +kernel
theorem dX8_keepSide_4 : decode cX8_keepSide 4 = .ok (.iload_n 2, 1) := by decide +kernel
theorem dX8_keepSide_5 : decode cX8_keepSide 5 = .ok (.iload_n 1, 1) := by decide +kernel
theorem dX8_keepSide_6 : decode cX8_keepSide 6 = .ok (.invokevirtual 65, 3) := by decide +kernel
theorem dX8_keepSide_9 : decode cX8_keepSide 9 = .ok (.istore_n 3, 1) := by decide +kernel
theorem dX8_keepSide_10 : decode cX8_keepSide 10 = .ok (.iconst 0, 1) := by decide +kernel
theorem dX8_keepSide_11 : decode cX8_keepSide 11 = .ok (.istore 4, 2) := by decide +kernel
theorem dX8_keepSide_13 : decode cX8_keepSide 13 = .ok (.iload 4, 2) := by decide +kernel
theorem dX8_keepSide_15 : decode cX8_keepSide 15 = .ok (.bipush 20, 2) := by decide +kernel
theorem dX8_keepSide_17 : decode cX8_keepSide 17 = .ok (.if_icmp .ge 39, 3) := by decide +kernel
theorem dX8_keepSide_20 : decode cX8_keepSide 20 = .ok (.iload 4, 2) := by decide +kernel
theorem dX8_keepSide_22 : decode cX8_keepSide 22 = .ok (.iload_n 1, 1) := by decide +kernel
theorem dX8_keepSide_23 : decode cX8_keepSide 23 = .ok (.if_icmp .eq 17, 3) := by decide +kernel
theorem dX8_keepSide_26 : decode cX8_keepSide 26 = .ok (.aload_n 0, 1) := by decide +kernel
theorem dX8_keepSide_27 : decode cX8_keepSide 27 = .ok (.getfield 34, 3) := by decide +kernel
theorem dX8_keepSide_30 : decode cX8_keepSide 30 = .ok (.iload 4, 2) := by decide +kernel
theorem dX8_keepSide_32 : decode cX8_keepSide 32 = .ok (.iload_n 1, 1) := by decide +kernel
theorem dX8_keepSide_33 : decode cX8_keepSide 33 = .ok (.invokevirtual 65, 3) := by decide +kernel
theorem dX8_keepSide_36 : decode cX8_keepSide 36 = .ok (.iload_n 3, 1) := by decide +kernel
theorem dX8_keepSide_37 : decode cX8_keepSide 37 = .ok (.if_icmp .eq 13, 3) := by decide +kernel
theorem dX8_keepSide_40 : decode cX8_keepSide 40 = .ok (.aload_n 0, 1) := by decide +kernel
theorem dX8_keepSide_41 : decode cX8_keepSide 41 = .ok (.getfield 24, 3) := by decide +kernel
theorem dX8_keepSide_44 : decode cX8_keepSide 44 = .ok (.iload 4, 2) := by decide +kernel
theorem dX8_keepSide_46 : decode cX8_keepSide 46 = .ok (.iconst 0, 1) := by decide +kernel
theorem dX8_keepSide_47 : decode cX8_keepSide 47 = .ok (.invokevirtual 58, 3) := by decide +kernel
theorem dX8_keepSide_50 : decode cX8_keepSide 50 = .ok (.iinc 4 1, 3) := by decide +kernel
theorem dX8_keepSide_53 : decode cX8_keepSide 53 = .ok (.goto (-40), 3) := by decide +kernel
theorem dX8_keepSide_56 : decode cX8_keepSide 56 = .ok (.return_, 1) := by decide +kernel
theorem dX8_foresee_0 : decode cX8_foresee 0 = .ok (.aload_n 0, 1) := by decide +kernel
theorem dX8_foresee_1 : decode cX8_foresee 1 = .ok (.getfield 27, 3) := by decide +kernel
theorem dX8_foresee_4 : decode cX8_foresee 4 = .ok (.iconst (-1), 1) := by decide +kernel
theorem dX8_foresee_5 : decode cX8_foresee 5 = .ok (.invokevirtual 51, 3) := by decide +kernel
theorem dX8_foresee_8 : decode cX8_foresee 8 = .ok (.iconst 0, 1) := by decide +kernel
theorem dX8_foresee_9 : decode cX8_foresee 9 = .ok (.istore_n 2, 1) := by decide +kernel
theorem dX8_foresee_10 : decode cX8_foresee 10 = .ok (.iload_n 2, 1) := by decide +kernel
theorem dX8_foresee_11 : decode cX8_foresee 11 = .ok (.aload_n 0, 1) := by decide +kernel
theorem dX8_foresee_12 : decode cX8_foresee 12 = .ok (.getfield 34, 3) := by decide +kernel
theorem dX8_foresee_15 : decode cX8_foresee 15 = .ok (.getfield 112, 3) := by decide +kernel
theorem dX8_foresee_18 : decode cX8_foresee 18 = .ok (.getfield 116, 3) := by decide +kernel
theorem dX8_foresee_21 : decode cX8_foresee 21 = .ok (.if_icmp .ge 68, 3) := by decide +kernel
theorem dX8_foresee_24 : decode cX8_foresee 24 = .ok (.aload_n 0, 1) := by decide +kernel
theorem dX8_foresee_25 : decode cX8_foresee 25 = .ok (.aload_n 1, 1) := by decide +kernel
theorem dX8_foresee_26 : decode cX8_foresee 26 = .ok (.iload_n 2, 1) := by decide +kernel
theorem dX8_foresee_27 : decode cX8_foresee 27 = .ok (.invokevirtual 119, 3) := by decide +kernel
theorem dX8_foresee_30 : decode cX8_foresee 30 = .ok (.iconst 0, 1) := by decide +kernel
theorem dX8_foresee_31 : decode cX8_foresee 31 = .ok (.istore_n 3, 1) := by decide +kernel
theorem dX8_foresee_32 : decode cX8_foresee 32 = .ok (.iload_n 3, 1) := by decide +kernel
theorem dX8_foresee_33 : decode cX8_foresee 33 = .ok (.bipush 10, 2) := by decide +kernel
theorem dX8_foresee_35 : decode cX8_foresee 35 = .ok (.if_icmp .ge 48, 3) := by decide +kernel
theorem dX8_foresee_38 : decode cX8_foresee 38 = .ok (.iload_n 3, 1) := by decide +kernel
theorem dX8_foresee_39 : decode cX8_foresee 39 = .ok (.aload_n 0, 1) := by decide +kernel
theorem dX8_foresee_40 : decode cX8_foresee 40 = .ok (.getfield 20, 3) := by decide +kernel
theorem dX8_foresee_43 : decode cX8_foresee 43 = .ok (.if_icmp .ge 40, 3) := by decide +kernel
theorem dX8_foresee_46 : decode cX8_foresee 46 = .ok (.aload_n 0, 1) := by decide +kernel
theorem dX8_foresee_47 : decode cX8_foresee 47 = .ok (.getfield 27, 3) := by decide +kernel
theorem dX8_foresee_50 : decode cX8_foresee 50 = .ok (.iload_n 2, 1) := by decide +kernel
theorem dX8_foresee_51 : decode cX8_foresee 51 = .ok (.bipush 10, 2) := by decide +kernel
theorem dX8_foresee_53 : decode cX8_foresee 53 = .ok (.imul, 1) := by decide +kernel
theorem dX8_foresee_54 : decode cX8_foresee 54 = .ok (.iload_n 3, 1) := by decide +kernel
theorem dX8_foresee_55 : decode cX8_foresee 55 = .ok (.iadd, 1) := by decide +kernel
theorem dX8_foresee_56 : decode cX8_foresee 56 = .ok (.aload_n 0, 1) := by decide +kernel
theorem dX8_foresee_57 : decode cX8_foresee 57 = .ok (.getfield 34, 3) := by decide +kernel
theorem dX8_foresee_60 : decode cX8_foresee 60 = .ok (.getfield 123, 3) := by decide +kernel
theorem dX8_foresee_63 : decode cX8_foresee 63 = .ok (.aload_n 0, 1) := by decide +kernel
theorem dX8_foresee_64 : decode cX8_foresee 64 = .ok (.getfield 14, 3) := by decide +kernel
theorem dX8_foresee_67 : decode cX8_foresee 67 = .ok (.iload_n 3, 1) := by decide +kernel
theorem dX8_foresee_68 : decode cX8_foresee 68 = .ok (.invokevirtual 62, 3) := by decide +kernel
theorem dX8_foresee_71 : decode cX8_foresee 71 = .ok (.invokevirtual 62, 3) := by decide +kernel
theorem dX8_foresee_74 : decode cX8_foresee 74 = .ok (.invokevirtual 58, 3) := by decide +kernel
theorem dX8_foresee_77 : decode cX8_foresee 77 = .ok (.iinc 3 1, 3) := by decide +kernel
theorem dX8_foresee_80 : decode cX8_foresee 80 = .ok (.goto (-48), 3) := by decide +kernel
theorem dX8_foresee_83 : decode cX8_foresee 83 = .ok (.iinc 2 1, 3) := by decide +kernel
theorem dX8_foresee_86 : decode cX8_foresee 86 = .ok (.goto (-76), 3) := by decide +kernel
theorem dX8_foresee_89 : decode cX8_foresee 89 = .ok (.return_, 1) := by decide +kernel
theorem dX8_gives_0 : decode cX8_gives 0 = .ok (.aload_n 0, 1) := by decide +kernel
theorem dX8_gives_1 : decode cX8_gives 1 = .ok (.getfield 27, 3) := by decide +kernel
theorem dX8_gives_4 : decode cX8_gives 4 = .ok (.iload_n 1, 1) := by decide +kernel
theorem dX8_gives_5 : decode cX8_gives 5 = .ok (.bipush 10, 2) := by decide +kernel
theorem dX8_gives_7 : decode cX8_gives 7 = .ok (.imul, 1) := by decide +kernel
theorem dX8_gives_8 : decode cX8_gives 8 = .ok (.iload_n 2, 1) := by decide +kernel
theorem dX8_gives_9 : decode cX8_gives 9 = .ok (.iadd, 1) := by decide +kernel
theorem dX8_gives_10 : decode cX8_gives 10 = .ok (.invokevirtual 62, 3) := by decide +kernel
theorem dX8_gives_13 : decode cX8_gives 13 = .ok (.iload_n 3, 1) := by decide +kernel
theorem dX8_gives_14 : decode cX8_gives 14 = .ok (.if_icmp .ne 7, 3) := by decide +kernel
theorem dX8_gives_17 : decode cX8_gives 17 = .ok (.iconst 1, 1) := by decide +kernel
theorem dX8_gives_18 : decode cX8_gives 18 = .ok (.goto 4, 3) := by decide +kernel
theorem dX8_gives_21 : decode cX8_gives 21 = .ok (.iconst 0, 1) := by decide +kernel
theorem dX8_gives_22 : decode cX8_gives 22 = .ok (.ireturn, 1) := by decide +kernel
theorem dX8_fitting_0 : decode cX8_fitting 0 = .ok (.iconst 0, 1) := by decide +kernel
theorem dX8_fitting_1 : decode cX8_fitting 1 = .ok (.istore_n 3, 1) := by decide +kernel
theorem dX8_fitting_2 : decode cX8_fitting 2 = .ok (.iconst 0, 1) := by decide +kernel
theorem dX8_fitting_3 : decode cX8_fitting 3 = .ok (.istore 4, 2) := by decide +kernel
theorem dX8_fitting_5 : decode cX8_fitting 5 = .ok (.iload 4, 2) := by decide +kernel
theorem dX8_fitting_7 : decode cX8_fitting 7 = .ok (.aload_n 0, 1) := by decide +kernel
theorem dX8_fitting_8 : decode cX8_fitting 8 = .ok (.getfield 34, 3) := by decide +kernel
theorem dX8_fitting_11 : decode cX8_fitting 11 = .ok (.getfield 112, 3) := by decide +kernel
theorem dX8_fitting_14 : decode cX8_fitting 14 = .ok (.getfield 116, 3) := by decide +kernel
theorem dX8_fitting_17 : decode cX8_fitting 17 = .ok (.if_icmp .ge 97, 3) := by decide +kernel
theorem dX8_fitting_20 : decode cX8_fitting 20 = .ok (.iconst 1, 1) := by decide +kernel
theorem dX8_fitting_21 : decode cX8_fitting 21 = .ok (.istore 5, 2) := by decide +kernel
theorem dX8_fitting_23 : decode cX8_fitting 23 = .ok (.iconst 0, 1) := by decide +kernel
theorem dX8_fitting_24 : decode cX8_fitting 24 = .ok (.istore 6, 2) := by decide +kernel
theorem dX8_fitting_26 : decode cX8_fitting 26 = .ok (.iload 6, 2) := by decide +kernel
theorem dX8_fitting_28 : decode cX8_fitting 28 = .ok (.iload_n 2, 1) := by decide +kernel
theorem dX8_fitting_29 : decode cX8_fitting 29 = .ok (.if_icmp .ge 63, 3) := by decide +kernel
theorem dX8_fitting_32 : decode cX8_fitting 32 = .ok (.aload_n 1, 1) := by decide +kernel
theorem dX8_fitting_33 : decode cX8_fitting 33 = .ok (.iload 6, 2) := by decide +kernel
theorem dX8_fitting_35 : decode cX8_fitting 35 = .ok (.invokevirtual 62, 3) := by decide +kernel
theorem dX8_fitting_38 : decode cX8_fitting 38 = .ok (.istore 7, 2) := by decide +kernel
theorem dX8_fitting_40 : decode cX8_fitting 40 = .ok (.iload 5, 2) := by decide +kernel
theorem dX8_fitting_42 : decode cX8_fitting 42 = .ok (.ifCond .eq 41, 3) := by decide +kernel
theorem dX8_fitting_45 : decode cX8_fitting 45 = .ok (.aload_n 0, 1) := by decide +kernel
theorem dX8_fitting_46 : decode cX8_fitting 46 = .ok (.iload 4, 2) := by decide +kernel
theorem dX8_fitting_48 : decode cX8_fitting 48 = .ok (.iload 7, 2) := by decide +kernel
theorem dX8_fitting_50 : decode cX8_fitting 50 = .ok (.iconst 2, 1) := by decide +kernel
theorem dX8_fitting_51 : decode cX8_fitting 51 = .ok (.idiv, 1) := by decide +kernel
theorem dX8_fitting_52 : decode cX8_fitting 52 = .ok (.iconst 4, 1) := by decide +kernel
theorem dX8_fitting_53 : decode cX8_fitting 53 = .ok (.idiv, 1) := by decide +kernel
theorem dX8_fitting_54 : decode cX8_fitting 54 = .ok (.iload 7, 2) := by decide +kernel
theorem dX8_fitting_56 : decode cX8_fitting 56 = .ok (.iconst 2, 1) := by decide +kernel
theorem dX8_fitting_57 : decode cX8_fitting 57 = .ok (.idiv, 1) := by decide +kernel
theorem dX8_fitting_58 : decode cX8_fitting 58 = .ok (.iconst 4, 1) := by decide +kernel
theorem dX8_fitting_59 : decode cX8_fitting 59 = .ok (.irem, 1) := by decide +kernel
theorem dX8_fitting_60 : decode cX8_fitting 60 = .ok (.invokevirtual 126, 3) := by decide +kernel
theorem dX8_fitting_63 : decode cX8_fitting 63 = .ok (.iload 7, 2) := by decide +kernel
theorem dX8_fitting_65 : decode cX8_fitting 65 = .ok (.iconst 2, 1) := by decide +kernel
theorem dX8_fitting_66 : decode cX8_fitting 66 = .ok (.irem, 1) := by decide +kernel
theorem dX8_fitting_67 : decode cX8_fitting 67 = .ok (.iconst 1, 1) := by decide +kernel
theorem dX8_fitting_68 : decode cX8_fitting 68 = .ok (.if_icmp .ne 7, 3) := by decide +kernel
theorem dX8_fitting_71 : decode cX8_fitting 71 = .ok (.iconst 1, 1) := by decide +kernel
theorem dX8_fitting_72 : decode cX8_fitting 72 = .ok (.goto 4, 3) := by decide +kernel
theorem dX8_fitting_75 : decode cX8_fitting 75 = .ok (.iconst 0, 1) := by decide +kernel
theorem dX8_fitting_76 : decode cX8_fitting 76 = .ok (.if_icmp .ne 7, 3) := by decide +kernel
theorem dX8_fitting_79 : decode cX8_fitting 79 = .ok (.iconst 1, 1) := by decide +kernel
theorem dX8_fitting_80 : decode cX8_fitting 80 = .ok (.goto 4, 3) := by decide +kernel
theorem dX8_fitting_83 : decode cX8_fitting 83 = .ok (.iconst 0, 1) := by decide +kernel
theorem dX8_fitting_84 : decode cX8_fitting 84 = .ok (.istore 5, 2) := by decide +kernel
theorem dX8_fitting_86 : decode cX8_fitting 86 = .ok (.iinc 6 1, 3) := by decide +kernel
theorem dX8_fitting_89 : decode cX8_fitting 89 = .ok (.goto (-63), 3) := by decide +kernel
theorem dX8_fitting_92 : decode cX8_fitting 92 = .ok (.iload_n 3, 1) := by decide +kernel
theorem dX8_fitting_93 : decode cX8_fitting 93 = .ok (.iload 5, 2) := by decide +kernel
theorem dX8_fitting_95 : decode cX8_fitting 95 = .ok (.ifCond .eq 10, 3) := by decide +kernel
theorem dX8_fitting_98 : decode cX8_fitting 98 = .ok (.iconst 1, 1) := by decide +kernel
theorem dX8_fitting_99 : decode cX8_fitting 99 = .ok (.iload 4, 2) := by decide +kernel
theorem dX8_fitting_101 : decode cX8_fitting 101 = .ok (.ishl, 1) := by decide +kernel
theorem dX8_fitting_102 : decode cX8_fitting 102 = .ok (.goto 4, 3) := by decide +kernel
theorem dX8_fitting_105 : decode cX8_fitting 105 = .ok (.iconst 0, 1) := by decide +kernel
theorem dX8_fitting_106 : decode cX8_fitting 106 = .ok (.ior, 1) := by decide +kernel
theorem dX8_fitting_107 : decode cX8_fitting 107 = .ok (.istore_n 3, 1) := by decide +kernel
theorem dX8_fitting_108 : decode cX8_fitting 108 = .ok (.iinc 4 1, 3) := by decide +kernel
theorem dX8_fitting_111 : decode cX8_fitting 111 = .ok (.goto (-106), 3) := by decide +kernel
theorem dX8_fitting_114 : decode cX8_fitting 114 = .ok (.iload_n 3, 1) := by decide +kernel
theorem dX8_fitting_115 : decode cX8_fitting 115 = .ok (.ireturn, 1) := by decide +kernel
theorem dX8_bestQuestion_0 : decode cX8_bestQuestion 0 = .ok (.iload_n 1, 1) := by decide +kernel
theorem dX8_bestQuestion_1 : decode cX8_bestQuestion 1 = .ok (.invokestatic 130, 3) := by decide +kernel
theorem dX8_bestQuestion_4 : decode cX8_bestQuestion 4 = .ok (.istore_n 2, 1) := by decide +kernel
theorem dX8_bestQuestion_5 : decode cX8_bestQuestion 5 = .ok (.iload_n 2, 1) := by decide +kernel
theorem dX8_bestQuestion_6 : decode cX8_bestQuestion 6 = .ok (.istore_n 3, 1) := by decide +kernel
theorem dX8_bestQuestion_7 : decode cX8_bestQuestion 7 = .ok (.iconst (-1), 1) := by decide +kernel
theorem dX8_bestQuestion_8 : decode cX8_bestQuestion 8 = .ok (.istore 4, 2) := by decide +kernel
theorem dX8_bestQuestion_10 : decode cX8_bestQuestion 10 = .ok (.iconst 0, 1) := by decide +kernel
theorem dX8_bestQuestion_11 : decode cX8_bestQuestion 11 = .ok (.istore 5, 2) := by decide +kernel
theorem dX8_bestQuestion_13 : decode cX8_bestQuestion 13 = .ok (.iload 5, 2) := by decide +kernel
theorem dX8_bestQuestion_15 : decode cX8_bestQuestion 15 = .ok (.bipush 40, 2) := by decide +kernel
theorem dX8_bestQuestion_17 : decode cX8_bestQuestion 17 = .ok (.if_icmp .ge 109, 3) := by decide +kernel
theorem dX8_bestQuestion_20 : decode cX8_bestQuestion 20 = .ok (.iconst 0, 1) := by decide +kernel
theorem dX8_bestQuestion_21 : decode cX8_bestQuestion 21 = .ok (.istore 6, 2) := by decide +kernel
theorem dX8_bestQuestion_23 : decode cX8_bestQuestion 23 = .ok (.iconst 0, 1) := by decide +kernel
theorem dX8_bestQuestion_24 : decode cX8_bestQuestion 24 = .ok (.istore 7, 2) := by decide +kernel
theorem dX8_bestQuestion_26 : decode cX8_bestQuestion 26 = .ok (.iload 7, 2) := by decide +kernel
theorem dX8_bestQuestion_28 : decode cX8_bestQuestion 28 = .ok (.aload_n 0, 1) := by decide +kernel
theorem dX8_bestQuestion_29 : decode cX8_bestQuestion 29 = .ok (.getfield 34, 3) := by decide +kernel
theorem dX8_bestQuestion_32 : decode cX8_bestQuestion 32 = .ok (.getfield 112, 3) := by decide +kernel
theorem dX8_bestQuestion_35 : decode cX8_bestQuestion 35 = .ok (.getfield 116, 3) := by decide +kernel
theorem dX8_bestQuestion_38 : decode cX8_bestQuestion 38 = .ok (.if_icmp .ge 58, 3) := by decide +kernel
theorem dX8_bestQuestion_41 : decode cX8_bestQuestion 41 = .ok (.iload_n 1, 1) := by decide +kernel
theorem dX8_bestQuestion_42 : decode cX8_bestQuestion 42 = .ok (.iload 7, 2) := by decide +kernel
theorem dX8_bestQuestion_44 : decode cX8_bestQuestion 44 = .ok (.ishr, 1) := by decide +kernel
theorem dX8_bestQuestion_45 : decode cX8_bestQuestion 45 = .ok (.iconst 1, 1) := by decide +kernel
theorem dX8_bestQuestion_46 : decode cX8_bestQuestion 46 = .ok (.iand, 1) := by decide +kernel
theorem dX8_bestQuestion_47 : decode cX8_bestQuestion 47 = .ok (.iconst 1, 1) := by decide +kernel
theorem dX8_bestQuestion_48 : decode cX8_bestQuestion 48 = .ok (.if_icmp .ne 7, 3) := by decide +kernel
theorem dX8_bestQuestion_51 : decode cX8_bestQuestion 51 = .ok (.iconst 1, 1) := by decide +kernel
theorem dX8_bestQuestion_52 : decode cX8_bestQuestion 52 = .ok (.goto 4, 3) := by decide +kernel
theorem dX8_bestQuestion_55 : decode cX8_bestQuestion 55 = .ok (.iconst 0, 1) := by decide +kernel
theorem dX8_bestQuestion_56 : decode cX8_bestQuestion 56 = .ok (.istore 8, 2) := by decide +kernel
theorem dX8_bestQuestion_58 : decode cX8_bestQuestion 58 = .ok (.iload 6, 2) := by decide +kernel
theorem dX8_bestQuestion_60 : decode cX8_bestQuestion 60 = .ok (.iload 8, 2) := by decide +kernel
theorem dX8_bestQuestion_62 : decode cX8_bestQuestion 62 = .ok (.ifCond .eq 24, 3) := by decide +kernel
theorem dX8_bestQuestion_65 : decode cX8_bestQuestion 65 = .ok (.aload_n 0, 1) := by decide +kernel
theorem dX8_bestQuestion_66 : decode cX8_bestQuestion 66 = .ok (.iload 7, 2) := by decide +kernel
theorem dX8_bestQuestion_68 : decode cX8_bestQuestion 68 = .ok (.iload 5, 2) := by decide +kernel
theorem dX8_bestQuestion_70 : decode cX8_bestQuestion 70 = .ok (.iconst 4, 1) := by decide +kernel
theorem dX8_bestQuestion_71 : decode cX8_bestQuestion 71 = .ok (.idiv, 1) := by decide +kernel
theorem dX8_bestQuestion_72 : decode cX8_bestQuestion 72 = .ok (.iload 5, 2) := by decide +kernel
theorem dX8_bestQuestion_74 : decode cX8_bestQuestion 74 = .ok (.iconst 4, 1) := by decide +kernel
theorem dX8_bestQuestion_75 : decode cX8_bestQuestion 75 = .ok (.irem, 1) := by decide +kernel
theorem dX8_bestQuestion_76 : decode cX8_bestQuestion 76 = .ok (.invokevirtual 126, 3) := by decide +kernel
theorem dX8_bestQuestion_79 : decode cX8_bestQuestion 79 = .ok (.ifCond .eq 7, 3) := by decide +kernel
theorem dX8_bestQuestion_82 : decode cX8_bestQuestion 82 = .ok (.iconst 1, 1) := by decide +kernel
theorem dX8_bestQuestion_83 : decode cX8_bestQuestion 83 = .ok (.goto 4, 3) := by decide +kernel
theorem dX8_bestQuestion_86 : decode cX8_bestQuestion 86 = .ok (.iconst 0, 1) := by decide +kernel
theorem dX8_bestQuestion_87 : decode cX8_bestQuestion 87 = .ok (.iadd, 1) := by decide +kernel
theorem dX8_bestQuestion_88 : decode cX8_bestQuestion 88 = .ok (.istore 6, 2) := by decide +kernel
theorem dX8_bestQuestion_90 : decode cX8_bestQuestion 90 = .ok (.iinc 7 1, 3) := by decide +kernel
theorem dX8_bestQuestion_93 : decode cX8_bestQuestion 93 = .ok (.goto (-67), 3) := by decide +kernel
theorem dX8_bestQuestion_96 : decode cX8_bestQuestion 96 = .ok (.iload 6, 2) := by decide +kernel
theorem dX8_bestQuestion_98 : decode cX8_bestQuestion 98 = .ok (.iload_n 2, 1) := by decide +kernel
theorem dX8_bestQuestion_99 : decode cX8_bestQuestion 99 = .ok (.iload 6, 2) := by decide +kernel
theorem dX8_bestQuestion_101 : decode cX8_bestQuestion 101 = .ok (.isub, 1) := by decide +kernel
theorem dX8_bestQuestion_102 : decode cX8_bestQuestion 102 = .ok (.invokestatic 79, 3) := by decide +kernel
theorem dX8_bestQuestion_105 : decode cX8_bestQuestion 105 = .ok (.istore 7, 2) := by decide +kernel
theorem dX8_bestQuestion_107 : decode cX8_bestQuestion 107 = .ok (.iload 7, 2) := by decide +kernel
theorem dX8_bestQuestion_109 : decode cX8_bestQuestion 109 = .ok (.iload_n 3, 1) := by decide +kernel
theorem dX8_bestQuestion_110 : decode cX8_bestQuestion 110 = .ok (.if_icmp .ge 10, 3) := by decide +kernel
theorem dX8_bestQuestion_113 : decode cX8_bestQuestion 113 = .ok (.iload 7, 2) := by decide +kernel
theorem dX8_bestQuestion_115 : decode cX8_bestQuestion 115 = .ok (.istore_n 3, 1) := by decide +kernel
theorem dX8_bestQuestion_116 : decode cX8_bestQuestion 116 = .ok (.iload 5, 2) := by decide +kernel
theorem dX8_bestQuestion_118 : decode cX8_bestQuestion 118 = .ok (.istore 4, 2) := by decide +kernel
theorem dX8_bestQuestion_120 : decode cX8_bestQuestion 120 = .ok (.iinc 5 1, 3) := by decide +kernel
theorem dX8_bestQuestion_123 : decode cX8_bestQuestion 123 = .ok (.goto (-110), 3) := by decide +kernel
theorem dX8_bestQuestion_126 : decode cX8_bestQuestion 126 = .ok (.iload 4, 2) := by decide +kernel
theorem dX8_bestQuestion_128 : decode cX8_bestQuestion 128 = .ok (.ireturn, 1) := by decide +kernel
theorem dX8_judge_0 : decode cX8_judge 0 = .ok (.aload_n 0, 1) := by decide +kernel
theorem dX8_judge_1 : decode cX8_judge 1 = .ok (.getfield 43, 3) := by decide +kernel
theorem dX8_judge_4 : decode cX8_judge 4 = .ok (.invokevirtual 135, 3) := by decide +kernel
theorem dX8_judge_7 : decode cX8_judge 7 = .ok (.iconst (-1), 1) := by decide +kernel
theorem dX8_judge_8 : decode cX8_judge 8 = .ok (.istore_n 2, 1) := by decide +kernel
theorem dX8_judge_9 : decode cX8_judge 9 = .ok (.iconst 0, 1) := by decide +kernel
theorem dX8_judge_10 : decode cX8_judge 10 = .ok (.istore_n 3, 1) := by decide +kernel
theorem dX8_judge_11 : decode cX8_judge 11 = .ok (.iload_n 3, 1) := by decide +kernel
theorem dX8_judge_12 : decode cX8_judge 12 = .ok (.aload_n 1, 1) := by decide +kernel
theorem dX8_judge_13 : decode cX8_judge 13 = .ok (.getfield 138, 3) := by decide +kernel
theorem dX8_judge_16 : decode cX8_judge 16 = .ok (.if_icmp .ge 55, 3) := by decide +kernel
theorem dX8_judge_19 : decode cX8_judge 19 = .ok (.aload_n 0, 1) := by decide +kernel
theorem dX8_judge_20 : decode cX8_judge 20 = .ok (.aload_n 1, 1) := by decide +kernel
theorem dX8_judge_21 : decode cX8_judge 21 = .ok (.getfield 141, 3) := by decide +kernel
theorem dX8_judge_24 : decode cX8_judge 24 = .ok (.iload_n 3, 1) := by decide +kernel
theorem dX8_judge_25 : decode cX8_judge 25 = .ok (.invokevirtual 62, 3) := by decide +kernel
theorem dX8_judge_28 : decode cX8_judge 28 = .ok (.aload_n 1, 1) := by decide +kernel
theorem dX8_judge_29 : decode cX8_judge 29 = .ok (.getfield 144, 3) := by decide +kernel
theorem dX8_judge_32 : decode cX8_judge 32 = .ok (.iload_n 3, 1) := by decide +kernel
theorem dX8_judge_33 : decode cX8_judge 33 = .ok (.invokevirtual 62, 3) := by decide +kernel
theorem dX8_judge_36 : decode cX8_judge 36 = .ok (.aload_n 1, 1) := by decide +kernel
theorem dX8_judge_37 : decode cX8_judge 37 = .ok (.getfield 147, 3) := by decide +kernel
theorem dX8_judge_40 : decode cX8_judge 40 = .ok (.iload_n 3, 1) := by decide +kernel
theorem dX8_judge_41 : decode cX8_judge 41 = .ok (.invokevirtual 62, 3) := by decide +kernel
theorem dX8_judge_44 : decode cX8_judge 44 = .ok (.invokevirtual 150, 3) := by decide +kernel
theorem dX8_judge_47 : decode cX8_judge 47 = .ok (.istore 4, 2) := by decide +kernel
theorem dX8_judge_49 : decode cX8_judge 49 = .ok (.iload 4, 2) := by decide +kernel
theorem dX8_judge_51 : decode cX8_judge 51 = .ok (.ifCond .ne 12, 3) := by decide +kernel
theorem dX8_judge_54 : decode cX8_judge 54 = .ok (.iload_n 2, 1) := by decide +kernel
theorem dX8_judge_55 : decode cX8_judge 55 = .ok (.iconst (-1), 1) := by decide +kernel
theorem dX8_judge_56 : decode cX8_judge 56 = .ok (.if_icmp .ne 7, 3) := by decide +kernel
theorem dX8_judge_59 : decode cX8_judge 59 = .ok (.iload_n 3, 1) := by decide +kernel
theorem dX8_judge_60 : decode cX8_judge 60 = .ok (.goto 4, 3) := by decide +kernel
theorem dX8_judge_63 : decode cX8_judge 63 = .ok (.iload_n 2, 1) := by decide +kernel
theorem dX8_judge_64 : decode cX8_judge 64 = .ok (.istore_n 2, 1) := by decide +kernel
theorem dX8_judge_65 : decode cX8_judge 65 = .ok (.iinc 3 1, 3) := by decide +kernel
theorem dX8_judge_68 : decode cX8_judge 68 = .ok (.goto (-57), 3) := by decide +kernel
theorem dX8_judge_71 : decode cX8_judge 71 = .ok (.iload_n 2, 1) := by decide +kernel
theorem dX8_judge_72 : decode cX8_judge 72 = .ok (.ireturn, 1) := by decide +kernel
theorem dX8_doLine_0 : decode cX8_doLine 0 = .ok (.iload_n 1, 1) := by decide +kernel
theorem dX8_doLine_1 : decode cX8_doLine 1 = .ok (.tableswitch 65 0 2 #[27, 37, 55], 27) := by decide +kernel
theorem dX8_doLine_28 : decode cX8_doLine 28 = .ok (.aload_n 0, 1) := by decide +kernel
theorem dX8_doLine_29 : decode cX8_doLine 29 = .ok (.getfield 43, 3) := by decide +kernel
theorem dX8_doLine_32 : decode cX8_doLine 32 = .ok (.iload_n 2, 1) := by decide +kernel
theorem dX8_doLine_33 : decode cX8_doLine 33 = .ok (.iload_n 3, 1) := by decide +kernel
theorem dX8_doLine_34 : decode cX8_doLine 34 = .ok (.invokevirtual 109, 3) := by decide +kernel
theorem dX8_doLine_37 : decode cX8_doLine 37 = .ok (.ireturn, 1) := by decide +kernel
theorem dX8_doLine_38 : decode cX8_doLine 38 = .ok (.aload_n 0, 1) := by decide +kernel
theorem dX8_doLine_39 : decode cX8_doLine 39 = .ok (.getfield 43, 3) := by decide +kernel
theorem dX8_doLine_42 : decode cX8_doLine 42 = .ok (.iload_n 2, 1) := by decide +kernel
theorem dX8_doLine_43 : decode cX8_doLine 43 = .ok (.invokevirtual 54, 3) := by decide +kernel
theorem dX8_doLine_46 : decode cX8_doLine 46 = .ok (.iconst (-1), 1) := by decide +kernel
theorem dX8_doLine_47 : decode cX8_doLine 47 = .ok (.if_icmp .eq 7, 3) := by decide +kernel
theorem dX8_doLine_50 : decode cX8_doLine 50 = .ok (.iconst 1, 1) := by decide +kernel
theorem dX8_doLine_51 : decode cX8_doLine 51 = .ok (.goto 4, 3) := by decide +kernel
theorem dX8_doLine_54 : decode cX8_doLine 54 = .ok (.iconst 0, 1) := by decide +kernel
theorem dX8_doLine_55 : decode cX8_doLine 55 = .ok (.ireturn, 1) := by decide +kernel
theorem dX8_doLine_56 : decode cX8_doLine 56 = .ok (.aload_n 0, 1) := by decide +kernel
theorem dX8_doLine_57 : decode cX8_doLine 57 = .ok (.getfield 43, 3) := by decide +kernel
theorem dX8_doLine_60 : decode cX8_doLine 60 = .ok (.iload_n 2, 1) := by decide +kernel
theorem dX8_doLine_61 : decode cX8_doLine 61 = .ok (.iload_n 3, 1) := by decide +kernel
theorem dX8_doLine_62 : decode cX8_doLine 62 = .ok (.invokevirtual 153, 3) := by decide +kernel
theorem dX8_doLine_65 : decode cX8_doLine 65 = .ok (.ireturn, 1) := by decide +kernel
theorem dX8_doLine_66 : decode cX8_doLine 66 = .ok (.aload_n 0, 1) := by decide +kernel
theorem dX8_doLine_67 : decode cX8_doLine 67 = .ok (.getfield 43, 3) := by decide +kernel
theorem dX8_doLine_70 : decode cX8_doLine 70 = .ok (.iload_n 2, 1) := by decide +kernel
theorem dX8_doLine_71 : decode cX8_doLine 71 = .ok (.iload_n 3, 1) := by decide +kernel
theorem dX8_doLine_72 : decode cX8_doLine 72 = .ok (.invokevirtual 156, 3) := by decide +kernel
theorem dX8_doLine_75 : decode cX8_doLine 75 = .ok (.iconst (-1), 1) := by decide +kernel
theorem dX8_doLine_76 : decode cX8_doLine 76 = .ok (.if_icmp .eq 7, 3) := by decide +kernel
theorem dX8_doLine_79 : decode cX8_doLine 79 = .ok (.iconst 1, 1) := by decide +kernel
theorem dX8_doLine_80 : decode cX8_doLine 80 = .ok (.goto 4, 3) := by decide +kernel
theorem dX8_doLine_83 : decode cX8_doLine 83 = .ok (.iconst 0, 1) := by decide +kernel
theorem dX8_doLine_84 : decode cX8_doLine 84 = .ok (.ireturn, 1) := by decide +kernel
theorem dX8_live_0 : decode cX8_live 0 = .ok (.aload_n 0, 1) := by decide +kernel
theorem dX8_live_1 : decode cX8_live 1 = .ok (.getfield 43, 3) := by decide +kernel
theorem dX8_live_4 : decode cX8_live 4 = .ok (.aload_n 1, 1) := by decide +kernel
theorem dX8_live_5 : decode cX8_live 5 = .ok (.invokevirtual 47, 3) := by decide +kernel
theorem dX8_live_8 : decode cX8_live 8 = .ok (.aload_n 0, 1) := by decide +kernel
theorem dX8_live_9 : decode cX8_live 9 = .ok (.iload_n 2, 1) := by decide +kernel
theorem dX8_live_10 : decode cX8_live 10 = .ok (.i2l, 1) := by decide +kernel
theorem dX8_live_11 : decode cX8_live 11 = .ok (.putfield 30, 3) := by decide +kernel
theorem dX8_live_14 : decode cX8_live 14 = .ok (.aload_n 0, 1) := by decide +kernel
theorem dX8_live_15 : decode cX8_live 15 = .ok (.getfield 34, 3) := by decide +kernel
theorem dX8_live_18 : decode cX8_live 18 = .ok (.getfield 112, 3) := by decide +kernel
theorem dX8_live_21 : decode cX8_live 21 = .ok (.getfield 116, 3) := by decide +kernel
theorem dX8_live_24 : decode cX8_live 24 = .ok (.istore 4, 2) := by decide +kernel
theorem dX8_live_26 : decode cX8_live 26 = .ok (.aload_n 0, 1) := by decide +kernel
theorem dX8_live_27 : decode cX8_live 27 = .ok (.getfield 34, 3) := by decide +kernel
theorem dX8_live_30 : decode cX8_live 30 = .ok (.getfield 159, 3) := by decide +kernel
theorem dX8_live_33 : decode cX8_live 33 = .ok (.getfield 116, 3) := by decide +kernel
theorem dX8_live_36 : decode cX8_live 36 = .ok (.istore 5, 2) := by decide +kernel
theorem dX8_live_38 : decode cX8_live 38 = .ok (.iconst 0, 1) := by decide +kernel
theorem dX8_live_39 : decode cX8_live 39 = .ok (.istore 6, 2) := by decide +kernel
theorem dX8_live_41 : decode cX8_live 41 = .ok (.iconst 0, 1) := by decide +kernel
theorem dX8_live_42 : decode cX8_live 42 = .ok (.istore 7, 2) := by decide +kernel
theorem dX8_live_44 : decode cX8_live 44 = .ok (.iload 7, 2) := by decide +kernel
theorem dX8_live_46 : decode cX8_live 46 = .ok (.iload_n 3, 1) := by decide +kernel
theorem dX8_live_47 : decode cX8_live 47 = .ok (.if_icmp .ge 136, 3) := by decide +kernel
theorem dX8_live_50 : decode cX8_live 50 = .ok (.iload 4, 2) := by decide +kernel
theorem dX8_live_52 : decode cX8_live 52 = .ok (.ifCond .le 131, 3) := by decide +kernel
theorem dX8_live_55 : decode cX8_live 55 = .ok (.iload 5, 2) := by decide +kernel
theorem dX8_live_57 : decode cX8_live 57 = .ok (.ifCond .le 126, 3) := by decide +kernel
theorem dX8_live_60 : decode cX8_live 60 = .ok (.aload_n 0, 1) := by decide +kernel
theorem dX8_live_61 : decode cX8_live 61 = .ok (.iload 4, 2) := by decide +kernel
theorem dX8_live_63 : decode cX8_live 63 = .ok (.invokevirtual 162, 3) := by decide +kernel
theorem dX8_live_66 : decode cX8_live 66 = .ok (.istore 8, 2) := by decide +kernel
theorem dX8_live_68 : decode cX8_live 68 = .ok (.aload_n 0, 1) := by decide +kernel
theorem dX8_live_69 : decode cX8_live 69 = .ok (.iload 5, 2) := by decide +kernel
theorem dX8_live_71 : decode cX8_live 71 = .ok (.invokevirtual 162, 3) := by decide +kernel
theorem dX8_live_74 : decode cX8_live 74 = .ok (.istore 9, 2) := by decide +kernel
theorem dX8_live_76 : decode cX8_live 76 = .ok (.aload_n 0, 1) := by decide +kernel
theorem dX8_live_77 : decode cX8_live 77 = .ok (.iconst 4, 1) := by decide +kernel
theorem dX8_live_78 : decode cX8_live 78 = .ok (.invokevirtual 162, 3) := by decide +kernel
theorem dX8_live_81 : decode cX8_live 81 = .ok (.istore 10, 2) := by decide +kernel
theorem dX8_live_83 : decode cX8_live 83 = .ok (.iload 10, 2) := by decide +kernel
theorem dX8_live_85 : decode cX8_live 85 = .ok (.iconst 2, 1) := by decide +kernel
theorem dX8_live_86 : decode cX8_live 86 = .ok (.if_icmp .ge 19, 3) := by decide +kernel
theorem dX8_live_89 : decode cX8_live 89 = .ok (.aload_n 0, 1) := by decide +kernel
theorem dX8_live_90 : decode cX8_live 90 = .ok (.getfield 43, 3) := by decide +kernel
theorem dX8_live_93 : decode cX8_live 93 = .ok (.iload 9, 2) := by decide +kernel
theorem dX8_live_95 : decode cX8_live 95 = .ok (.iload 8, 2) := by decide +kernel
theorem dX8_live_97 : decode cX8_live 97 = .ok (.invokevirtual 109, 3) := by decide +kernel
theorem dX8_live_100 : decode cX8_live 100 = .ok (.istore 11, 2) := by decide +kernel
theorem dX8_live_102 : decode cX8_live 102 = .ok (.goto 60, 3) := by decide +kernel
theorem dX8_live_105 : decode cX8_live 105 = .ok (.iload 10, 2) := by decide +kernel
theorem dX8_live_107 : decode cX8_live 107 = .ok (.iconst 2, 1) := by decide +kernel
theorem dX8_live_108 : decode cX8_live 108 = .ok (.if_icmp .ne 26, 3) := by decide +kernel
theorem dX8_live_111 : decode cX8_live 111 = .ok (.aload_n 0, 1) := by decide +kernel
theorem dX8_live_112 : decode cX8_live 112 = .ok (.getfield 43, 3) := by decide +kernel
theorem dX8_live_115 : decode cX8_live 115 = .ok (.iload 8, 2) := by decide +kernel
theorem dX8_live_117 : decode cX8_live 117 = .ok (.invokevirtual 54, 3) := by decide +kernel
theorem dX8_live_120 : decode cX8_live 120 = .ok (.iconst (-1), 1) := by decide +kernel
theorem dX8_live_121 : decode cX8_live 121 = .ok (.if_icmp .eq 7, 3) := by decide +kernel
theorem dX8_live_124 : decode cX8_live 124 = .ok (.iconst 1, 1) := by decide +kernel
theorem dX8_live_125 : decode cX8_live 125 = .ok (.goto 4, 3) := by decide +kernel
theorem dX8_live_128 : decode cX8_live 128 = .ok (.iconst 0, 1) := by decide +kernel
theorem dX8_live_129 : decode cX8_live 129 = .ok (.istore 11, 2) := by decide +kernel
theorem dX8_live_131 : decode cX8_live 131 = .ok (.goto 31, 3) := by decide +kernel
theorem dX8_live_134 : decode cX8_live 134 = .ok (.aload_n 0, 1) := by decide +kernel
theorem dX8_live_135 : decode cX8_live 135 = .ok (.getfield 43, 3) := by decide +kernel
theorem dX8_live_138 : decode cX8_live 138 = .ok (.iload 8, 2) := by decide +kernel
theorem dX8_live_140 : decode cX8_live 140 = .ok (.iload 8, 2) := by decide +kernel
theorem dX8_live_142 : decode cX8_live 142 = .ok (.iconst 1, 1) := by decide +kernel
theorem dX8_live_143 : decode cX8_live 143 = .ok (.iadd, 1) := by decide +kernel
theorem dX8_live_144 : decode cX8_live 144 = .ok (.iload 4, 2) := by decide +kernel
theorem dX8_live_146 : decode cX8_live 146 = .ok (.if_icmp .ge 10, 3) := by decide +kernel
theorem dX8_live_149 : decode cX8_live 149 = .ok (.iload 8, 2) := by decide +kernel
theorem dX8_live_151 : decode cX8_live 151 = .ok (.iconst 1, 1) := by decide +kernel
theorem dX8_live_152 : decode cX8_live 152 = .ok (.iadd, 1) := by decide +kernel
theorem dX8_live_153 : decode cX8_live 153 = .ok (.goto 4, 3) := by decide +kernel
theorem dX8_live_156 : decode cX8_live 156 = .ok (.iconst 0, 1) := by decide +kernel
theorem dX8_live_157 : decode cX8_live 157 = .ok (.invokevirtual 153, 3) := by decide +kernel
theorem dX8_live_160 : decode cX8_live 160 = .ok (.istore 11, 2) := by decide +kernel
theorem dX8_live_162 : decode cX8_live 162 = .ok (.iload 6, 2) := by decide +kernel
theorem dX8_live_164 : decode cX8_live 164 = .ok (.iload 11, 2) := by decide +kernel
theorem dX8_live_166 : decode cX8_live 166 = .ok (.ifCond .eq 7, 3) := by decide +kernel
theorem dX8_live_169 : decode cX8_live 169 = .ok (.iconst 1, 1) := by decide +kernel
theorem dX8_live_170 : decode cX8_live 170 = .ok (.goto 4, 3) := by decide +kernel
theorem dX8_live_173 : decode cX8_live 173 = .ok (.iconst 0, 1) := by decide +kernel
theorem dX8_live_174 : decode cX8_live 174 = .ok (.iadd, 1) := by decide +kernel
theorem dX8_live_175 : decode cX8_live 175 = .ok (.istore 6, 2) := by decide +kernel
theorem dX8_live_177 : decode cX8_live 177 = .ok (.iinc 7 1, 3) := by decide +kernel
theorem dX8_live_180 : decode cX8_live 180 = .ok (.goto (-136), 3) := by decide +kernel
theorem dX8_live_183 : decode cX8_live 183 = .ok (.iload 6, 2) := by decide +kernel
theorem dX8_live_185 : decode cX8_live 185 = .ok (.ireturn, 1) := by decide +kernel
theorem dX8_drawBelow_0 : decode cX8_drawBelow 0 = .ok (.aload_n 0, 1) := by decide +kernel
theorem dX8_drawBelow_1 : decode cX8_drawBelow 1 = .ok (.aload_n 0, 1) := by decide +kernel
theorem dX8_drawBelow_2 : decode cX8_drawBelow 2 = .ok (.getfield 30, 3) := by decide +kernel
theorem dX8_drawBelow_5 : decode cX8_drawBelow 5 = .ok (.ldc2_w 165, 3) := by decide +kernel
theorem dX8_drawBelow_8 : decode cX8_drawBelow 8 = .ok (.lmul, 1) := by decide +kernel
theorem dX8_drawBelow_9 : decode cX8_drawBelow 9 = .ok (.ldc2_w 167, 3) := by decide +kernel
theorem dX8_drawBelow_12 : decode cX8_drawBelow 12 = .ok (.ladd, 1) := by decide +kernel
theorem dX8_drawBelow_13 : decode cX8_drawBelow 13 = .ok (.ldc2_w 169, 3) := by decide +kernel
theorem dX8_drawBelow_16 : decode cX8_drawBelow 16 = .ok (.lrem, 1) := by decide +kernel
theorem dX8_drawBelow_17 : decode cX8_drawBelow 17 = .ok (.putfield 30, 3) := by decide +kernel
theorem dX8_drawBelow_20 : decode cX8_drawBelow 20 = .ok (.iload_n 1, 1) := by decide +kernel
theorem dX8_drawBelow_21 : decode cX8_drawBelow 21 = .ok (.ifCond .le 18, 3) := by decide +kernel
theorem dX8_drawBelow_24 : decode cX8_drawBelow 24 = .ok (.aload_n 0, 1) := by decide +kernel
theorem dX8_drawBelow_25 : decode cX8_drawBelow 25 = .ok (.getfield 30, 3) := by decide +kernel
theorem dX8_drawBelow_28 : decode cX8_drawBelow 28 = .ok (.ldc2_w 171, 3) := by decide +kernel
theorem dX8_drawBelow_31 : decode cX8_drawBelow 31 = .ok (.ldiv, 1) := by decide +kernel
theorem dX8_drawBelow_32 : decode cX8_drawBelow 32 = .ok (.iload_n 1, 1) := by decide +kernel
theorem dX8_drawBelow_33 : decode cX8_drawBelow 33 = .ok (.i2l, 1) := by decide +kernel
theorem dX8_drawBelow_34 : decode cX8_drawBelow 34 = .ok (.lrem, 1) := by decide +kernel
theorem dX8_drawBelow_35 : decode cX8_drawBelow 35 = .ok (.l2i, 1) := by decide +kernel
theorem dX8_drawBelow_36 : decode cX8_drawBelow 36 = .ok (.goto 4, 3) := by decide +kernel
theorem dX8_drawBelow_39 : decode cX8_drawBelow 39 = .ok (.iconst 0, 1) := by decide +kernel
theorem dX8_drawBelow_40 : decode cX8_drawBelow 40 = .ok (.ireturn, 1) := by decide +kernel
theorem dX9_withLetter_0 : decode cX9_withLetter 0 = .ok (.lload_n 0, 1) := by decide +kernel
theorem dX9_withLetter_1 : decode cX9_withLetter 1 = .ok (.ldc2_w 124, 3) := by decide +kernel
theorem dX9_withLetter_4 : decode cX9_withLetter 4 = .ok (.lmul, 1) := by decide +kernel
theorem dX9_withLetter_5 : decode cX9_withLetter 5 = .ok (.iload_n 2, 1) := by decide +kernel
theorem dX9_withLetter_6 : decode cX9_withLetter 6 = .ok (.bipush 97, 2) := by decide +kernel
theorem dX9_withLetter_8 : decode cX9_withLetter 8 = .ok (.isub, 1) := by decide +kernel
theorem dX9_withLetter_9 : decode cX9_withLetter 9 = .ok (.iconst 1, 1) := by decide +kernel
theorem dX9_withLetter_10 : decode cX9_withLetter 10 = .ok (.iadd, 1) := by decide +kernel
theorem dX9_withLetter_11 : decode cX9_withLetter 11 = .ok (.i2l, 1) := by decide +kernel
theorem dX9_withLetter_12 : decode cX9_withLetter 12 = .ok (.ladd, 1) := by decide +kernel
theorem dX9_withLetter_13 : decode cX9_withLetter 13 = .ok (.lreturn, 1) := by decide +kernel
theorem dX9_of_0 : decode cX9_of 0 = .ok (.getstatic 126, 3) := by decide +kernel
theorem dX9_of_3 : decode cX9_of 3 = .ok (.astore_n 2, 1) := by decide +kernel
theorem dX9_of_4 : decode cX9_of 4 = .ok (.aload_n 2, 1) := by decide +kernel
theorem dX9_of_5 : decode cX9_of 5 = .ok (.arraylength, 1) := by decide +kernel
theorem dX9_of_6 : decode cX9_of 6 = .ok (.istore_n 3, 1) := by decide +kernel
theorem dX9_of_7 : decode cX9_of 7 = .ok (.iconst 0, 1) := by decide +kernel
theorem dX9_of_8 : decode cX9_of 8 = .ok (.istore 4, 2) := by decide +kernel
theorem dX9_of_10 : decode cX9_of 10 = .ok (.iload 4, 2) := by decide +kernel
theorem dX9_of_12 : decode cX9_of 12 = .ok (.iload_n 3, 1) := by decide +kernel
theorem dX9_of_13 : decode cX9_of 13 = .ok (.if_icmp .ge 28, 3) := by decide +kernel
theorem dX9_of_16 : decode cX9_of 16 = .ok (.aload_n 2, 1) := by decide +kernel
theorem dX9_of_17 : decode cX9_of 17 = .ok (.iload 4, 2) := by decide +kernel
theorem dX9_of_19 : decode cX9_of 19 = .ok (.aaload, 1) := by decide +kernel
theorem dX9_of_20 : decode cX9_of 20 = .ok (.astore 5, 2) := by decide +kernel
theorem dX9_of_22 : decode cX9_of 22 = .ok (.aload 5, 2) := by decide +kernel
theorem dX9_of_24 : decode cX9_of 24 = .ok (.getfield 95, 3) := by decide +kernel
theorem dX9_of_27 : decode cX9_of 27 = .ok (.lload_n 0, 1) := by decide +kernel
theorem dX9_of_28 : decode cX9_of 28 = .ok (.lcmp, 1) := by decide +kernel
theorem dX9_of_29 : decode cX9_of 29 = .ok (.ifCond .ne 6, 3) := by decide +kernel
theorem dX9_of_32 : decode cX9_of 32 = .ok (.aload 5, 2) := by decide +kernel
theorem dX9_of_34 : decode cX9_of 34 = .ok (.areturn, 1) := by decide +kernel
theorem dX9_of_35 : decode cX9_of 35 = .ok (.iinc 4 1, 3) := by decide +kernel
theorem dX9_of_38 : decode cX9_of 38 = .ok (.goto (-28), 3) := by decide +kernel
theorem dX9_of_41 : decode cX9_of 41 = .ok (.getstatic 5, 3) := by decide +kernel
theorem dX9_of_44 : decode cX9_of 44 = .ok (.areturn, 1) := by decide +kernel
theorem dX10_init_0 : decode cX10_init 0 = .ok (.aload_n 0, 1) := by decide +kernel
theorem dX10_init_1 : decode cX10_init 1 = .ok (.invokespecial 3, 3) := by decide +kernel
theorem dX10_init_4 : decode cX10_init 4 = .ok (.aload_n 0, 1) := by decide +kernel
theorem dX10_init_5 : decode cX10_init 5 = .ok (.new 9, 3) := by decide +kernel
theorem dX10_init_8 : decode cX10_init 8 = .ok (.dup, 1) := by decide +kernel
theorem dX10_init_9 : decode cX10_init 9 = .ok (.bipush 30, 2) := by decide +kernel
theorem dX10_init_11 : decode cX10_init 11 = .ok (.invokespecial 11, 3) := by decide +kernel
theorem dX10_init_14 : decode cX10_init 14 = .ok (.putfield 14, 3) := by decide +kernel
theorem dX10_init_17 : decode cX10_init 17 = .ok (.aload_n 0, 1) := by decide +kernel
theorem dX10_init_18 : decode cX10_init 18 = .ok (.new 9, 3) := by decide +kernel
theorem dX10_init_21 : decode cX10_init 21 = .ok (.dup, 1) := by decide +kernel
theorem dX10_init_22 : decode cX10_init 22 = .ok (.bipush 30, 2) := by decide +kernel
theorem dX10_init_24 : decode cX10_init 24 = .ok (.invokespecial 11, 3) := by decide +kernel
theorem dX10_init_27 : decode cX10_init 27 = .ok (.putfield 20, 3) := by decide +kernel
theorem dX10_init_30 : decode cX10_init 30 = .ok (.aload_n 0, 1) := by decide +kernel
theorem dX10_init_31 : decode cX10_init 31 = .ok (.new 9, 3) := by decide +kernel
theorem dX10_init_34 : decode cX10_init 34 = .ok (.dup, 1) := by decide +kernel
theorem dX10_init_35 : decode cX10_init 35 = .ok (.bipush 30, 2) := by decide +kernel
theorem dX10_init_37 : decode cX10_init 37 = .ok (.invokespecial 11, 3) := by decide +kernel
theorem dX10_init_40 : decode cX10_init 40 = .ok (.putfield 23, 3) := by decide +kernel
theorem dX10_init_43 : decode cX10_init 43 = .ok (.aload_n 0, 1) := by decide +kernel
theorem dX10_init_44 : decode cX10_init 44 = .ok (.iconst 0, 1) := by decide +kernel
theorem dX10_init_45 : decode cX10_init 45 = .ok (.putfield 26, 3) := by decide +kernel
theorem dX10_init_48 : decode cX10_init 48 = .ok (.return_, 1) := by decide +kernel
theorem dX10_add_0 : decode cX10_add 0 = .ok (.aload_n 0, 1) := by decide +kernel
theorem dX10_add_1 : decode cX10_add 1 = .ok (.getfield 14, 3) := by decide +kernel
theorem dX10_add_4 : decode cX10_add 4 = .ok (.aload_n 0, 1) := by decide +kernel
theorem dX10_add_5 : decode cX10_add 5 = .ok (.getfield 26, 3) := by decide +kernel
theorem dX10_add_8 : decode cX10_add 8 = .ok (.iload_n 1, 1) := by decide +kernel
theorem dX10_add_9 : decode cX10_add 9 = .ok (.invokevirtual 30, 3) := by decide +kernel
theorem dX10_add_12 : decode cX10_add 12 = .ok (.aload_n 0, 1) := by decide +kernel
theorem dX10_add_13 : decode cX10_add 13 = .ok (.getfield 20, 3) := by decide +kernel
theorem dX10_add_16 : decode cX10_add 16 = .ok (.aload_n 0, 1) := by decide +kernel
theorem dX10_add_17 : decode cX10_add 17 = .ok (.getfield 26, 3) := by decide +kernel
theorem dX10_add_20 : decode cX10_add 20 = .ok (.iload_n 2, 1) := by decide +kernel
theorem dX10_add_21 : decode cX10_add 21 = .ok (.invokevirtual 30, 3) := by decide +kernel
theorem dX10_add_24 : decode cX10_add 24 = .ok (.aload_n 0, 1) := by decide +kernel
theorem dX10_add_25 : decode cX10_add 25 = .ok (.getfield 23, 3) := by decide +kernel
theorem dX10_add_28 : decode cX10_add 28 = .ok (.aload_n 0, 1) := by decide +kernel
theorem dX10_add_29 : decode cX10_add 29 = .ok (.getfield 26, 3) := by decide +kernel
theorem dX10_add_32 : decode cX10_add 32 = .ok (.iload_n 3, 1) := by decide +kernel
theorem dX10_add_33 : decode cX10_add 33 = .ok (.invokevirtual 30, 3) := by decide +kernel
theorem dX10_add_36 : decode cX10_add 36 = .ok (.aload_n 0, 1) := by decide +kernel
theorem dX10_add_37 : decode cX10_add 37 = .ok (.aload_n 0, 1) := by decide +kernel
theorem dX10_add_38 : decode cX10_add 38 = .ok (.getfield 26, 3) := by decide +kernel
theorem dX10_add_41 : decode cX10_add 41 = .ok (.iconst 1, 1) := by decide +kernel
theorem dX10_add_42 : decode cX10_add 42 = .ok (.iadd, 1) := by decide +kernel
theorem dX10_add_43 : decode cX10_add 43 = .ok (.bipush 30, 2) := by decide +kernel
theorem dX10_add_45 : decode cX10_add 45 = .ok (.invokestatic 34, 3) := by decide +kernel
theorem dX10_add_48 : decode cX10_add 48 = .ok (.putfield 26, 3) := by decide +kernel
theorem dX10_add_51 : decode cX10_add 51 = .ok (.return_, 1) := by decide +kernel
theorem dX10_copyFrom_0 : decode cX10_copyFrom 0 = .ok (.aload_n 0, 1) := by decide +kernel
theorem dX10_copyFrom_1 : decode cX10_copyFrom 1 = .ok (.getfield 14, 3) := by decide +kernel
theorem dX10_copyFrom_4 : decode cX10_copyFrom 4 = .ok (.aload_n 1, 1) := by decide +kernel
theorem dX10_copyFrom_5 : decode cX10_copyFrom 5 = .ok (.getfield 14, 3) := by decide +kernel
theorem dX10_copyFrom_8 : decode cX10_copyFrom 8 = .ok (.invokevirtual 40, 3) := by decide +kernel
theorem dX10_copyFrom_11 : decode cX10_copyFrom 11 = .ok (.aload_n 0, 1) := by decide +kernel
theorem dX10_copyFrom_12 : decode cX10_copyFrom 12 = .ok (.getfield 20, 3) := by decide +kernel
theorem dX10_copyFrom_15 : decode cX10_copyFrom 15 = .ok (.aload_n 1, 1) := by decide +kernel
theorem dX10_copyFrom_16 : decode cX10_copyFrom 16 = .ok (.getfield 20, 3) := by decide +kernel
theorem dX10_copyFrom_19 : decode cX10_copyFrom 19 = .ok (.invokevirtual 40, 3) := by decide +kernel
theorem dX10_copyFrom_22 : decode cX10_copyFrom 22 = .ok (.aload_n 0, 1) := by decide +kernel
theorem dX10_copyFrom_23 : decode cX10_copyFrom 23 = .ok (.getfield 23, 3) := by decide +kernel
theorem dX10_copyFrom_26 : decode cX10_copyFrom 26 = .ok (.aload_n 1, 1) := by decide +kernel
theorem dX10_copyFrom_27 : decode cX10_copyFrom 27 = .ok (.getfield 23, 3) := by decide +kernel
theorem dX10_copyFrom_30 : decode cX10_copyFrom 30 = .ok (.invokevirtual 40, 3) := by decide +kernel
theorem dX10_copyFrom_33 : decode cX10_copyFrom 33 = .ok (.aload_n 0, 1) := by decide +kernel
theorem dX10_copyFrom_34 : decode cX10_copyFrom 34 = .ok (.aload_n 1, 1) := by decide +kernel
theorem dX10_copyFrom_35 : decode cX10_copyFrom 35 = .ok (.getfield 26, 3) := by decide +kernel
theorem dX10_copyFrom_38 : decode cX10_copyFrom 38 = .ok (.putfield 26, 3) := by decide +kernel
theorem dX10_copyFrom_41 : decode cX10_copyFrom 41 = .ok (.return_, 1) := by decide +kernel
theorem dX11_init_0 : decode cX11_init 0 = .ok (.aload_n 0, 1) := by decide +kernel
theorem dX11_init_1 : decode cX11_init 1 = .ok (.invokespecial 1, 3) := by decide +kernel
theorem dX11_init_4 : decode cX11_init 4 = .ok (.aload_n 0, 1) := by decide +kernel
theorem dX11_init_5 : decode cX11_init 5 = .ok (.new 7, 3) := by decide +kernel
theorem dX11_init_8 : decode cX11_init 8 = .ok (.dup, 1) := by decide +kernel
theorem dX11_init_9 : decode cX11_init 9 = .ok (.invokespecial 9, 3) := by decide +kernel
theorem dX11_init_12 : decode cX11_init 12 = .ok (.putfield 10, 3) := by decide +kernel
theorem dX11_init_15 : decode cX11_init 15 = .ok (.aload_n 0, 1) := by decide +kernel
theorem dX11_init_16 : decode cX11_init 16 = .ok (.new 16, 3) := by decide +kernel
theorem dX11_init_19 : decode cX11_init 19 = .ok (.dup, 1) := by decide +kernel
theorem dX11_init_20 : decode cX11_init 20 = .ok (.invokespecial 18, 3) := by decide +kernel
theorem dX11_init_23 : decode cX11_init 23 = .ok (.putfield 19, 3) := by decide +kernel
theorem dX11_init_26 : decode cX11_init 26 = .ok (.aload_n 0, 1) := by decide +kernel
theorem dX11_init_27 : decode cX11_init 27 = .ok (.new 16, 3) := by decide +kernel
theorem dX11_init_30 : decode cX11_init 30 = .ok (.dup, 1) := by decide +kernel
theorem dX11_init_31 : decode cX11_init 31 = .ok (.invokespecial 18, 3) := by decide +kernel
theorem dX11_init_34 : decode cX11_init 34 = .ok (.putfield 23, 3) := by decide +kernel
theorem dX11_init_37 : decode cX11_init 37 = .ok (.aload_n 0, 1) := by decide +kernel
theorem dX11_init_38 : decode cX11_init 38 = .ok (.new 26, 3) := by decide +kernel
theorem dX11_init_41 : decode cX11_init 41 = .ok (.dup, 1) := by decide +kernel
theorem dX11_init_42 : decode cX11_init 42 = .ok (.invokespecial 28, 3) := by decide +kernel
theorem dX11_init_45 : decode cX11_init 45 = .ok (.putfield 29, 3) := by decide +kernel
theorem dX11_init_48 : decode cX11_init 48 = .ok (.aload_n 0, 1) := by decide +kernel
theorem dX11_init_49 : decode cX11_init 49 = .ok (.new 26, 3) := by decide +kernel
theorem dX11_init_52 : decode cX11_init 52 = .ok (.dup, 1) := by decide +kernel
theorem dX11_init_53 : decode cX11_init 53 = .ok (.invokespecial 28, 3) := by decide +kernel
theorem dX11_init_56 : decode cX11_init 56 = .ok (.putfield 33, 3) := by decide +kernel
theorem dX11_init_59 : decode cX11_init 59 = .ok (.aload_n 0, 1) := by decide +kernel
theorem dX11_init_60 : decode cX11_init 60 = .ok (.new 36, 3) := by decide +kernel
theorem dX11_init_63 : decode cX11_init 63 = .ok (.dup, 1) := by decide +kernel
theorem dX11_init_64 : decode cX11_init 64 = .ok (.aload_n 0, 1) := by decide +kernel
theorem dX11_init_65 : decode cX11_init 65 = .ok (.getfield 10, 3) := by decide +kernel
theorem dX11_init_68 : decode cX11_init 68 = .ok (.invokespecial 38, 3) := by decide +kernel
theorem dX11_init_71 : decode cX11_init 71 = .ok (.putfield 41, 3) := by decide +kernel
theorem dX11_init_74 : decode cX11_init 74 = .ok (.aload_n 0, 1) := by decide +kernel
theorem dX11_init_75 : decode cX11_init 75 = .ok (.new 45, 3) := by decide +kernel
theorem dX11_init_78 : decode cX11_init 78 = .ok (.dup, 1) := by decide +kernel
theorem dX11_init_79 : decode cX11_init 79 = .ok (.aload_n 0, 1) := by decide +kernel
theorem dX11_init_80 : decode cX11_init 80 = .ok (.getfield 19, 3) := by decide +kernel
theorem dX11_init_83 : decode cX11_init 83 = .ok (.invokespecial 47, 3) := by decide +kernel
theorem dX11_init_86 : decode cX11_init 86 = .ok (.putfield 50, 3) := by decide +kernel
theorem dX11_init_89 : decode cX11_init 89 = .ok (.aload_n 0, 1) := by decide +kernel
theorem dX11_init_90 : decode cX11_init 90 = .ok (.new 54, 3) := by decide +kernel
theorem dX11_init_93 : decode cX11_init 93 = .ok (.dup, 1) := by decide +kernel
theorem dX11_init_94 : decode cX11_init 94 = .ok (.aload_n 0, 1) := by decide +kernel
theorem dX11_init_95 : decode cX11_init 95 = .ok (.getfield 19, 3) := by decide +kernel
theorem dX11_init_98 : decode cX11_init 98 = .ok (.invokespecial 56, 3) := by decide +kernel
theorem dX11_init_101 : decode cX11_init 101 = .ok (.putfield 57, 3) := by decide +kernel
theorem dX11_init_104 : decode cX11_init 104 = .ok (.aload_n 0, 1) := by decide +kernel
theorem dX11_init_105 : decode cX11_init 105 = .ok (.new 61, 3) := by decide +kernel
theorem dX11_init_108 : decode cX11_init 108 = .ok (.dup, 1) := by decide +kernel
theorem dX11_init_109 : decode cX11_init 109 = .ok (.bipush 8, 2) := by decide +kernel
theorem dX11_init_111 : decode cX11_init 111 = .ok (.invokespecial 63, 3) := by decide +kernel
theorem dX11_init_114 : decode cX11_init 114 = .ok (.putfield 66, 3) := by decide +kernel
theorem dX11_init_117 : decode cX11_init 117 = .ok (.aload_n 0, 1) := by decide +kernel
theorem dX11_init_118 : decode cX11_init 118 = .ok (.iconst 0, 1) := by decide +kernel
theorem dX11_init_119 : decode cX11_init 119 = .ok (.putfield 70, 3) := by decide +kernel
theorem dX11_init_122 : decode cX11_init 122 = .ok (.aload_n 0, 1) := by decide +kernel
theorem dX11_init_123 : decode cX11_init 123 = .ok (.iconst 0, 1) := by decide +kernel
theorem dX11_init_124 : decode cX11_init 124 = .ok (.putfield 74, 3) := by decide +kernel
theorem dX11_init_127 : decode cX11_init 127 = .ok (.aload_n 0, 1) := by decide +kernel
theorem dX11_init_128 : decode cX11_init 128 = .ok (.bipush 8, 2) := by decide +kernel
theorem dX11_init_130 : decode cX11_init 130 = .ok (.anewarray 45, 3) := by decide +kernel
theorem dX11_init_133 : decode cX11_init 133 = .ok (.putfield 77, 3) := by decide +kernel
theorem dX11_init_136 : decode cX11_init 136 = .ok (.aload_n 0, 1) := by decide +kernel
theorem dX11_init_137 : decode cX11_init 137 = .ok (.iconst 0, 1) := by decide +kernel
theorem dX11_init_138 : decode cX11_init 138 = .ok (.putfield 81, 3) := by decide +kernel
theorem dX11_init_141 : decode cX11_init 141 = .ok (.aload_n 0, 1) := by decide +kernel
theorem dX11_init_142 : decode cX11_init 142 = .ok (.iconst 0, 1) := by decide +kernel
theorem dX11_init_143 : decode cX11_init 143 = .ok (.putfield 84, 3) := by decide +kernel
theorem dX11_init_146 : decode cX11_init 146 = .ok (.aload_n 0, 1) := by decide +kernel
theorem dX11_init_147 : decode cX11_init 147 = .ok (.iconst 2, 1) := by decide +kernel
theorem dX11_init_148 : decode cX11_init 148 = .ok (.anewarray 45, 3) := by decide +kernel
theorem dX11_init_151 : decode cX11_init 151 = .ok (.putfield 87, 3) := by decide +kernel
theorem dX11_init_154 : decode cX11_init 154 = .ok (.aload_n 0, 1) := by decide +kernel
theorem dX11_init_155 : decode cX11_init 155 = .ok (.new 61, 3) := by decide +kernel
theorem dX11_init_158 : decode cX11_init 158 = .ok (.dup, 1) := by decide +kernel
theorem dX11_init_159 : decode cX11_init 159 = .ok (.bipush 16, 2) := by decide +kernel
theorem dX11_init_161 : decode cX11_init 161 = .ok (.invokespecial 63, 3) := by decide +kernel
theorem dX11_init_164 : decode cX11_init 164 = .ok (.putfield 90, 3) := by decide +kernel
theorem dX11_init_167 : decode cX11_init 167 = .ok (.aload_n 0, 1) := by decide +kernel
theorem dX11_init_168 : decode cX11_init 168 = .ok (.new 61, 3) := by decide +kernel
theorem dX11_init_171 : decode cX11_init 171 = .ok (.dup, 1) := by decide +kernel
theorem dX11_init_172 : decode cX11_init 172 = .ok (.iconst 2, 1) := by decide +kernel
theorem dX11_init_173 : decode cX11_init 173 = .ok (.invokespecial 63, 3) := by decide +kernel
theorem dX11_init_176 : decode cX11_init 176 = .ok (.putfield 93, 3) := by decide +kernel
theorem dX11_init_179 : decode cX11_init 179 = .ok (.iconst 0, 1) := by decide +kernel
theorem dX11_init_180 : decode cX11_init 180 = .ok (.istore_n 1, 1) := by decide +kernel
theorem dX11_init_181 : decode cX11_init 181 = .ok (.iload_n 1, 1) := by decide +kernel
theorem dX11_init_182 : decode cX11_init 182 = .ok (.aload_n 0, 1) := by decide +kernel
theorem dX11_init_183 : decode cX11_init 183 = .ok (.getfield 77, 3) := by decide +kernel
theorem dX11_init_186 : decode cX11_init 186 = .ok (.arraylength, 1) := by decide +kernel
theorem dX11_init_187 : decode cX11_init 187 = .ok (.if_icmp .ge 26, 3) := by decide +kernel
theorem dX11_init_190 : decode cX11_init 190 = .ok (.aload_n 0, 1) := by decide +kernel
theorem dX11_init_191 : decode cX11_init 191 = .ok (.getfield 77, 3) := by decide +kernel
theorem dX11_init_194 : decode cX11_init 194 = .ok (.iload_n 1, 1) := by decide +kernel
theorem dX11_init_195 : decode cX11_init 195 = .ok (.new 45, 3) := by decide +kernel
theorem dX11_init_198 : decode cX11_init 198 = .ok (.dup, 1) := by decide +kernel
theorem dX11_init_199 : decode cX11_init 199 = .ok (.aload_n 0, 1) := by decide +kernel
theorem dX11_init_200 : decode cX11_init 200 = .ok (.getfield 19, 3) := by decide +kernel
theorem dX11_init_203 : decode cX11_init 203 = .ok (.invokespecial 47, 3) := by decide +kernel
theorem dX11_init_206 : decode cX11_init 206 = .ok (.aastore, 1) := by decide +kernel
theorem dX11_init_207 : decode cX11_init 207 = .ok (.iinc 1 1, 3) := by decide +kernel
theorem dX11_init_210 : decode cX11_init 210 = .ok (.goto (-29), 3) := by decide +kernel
theorem dX11_init_213 : decode cX11_init 213 = .ok (.iconst 0, 1) := by decide +kernel
theorem dX11_init_214 : decode cX11_init 214 = .ok (.istore_n 1, 1) := by decide +kernel
theorem dX11_init_215 : decode cX11_init 215 = .ok (.iload_n 1, 1) := by decide +kernel
theorem dX11_init_216 : decode cX11_init 216 = .ok (.aload_n 0, 1) := by decide +kernel
theorem dX11_init_217 : decode cX11_init 217 = .ok (.getfield 87, 3) := by decide +kernel
theorem dX11_init_220 : decode cX11_init 220 = .ok (.arraylength, 1) := by decide +kernel
theorem dX11_init_221 : decode cX11_init 221 = .ok (.if_icmp .ge 26, 3) := by decide +kernel
theorem dX11_init_224 : decode cX11_init 224 = .ok (.aload_n 0, 1) := by decide +kernel
theorem dX11_init_225 : decode cX11_init 225 = .ok (.getfield 87, 3) := by decide +kernel
theorem dX11_init_228 : decode cX11_init 228 = .ok (.iload_n 1, 1) := by decide +kernel
theorem dX11_init_229 : decode cX11_init 229 = .ok (.new 45, 3) := by decide +kernel
theorem dX11_init_232 : decode cX11_init 232 = .ok (.dup, 1) := by decide +kernel
theorem dX11_init_233 : decode cX11_init 233 = .ok (.aload_n 0, 1) := by decide +kernel
theorem dX11_init_234 : decode cX11_init 234 = .ok (.getfield 19, 3) := by decide +kernel
theorem dX11_init_237 : decode cX11_init 237 = .ok (.invokespecial 47, 3) := by decide +kernel
theorem dX11_init_240 : decode cX11_init 240 = .ok (.aastore, 1) := by decide +kernel
theorem dX11_init_241 : decode cX11_init 241 = .ok (.iinc 1 1, 3) := by decide +kernel
theorem dX11_init_244 : decode cX11_init 244 = .ok (.goto (-29), 3) := by decide +kernel
theorem dX11_init_247 : decode cX11_init 247 = .ok (.return_, 1) := by decide +kernel
theorem dX11_feed_0 : decode cX11_feed 0 = .ok (.aload_n 0, 1) := by decide +kernel
theorem dX11_feed_1 : decode cX11_feed 1 = .ok (.getfield 10, 3) := by decide +kernel
theorem dX11_feed_4 : decode cX11_feed 4 = .ok (.lload_n 1, 1) := by decide +kernel
theorem dX11_feed_5 : decode cX11_feed 5 = .ok (.invokevirtual 96, 3) := by decide +kernel
theorem dX11_feed_8 : decode cX11_feed 8 = .ok (.aload_n 0, 1) := by decide +kernel
theorem dX11_feed_9 : decode cX11_feed 9 = .ok (.getfield 10, 3) := by decide +kernel
theorem dX11_feed_12 : decode cX11_feed 12 = .ok (.lload_n 3, 1) := by decide +kernel
theorem dX11_feed_13 : decode cX11_feed 13 = .ok (.invokevirtual 96, 3) := by decide +kernel
theorem dX11_feed_16 : decode cX11_feed 16 = .ok (.aload_n 0, 1) := by decide +kernel
theorem dX11_feed_17 : decode cX11_feed 17 = .ok (.getfield 10, 3) := by decide +kernel
theorem dX11_feed_20 : decode cX11_feed 20 = .ok (.lload 5, 2) := by decide +kernel
theorem dX11_feed_22 : decode cX11_feed 22 = .ok (.invokevirtual 96, 3) := by decide +kernel
theorem dX11_feed_25 : decode cX11_feed 25 = .ok (.aload_n 0, 1) := by decide +kernel
theorem dX11_feed_26 : decode cX11_feed 26 = .ok (.getfield 10, 3) := by decide +kernel
theorem dX11_feed_29 : decode cX11_feed 29 = .ok (.getfield 100, 3) := by decide +kernel
theorem dX11_feed_32 : decode cX11_feed 32 = .ok (.ireturn, 1) := by decide +kernel
theorem dX11_queue_0 : decode cX11_queue 0 = .ok (.aload_n 0, 1) := by decide +kernel
theorem dX11_queue_1 : decode cX11_queue 1 = .ok (.getfield 41, 3) := by decide +kernel
theorem dX11_queue_4 : decode cX11_queue 4 = .ok (.aload_n 0, 1) := by decide +kernel
theorem dX11_queue_5 : decode cX11_queue 5 = .ok (.getfield 23, 3) := by decide +kernel
theorem dX11_queue_8 : decode cX11_queue 8 = .ok (.invokevirtual 103, 3) := by decide +kernel
theorem dX11_queue_11 : decode cX11_queue 11 = .ok (.istore_n 1, 1) := by decide +kernel
theorem dX11_queue_12 : decode cX11_queue 12 = .ok (.aload_n 0, 1) := by decide +kernel
theorem dX11_queue_13 : decode cX11_queue 13 = .ok (.getfield 10, 3) := by decide +kernel
theorem dX11_queue_16 : decode cX11_queue 16 = .ok (.iconst 0, 1) := by decide +kernel
theorem dX11_queue_17 : decode cX11_queue 17 = .ok (.putfield 100, 3) := by decide +kernel
theorem dX11_queue_20 : decode cX11_queue 20 = .ok (.iload_n 1, 1) := by decide +kernel
theorem dX11_queue_21 : decode cX11_queue 21 = .ok (.ifCond .ne 52, 3) := by decide +kernel
theorem dX11_queue_24 : decode cX11_queue 24 = .ok (.aload_n 0, 1) := by decide +kernel
theorem dX11_queue_25 : decode cX11_queue 25 = .ok (.getfield 19, 3) := by decide +kernel
theorem dX11_queue_28 : decode cX11_queue 28 = .ok (.aload_n 0, 1) := by decide +kernel
theorem dX11_queue_29 : decode cX11_queue 29 = .ok (.getfield 23, 3) := by decide +kernel
theorem dX11_queue_32 : decode cX11_queue 32 = .ok (.invokevirtual 107, 3) := by decide +kernel
theorem dX11_queue_35 : decode cX11_queue 35 = .ok (.aload_n 0, 1) := by decide +kernel
theorem dX11_queue_36 : decode cX11_queue 36 = .ok (.getfield 50, 3) := by decide +kernel
theorem dX11_queue_39 : decode cX11_queue 39 = .ok (.invokevirtual 110, 3) := by decide +kernel
theorem dX11_queue_42 : decode cX11_queue 42 = .ok (.aload_n 0, 1) := by decide +kernel
theorem dX11_queue_43 : decode cX11_queue 43 = .ok (.getfield 29, 3) := by decide +kernel
theorem dX11_queue_46 : decode cX11_queue 46 = .ok (.iconst 0, 1) := by decide +kernel
theorem dX11_queue_47 : decode cX11_queue 47 = .ok (.putfield 113, 3) := by decide +kernel
theorem dX11_queue_50 : decode cX11_queue 50 = .ok (.aload_n 0, 1) := by decide +kernel
theorem dX11_queue_51 : decode cX11_queue 51 = .ok (.iconst 0, 1) := by decide +kernel
theorem dX11_queue_52 : decode cX11_queue 52 = .ok (.putfield 70, 3) := by decide +kernel
theorem dX11_queue_55 : decode cX11_queue 55 = .ok (.aload_n 0, 1) := by decide +kernel
theorem dX11_queue_56 : decode cX11_queue 56 = .ok (.iconst 0, 1) := by decide +kernel
theorem dX11_queue_57 : decode cX11_queue 57 = .ok (.putfield 84, 3) := by decide +kernel
theorem dX11_queue_60 : decode cX11_queue 60 = .ok (.aload_n 0, 1) := by decide +kernel
theorem dX11_queue_61 : decode cX11_queue 61 = .ok (.iconst 0, 1) := by decide +kernel
theorem dX11_queue_62 : decode cX11_queue 62 = .ok (.putfield 74, 3) := by decide +kernel
theorem dX11_queue_65 : decode cX11_queue 65 = .ok (.aload_n 0, 1) := by decide +kernel
theorem dX11_queue_66 : decode cX11_queue 66 = .ok (.getfield 93, 3) := by decide +kernel
theorem dX11_queue_69 : decode cX11_queue 69 = .ok (.iconst (-1), 1) := by decide +kernel
theorem dX11_queue_70 : decode cX11_queue 70 = .ok (.invokevirtual 114, 3) := by decide +kernel
theorem dX11_queue_73 : decode cX11_queue 73 = .ok (.iload_n 1, 1) := by decide +kernel
theorem dX11_queue_74 : decode cX11_queue 74 = .ok (.ireturn, 1) := by decide +kernel
theorem dX11_work_0 : decode cX11_work 0 = .ok (.aload_n 0, 1) := by decide +kernel
theorem dX11_work_1 : decode cX11_work 1 = .ok (.getfield 41, 3) := by decide +kernel
theorem dX11_work_4 : decode cX11_work 4 = .ok (.aload_n 0, 1) := by decide +kernel
theorem dX11_work_5 : decode cX11_work 5 = .ok (.getfield 19, 3) := by decide +kernel
theorem dX11_work_8 : decode cX11_work 8 = .ok (.aload_n 0, 1) := by decide +kernel
theorem dX11_work_9 : decode cX11_work 9 = .ok (.getfield 33, 3) := by decide +kernel
theorem dX11_work_12 : decode cX11_work 12 = .ok (.invokevirtual 117, 3) := by decide +kernel
theorem dX11_work_15 : decode cX11_work 15 = .ok (.istore_n 1, 1) := by decide +kernel
theorem dX11_work_16 : decode cX11_work 16 = .ok (.aload_n 0, 1) := by decide +kernel
theorem dX11_work_17 : decode cX11_work 17 = .ok (.getfield 10, 3) := by decide +kernel
theorem dX11_work_20 : decode cX11_work 20 = .ok (.iconst 0, 1) := by decide +kernel
theorem dX11_work_21 : decode cX11_work 21 = .ok (.putfield 100, 3) := by decide +kernel
theorem dX11_work_24 : decode cX11_work 24 = .ok (.iload_n 1, 1) := by decide +kernel
theorem dX11_work_25 : decode cX11_work 25 = .ok (.ifCond .ne 14, 3) := by decide +kernel
theorem dX11_work_28 : decode cX11_work 28 = .ok (.aload_n 0, 1) := by decide +kernel
theorem dX11_work_29 : decode cX11_work 29 = .ok (.getfield 29, 3) := by decide +kernel
theorem dX11_work_32 : decode cX11_work 32 = .ok (.aload_n 0, 1) := by decide +kernel
theorem dX11_work_33 : decode cX11_work 33 = .ok (.getfield 33, 3) := by decide +kernel
theorem dX11_work_36 : decode cX11_work 36 = .ok (.invokevirtual 121, 3) := by decide +kernel
theorem dX11_work_39 : decode cX11_work 39 = .ok (.iload_n 1, 1) := by decide +kernel
theorem dX11_work_40 : decode cX11_work 40 = .ok (.ireturn, 1) := by decide +kernel
theorem dX11_item_0 : decode cX11_item 0 = .ok (.aload_n 0, 1) := by decide +kernel
theorem dX11_item_1 : decode cX11_item 1 = .ok (.iload_n 1, 1) := by decide +kernel
theorem dX11_item_2 : decode cX11_item 2 = .ok (.invokevirtual 124, 3) := by decide +kernel
theorem dX11_item_5 : decode cX11_item 5 = .ok (.ifCond .ne 6, 3) := by decide +kernel
theorem dX11_item_8 : decode cX11_item 8 = .ok (.bipush (-2), 2) := by decide +kernel
theorem dX11_item_10 : decode cX11_item 10 = .ok (.ireturn, 1) := by decide +kernel
theorem dX11_item_11 : decode cX11_item 11 = .ok (.iload_n 2, 1) := by decide +kernel
theorem dX11_item_12 : decode cX11_item 12 = .ok (.tableswitch 101 0 4 #[36, 48, 60, 72, 84], 36) := by decide +kernel
theorem dX11_item_48 : decode cX11_item 48 = .ok (.aload_n 0, 1) := by decide +kernel
theorem dX11_item_49 : decode cX11_item 49 = .ok (.getfield 19, 3) := by decide +kernel
theorem dX11_item_52 : decode cX11_item 52 = .ok (.getfield 128, 3) := by decide +kernel
theorem dX11_item_55 : decode cX11_item 55 = .ok (.iload_n 1, 1) := by decide +kernel
theorem dX11_item_56 : decode cX11_item 56 = .ok (.invokevirtual 131, 3) := by decide +kernel
theorem dX11_item_59 : decode cX11_item 59 = .ok (.ireturn, 1) := by decide +kernel
theorem dX11_item_60 : decode cX11_item 60 = .ok (.aload_n 0, 1) := by decide +kernel
theorem dX11_item_61 : decode cX11_item 61 = .ok (.getfield 50, 3) := by decide +kernel
theorem dX11_item_64 : decode cX11_item 64 = .ok (.getfield 135, 3) := by decide +kernel
theorem dX11_item_67 : decode cX11_item 67 = .ok (.iload_n 1, 1) := by decide +kernel
theorem dX11_item_68 : decode cX11_item 68 = .ok (.invokevirtual 131, 3) := by decide +kernel
theorem dX11_item_71 : decode cX11_item 71 = .ok (.ireturn, 1) := by decide +kernel
theorem dX11_item_72 : decode cX11_item 72 = .ok (.aload_n 0, 1) := by decide +kernel
theorem dX11_item_73 : decode cX11_item 73 = .ok (.getfield 50, 3) := by decide +kernel
theorem dX11_item_76 : decode cX11_item 76 = .ok (.getfield 138, 3) := by decide +kernel
theorem dX11_item_79 : decode cX11_item 79 = .ok (.iload_n 1, 1) := by decide +kernel
theorem dX11_item_80 : decode cX11_item 80 = .ok (.invokevirtual 131, 3) := by decide +kernel
theorem dX11_item_83 : decode cX11_item 83 = .ok (.ireturn, 1) := by decide +kernel
theorem dX11_item_84 : decode cX11_item 84 = .ok (.aload_n 0, 1) := by decide +kernel
theorem dX11_item_85 : decode cX11_item 85 = .ok (.getfield 50, 3) := by decide +kernel
theorem dX11_item_88 : decode cX11_item 88 = .ok (.getfield 141, 3) := by decide +kernel
theorem dX11_item_91 : decode cX11_item 91 = .ok (.iload_n 1, 1) := by decide +kernel
theorem dX11_item_92 : decode cX11_item 92 = .ok (.invokevirtual 131, 3) := by decide +kernel
theorem dX11_item_95 : decode cX11_item 95 = .ok (.ireturn, 1) := by decide +kernel
theorem dX11_item_96 : decode cX11_item 96 = .ok (.aload_n 0, 1) := by decide +kernel
theorem dX11_item_97 : decode cX11_item 97 = .ok (.getfield 50, 3) := by decide +kernel
theorem dX11_item_100 : decode cX11_item 100 = .ok (.iload_n 1, 1) := by decide +kernel
theorem dX11_item_101 : decode cX11_item 101 = .ok (.invokevirtual 144, 3) := by decide +kernel
theorem dX11_item_104 : decode cX11_item 104 = .ok (.ifCond .eq 7, 3) := by decide +kernel
theorem dX11_item_107 : decode cX11_item 107 = .ok (.iconst 1, 1) := by decide +kernel
theorem dX11_item_108 : decode cX11_item 108 = .ok (.goto 4, 3) := by decide +kernel
theorem dX11_item_111 : decode cX11_item 111 = .ok (.iconst 0, 1) := by decide +kernel
theorem dX11_item_112 : decode cX11_item 112 = .ok (.ireturn, 1) := by decide +kernel
theorem dX11_item_113 : decode cX11_item 113 = .ok (.bipush (-2), 2) := by decide +kernel
theorem dX11_item_115 : decode cX11_item 115 = .ok (.ireturn, 1) := by decide +kernel
theorem dX11_heap_0 : decode cX11_heap 0 = .ok (.aload_n 0, 1) := by decide +kernel
theorem dX11_heap_1 : decode cX11_heap 1 = .ok (.iload_n 1, 1) := by decide +kernel
theorem dX11_heap_2 : decode cX11_heap 2 = .ok (.invokevirtual 147, 3) := by decide +kernel
theorem dX11_heap_5 : decode cX11_heap 5 = .ok (.ifCond .ne 6, 3) := by decide +kernel
theorem dX11_heap_8 : decode cX11_heap 8 = .ok (.bipush (-2), 2) := by decide +kernel
theorem dX11_heap_10 : decode cX11_heap 10 = .ok (.ireturn, 1) := by decide +kernel
theorem dX11_heap_11 : decode cX11_heap 11 = .ok (.iload_n 2, 1) := by decide +kernel
theorem dX11_heap_12 : decode cX11_heap 12 = .ok (.tableswitch 68 0 3 #[32, 41, 50, 59], 32) := by decide +kernel
theorem dX11_heap_44 : decode cX11_heap 44 = .ok (.aload_n 0, 1) := by decide +kernel
theorem dX11_heap_45 : decode cX11_heap 45 = .ok (.getfield 50, 3) := by decide +kernel
theorem dX11_heap_48 : decode cX11_heap 48 = .ok (.iload_n 1, 1) := by decide +kernel
theorem dX11_heap_49 : decode cX11_heap 49 = .ok (.invokevirtual 150, 3) := by decide +kernel
theorem dX11_heap_52 : decode cX11_heap 52 = .ok (.ireturn, 1) := by decide +kernel
theorem dX11_heap_53 : decode cX11_heap 53 = .ok (.aload_n 0, 1) := by decide +kernel
theorem dX11_heap_54 : decode cX11_heap 54 = .ok (.getfield 50, 3) := by decide +kernel
theorem dX11_heap_57 : decode cX11_heap 57 = .ok (.iload_n 1, 1) := by decide +kernel
theorem dX11_heap_58 : decode cX11_heap 58 = .ok (.invokevirtual 153, 3) := by decide +kernel
theorem dX11_heap_61 : decode cX11_heap 61 = .ok (.ireturn, 1) := by decide +kernel
theorem dX11_heap_62 : decode cX11_heap 62 = .ok (.aload_n 0, 1) := by decide +kernel
theorem dX11_heap_63 : decode cX11_heap 63 = .ok (.getfield 50, 3) := by decide +kernel
theorem dX11_heap_66 : decode cX11_heap 66 = .ok (.iload_n 1, 1) := by decide +kernel
theorem dX11_heap_67 : decode cX11_heap 67 = .ok (.invokevirtual 156, 3) := by decide +kernel
theorem dX11_heap_70 : decode cX11_heap 70 = .ok (.ireturn, 1) := by decide +kernel
theorem dX11_heap_71 : decode cX11_heap 71 = .ok (.aload_n 0, 1) := by decide +kernel
theorem dX11_heap_72 : decode cX11_heap 72 = .ok (.getfield 50, 3) := by decide +kernel
theorem dX11_heap_75 : decode cX11_heap 75 = .ok (.iload_n 1, 1) := by decide +kernel
theorem dX11_heap_76 : decode cX11_heap 76 = .ok (.invokevirtual 159, 3) := by decide +kernel
theorem dX11_heap_79 : decode cX11_heap 79 = .ok (.ireturn, 1) := by decide +kernel
theorem dX11_heap_80 : decode cX11_heap 80 = .ok (.bipush (-2), 2) := by decide +kernel
theorem dX11_heap_82 : decode cX11_heap 82 = .ok (.ireturn, 1) := by decide +kernel
theorem dX11_tree_0 : decode cX11_tree 0 = .ok (.aload_n 0, 1) := by decide +kernel
theorem dX11_tree_1 : decode cX11_tree 1 = .ok (.iload_n 1, 1) := by decide +kernel
theorem dX11_tree_2 : decode cX11_tree 2 = .ok (.invokevirtual 147, 3) := by decide +kernel
theorem dX11_tree_5 : decode cX11_tree 5 = .ok (.ifCond .eq 15, 3) := by decide +kernel
theorem dX11_tree_8 : decode cX11_tree 8 = .ok (.aload_n 0, 1) := by decide +kernel
theorem dX11_tree_9 : decode cX11_tree 9 = .ok (.getfield 50, 3) := by decide +kernel
theorem dX11_tree_12 : decode cX11_tree 12 = .ok (.iload_n 1, 1) := by decide +kernel
theorem dX11_tree_13 : decode cX11_tree 13 = .ok (.iload_n 2, 1) := by decide +kernel
theorem dX11_tree_14 : decode cX11_tree 14 = .ok (.invokevirtual 162, 3) := by decide +kernel
theorem dX11_tree_17 : decode cX11_tree 17 = .ok (.goto 4, 3) := by decide +kernel
theorem dX11_tree_20 : decode cX11_tree 20 = .ok (.iconst (-1), 1) := by decide +kernel
theorem dX11_tree_21 : decode cX11_tree 21 = .ok (.istore 4, 2) := by decide +kernel
theorem dX11_tree_23 : decode cX11_tree 23 = .ok (.iload 4, 2) := by decide +kernel
theorem dX11_tree_25 : decode cX11_tree 25 = .ok (.iconst (-1), 1) := by decide +kernel
theorem dX11_tree_26 : decode cX11_tree 26 = .ok (.if_icmp .ne 5, 3) := by decide +kernel
theorem dX11_tree_29 : decode cX11_tree 29 = .ok (.iconst (-1), 1) := by decide +kernel
theorem dX11_tree_30 : decode cX11_tree 30 = .ok (.ireturn, 1) := by decide +kernel
theorem dX11_tree_31 : decode cX11_tree 31 = .ok (.iload_n 3, 1) := by decide +kernel
theorem dX11_tree_32 : decode cX11_tree 32 = .ok (.tableswitch 108 0 4 #[36, 49, 62, 75, 98], 36) := by decide +kernel
theorem dX11_tree_68 : decode cX11_tree 68 = .ok (.aload_n 0, 1) := by decide +kernel
theorem dX11_tree_69 : decode cX11_tree 69 = .ok (.getfield 50, 3) := by decide +kernel
theorem dX11_tree_72 : decode cX11_tree 72 = .ok (.getfield 166, 3) := by decide +kernel
theorem dX11_tree_75 : decode cX11_tree 75 = .ok (.iload 4, 2) := by decide +kernel
theorem dX11_tree_77 : decode cX11_tree 77 = .ok (.invokevirtual 131, 3) := by decide +kernel
theorem dX11_tree_80 : decode cX11_tree 80 = .ok (.ireturn, 1) := by decide +kernel
theorem dX11_tree_81 : decode cX11_tree 81 = .ok (.aload_n 0, 1) := by decide +kernel
theorem dX11_tree_82 : decode cX11_tree 82 = .ok (.getfield 50, 3) := by decide +kernel
theorem dX11_tree_85 : decode cX11_tree 85 = .ok (.getfield 169, 3) := by decide +kernel
theorem dX11_tree_88 : decode cX11_tree 88 = .ok (.iload 4, 2) := by decide +kernel
theorem dX11_tree_90 : decode cX11_tree 90 = .ok (.invokevirtual 131, 3) := by decide +kernel
theorem dX11_tree_93 : decode cX11_tree 93 = .ok (.ireturn, 1) := by decide +kernel
theorem dX11_tree_94 : decode cX11_tree 94 = .ok (.aload_n 0, 1) := by decide +kernel
theorem dX11_tree_95 : decode cX11_tree 95 = .ok (.getfield 50, 3) := by decide +kernel
theorem dX11_tree_98 : decode cX11_tree 98 = .ok (.getfield 172, 3) := by decide +kernel
theorem dX11_tree_101 : decode cX11_tree 101 = .ok (.iload 4, 2) := by decide +kernel
theorem dX11_tree_103 : decode cX11_tree 103 = .ok (.invokevirtual 131, 3) := by decide +kernel
theorem dX11_tree_106 : decode cX11_tree 106 = .ok (.ireturn, 1) := by decide +kernel
theorem dX11_tree_107 : decode cX11_tree 107 = .ok (.aload_n 0, 1) := by decide +kernel
theorem dX11_tree_108 : decode cX11_tree 108 = .ok (.getfield 19, 3) := by decide +kernel
theorem dX11_tree_111 : decode cX11_tree 111 = .ok (.aload_n 0, 1) := by decide +kernel
theorem dX11_tree_112 : decode cX11_tree 112 = .ok (.getfield 50, 3) := by decide +kernel
theorem dX11_tree_115 : decode cX11_tree 115 = .ok (.getfield 175, 3) := by decide +kernel
theorem dX11_tree_118 : decode cX11_tree 118 = .ok (.iload 4, 2) := by decide +kernel
theorem dX11_tree_120 : decode cX11_tree 120 = .ok (.invokevirtual 131, 3) := by decide +kernel
theorem dX11_tree_123 : decode cX11_tree 123 = .ok (.invokevirtual 178, 3) := by decide +kernel
theorem dX11_tree_126 : decode cX11_tree 126 = .ok (.invokestatic 182, 3) := by decide +kernel
theorem dX11_tree_129 : decode cX11_tree 129 = .ok (.ireturn, 1) := by decide +kernel
theorem dX11_tree_130 : decode cX11_tree 130 = .ok (.aload_n 0, 1) := by decide +kernel
theorem dX11_tree_131 : decode cX11_tree 131 = .ok (.getfield 50, 3) := by decide +kernel
theorem dX11_tree_134 : decode cX11_tree 134 = .ok (.iload 4, 2) := by decide +kernel
theorem dX11_tree_136 : decode cX11_tree 136 = .ok (.invokevirtual 186, 3) := by decide +kernel
theorem dX11_tree_139 : decode cX11_tree 139 = .ok (.ireturn, 1) := by decide +kernel
theorem dX11_tree_140 : decode cX11_tree 140 = .ok (.iconst (-1), 1) := by decide +kernel
theorem dX11_tree_141 : decode cX11_tree 141 = .ok (.ireturn, 1) := by decide +kernel
theorem dX11_listed_0 : decode cX11_listed 0 = .ok (.aload_n 0, 1) := by decide +kernel
theorem dX11_listed_1 : decode cX11_listed 1 = .ok (.iload_n 1, 1) := by decide +kernel
theorem dX11_listed_2 : decode cX11_listed 2 = .ok (.invokevirtual 147, 3) := by decide +kernel
theorem dX11_listed_5 : decode cX11_listed 5 = .ok (.ifCond .eq 15, 3) := by decide +kernel
theorem dX11_listed_8 : decode cX11_listed 8 = .ok (.aload_n 0, 1) := by decide +kernel
theorem dX11_listed_9 : decode cX11_listed 9 = .ok (.getfield 50, 3) := by decide +kernel
theorem dX11_listed_12 : decode cX11_listed 12 = .ok (.iload_n 1, 1) := by decide +kernel
theorem dX11_listed_13 : decode cX11_listed 13 = .ok (.iload_n 2, 1) := by decide +kernel
theorem dX11_listed_14 : decode cX11_listed 14 = .ok (.invokevirtual 162, 3) := by decide +kernel
theorem dX11_listed_17 : decode cX11_listed 17 = .ok (.goto 4, 3) := by decide +kernel
theorem dX11_listed_20 : decode cX11_listed 20 = .ok (.iconst (-1), 1) := by decide +kernel
theorem dX11_listed_21 : decode cX11_listed 21 = .ok (.istore 4, 2) := by decide +kernel
theorem dX11_listed_23 : decode cX11_listed 23 = .ok (.iload 4, 2) := by decide +kernel
theorem dX11_listed_25 : decode cX11_listed 25 = .ok (.iconst (-1), 1) := by decide +kernel
theorem dX11_listed_26 : decode cX11_listed 26 = .ok (.if_icmp .ne 7, 3) := by decide +kernel
theorem dX11_listed_29 : decode cX11_listed 29 = .ok (.iconst (-1), 1) := by decide +kernel
theorem dX11_listed_30 : decode cX11_listed 30 = .ok (.goto 13, 3) := by decide +kernel
theorem dX11_listed_33 : decode cX11_listed 33 = .ok (.aload_n 0, 1) := by decide +kernel
theorem dX11_listed_34 : decode cX11_listed 34 = .ok (.getfield 50, 3) := by decide +kernel
theorem dX11_listed_37 : decode cX11_listed 37 = .ok (.iload 4, 2) := by decide +kernel
theorem dX11_listed_39 : decode cX11_listed 39 = .ok (.iload_n 3, 1) := by decide +kernel
theorem dX11_listed_40 : decode cX11_listed 40 = .ok (.invokevirtual 189, 3) := by decide +kernel
theorem dX11_listed_43 : decode cX11_listed 43 = .ok (.ireturn, 1) := by decide +kernel
theorem dX11_shelf_0 : decode cX11_shelf 0 = .ok (.aload_n 0, 1) := by decide +kernel
theorem dX11_shelf_1 : decode cX11_shelf 1 = .ok (.iload_n 1, 1) := by decide +kernel
theorem dX11_shelf_2 : decode cX11_shelf 2 = .ok (.invokevirtual 192, 3) := by decide +kernel
theorem dX11_shelf_5 : decode cX11_shelf 5 = .ok (.ifCond .eq 14, 3) := by decide +kernel
theorem dX11_shelf_8 : decode cX11_shelf 8 = .ok (.aload_n 0, 1) := by decide +kernel
theorem dX11_shelf_9 : decode cX11_shelf 9 = .ok (.getfield 50, 3) := by decide +kernel
theorem dX11_shelf_12 : decode cX11_shelf 12 = .ok (.iload_n 1, 1) := by decide +kernel
theorem dX11_shelf_13 : decode cX11_shelf 13 = .ok (.invokevirtual 195, 3) := by decide +kernel
theorem dX11_shelf_16 : decode cX11_shelf 16 = .ok (.goto 4, 3) := by decide +kernel
theorem dX11_shelf_19 : decode cX11_shelf 19 = .ok (.iconst (-1), 1) := by decide +kernel
theorem dX11_shelf_20 : decode cX11_shelf 20 = .ok (.ireturn, 1) := by decide +kernel
theorem dX11_put_0 : decode cX11_put 0 = .ok (.aload_n 0, 1) := by decide +kernel
theorem dX11_put_1 : decode cX11_put 1 = .ok (.iload_n 1, 1) := by decide +kernel
theorem dX11_put_2 : decode cX11_put 2 = .ok (.invokevirtual 124, 3) := by decide +kernel
theorem dX11_put_5 : decode cX11_put 5 = .ok (.ifCond .eq 26, 3) := by decide +kernel
theorem dX11_put_8 : decode cX11_put 8 = .ok (.aload_n 0, 1) := by decide +kernel
theorem dX11_put_9 : decode cX11_put 9 = .ok (.iload_n 2, 1) := by decide +kernel
theorem dX11_put_10 : decode cX11_put 10 = .ok (.invokevirtual 147, 3) := by decide +kernel
theorem dX11_put_13 : decode cX11_put 13 = .ok (.ifCond .eq 18, 3) := by decide +kernel
theorem dX11_put_16 : decode cX11_put 16 = .ok (.aload_n 0, 1) := by decide +kernel
theorem dX11_put_17 : decode cX11_put 17 = .ok (.getfield 50, 3) := by decide +kernel
theorem dX11_put_20 : decode cX11_put 20 = .ok (.getfield 135, 3) := by decide +kernel
theorem dX11_put_23 : decode cX11_put 23 = .ok (.iload_n 1, 1) := by decide +kernel
theorem dX11_put_24 : decode cX11_put 24 = .ok (.invokevirtual 131, 3) := by decide +kernel
theorem dX11_put_27 : decode cX11_put 27 = .ok (.iconst (-1), 1) := by decide +kernel
theorem dX11_put_28 : decode cX11_put 28 = .ok (.if_icmp .eq 5, 3) := by decide +kernel
theorem dX11_put_31 : decode cX11_put 31 = .ok (.iconst 0, 1) := by decide +kernel
theorem dX11_put_32 : decode cX11_put 32 = .ok (.ireturn, 1) := by decide +kernel
theorem dX11_put_33 : decode cX11_put 33 = .ok (.aload_n 0, 1) := by decide +kernel
theorem dX11_put_34 : decode cX11_put 34 = .ok (.invokevirtual 198, 3) := by decide +kernel
theorem dX11_put_37 : decode cX11_put 37 = .ok (.aload_n 0, 1) := by decide +kernel
theorem dX11_put_38 : decode cX11_put 38 = .ok (.getfield 50, 3) := by decide +kernel
theorem dX11_put_41 : decode cX11_put 41 = .ok (.iload_n 1, 1) := by decide +kernel
theorem dX11_put_42 : decode cX11_put 42 = .ok (.iload_n 2, 1) := by decide +kernel
theorem dX11_put_43 : decode cX11_put 43 = .ok (.invokevirtual 201, 3) := by decide +kernel
theorem dX11_put_46 : decode cX11_put 46 = .ok (.ireturn, 1) := by decide +kernel
theorem dX11_take_0 : decode cX11_take 0 = .ok (.aload_n 0, 1) := by decide +kernel
theorem dX11_take_1 : decode cX11_take 1 = .ok (.iload_n 1, 1) := by decide +kernel
theorem dX11_take_2 : decode cX11_take 2 = .ok (.invokevirtual 147, 3) := by decide +kernel
theorem dX11_take_5 : decode cX11_take 5 = .ok (.ifCond .eq 14, 3) := by decide +kernel
theorem dX11_take_8 : decode cX11_take 8 = .ok (.aload_n 0, 1) := by decide +kernel
theorem dX11_take_9 : decode cX11_take 9 = .ok (.getfield 50, 3) := by decide +kernel
theorem dX11_take_12 : decode cX11_take 12 = .ok (.iload_n 1, 1) := by decide +kernel
theorem dX11_take_13 : decode cX11_take 13 = .ok (.invokevirtual 150, 3) := by decide +kernel
theorem dX11_take_16 : decode cX11_take 16 = .ok (.ifCond .ne 5, 3) := by decide +kernel
theorem dX11_take_19 : decode cX11_take 19 = .ok (.iconst (-1), 1) := by decide +kernel
theorem dX11_take_20 : decode cX11_take 20 = .ok (.ireturn, 1) := by decide +kernel
theorem dX11_take_21 : decode cX11_take 21 = .ok (.aload_n 0, 1) := by decide +kernel
theorem dX11_take_22 : decode cX11_take 22 = .ok (.invokevirtual 198, 3) := by decide +kernel
theorem dX11_take_25 : decode cX11_take 25 = .ok (.aload_n 0, 1) := by decide +kernel
theorem dX11_take_26 : decode cX11_take 26 = .ok (.getfield 50, 3) := by decide +kernel
theorem dX11_take_29 : decode cX11_take 29 = .ok (.iload_n 1, 1) := by decide +kernel
theorem dX11_take_30 : decode cX11_take 30 = .ok (.invokevirtual 205, 3) := by decide +kernel
theorem dX11_take_33 : decode cX11_take 33 = .ok (.ireturn, 1) := by decide +kernel
theorem dX11_meld_0 : decode cX11_meld 0 = .ok (.aload_n 0, 1) := by decide +kernel
theorem dX11_meld_1 : decode cX11_meld 1 = .ok (.iload_n 1, 1) := by decide +kernel
theorem dX11_meld_2 : decode cX11_meld 2 = .ok (.invokevirtual 147, 3) := by decide +kernel
theorem dX11_meld_5 : decode cX11_meld 5 = .ok (.ifCond .eq 16, 3) := by decide +kernel
theorem dX11_meld_8 : decode cX11_meld 8 = .ok (.aload_n 0, 1) := by decide +kernel
theorem dX11_meld_9 : decode cX11_meld 9 = .ok (.iload_n 2, 1) := by decide +kernel
theorem dX11_meld_10 : decode cX11_meld 10 = .ok (.invokevirtual 147, 3) := by decide +kernel
theorem dX11_meld_13 : decode cX11_meld 13 = .ok (.ifCond .eq 8, 3) := by decide +kernel
theorem dX11_meld_16 : decode cX11_meld 16 = .ok (.iload_n 1, 1) := by decide +kernel
theorem dX11_meld_17 : decode cX11_meld 17 = .ok (.iload_n 2, 1) := by decide +kernel
theorem dX11_meld_18 : decode cX11_meld 18 = .ok (.if_icmp .ne 5, 3) := by decide +kernel
theorem dX11_meld_21 : decode cX11_meld 21 = .ok (.iconst 0, 1) := by decide +kernel
theorem dX11_meld_22 : decode cX11_meld 22 = .ok (.ireturn, 1) := by decide +kernel
theorem dX11_meld_23 : decode cX11_meld 23 = .ok (.aload_n 0, 1) := by decide +kernel
theorem dX11_meld_24 : decode cX11_meld 24 = .ok (.invokevirtual 198, 3) := by decide +kernel
theorem dX11_meld_27 : decode cX11_meld 27 = .ok (.aload_n 0, 1) := by decide +kernel
theorem dX11_meld_28 : decode cX11_meld 28 = .ok (.getfield 50, 3) := by decide +kernel
theorem dX11_meld_31 : decode cX11_meld 31 = .ok (.iload_n 1, 1) := by decide +kernel
theorem dX11_meld_32 : decode cX11_meld 32 = .ok (.iload_n 2, 1) := by decide +kernel
theorem dX11_meld_33 : decode cX11_meld 33 = .ok (.invokevirtual 208, 3) := by decide +kernel
theorem dX11_meld_36 : decode cX11_meld 36 = .ok (.ireturn, 1) := by decide +kernel
theorem dX11_shelve_0 : decode cX11_shelve 0 = .ok (.aload_n 0, 1) := by decide +kernel
theorem dX11_shelve_1 : decode cX11_shelve 1 = .ok (.iload_n 1, 1) := by decide +kernel
theorem dX11_shelve_2 : decode cX11_shelve 2 = .ok (.invokevirtual 147, 3) := by decide +kernel
theorem dX11_shelve_5 : decode cX11_shelve 5 = .ok (.ifCond .eq 22, 3) := by decide +kernel
theorem dX11_shelve_8 : decode cX11_shelve 8 = .ok (.aload_n 0, 1) := by decide +kernel
theorem dX11_shelve_9 : decode cX11_shelve 9 = .ok (.iload_n 2, 1) := by decide +kernel
theorem dX11_shelve_10 : decode cX11_shelve 10 = .ok (.invokevirtual 192, 3) := by decide +kernel
theorem dX11_shelve_13 : decode cX11_shelve 13 = .ok (.ifCond .eq 14, 3) := by decide +kernel
theorem dX11_shelve_16 : decode cX11_shelve 16 = .ok (.aload_n 0, 1) := by decide +kernel
theorem dX11_shelve_17 : decode cX11_shelve 17 = .ok (.getfield 50, 3) := by decide +kernel
theorem dX11_shelve_20 : decode cX11_shelve 20 = .ok (.iload_n 1, 1) := by decide +kernel
theorem dX11_shelve_21 : decode cX11_shelve 21 = .ok (.invokevirtual 150, 3) := by decide +kernel
theorem dX11_shelve_24 : decode cX11_shelve 24 = .ok (.ifCond .ne 5, 3) := by decide +kernel
theorem dX11_shelve_27 : decode cX11_shelve 27 = .ok (.iconst (-1), 1) := by decide +kernel
theorem dX11_shelve_28 : decode cX11_shelve 28 = .ok (.ireturn, 1) := by decide +kernel
theorem dX11_shelve_29 : decode cX11_shelve 29 = .ok (.aload_n 0, 1) := by decide +kernel
theorem dX11_shelve_30 : decode cX11_shelve 30 = .ok (.invokevirtual 198, 3) := by decide +kernel
theorem dX11_shelve_33 : decode cX11_shelve 33 = .ok (.aload_n 0, 1) := by decide +kernel
theorem dX11_shelve_34 : decode cX11_shelve 34 = .ok (.getfield 50, 3) := by decide +kernel
theorem dX11_shelve_37 : decode cX11_shelve 37 = .ok (.iload_n 1, 1) := by decide +kernel
theorem dX11_shelve_38 : decode cX11_shelve 38 = .ok (.iload_n 2, 1) := by decide +kernel
theorem dX11_shelve_39 : decode cX11_shelve 39 = .ok (.invokevirtual 211, 3) := by decide +kernel
theorem dX11_shelve_42 : decode cX11_shelve 42 = .ok (.ireturn, 1) := by decide +kernel
theorem dX11_undo_0 : decode cX11_undo 0 = .ok (.aload_n 0, 1) := by decide +kernel
theorem dX11_undo_1 : decode cX11_undo 1 = .ok (.getfield 84, 3) := by decide +kernel
theorem dX11_undo_4 : decode cX11_undo 4 = .ok (.ifCond .ne 5, 3) := by decide +kernel
theorem dX11_undo_7 : decode cX11_undo 7 = .ok (.iconst 0, 1) := by decide +kernel
theorem dX11_undo_8 : decode cX11_undo 8 = .ok (.ireturn, 1) := by decide +kernel
theorem dX11_undo_9 : decode cX11_undo 9 = .ok (.aload_n 0, 1) := by decide +kernel
theorem dX11_undo_10 : decode cX11_undo 10 = .ok (.getfield 50, 3) := by decide +kernel
theorem dX11_undo_13 : decode cX11_undo 13 = .ok (.aload_n 0, 1) := by decide +kernel
theorem dX11_undo_14 : decode cX11_undo 14 = .ok (.aload_n 0, 1) := by decide +kernel
theorem dX11_undo_15 : decode cX11_undo 15 = .ok (.getfield 77, 3) := by decide +kernel
theorem dX11_undo_18 : decode cX11_undo 18 = .ok (.aload_n 0, 1) := by decide +kernel
theorem dX11_undo_19 : decode cX11_undo 19 = .ok (.getfield 81, 3) := by decide +kernel
theorem dX11_undo_22 : decode cX11_undo 22 = .ok (.invokevirtual 214, 3) := by decide +kernel
theorem dX11_undo_25 : decode cX11_undo 25 = .ok (.invokevirtual 218, 3) := by decide +kernel
theorem dX11_undo_28 : decode cX11_undo 28 = .ok (.aload_n 0, 1) := by decide +kernel
theorem dX11_undo_29 : decode cX11_undo 29 = .ok (.aload_n 0, 1) := by decide +kernel
theorem dX11_undo_30 : decode cX11_undo 30 = .ok (.getfield 81, 3) := by decide +kernel
theorem dX11_undo_33 : decode cX11_undo 33 = .ok (.bipush 8, 2) := by decide +kernel
theorem dX11_undo_35 : decode cX11_undo 35 = .ok (.iadd, 1) := by decide +kernel
theorem dX11_undo_36 : decode cX11_undo 36 = .ok (.iconst 1, 1) := by decide +kernel
theorem dX11_undo_37 : decode cX11_undo 37 = .ok (.isub, 1) := by decide +kernel
theorem dX11_undo_38 : decode cX11_undo 38 = .ok (.bipush 8, 2) := by decide +kernel
theorem dX11_undo_40 : decode cX11_undo 40 = .ok (.irem, 1) := by decide +kernel
theorem dX11_undo_41 : decode cX11_undo 41 = .ok (.putfield 81, 3) := by decide +kernel
theorem dX11_undo_44 : decode cX11_undo 44 = .ok (.aload_n 0, 1) := by decide +kernel
theorem dX11_undo_45 : decode cX11_undo 45 = .ok (.dup, 1) := by decide +kernel
theorem dX11_undo_46 : decode cX11_undo 46 = .ok (.getfield 84, 3) := by decide +kernel
theorem dX11_undo_49 : decode cX11_undo 49 = .ok (.iconst 1, 1) := by decide +kernel
theorem dX11_undo_50 : decode cX11_undo 50 = .ok (.isub, 1) := by decide +kernel
theorem dX11_undo_51 : decode cX11_undo 51 = .ok (.putfield 84, 3) := by decide +kernel
theorem dX11_undo_54 : decode cX11_undo 54 = .ok (.iconst 1, 1) := by decide +kernel
theorem dX11_undo_55 : decode cX11_undo 55 = .ok (.ireturn, 1) := by decide +kernel
theorem dX11_judged_0 : decode cX11_judged 0 = .ok (.iload_n 1, 1) := by decide +kernel
theorem dX11_judged_1 : decode cX11_judged 1 = .ok (.ifCond .lt 8, 3) := by decide +kernel
theorem dX11_judged_4 : decode cX11_judged 4 = .ok (.iload_n 1, 1) := by decide +kernel
theorem dX11_judged_5 : decode cX11_judged 5 = .ok (.iconst 2, 1) := by decide +kernel
theorem dX11_judged_6 : decode cX11_judged 6 = .ok (.if_icmp .le 6, 3) := by decide +kernel
theorem dX11_judged_9 : decode cX11_judged 9 = .ok (.bipush (-2), 2) := by decide +kernel
theorem dX11_judged_11 : decode cX11_judged 11 = .ok (.ireturn, 1) := by decide +kernel
theorem dX11_judged_12 : decode cX11_judged 12 = .ok (.aload_n 0, 1) := by decide +kernel
theorem dX11_judged_13 : decode cX11_judged 13 = .ok (.getfield 57, 3) := by decide +kernel
theorem dX11_judged_16 : decode cX11_judged 16 = .ok (.aload_n 0, 1) := by decide +kernel
theorem dX11_judged_17 : decode cX11_judged 17 = .ok (.getfield 29, 3) := by decide +kernel
theorem dX11_judged_20 : decode cX11_judged 20 = .ok (.invokevirtual 221, 3) := by decide +kernel
theorem dX11_judged_23 : decode cX11_judged 23 = .ok (.istore_n 2, 1) := by decide +kernel
theorem dX11_judged_24 : decode cX11_judged 24 = .ok (.iload_n 1, 1) := by decide +kernel
theorem dX11_judged_25 : decode cX11_judged 25 = .ok (.ifCond .ne 5, 3) := by decide +kernel
theorem dX11_judged_28 : decode cX11_judged 28 = .ok (.iload_n 2, 1) := by decide +kernel
theorem dX11_judged_29 : decode cX11_judged 29 = .ok (.ireturn, 1) := by decide +kernel
theorem dX11_judged_30 : decode cX11_judged 30 = .ok (.iload_n 1, 1) := by decide +kernel
theorem dX11_judged_31 : decode cX11_judged 31 = .ok (.iconst 1, 1) := by decide +kernel
theorem dX11_judged_32 : decode cX11_judged 32 = .ok (.if_icmp .ne 16, 3) := by decide +kernel
theorem dX11_judged_35 : decode cX11_judged 35 = .ok (.aload_n 0, 1) := by decide +kernel
theorem dX11_judged_36 : decode cX11_judged 36 = .ok (.getfield 57, 3) := by decide +kernel
theorem dX11_judged_39 : decode cX11_judged 39 = .ok (.getfield 225, 3) := by decide +kernel
theorem dX11_judged_42 : decode cX11_judged 42 = .ok (.invokevirtual 228, 3) := by decide +kernel
theorem dX11_judged_45 : decode cX11_judged 45 = .ok (.goto 13, 3) := by decide +kernel
theorem dX11_judged_48 : decode cX11_judged 48 = .ok (.aload_n 0, 1) := by decide +kernel
theorem dX11_judged_49 : decode cX11_judged 49 = .ok (.getfield 57, 3) := by decide +kernel
theorem dX11_judged_52 : decode cX11_judged 52 = .ok (.getfield 225, 3) := by decide +kernel
theorem dX11_judged_55 : decode cX11_judged 55 = .ok (.invokevirtual 232, 3) := by decide +kernel
theorem dX11_judged_58 : decode cX11_judged 58 = .ok (.ireturn, 1) := by decide +kernel
theorem dX11_first_0 : decode cX11_first 0 = .ok (.aload_n 0, 1) := by decide +kernel
theorem dX11_first_1 : decode cX11_first 1 = .ok (.iload_n 1, 1) := by decide +kernel
theorem dX11_first_2 : decode cX11_first 2 = .ok (.invokevirtual 235, 3) := by decide +kernel
theorem dX11_first_5 : decode cX11_first 5 = .ok (.ifCond .ne 5, 3) := by decide +kernel
theorem dX11_first_8 : decode cX11_first 8 = .ok (.iconst (-1), 1) := by decide +kernel
theorem dX11_first_9 : decode cX11_first 9 = .ok (.ireturn, 1) := by decide +kernel
theorem dX11_first_10 : decode cX11_first 10 = .ok (.aload_n 0, 1) := by decide +kernel
theorem dX11_first_11 : decode cX11_first 11 = .ok (.getfield 57, 3) := by decide +kernel
theorem dX11_first_14 : decode cX11_first 14 = .ok (.aload_n 0, 1) := by decide +kernel
theorem dX11_first_15 : decode cX11_first 15 = .ok (.getfield 50, 3) := by decide +kernel
theorem dX11_first_18 : decode cX11_first 18 = .ok (.iload_n 1, 1) := by decide +kernel
theorem dX11_first_19 : decode cX11_first 19 = .ok (.invokevirtual 238, 3) := by decide +kernel
theorem dX11_first_22 : decode cX11_first 22 = .ok (.aload_n 0, 1) := by decide +kernel
theorem dX11_first_23 : decode cX11_first 23 = .ok (.getfield 57, 3) := by decide +kernel
theorem dX11_first_26 : decode cX11_first 26 = .ok (.getfield 242, 3) := by decide +kernel
theorem dX11_first_29 : decode cX11_first 29 = .ok (.iconst 0, 1) := by decide +kernel
theorem dX11_first_30 : decode cX11_first 30 = .ok (.invokevirtual 131, 3) := by decide +kernel
theorem dX11_first_33 : decode cX11_first 33 = .ok (.ireturn, 1) := by decide +kernel
theorem dX11_comes_0 : decode cX11_comes 0 = .ok (.aload_n 0, 1) := by decide +kernel
theorem dX11_comes_1 : decode cX11_comes 1 = .ok (.iload_n 1, 1) := by decide +kernel
theorem dX11_comes_2 : decode cX11_comes 2 = .ok (.invokevirtual 235, 3) := by decide +kernel
theorem dX11_comes_5 : decode cX11_comes 5 = .ok (.ifCond .eq 42, 3) := by decide +kernel
theorem dX11_comes_8 : decode cX11_comes 8 = .ok (.aload_n 0, 1) := by decide +kernel
theorem dX11_comes_9 : decode cX11_comes 9 = .ok (.getfield 57, 3) := by decide +kernel
theorem dX11_comes_12 : decode cX11_comes 12 = .ok (.aload_n 0, 1) := by decide +kernel
theorem dX11_comes_13 : decode cX11_comes 13 = .ok (.getfield 50, 3) := by decide +kernel
theorem dX11_comes_16 : decode cX11_comes 16 = .ok (.iload_n 1, 1) := by decide +kernel
theorem dX11_comes_17 : decode cX11_comes 17 = .ok (.invokevirtual 238, 3) := by decide +kernel
theorem dX11_comes_20 : decode cX11_comes 20 = .ok (.iload_n 2, 1) := by decide +kernel
theorem dX11_comes_21 : decode cX11_comes 21 = .ok (.ifCond .lt 26, 3) := by decide +kernel
theorem dX11_comes_24 : decode cX11_comes 24 = .ok (.iload_n 2, 1) := by decide +kernel
theorem dX11_comes_25 : decode cX11_comes 25 = .ok (.aload_n 0, 1) := by decide +kernel
theorem dX11_comes_26 : decode cX11_comes 26 = .ok (.getfield 57, 3) := by decide +kernel
theorem dX11_comes_29 : decode cX11_comes 29 = .ok (.getfield 245, 3) := by decide +kernel
theorem dX11_comes_32 : decode cX11_comes 32 = .ok (.if_icmp .ge 15, 3) := by decide +kernel
theorem dX11_comes_35 : decode cX11_comes 35 = .ok (.aload_n 0, 1) := by decide +kernel
theorem dX11_comes_36 : decode cX11_comes 36 = .ok (.getfield 57, 3) := by decide +kernel
theorem dX11_comes_39 : decode cX11_comes 39 = .ok (.getfield 242, 3) := by decide +kernel
theorem dX11_comes_42 : decode cX11_comes 42 = .ok (.iload_n 2, 1) := by decide +kernel
theorem dX11_comes_43 : decode cX11_comes 43 = .ok (.invokevirtual 131, 3) := by decide +kernel
theorem dX11_comes_46 : decode cX11_comes 46 = .ok (.ireturn, 1) := by decide +kernel
theorem dX11_comes_47 : decode cX11_comes 47 = .ok (.new 246, 3) := by decide +kernel
theorem dX11_comes_50 : decode cX11_comes 50 = .ok (.dup, 1) := by decide +kernel
theorem dX11_comes_51 : decode cX11_comes 51 = .ok (.ldc 248, 2) := by decide +kernel
theorem dX11_comes_53 : decode cX11_comes 53 = .ok (.invokespecial 250, 3) := by decide +kernel
theorem dX11_comes_56 : decode cX11_comes 56 = .ok (.athrow, 1) := by decide +kernel
theorem dX11_away_0 : decode cX11_away 0 = .ok (.aload_n 0, 1) := by decide +kernel
theorem dX11_away_1 : decode cX11_away 1 = .ok (.iload_n 1, 1) := by decide +kernel
theorem dX11_away_2 : decode cX11_away 2 = .ok (.invokevirtual 235, 3) := by decide +kernel
theorem dX11_away_5 : decode cX11_away 5 = .ok (.ifCond .eq 47, 3) := by decide +kernel
theorem dX11_away_8 : decode cX11_away 8 = .ok (.aload_n 0, 1) := by decide +kernel
theorem dX11_away_9 : decode cX11_away 9 = .ok (.iload_n 2, 1) := by decide +kernel
theorem dX11_away_10 : decode cX11_away 10 = .ok (.invokevirtual 124, 3) := by decide +kernel
theorem dX11_away_13 : decode cX11_away 13 = .ok (.ifCond .eq 39, 3) := by decide +kernel
theorem dX11_away_16 : decode cX11_away 16 = .ok (.aload_n 0, 1) := by decide +kernel
theorem dX11_away_17 : decode cX11_away 17 = .ok (.getfield 50, 3) := by decide +kernel
theorem dX11_away_20 : decode cX11_away 20 = .ok (.getfield 135, 3) := by decide +kernel
theorem dX11_away_23 : decode cX11_away 23 = .ok (.iload_n 2, 1) := by decide +kernel
theorem dX11_away_24 : decode cX11_away 24 = .ok (.invokevirtual 131, 3) := by decide +kernel
theorem dX11_away_27 : decode cX11_away 27 = .ok (.iload_n 1, 1) := by decide +kernel
theorem dX11_away_28 : decode cX11_away 28 = .ok (.if_icmp .ne 24, 3) := by decide +kernel
theorem dX11_away_31 : decode cX11_away 31 = .ok (.aload_n 0, 1) := by decide +kernel
theorem dX11_away_32 : decode cX11_away 32 = .ok (.getfield 57, 3) := by decide +kernel
theorem dX11_away_35 : decode cX11_away 35 = .ok (.aload_n 0, 1) := by decide +kernel
theorem dX11_away_36 : decode cX11_away 36 = .ok (.getfield 50, 3) := by decide +kernel
theorem dX11_away_39 : decode cX11_away 39 = .ok (.iload_n 1, 1) := by decide +kernel
theorem dX11_away_40 : decode cX11_away 40 = .ok (.invokevirtual 238, 3) := by decide +kernel
theorem dX11_away_43 : decode cX11_away 43 = .ok (.aload_n 0, 1) := by decide +kernel
theorem dX11_away_44 : decode cX11_away 44 = .ok (.getfield 57, 3) := by decide +kernel
theorem dX11_away_47 : decode cX11_away 47 = .ok (.iload_n 2, 1) := by decide +kernel
theorem dX11_away_48 : decode cX11_away 48 = .ok (.invokevirtual 253, 3) := by decide +kernel
theorem dX11_away_51 : decode cX11_away 51 = .ok (.ireturn, 1) := by decide +kernel
theorem dX11_away_52 : decode cX11_away 52 = .ok (.new 246, 3) := by decide +kernel
theorem dX11_away_55 : decode cX11_away 55 = .ok (.dup, 1) := by decide +kernel
theorem dX11_away_56 : decode cX11_away 56 = .ok (.ldc_w 256, 3) := by decide +kernel
theorem dX11_away_59 : decode cX11_away 59 = .ok (.invokespecial 250, 3) := by decide +kernel
theorem dX11_away_62 : decode cX11_away 62 = .ok (.athrow, 1) := by decide +kernel
theorem dX11_wrongs_0 : decode cX11_wrongs 0 = .ok (.aload_n 0, 1) := by decide +kernel
theorem dX11_wrongs_1 : decode cX11_wrongs 1 = .ok (.iload_n 1, 1) := by decide +kernel
theorem dX11_wrongs_2 : decode cX11_wrongs 2 = .ok (.invokevirtual 235, 3) := by decide +kernel
theorem dX11_wrongs_5 : decode cX11_wrongs 5 = .ok (.ifCond .ne 5, 3) := by decide +kernel
theorem dX11_wrongs_8 : decode cX11_wrongs 8 = .ok (.iconst (-1), 1) := by decide +kernel
theorem dX11_wrongs_9 : decode cX11_wrongs 9 = .ok (.ireturn, 1) := by decide +kernel
theorem dX11_wrongs_10 : decode cX11_wrongs 10 = .ok (.aload_n 0, 1) := by decide +kernel
theorem dX11_wrongs_11 : decode cX11_wrongs 11 = .ok (.getfield 57, 3) := by decide +kernel
theorem dX11_wrongs_14 : decode cX11_wrongs 14 = .ok (.aload_n 0, 1) := by decide +kernel
theorem dX11_wrongs_15 : decode cX11_wrongs 15 = .ok (.getfield 50, 3) := by decide +kernel
theorem dX11_wrongs_18 : decode cX11_wrongs 18 = .ok (.iload_n 1, 1) := by decide +kernel
theorem dX11_wrongs_19 : decode cX11_wrongs 19 = .ok (.invokevirtual 238, 3) := by decide +kernel
theorem dX11_wrongs_22 : decode cX11_wrongs 22 = .ok (.aload_n 0, 1) := by decide +kernel
theorem dX11_wrongs_23 : decode cX11_wrongs 23 = .ok (.getfield 57, 3) := by decide +kernel
theorem dX11_wrongs_26 : decode cX11_wrongs 26 = .ok (.invokevirtual 258, 3) := by decide +kernel
theorem dX11_wrongs_29 : decode cX11_wrongs 29 = .ok (.ireturn, 1) := by decide +kernel
theorem dX11_far_0 : decode cX11_far 0 = .ok (.aload_n 0, 1) := by decide +kernel
theorem dX11_far_1 : decode cX11_far 1 = .ok (.iload_n 1, 1) := by decide +kernel
theorem dX11_far_2 : decode cX11_far 2 = .ok (.invokevirtual 235, 3) := by decide +kernel
theorem dX11_far_5 : decode cX11_far 5 = .ok (.ifCond .ne 5, 3) := by decide +kernel
theorem dX11_far_8 : decode cX11_far 8 = .ok (.iconst (-1), 1) := by decide +kernel
theorem dX11_far_9 : decode cX11_far 9 = .ok (.ireturn, 1) := by decide +kernel
theorem dX11_far_10 : decode cX11_far 10 = .ok (.aload_n 0, 1) := by decide +kernel
theorem dX11_far_11 : decode cX11_far 11 = .ok (.getfield 57, 3) := by decide +kernel
theorem dX11_far_14 : decode cX11_far 14 = .ok (.aload_n 0, 1) := by decide +kernel
theorem dX11_far_15 : decode cX11_far 15 = .ok (.getfield 50, 3) := by decide +kernel
theorem dX11_far_18 : decode cX11_far 18 = .ok (.iload_n 1, 1) := by decide +kernel
theorem dX11_far_19 : decode cX11_far 19 = .ok (.invokevirtual 238, 3) := by decide +kernel
theorem dX11_far_22 : decode cX11_far 22 = .ok (.aload_n 0, 1) := by decide +kernel
theorem dX11_far_23 : decode cX11_far 23 = .ok (.getfield 57, 3) := by decide +kernel
theorem dX11_far_26 : decode cX11_far 26 = .ok (.invokevirtual 261, 3) := by decide +kernel
theorem dX11_far_29 : decode cX11_far 29 = .ok (.ireturn, 1) := by decide +kernel
theorem dX11_select_0 : decode cX11_select 0 = .ok (.aload_n 0, 1) := by decide +kernel
theorem dX11_select_1 : decode cX11_select 1 = .ok (.iload_n 1, 1) := by decide +kernel
theorem dX11_select_2 : decode cX11_select 2 = .ok (.invokevirtual 147, 3) := by decide +kernel
theorem dX11_select_5 : decode cX11_select 5 = .ok (.ifCond .eq 15, 3) := by decide +kernel
theorem dX11_select_8 : decode cX11_select 8 = .ok (.aload_n 0, 1) := by decide +kernel
theorem dX11_select_9 : decode cX11_select 9 = .ok (.getfield 50, 3) := by decide +kernel
theorem dX11_select_12 : decode cX11_select 12 = .ok (.iload_n 1, 1) := by decide +kernel
theorem dX11_select_13 : decode cX11_select 13 = .ok (.iload_n 2, 1) := by decide +kernel
theorem dX11_select_14 : decode cX11_select 14 = .ok (.invokevirtual 264, 3) := by decide +kernel
theorem dX11_select_17 : decode cX11_select 17 = .ok (.goto 4, 3) := by decide +kernel
theorem dX11_select_20 : decode cX11_select 20 = .ok (.iconst (-1), 1) := by decide +kernel
theorem dX11_select_21 : decode cX11_select 21 = .ok (.ireturn, 1) := by decide +kernel
theorem dX11_split_0 : decode cX11_split 0 = .ok (.aload_n 0, 1) := by decide +kernel
theorem dX11_split_1 : decode cX11_split 1 = .ok (.iload_n 1, 1) := by decide +kernel
theorem dX11_split_2 : decode cX11_split 2 = .ok (.invokevirtual 235, 3) := by decide +kernel
theorem dX11_split_5 : decode cX11_split 5 = .ok (.ifCond .eq 12, 3) := by decide +kernel
theorem dX11_split_8 : decode cX11_split 8 = .ok (.iload_n 2, 1) := by decide +kernel
theorem dX11_split_9 : decode cX11_split 9 = .ok (.ifCond .lt 8, 3) := by decide +kernel
theorem dX11_split_12 : decode cX11_split 12 = .ok (.iload_n 2, 1) := by decide +kernel
theorem dX11_split_13 : decode cX11_split 13 = .ok (.iconst 1, 1) := by decide +kernel
theorem dX11_split_14 : decode cX11_split 14 = .ok (.if_icmp .le 5, 3) := by decide +kernel
theorem dX11_split_17 : decode cX11_split 17 = .ok (.iconst (-1), 1) := by decide +kernel
theorem dX11_split_18 : decode cX11_split 18 = .ok (.ireturn, 1) := by decide +kernel
theorem dX11_split_19 : decode cX11_split 19 = .ok (.aload_n 0, 1) := by decide +kernel
theorem dX11_split_20 : decode cX11_split 20 = .ok (.getfield 57, 3) := by decide +kernel
theorem dX11_split_23 : decode cX11_split 23 = .ok (.aload_n 0, 1) := by decide +kernel
theorem dX11_split_24 : decode cX11_split 24 = .ok (.getfield 50, 3) := by decide +kernel
theorem dX11_split_27 : decode cX11_split 27 = .ok (.iload_n 1, 1) := by decide +kernel
theorem dX11_split_28 : decode cX11_split 28 = .ok (.invokevirtual 267, 3) := by decide +kernel
theorem dX11_split_31 : decode cX11_split 31 = .ok (.istore_n 3, 1) := by decide +kernel
theorem dX11_split_32 : decode cX11_split 32 = .ok (.iload_n 3, 1) := by decide +kernel
theorem dX11_split_33 : decode cX11_split 33 = .ok (.iconst (-1), 1) := by decide +kernel
theorem dX11_split_34 : decode cX11_split 34 = .ok (.if_icmp .ne 5, 3) := by decide +kernel
theorem dX11_split_37 : decode cX11_split 37 = .ok (.iconst (-1), 1) := by decide +kernel
theorem dX11_split_38 : decode cX11_split 38 = .ok (.ireturn, 1) := by decide +kernel
theorem dX11_split_39 : decode cX11_split 39 = .ok (.iload_n 2, 1) := by decide +kernel
theorem dX11_split_40 : decode cX11_split 40 = .ok (.ifCond .ne 7, 3) := by decide +kernel
theorem dX11_split_43 : decode cX11_split 43 = .ok (.iload_n 3, 1) := by decide +kernel
theorem dX11_split_44 : decode cX11_split 44 = .ok (.goto 12, 3) := by decide +kernel
theorem dX11_split_47 : decode cX11_split 47 = .ok (.aload_n 0, 1) := by decide +kernel
theorem dX11_split_48 : decode cX11_split 48 = .ok (.getfield 50, 3) := by decide +kernel
theorem dX11_split_51 : decode cX11_split 51 = .ok (.iload_n 1, 1) := by decide +kernel
theorem dX11_split_52 : decode cX11_split 52 = .ok (.iload_n 3, 1) := by decide +kernel
theorem dX11_split_53 : decode cX11_split 53 = .ok (.invokevirtual 271, 3) := by decide +kernel
theorem dX11_split_56 : decode cX11_split 56 = .ok (.ireturn, 1) := by decide +kernel
theorem dX11_steps_0 : decode cX11_steps 0 = .ok (.aload_n 0, 1) := by decide +kernel
theorem dX11_steps_1 : decode cX11_steps 1 = .ok (.iload_n 1, 1) := by decide +kernel
theorem dX11_steps_2 : decode cX11_steps 2 = .ok (.invokevirtual 235, 3) := by decide +kernel
theorem dX11_steps_5 : decode cX11_steps 5 = .ok (.ifCond .eq 19, 3) := by decide +kernel
theorem dX11_steps_8 : decode cX11_steps 8 = .ok (.aload_n 0, 1) := by decide +kernel
theorem dX11_steps_9 : decode cX11_steps 9 = .ok (.getfield 57, 3) := by decide +kernel
theorem dX11_steps_12 : decode cX11_steps 12 = .ok (.aload_n 0, 1) := by decide +kernel
theorem dX11_steps_13 : decode cX11_steps 13 = .ok (.getfield 50, 3) := by decide +kernel
theorem dX11_steps_16 : decode cX11_steps 16 = .ok (.iload_n 1, 1) := by decide +kernel
theorem dX11_steps_17 : decode cX11_steps 17 = .ok (.iload_n 2, 1) := by decide +kernel
theorem dX11_steps_18 : decode cX11_steps 18 = .ok (.invokevirtual 274, 3) := by decide +kernel
theorem dX11_steps_21 : decode cX11_steps 21 = .ok (.goto 4, 3) := by decide +kernel
theorem dX11_steps_24 : decode cX11_steps 24 = .ok (.iconst (-1), 1) := by decide +kernel
theorem dX11_steps_25 : decode cX11_steps 25 = .ok (.ireturn, 1) := by decide +kernel
theorem dX11_worth_0 : decode cX11_worth 0 = .ok (.aload_n 0, 1) := by decide +kernel
theorem dX11_worth_1 : decode cX11_worth 1 = .ok (.iload_n 1, 1) := by decide +kernel
theorem dX11_worth_2 : decode cX11_worth 2 = .ok (.invokevirtual 235, 3) := by decide +kernel
theorem dX11_worth_5 : decode cX11_worth 5 = .ok (.ifCond .ne 5, 3) := by decide +kernel
theorem dX11_worth_8 : decode cX11_worth 8 = .ok (.iconst (-1), 1) := by decide +kernel
theorem dX11_worth_9 : decode cX11_worth 9 = .ok (.ireturn, 1) := by decide +kernel
theorem dX11_worth_10 : decode cX11_worth 10 = .ok (.aload_n 0, 1) := by decide +kernel
theorem dX11_worth_11 : decode cX11_worth 11 = .ok (.getfield 57, 3) := by decide +kernel
theorem dX11_worth_14 : decode cX11_worth 14 = .ok (.aload_n 0, 1) := by decide +kernel
theorem dX11_worth_15 : decode cX11_worth 15 = .ok (.getfield 50, 3) := by decide +kernel
theorem dX11_worth_18 : decode cX11_worth 18 = .ok (.iload_n 1, 1) := by decide +kernel
theorem dX11_worth_19 : decode cX11_worth 19 = .ok (.invokevirtual 238, 3) := by decide +kernel
theorem dX11_worth_22 : decode cX11_worth 22 = .ok (.aload_n 0, 1) := by decide +kernel
theorem dX11_worth_23 : decode cX11_worth 23 = .ok (.getfield 57, 3) := by decide +kernel
theorem dX11_worth_26 : decode cX11_worth 26 = .ok (.invokevirtual 278, 3) := by decide +kernel
theorem dX11_worth_29 : decode cX11_worth 29 = .ok (.invokestatic 182, 3) := by decide +kernel
theorem dX11_worth_32 : decode cX11_worth 32 = .ok (.ireturn, 1) := by decide +kernel
theorem dX11_mean_0 : decode cX11_mean 0 = .ok (.aload_n 0, 1) := by decide +kernel
theorem dX11_mean_1 : decode cX11_mean 1 = .ok (.iload_n 1, 1) := by decide +kernel
theorem dX11_mean_2 : decode cX11_mean 2 = .ok (.invokevirtual 235, 3) := by decide +kernel
theorem dX11_mean_5 : decode cX11_mean 5 = .ok (.ifCond .ne 5, 3) := by decide +kernel
theorem dX11_mean_8 : decode cX11_mean 8 = .ok (.iconst (-1), 1) := by decide +kernel
theorem dX11_mean_9 : decode cX11_mean 9 = .ok (.ireturn, 1) := by decide +kernel
theorem dX11_mean_10 : decode cX11_mean 10 = .ok (.aload_n 0, 1) := by decide +kernel
theorem dX11_mean_11 : decode cX11_mean 11 = .ok (.getfield 57, 3) := by decide +kernel
theorem dX11_mean_14 : decode cX11_mean 14 = .ok (.aload_n 0, 1) := by decide +kernel
theorem dX11_mean_15 : decode cX11_mean 15 = .ok (.getfield 50, 3) := by decide +kernel
theorem dX11_mean_18 : decode cX11_mean 18 = .ok (.iload_n 1, 1) := by decide +kernel
theorem dX11_mean_19 : decode cX11_mean 19 = .ok (.invokevirtual 238, 3) := by decide +kernel
theorem dX11_mean_22 : decode cX11_mean 22 = .ok (.aload_n 0, 1) := by decide +kernel
theorem dX11_mean_23 : decode cX11_mean 23 = .ok (.getfield 57, 3) := by decide +kernel
theorem dX11_mean_26 : decode cX11_mean 26 = .ok (.getfield 245, 3) := by decide +kernel
theorem dX11_mean_29 : decode cX11_mean 29 = .ok (.ifCond .ne 7, 3) := by decide +kernel
theorem dX11_mean_32 : decode cX11_mean 32 = .ok (.iconst 0, 1) := by decide +kernel
theorem dX11_mean_33 : decode cX11_mean 33 = .ok (.goto 22, 3) := by decide +kernel
theorem dX11_mean_36 : decode cX11_mean 36 = .ok (.aload_n 0, 1) := by decide +kernel
theorem dX11_mean_37 : decode cX11_mean 37 = .ok (.getfield 57, 3) := by decide +kernel
theorem dX11_mean_40 : decode cX11_mean 40 = .ok (.invokevirtual 278, 3) := by decide +kernel
theorem dX11_mean_43 : decode cX11_mean 43 = .ok (.aload_n 0, 1) := by decide +kernel
theorem dX11_mean_44 : decode cX11_mean 44 = .ok (.getfield 57, 3) := by decide +kernel
theorem dX11_mean_47 : decode cX11_mean 47 = .ok (.getfield 245, 3) := by decide +kernel
theorem dX11_mean_50 : decode cX11_mean 50 = .ok (.i2f, 1) := by decide +kernel
theorem dX11_mean_51 : decode cX11_mean 51 = .ok (.fdiv, 1) := by decide +kernel
theorem dX11_mean_52 : decode cX11_mean 52 = .ok (.invokestatic 182, 3) := by decide +kernel
theorem dX11_mean_55 : decode cX11_mean 55 = .ok (.ireturn, 1) := by decide +kernel
theorem dX11_bits_0 : decode cX11_bits 0 = .ok (.aload_n 0, 1) := by decide +kernel
theorem dX11_bits_1 : decode cX11_bits 1 = .ok (.iload_n 1, 1) := by decide +kernel
theorem dX11_bits_2 : decode cX11_bits 2 = .ok (.invokevirtual 124, 3) := by decide +kernel
theorem dX11_bits_5 : decode cX11_bits 5 = .ok (.ifCond .eq 17, 3) := by decide +kernel
theorem dX11_bits_8 : decode cX11_bits 8 = .ok (.aload_n 0, 1) := by decide +kernel
theorem dX11_bits_9 : decode cX11_bits 9 = .ok (.getfield 19, 3) := by decide +kernel
theorem dX11_bits_12 : decode cX11_bits 12 = .ok (.iload_n 1, 1) := by decide +kernel
theorem dX11_bits_13 : decode cX11_bits 13 = .ok (.invokevirtual 178, 3) := by decide +kernel
theorem dX11_bits_16 : decode cX11_bits 16 = .ok (.invokestatic 182, 3) := by decide +kernel
theorem dX11_bits_19 : decode cX11_bits 19 = .ok (.goto 4, 3) := by decide +kernel
theorem dX11_bits_22 : decode cX11_bits 22 = .ok (.iconst (-1), 1) := by decide +kernel
theorem dX11_bits_23 : decode cX11_bits 23 = .ok (.ireturn, 1) := by decide +kernel
theorem dX11_thousand_0 : decode cX11_thousand 0 = .ok (.aload_n 0, 1) := by decide +kernel
theorem dX11_thousand_1 : decode cX11_thousand 1 = .ok (.iload_n 1, 1) := by decide +kernel
theorem dX11_thousand_2 : decode cX11_thousand 2 = .ok (.invokevirtual 124, 3) := by decide +kernel
theorem dX11_thousand_5 : decode cX11_thousand 5 = .ok (.ifCond .eq 19, 3) := by decide +kernel
theorem dX11_thousand_8 : decode cX11_thousand 8 = .ok (.aload_n 0, 1) := by decide +kernel
theorem dX11_thousand_9 : decode cX11_thousand 9 = .ok (.getfield 19, 3) := by decide +kernel
theorem dX11_thousand_12 : decode cX11_thousand 12 = .ok (.iload_n 1, 1) := by decide +kernel
theorem dX11_thousand_13 : decode cX11_thousand 13 = .ok (.invokevirtual 178, 3) := by decide +kernel
theorem dX11_thousand_16 : decode cX11_thousand 16 = .ok (.ldc_w 282, 3) := by decide +kernel
theorem dX11_thousand_19 : decode cX11_thousand 19 = .ok (.fmul, 1) := by decide +kernel
theorem dX11_thousand_20 : decode cX11_thousand 20 = .ok (.f2i, 1) := by decide +kernel
theorem dX11_thousand_21 : decode cX11_thousand 21 = .ok (.goto 4, 3) := by decide +kernel
theorem dX11_thousand_24 : decode cX11_thousand 24 = .ok (.iconst (-1), 1) := by decide +kernel
theorem dX11_thousand_25 : decode cX11_thousand 25 = .ok (.ireturn, 1) := by decide +kernel
theorem dX11_lift_0 : decode cX11_lift 0 = .ok (.aload_n 0, 1) := by decide +kernel
theorem dX11_lift_1 : decode cX11_lift 1 = .ok (.iload_n 1, 1) := by decide +kernel
theorem dX11_lift_2 : decode cX11_lift 2 = .ok (.invokevirtual 124, 3) := by decide +kernel
theorem dX11_lift_5 : decode cX11_lift 5 = .ok (.ifCond .eq 17, 3) := by decide +kernel
theorem dX11_lift_8 : decode cX11_lift 8 = .ok (.aload_n 0, 1) := by decide +kernel
theorem dX11_lift_9 : decode cX11_lift 9 = .ok (.getfield 50, 3) := by decide +kernel
theorem dX11_lift_12 : decode cX11_lift 12 = .ok (.getfield 283, 3) := by decide +kernel
theorem dX11_lift_15 : decode cX11_lift 15 = .ok (.iload_n 1, 1) := by decide +kernel
theorem dX11_lift_16 : decode cX11_lift 16 = .ok (.invokevirtual 131, 3) := by decide +kernel
theorem dX11_lift_19 : decode cX11_lift 19 = .ok (.goto 4, 3) := by decide +kernel
theorem dX11_lift_22 : decode cX11_lift 22 = .ok (.iconst (-1), 1) := by decide +kernel
theorem dX11_lift_23 : decode cX11_lift 23 = .ok (.istore_n 2, 1) := by decide +kernel
theorem dX11_lift_24 : decode cX11_lift 24 = .ok (.iload_n 2, 1) := by decide +kernel
theorem dX11_lift_25 : decode cX11_lift 25 = .ok (.iconst (-1), 1) := by decide +kernel
theorem dX11_lift_26 : decode cX11_lift 26 = .ok (.if_icmp .ne 7, 3) := by decide +kernel
theorem dX11_lift_29 : decode cX11_lift 29 = .ok (.iconst (-1), 1) := by decide +kernel
theorem dX11_lift_30 : decode cX11_lift 30 = .ok (.goto 33, 3) := by decide +kernel
theorem dX11_lift_33 : decode cX11_lift 33 = .ok (.aload_n 0, 1) := by decide +kernel
theorem dX11_lift_34 : decode cX11_lift 34 = .ok (.getfield 19, 3) := by decide +kernel
theorem dX11_lift_37 : decode cX11_lift 37 = .ok (.aload_n 0, 1) := by decide +kernel
theorem dX11_lift_38 : decode cX11_lift 38 = .ok (.getfield 50, 3) := by decide +kernel
theorem dX11_lift_41 : decode cX11_lift 41 = .ok (.getfield 175, 3) := by decide +kernel
theorem dX11_lift_44 : decode cX11_lift 44 = .ok (.iload_n 2, 1) := by decide +kernel
theorem dX11_lift_45 : decode cX11_lift 45 = .ok (.invokevirtual 131, 3) := by decide +kernel
theorem dX11_lift_48 : decode cX11_lift 48 = .ok (.invokevirtual 178, 3) := by decide +kernel
theorem dX11_lift_51 : decode cX11_lift 51 = .ok (.aload_n 0, 1) := by decide +kernel
theorem dX11_lift_52 : decode cX11_lift 52 = .ok (.getfield 19, 3) := by decide +kernel
theorem dX11_lift_55 : decode cX11_lift 55 = .ok (.iload_n 1, 1) := by decide +kernel
theorem dX11_lift_56 : decode cX11_lift 56 = .ok (.invokevirtual 178, 3) := by decide +kernel
theorem dX11_lift_59 : decode cX11_lift 59 = .ok (.fsub, 1) := by decide +kernel
theorem dX11_lift_60 : decode cX11_lift 60 = .ok (.invokestatic 182, 3) := by decide +kernel
theorem dX11_lift_63 : decode cX11_lift 63 = .ok (.ireturn, 1) := by decide +kernel
theorem dX11_bound_0 : decode cX11_bound 0 = .ok (.aload_n 0, 1) := by decide +kernel
theorem dX11_bound_1 : decode cX11_bound 1 = .ok (.iload_n 1, 1) := by decide +kernel
theorem dX11_bound_2 : decode cX11_bound 2 = .ok (.invokevirtual 147, 3) := by decide +kernel
theorem dX11_bound_5 : decode cX11_bound 5 = .ok (.ifCond .eq 34, 3) := by decide +kernel
theorem dX11_bound_8 : decode cX11_bound 8 = .ok (.aload_n 0, 1) := by decide +kernel
theorem dX11_bound_9 : decode cX11_bound 9 = .ok (.getfield 50, 3) := by decide +kernel
theorem dX11_bound_12 : decode cX11_bound 12 = .ok (.iload_n 1, 1) := by decide +kernel
theorem dX11_bound_13 : decode cX11_bound 13 = .ok (.invokevirtual 156, 3) := by decide +kernel
theorem dX11_bound_16 : decode cX11_bound 16 = .ok (.aload_n 0, 1) := by decide +kernel
theorem dX11_bound_17 : decode cX11_bound 17 = .ok (.getfield 50, 3) := by decide +kernel
theorem dX11_bound_20 : decode cX11_bound 20 = .ok (.iload_n 1, 1) := by decide +kernel
theorem dX11_bound_21 : decode cX11_bound 21 = .ok (.invokevirtual 150, 3) := by decide +kernel
theorem dX11_bound_24 : decode cX11_bound 24 = .ok (.aload_n 0, 1) := by decide +kernel
theorem dX11_bound_25 : decode cX11_bound 25 = .ok (.getfield 19, 3) := by decide +kernel
theorem dX11_bound_28 : decode cX11_bound 28 = .ok (.getfield 286, 3) := by decide +kernel
theorem dX11_bound_31 : decode cX11_bound 31 = .ok (.ishr, 1) := by decide +kernel
theorem dX11_bound_32 : decode cX11_bound 32 = .ok (.if_icmp .gt 7, 3) := by decide +kernel
theorem dX11_bound_35 : decode cX11_bound 35 = .ok (.iconst 1, 1) := by decide +kernel
theorem dX11_bound_36 : decode cX11_bound 36 = .ok (.goto 4, 3) := by decide +kernel
theorem dX11_bound_39 : decode cX11_bound 39 = .ok (.iconst 0, 1) := by decide +kernel
theorem dX11_bound_40 : decode cX11_bound 40 = .ok (.ireturn, 1) := by decide +kernel
theorem dX11_depth_0 : decode cX11_depth 0 = .ok (.aload_n 0, 1) := by decide +kernel
theorem dX11_depth_1 : decode cX11_depth 1 = .ok (.iload_n 1, 1) := by decide +kernel
theorem dX11_depth_2 : decode cX11_depth 2 = .ok (.invokevirtual 124, 3) := by decide +kernel
theorem dX11_depth_5 : decode cX11_depth 5 = .ok (.ifCond .eq 17, 3) := by decide +kernel
theorem dX11_depth_8 : decode cX11_depth 8 = .ok (.aload_n 0, 1) := by decide +kernel
theorem dX11_depth_9 : decode cX11_depth 9 = .ok (.getfield 50, 3) := by decide +kernel
theorem dX11_depth_12 : decode cX11_depth 12 = .ok (.getfield 283, 3) := by decide +kernel
theorem dX11_depth_15 : decode cX11_depth 15 = .ok (.iload_n 1, 1) := by decide +kernel
theorem dX11_depth_16 : decode cX11_depth 16 = .ok (.invokevirtual 131, 3) := by decide +kernel
theorem dX11_depth_19 : decode cX11_depth 19 = .ok (.goto 4, 3) := by decide +kernel
theorem dX11_depth_22 : decode cX11_depth 22 = .ok (.iconst (-1), 1) := by decide +kernel
theorem dX11_depth_23 : decode cX11_depth 23 = .ok (.istore_n 2, 1) := by decide +kernel
theorem dX11_depth_24 : decode cX11_depth 24 = .ok (.iload_n 2, 1) := by decide +kernel
theorem dX11_depth_25 : decode cX11_depth 25 = .ok (.iconst (-1), 1) := by decide +kernel
theorem dX11_depth_26 : decode cX11_depth 26 = .ok (.if_icmp .ne 7, 3) := by decide +kernel
theorem dX11_depth_29 : decode cX11_depth 29 = .ok (.iconst (-1), 1) := by decide +kernel
theorem dX11_depth_30 : decode cX11_depth 30 = .ok (.goto 11, 3) := by decide +kernel
theorem dX11_depth_33 : decode cX11_depth 33 = .ok (.aload_n 0, 1) := by decide +kernel
theorem dX11_depth_34 : decode cX11_depth 34 = .ok (.getfield 50, 3) := by decide +kernel
theorem dX11_depth_37 : decode cX11_depth 37 = .ok (.iload_n 2, 1) := by decide +kernel
theorem dX11_depth_38 : decode cX11_depth 38 = .ok (.invokevirtual 289, 3) := by decide +kernel
theorem dX11_depth_41 : decode cX11_depth 41 = .ok (.ireturn, 1) := by decide +kernel
theorem dX11_see_0 : decode cX11_see 0 = .ok (.iload_n 1, 1) := by decide +kernel
theorem dX11_see_1 : decode cX11_see 1 = .ok (.ifCond .lt 27, 3) := by decide +kernel
theorem dX11_see_4 : decode cX11_see 4 = .ok (.iload_n 1, 1) := by decide +kernel
theorem dX11_see_5 : decode cX11_see 5 = .ok (.bipush 10, 2) := by decide +kernel
theorem dX11_see_7 : decode cX11_see 7 = .ok (.if_icmp .ge 21, 3) := by decide +kernel
theorem dX11_see_10 : decode cX11_see 10 = .ok (.iload_n 2, 1) := by decide +kernel
theorem dX11_see_11 : decode cX11_see 11 = .ok (.ifCond .lt 17, 3) := by decide +kernel
theorem dX11_see_14 : decode cX11_see 14 = .ok (.iload_n 2, 1) := by decide +kernel
theorem dX11_see_15 : decode cX11_see 15 = .ok (.iconst 4, 1) := by decide +kernel
theorem dX11_see_16 : decode cX11_see 16 = .ok (.if_icmp .ge 12, 3) := by decide +kernel
theorem dX11_see_19 : decode cX11_see 19 = .ok (.aload_n 0, 1) := by decide +kernel
theorem dX11_see_20 : decode cX11_see 20 = .ok (.getfield 70, 3) := by decide +kernel
theorem dX11_see_23 : decode cX11_see 23 = .ok (.bipush 8, 2) := by decide +kernel
theorem dX11_see_25 : decode cX11_see 25 = .ok (.if_icmp .lt 5, 3) := by decide +kernel
theorem dX11_see_28 : decode cX11_see 28 = .ok (.iconst 0, 1) := by decide +kernel
theorem dX11_see_29 : decode cX11_see 29 = .ok (.ireturn, 1) := by decide +kernel
theorem dX11_see_30 : decode cX11_see 30 = .ok (.aload_n 0, 1) := by decide +kernel
theorem dX11_see_31 : decode cX11_see 31 = .ok (.getfield 66, 3) := by decide +kernel
theorem dX11_see_34 : decode cX11_see 34 = .ok (.aload_n 0, 1) := by decide +kernel
theorem dX11_see_35 : decode cX11_see 35 = .ok (.getfield 70, 3) := by decide +kernel
theorem dX11_see_38 : decode cX11_see 38 = .ok (.iload_n 1, 1) := by decide +kernel
theorem dX11_see_39 : decode cX11_see 39 = .ok (.iconst 4, 1) := by decide +kernel
theorem dX11_see_40 : decode cX11_see 40 = .ok (.imul, 1) := by decide +kernel
theorem dX11_see_41 : decode cX11_see 41 = .ok (.iload_n 2, 1) := by decide +kernel
theorem dX11_see_42 : decode cX11_see 42 = .ok (.iadd, 1) := by decide +kernel
theorem dX11_see_43 : decode cX11_see 43 = .ok (.iconst 2, 1) := by decide +kernel
theorem dX11_see_44 : decode cX11_see 44 = .ok (.imul, 1) := by decide +kernel
theorem dX11_see_45 : decode cX11_see 45 = .ok (.iload_n 3, 1) := by decide +kernel
theorem dX11_see_46 : decode cX11_see 46 = .ok (.ifCond .eq 7, 3) := by decide +kernel
theorem dX11_see_49 : decode cX11_see 49 = .ok (.iconst 1, 1) := by decide +kernel
theorem dX11_see_50 : decode cX11_see 50 = .ok (.goto 4, 3) := by decide +kernel
theorem dX11_see_53 : decode cX11_see 53 = .ok (.iconst 0, 1) := by decide +kernel
theorem dX11_see_54 : decode cX11_see 54 = .ok (.iadd, 1) := by decide +kernel
theorem dX11_see_55 : decode cX11_see 55 = .ok (.invokevirtual 292, 3) := by decide +kernel
theorem dX11_see_58 : decode cX11_see 58 = .ok (.aload_n 0, 1) := by decide +kernel
theorem dX11_see_59 : decode cX11_see 59 = .ok (.dup, 1) := by decide +kernel
theorem dX11_see_60 : decode cX11_see 60 = .ok (.getfield 70, 3) := by decide +kernel
theorem dX11_see_63 : decode cX11_see 63 = .ok (.iconst 1, 1) := by decide +kernel
theorem dX11_see_64 : decode cX11_see 64 = .ok (.iadd, 1) := by decide +kernel
theorem dX11_see_65 : decode cX11_see 65 = .ok (.putfield 70, 3) := by decide +kernel
theorem dX11_see_68 : decode cX11_see 68 = .ok (.iconst 1, 1) := by decide +kernel
theorem dX11_see_69 : decode cX11_see 69 = .ok (.ireturn, 1) := by decide +kernel
theorem dX11_who_0 : decode cX11_who 0 = .ok (.aload_n 0, 1) := by decide +kernel
theorem dX11_who_1 : decode cX11_who 1 = .ok (.dup, 1) := by decide +kernel
theorem dX11_who_2 : decode cX11_who 2 = .ok (.getfield 74, 3) := by decide +kernel
theorem dX11_who_5 : decode cX11_who 5 = .ok (.iconst 1, 1) := by decide +kernel
theorem dX11_who_6 : decode cX11_who 6 = .ok (.iadd, 1) := by decide +kernel
theorem dX11_who_7 : decode cX11_who 7 = .ok (.putfield 74, 3) := by decide +kernel
theorem dX11_who_10 : decode cX11_who 10 = .ok (.aload_n 0, 1) := by decide +kernel
theorem dX11_who_11 : decode cX11_who 11 = .ok (.getfield 57, 3) := by decide +kernel
theorem dX11_who_14 : decode cX11_who 14 = .ok (.aload_n 0, 1) := by decide +kernel
theorem dX11_who_15 : decode cX11_who 15 = .ok (.getfield 50, 3) := by decide +kernel
theorem dX11_who_18 : decode cX11_who 18 = .ok (.invokevirtual 296, 3) := by decide +kernel
theorem dX11_who_21 : decode cX11_who 21 = .ok (.aload_n 0, 1) := by decide +kernel
theorem dX11_who_22 : decode cX11_who 22 = .ok (.getfield 57, 3) := by decide +kernel
theorem dX11_who_25 : decode cX11_who 25 = .ok (.aload_n 0, 1) := by decide +kernel
theorem dX11_who_26 : decode cX11_who 26 = .ok (.getfield 66, 3) := by decide +kernel
theorem dX11_who_29 : decode cX11_who 29 = .ok (.aload_n 0, 1) := by decide +kernel
theorem dX11_who_30 : decode cX11_who 30 = .ok (.getfield 70, 3) := by decide +kernel
theorem dX11_who_33 : decode cX11_who 33 = .ok (.invokevirtual 299, 3) := by decide +kernel
theorem dX11_who_36 : decode cX11_who 36 = .ok (.ireturn, 1) := by decide +kernel
theorem dX11_ask_0 : decode cX11_ask 0 = .ok (.aload_n 0, 1) := by decide +kernel
theorem dX11_ask_1 : decode cX11_ask 1 = .ok (.dup, 1) := by decide +kernel
theorem dX11_ask_2 : decode cX11_ask 2 = .ok (.getfield 74, 3) := by decide +kernel
theorem dX11_ask_5 : decode cX11_ask 5 = .ok (.iconst 1, 1) := by decide +kernel
theorem dX11_ask_6 : decode cX11_ask 6 = .ok (.iadd, 1) := by decide +kernel
theorem dX11_ask_7 : decode cX11_ask 7 = .ok (.putfield 74, 3) := by decide +kernel
theorem dX11_ask_10 : decode cX11_ask 10 = .ok (.aload_n 0, 1) := by decide +kernel
theorem dX11_ask_11 : decode cX11_ask 11 = .ok (.getfield 57, 3) := by decide +kernel
theorem dX11_ask_14 : decode cX11_ask 14 = .ok (.aload_n 0, 1) := by decide +kernel
theorem dX11_ask_15 : decode cX11_ask 15 = .ok (.getfield 50, 3) := by decide +kernel
theorem dX11_ask_18 : decode cX11_ask 18 = .ok (.invokevirtual 296, 3) := by decide +kernel
theorem dX11_ask_21 : decode cX11_ask 21 = .ok (.aload_n 0, 1) := by decide +kernel
theorem dX11_ask_22 : decode cX11_ask 22 = .ok (.getfield 57, 3) := by decide +kernel
theorem dX11_ask_25 : decode cX11_ask 25 = .ok (.aload_n 0, 1) := by decide +kernel
theorem dX11_ask_26 : decode cX11_ask 26 = .ok (.getfield 57, 3) := by decide +kernel
theorem dX11_ask_29 : decode cX11_ask 29 = .ok (.aload_n 0, 1) := by decide +kernel
theorem dX11_ask_30 : decode cX11_ask 30 = .ok (.getfield 66, 3) := by decide +kernel
theorem dX11_ask_33 : decode cX11_ask 33 = .ok (.aload_n 0, 1) := by decide +kernel
theorem dX11_ask_34 : decode cX11_ask 34 = .ok (.getfield 70, 3) := by decide +kernel
theorem dX11_ask_37 : decode cX11_ask 37 = .ok (.invokevirtual 299, 3) := by decide +kernel
theorem dX11_ask_40 : decode cX11_ask 40 = .ok (.invokevirtual 303, 3) := by decide +kernel
theorem dX11_ask_43 : decode cX11_ask 43 = .ok (.ireturn, 1) := by decide +kernel
theorem dX11_days_0 : decode cX11_days 0 = .ok (.iload_n 1, 1) := by decide +kernel
theorem dX11_days_1 : decode cX11_days 1 = .ok (.ifCond .lt 30, 3) := by decide +kernel
theorem dX11_days_4 : decode cX11_days 4 = .ok (.iload_n 1, 1) := by decide +kernel
theorem dX11_days_5 : decode cX11_days 5 = .ok (.sipush 9999, 3) := by decide +kernel
theorem dX11_days_8 : decode cX11_days 8 = .ok (.if_icmp .gt 23, 3) := by decide +kernel
theorem dX11_days_11 : decode cX11_days 11 = .ok (.iload_n 2, 1) := by decide +kernel
theorem dX11_days_12 : decode cX11_days 12 = .ok (.iconst 1, 1) := by decide +kernel
theorem dX11_days_13 : decode cX11_days 13 = .ok (.if_icmp .lt 18, 3) := by decide +kernel
theorem dX11_days_16 : decode cX11_days 16 = .ok (.iload_n 2, 1) := by decide +kernel
theorem dX11_days_17 : decode cX11_days 17 = .ok (.bipush 99, 2) := by decide +kernel
theorem dX11_days_19 : decode cX11_days 19 = .ok (.if_icmp .gt 12, 3) := by decide +kernel
theorem dX11_days_22 : decode cX11_days 22 = .ok (.iload_n 3, 1) := by decide +kernel
theorem dX11_days_23 : decode cX11_days 23 = .ok (.ifCond .lt 8, 3) := by decide +kernel
theorem dX11_days_26 : decode cX11_days 26 = .ok (.iload_n 3, 1) := by decide +kernel
theorem dX11_days_27 : decode cX11_days 27 = .ok (.iconst 2, 1) := by decide +kernel
theorem dX11_days_28 : decode cX11_days 28 = .ok (.if_icmp .le 5, 3) := by decide +kernel
theorem dX11_days_31 : decode cX11_days 31 = .ok (.iconst (-1), 1) := by decide +kernel
theorem dX11_days_32 : decode cX11_days 32 = .ok (.ireturn, 1) := by decide +kernel
theorem dX11_days_33 : decode cX11_days 33 = .ok (.aload_n 0, 1) := by decide +kernel
theorem dX11_days_34 : decode cX11_days 34 = .ok (.dup, 1) := by decide +kernel
theorem dX11_days_35 : decode cX11_days 35 = .ok (.getfield 74, 3) := by decide +kernel
theorem dX11_days_38 : decode cX11_days 38 = .ok (.iconst 1, 1) := by decide +kernel
theorem dX11_days_39 : decode cX11_days 39 = .ok (.iadd, 1) := by decide +kernel
theorem dX11_days_40 : decode cX11_days 40 = .ok (.putfield 74, 3) := by decide +kernel
theorem dX11_days_43 : decode cX11_days 43 = .ok (.aload_n 0, 1) := by decide +kernel
theorem dX11_days_44 : decode cX11_days 44 = .ok (.getfield 57, 3) := by decide +kernel
theorem dX11_days_47 : decode cX11_days 47 = .ok (.aload_n 0, 1) := by decide +kernel
theorem dX11_days_48 : decode cX11_days 48 = .ok (.getfield 50, 3) := by decide +kernel
theorem dX11_days_51 : decode cX11_days 51 = .ok (.iload_n 1, 1) := by decide +kernel
theorem dX11_days_52 : decode cX11_days 52 = .ok (.iload_n 2, 1) := by decide +kernel
theorem dX11_days_53 : decode cX11_days 53 = .ok (.invokevirtual 306, 3) := by decide +kernel
theorem dX11_days_56 : decode cX11_days 56 = .ok (.istore 4, 2) := by decide +kernel
theorem dX11_days_58 : decode cX11_days 58 = .ok (.iload_n 3, 1) := by decide +kernel
theorem dX11_days_59 : decode cX11_days 59 = .ok (.ifCond .ne 6, 3) := by decide +kernel
theorem dX11_days_62 : decode cX11_days 62 = .ok (.iload 4, 2) := by decide +kernel
theorem dX11_days_64 : decode cX11_days 64 = .ok (.ireturn, 1) := by decide +kernel
theorem dX11_days_65 : decode cX11_days 65 = .ok (.iload_n 3, 1) := by decide +kernel
theorem dX11_days_66 : decode cX11_days 66 = .ok (.iconst 1, 1) := by decide +kernel
theorem dX11_days_67 : decode cX11_days 67 = .ok (.if_icmp .ne 16, 3) := by decide +kernel
theorem dX11_days_70 : decode cX11_days 70 = .ok (.aload_n 0, 1) := by decide +kernel
theorem dX11_days_71 : decode cX11_days 71 = .ok (.getfield 57, 3) := by decide +kernel
theorem dX11_days_74 : decode cX11_days 74 = .ok (.getfield 225, 3) := by decide +kernel
theorem dX11_days_77 : decode cX11_days 77 = .ok (.invokevirtual 232, 3) := by decide +kernel
theorem dX11_days_80 : decode cX11_days 80 = .ok (.goto 13, 3) := by decide +kernel
theorem dX11_days_83 : decode cX11_days 83 = .ok (.aload_n 0, 1) := by decide +kernel
theorem dX11_days_84 : decode cX11_days 84 = .ok (.getfield 57, 3) := by decide +kernel
theorem dX11_days_87 : decode cX11_days 87 = .ok (.getfield 225, 3) := by decide +kernel
theorem dX11_days_90 : decode cX11_days 90 = .ok (.invokevirtual 228, 3) := by decide +kernel
theorem dX11_days_93 : decode cX11_days 93 = .ok (.ireturn, 1) := by decide +kernel
theorem dX11_mark_0 : decode cX11_mark 0 = .ok (.iload_n 1, 1) := by decide +kernel
theorem dX11_mark_1 : decode cX11_mark 1 = .ok (.ifCond .lt 24, 3) := by decide +kernel
theorem dX11_mark_4 : decode cX11_mark 4 = .ok (.iload_n 1, 1) := by decide +kernel
theorem dX11_mark_5 : decode cX11_mark 5 = .ok (.iconst 2, 1) := by decide +kernel
theorem dX11_mark_6 : decode cX11_mark 6 = .ok (.if_icmp .ge 19, 3) := by decide +kernel
theorem dX11_mark_9 : decode cX11_mark 9 = .ok (.iload_n 2, 1) := by decide +kernel
theorem dX11_mark_10 : decode cX11_mark 10 = .ok (.ifCond .eq 17, 3) := by decide +kernel
theorem dX11_mark_13 : decode cX11_mark 13 = .ok (.aload_n 0, 1) := by decide +kernel
theorem dX11_mark_14 : decode cX11_mark 14 = .ok (.getfield 93, 3) := by decide +kernel
theorem dX11_mark_17 : decode cX11_mark 17 = .ok (.iload_n 1, 1) := by decide +kernel
theorem dX11_mark_18 : decode cX11_mark 18 = .ok (.invokevirtual 131, 3) := by decide +kernel
theorem dX11_mark_21 : decode cX11_mark 21 = .ok (.iconst (-1), 1) := by decide +kernel
theorem dX11_mark_22 : decode cX11_mark 22 = .ok (.if_icmp .ne 5, 3) := by decide +kernel
theorem dX11_mark_25 : decode cX11_mark 25 = .ok (.iconst 0, 1) := by decide +kernel
theorem dX11_mark_26 : decode cX11_mark 26 = .ok (.ireturn, 1) := by decide +kernel
theorem dX11_mark_27 : decode cX11_mark 27 = .ok (.iload_n 1, 1) := by decide +kernel
theorem dX11_mark_28 : decode cX11_mark 28 = .ok (.bipush 8, 2) := by decide +kernel
theorem dX11_mark_30 : decode cX11_mark 30 = .ok (.imul, 1) := by decide +kernel
theorem dX11_mark_31 : decode cX11_mark 31 = .ok (.istore_n 3, 1) := by decide +kernel
theorem dX11_mark_32 : decode cX11_mark 32 = .ok (.iload_n 2, 1) := by decide +kernel
theorem dX11_mark_33 : decode cX11_mark 33 = .ok (.ifCond .eq 54, 3) := by decide +kernel
theorem dX11_mark_36 : decode cX11_mark 36 = .ok (.aload_n 0, 1) := by decide +kernel
theorem dX11_mark_37 : decode cX11_mark 37 = .ok (.getfield 50, 3) := by decide +kernel
theorem dX11_mark_40 : decode cX11_mark 40 = .ok (.aload_n 0, 1) := by decide +kernel
theorem dX11_mark_41 : decode cX11_mark 41 = .ok (.aload_n 0, 1) := by decide +kernel
theorem dX11_mark_42 : decode cX11_mark 42 = .ok (.getfield 87, 3) := by decide +kernel
theorem dX11_mark_45 : decode cX11_mark 45 = .ok (.iload_n 1, 1) := by decide +kernel
theorem dX11_mark_46 : decode cX11_mark 46 = .ok (.invokevirtual 214, 3) := by decide +kernel
theorem dX11_mark_49 : decode cX11_mark 49 = .ok (.invokevirtual 218, 3) := by decide +kernel
theorem dX11_mark_52 : decode cX11_mark 52 = .ok (.aload_n 0, 1) := by decide +kernel
theorem dX11_mark_53 : decode cX11_mark 53 = .ok (.aload_n 0, 1) := by decide +kernel
theorem dX11_mark_54 : decode cX11_mark 54 = .ok (.getfield 93, 3) := by decide +kernel
theorem dX11_mark_57 : decode cX11_mark 57 = .ok (.iload_n 1, 1) := by decide +kernel
theorem dX11_mark_58 : decode cX11_mark 58 = .ok (.invokevirtual 131, 3) := by decide +kernel
theorem dX11_mark_61 : decode cX11_mark 61 = .ok (.putfield 70, 3) := by decide +kernel
theorem dX11_mark_64 : decode cX11_mark 64 = .ok (.aload_n 0, 1) := by decide +kernel
theorem dX11_mark_65 : decode cX11_mark 65 = .ok (.getfield 66, 3) := by decide +kernel
theorem dX11_mark_68 : decode cX11_mark 68 = .ok (.iconst 0, 1) := by decide +kernel
theorem dX11_mark_69 : decode cX11_mark 69 = .ok (.aload_n 0, 1) := by decide +kernel
theorem dX11_mark_70 : decode cX11_mark 70 = .ok (.getfield 90, 3) := by decide +kernel
theorem dX11_mark_73 : decode cX11_mark 73 = .ok (.iload_n 3, 1) := by decide +kernel
theorem dX11_mark_74 : decode cX11_mark 74 = .ok (.bipush 8, 2) := by decide +kernel
theorem dX11_mark_76 : decode cX11_mark 76 = .ok (.invokevirtual 309, 3) := by decide +kernel
theorem dX11_mark_79 : decode cX11_mark 79 = .ok (.aload_n 0, 1) := by decide +kernel
theorem dX11_mark_80 : decode cX11_mark 80 = .ok (.iconst 0, 1) := by decide +kernel
theorem dX11_mark_81 : decode cX11_mark 81 = .ok (.putfield 84, 3) := by decide +kernel
theorem dX11_mark_84 : decode cX11_mark 84 = .ok (.goto 46, 3) := by decide +kernel
theorem dX11_mark_87 : decode cX11_mark 87 = .ok (.aload_n 0, 1) := by decide +kernel
theorem dX11_mark_88 : decode cX11_mark 88 = .ok (.aload_n 0, 1) := by decide +kernel
theorem dX11_mark_89 : decode cX11_mark 89 = .ok (.getfield 87, 3) := by decide +kernel
theorem dX11_mark_92 : decode cX11_mark 92 = .ok (.iload_n 1, 1) := by decide +kernel
theorem dX11_mark_93 : decode cX11_mark 93 = .ok (.invokevirtual 214, 3) := by decide +kernel
theorem dX11_mark_96 : decode cX11_mark 96 = .ok (.aload_n 0, 1) := by decide +kernel
theorem dX11_mark_97 : decode cX11_mark 97 = .ok (.getfield 50, 3) := by decide +kernel
theorem dX11_mark_100 : decode cX11_mark 100 = .ok (.invokevirtual 218, 3) := by decide +kernel
theorem dX11_mark_103 : decode cX11_mark 103 = .ok (.aload_n 0, 1) := by decide +kernel
theorem dX11_mark_104 : decode cX11_mark 104 = .ok (.getfield 93, 3) := by decide +kernel
theorem dX11_mark_107 : decode cX11_mark 107 = .ok (.iload_n 1, 1) := by decide +kernel
theorem dX11_mark_108 : decode cX11_mark 108 = .ok (.aload_n 0, 1) := by decide +kernel
theorem dX11_mark_109 : decode cX11_mark 109 = .ok (.getfield 70, 3) := by decide +kernel
theorem dX11_mark_112 : decode cX11_mark 112 = .ok (.invokevirtual 292, 3) := by decide +kernel
theorem dX11_mark_115 : decode cX11_mark 115 = .ok (.aload_n 0, 1) := by decide +kernel
theorem dX11_mark_116 : decode cX11_mark 116 = .ok (.getfield 90, 3) := by decide +kernel
theorem dX11_mark_119 : decode cX11_mark 119 = .ok (.iload_n 3, 1) := by decide +kernel
theorem dX11_mark_120 : decode cX11_mark 120 = .ok (.aload_n 0, 1) := by decide +kernel
theorem dX11_mark_121 : decode cX11_mark 121 = .ok (.getfield 66, 3) := by decide +kernel
theorem dX11_mark_124 : decode cX11_mark 124 = .ok (.iconst 0, 1) := by decide +kernel
theorem dX11_mark_125 : decode cX11_mark 125 = .ok (.bipush 8, 2) := by decide +kernel
theorem dX11_mark_127 : decode cX11_mark 127 = .ok (.invokevirtual 309, 3) := by decide +kernel
theorem dX11_mark_130 : decode cX11_mark 130 = .ok (.iconst 1, 1) := by decide +kernel
theorem dX11_mark_131 : decode cX11_mark 131 = .ok (.ireturn, 1) := by decide +kernel
theorem dX11_count_0 : decode cX11_count 0 = .ok (.iload_n 1, 1) := by decide +kernel
theorem dX11_count_1 : decode cX11_count 1 = .ok (.tableswitch 147 0 10 #[59, 70, 81, 92, 100, 108, 116, 121, 129, 134, 139], 59) := by decide +kernel
theorem dX11_count_60 : decode cX11_count 60 = .ok (.aload_n 0, 1) := by decide +kernel
theorem dX11_count_61 : decode cX11_count 61 = .ok (.getfield 19, 3) := by decide +kernel
theorem dX11_count_64 : decode cX11_count 64 = .ok (.getfield 313, 3) := by decide +kernel
theorem dX11_count_67 : decode cX11_count 67 = .ok (.getfield 317, 3) := by decide +kernel
theorem dX11_count_70 : decode cX11_count 70 = .ok (.ireturn, 1) := by decide +kernel
theorem dX11_count_71 : decode cX11_count 71 = .ok (.aload_n 0, 1) := by decide +kernel
theorem dX11_count_72 : decode cX11_count 72 = .ok (.getfield 19, 3) := by decide +kernel
theorem dX11_count_75 : decode cX11_count 75 = .ok (.getfield 320, 3) := by decide +kernel
theorem dX11_count_78 : decode cX11_count 78 = .ok (.getfield 317, 3) := by decide +kernel
theorem dX11_count_81 : decode cX11_count 81 = .ok (.ireturn, 1) := by decide +kernel
theorem dX11_count_82 : decode cX11_count 82 = .ok (.aload_n 0, 1) := by decide +kernel
theorem dX11_count_83 : decode cX11_count 83 = .ok (.getfield 19, 3) := by decide +kernel
theorem dX11_count_86 : decode cX11_count 86 = .ok (.getfield 323, 3) := by decide +kernel
theorem dX11_count_89 : decode cX11_count 89 = .ok (.getfield 317, 3) := by decide +kernel
theorem dX11_count_92 : decode cX11_count 92 = .ok (.ireturn, 1) := by decide +kernel
theorem dX11_count_93 : decode cX11_count 93 = .ok (.aload_n 0, 1) := by decide +kernel
theorem dX11_count_94 : decode cX11_count 94 = .ok (.getfield 19, 3) := by decide +kernel
theorem dX11_count_97 : decode cX11_count 97 = .ok (.getfield 286, 3) := by decide +kernel
theorem dX11_count_100 : decode cX11_count 100 = .ok (.ireturn, 1) := by decide +kernel
theorem dX11_count_101 : decode cX11_count 101 = .ok (.aload_n 0, 1) := by decide +kernel
theorem dX11_count_102 : decode cX11_count 102 = .ok (.getfield 50, 3) := by decide +kernel
theorem dX11_count_105 : decode cX11_count 105 = .ok (.invokevirtual 228, 3) := by decide +kernel
theorem dX11_count_108 : decode cX11_count 108 = .ok (.ireturn, 1) := by decide +kernel
theorem dX11_count_109 : decode cX11_count 109 = .ok (.aload_n 0, 1) := by decide +kernel
theorem dX11_count_110 : decode cX11_count 110 = .ok (.getfield 50, 3) := by decide +kernel
theorem dX11_count_113 : decode cX11_count 113 = .ok (.invokevirtual 232, 3) := by decide +kernel
theorem dX11_count_116 : decode cX11_count 116 = .ok (.ireturn, 1) := by decide +kernel
theorem dX11_count_117 : decode cX11_count 117 = .ok (.aload_n 0, 1) := by decide +kernel
theorem dX11_count_118 : decode cX11_count 118 = .ok (.getfield 74, 3) := by decide +kernel
theorem dX11_count_121 : decode cX11_count 121 = .ok (.ireturn, 1) := by decide +kernel
theorem dX11_count_122 : decode cX11_count 122 = .ok (.aload_n 0, 1) := by decide +kernel
theorem dX11_count_123 : decode cX11_count 123 = .ok (.getfield 29, 3) := by decide +kernel
theorem dX11_count_126 : decode cX11_count 126 = .ok (.getfield 113, 3) := by decide +kernel
theorem dX11_count_129 : decode cX11_count 129 = .ok (.ireturn, 1) := by decide +kernel
theorem dX11_count_130 : decode cX11_count 130 = .ok (.aload_n 0, 1) := by decide +kernel
theorem dX11_count_131 : decode cX11_count 131 = .ok (.getfield 70, 3) := by decide +kernel
theorem dX11_count_134 : decode cX11_count 134 = .ok (.ireturn, 1) := by decide +kernel
theorem dX11_count_135 : decode cX11_count 135 = .ok (.aload_n 0, 1) := by decide +kernel
theorem dX11_count_136 : decode cX11_count 136 = .ok (.getfield 84, 3) := by decide +kernel
theorem dX11_count_139 : decode cX11_count 139 = .ok (.ireturn, 1) := by decide +kernel
theorem dX11_count_140 : decode cX11_count 140 = .ok (.aload_n 0, 1) := by decide +kernel
theorem dX11_count_141 : decode cX11_count 141 = .ok (.getfield 10, 3) := by decide +kernel
theorem dX11_count_144 : decode cX11_count 144 = .ok (.getfield 100, 3) := by decide +kernel
theorem dX11_count_147 : decode cX11_count 147 = .ok (.ireturn, 1) := by decide +kernel
theorem dX11_count_148 : decode cX11_count 148 = .ok (.iconst (-1), 1) := by decide +kernel
theorem dX11_count_149 : decode cX11_count 149 = .ok (.ireturn, 1) := by decide +kernel
theorem dX11_isHeap_0 : decode cX11_isHeap 0 = .ok (.iload_n 1, 1) := by decide +kernel
theorem dX11_isHeap_1 : decode cX11_isHeap 1 = .ok (.ifCond .lt 21, 3) := by decide +kernel
theorem dX11_isHeap_4 : decode cX11_isHeap 4 = .ok (.iload_n 1, 1) := by decide +kernel
theorem dX11_isHeap_5 : decode cX11_isHeap 5 = .ok (.aload_n 0, 1) := by decide +kernel
theorem dX11_isHeap_6 : decode cX11_isHeap 6 = .ok (.getfield 19, 3) := by decide +kernel
theorem dX11_isHeap_9 : decode cX11_isHeap 9 = .ok (.getfield 313, 3) := by decide +kernel
theorem dX11_isHeap_12 : decode cX11_isHeap 12 = .ok (.getfield 317, 3) := by decide +kernel
theorem dX11_isHeap_15 : decode cX11_isHeap 15 = .ok (.if_icmp .ge 7, 3) := by decide +kernel
theorem dX11_isHeap_18 : decode cX11_isHeap 18 = .ok (.iconst 1, 1) := by decide +kernel
theorem dX11_isHeap_19 : decode cX11_isHeap 19 = .ok (.goto 4, 3) := by decide +kernel
theorem dX11_isHeap_22 : decode cX11_isHeap 22 = .ok (.iconst 0, 1) := by decide +kernel
theorem dX11_isHeap_23 : decode cX11_isHeap 23 = .ok (.ireturn, 1) := by decide +kernel
theorem dX11_isShelf_0 : decode cX11_isShelf 0 = .ok (.iload_n 1, 1) := by decide +kernel
theorem dX11_isShelf_1 : decode cX11_isShelf 1 = .ok (.ifCond .lt 21, 3) := by decide +kernel
theorem dX11_isShelf_4 : decode cX11_isShelf 4 = .ok (.iload_n 1, 1) := by decide +kernel
theorem dX11_isShelf_5 : decode cX11_isShelf 5 = .ok (.aload_n 0, 1) := by decide +kernel
theorem dX11_isShelf_6 : decode cX11_isShelf 6 = .ok (.getfield 19, 3) := by decide +kernel
theorem dX11_isShelf_9 : decode cX11_isShelf 9 = .ok (.getfield 320, 3) := by decide +kernel
theorem dX11_isShelf_12 : decode cX11_isShelf 12 = .ok (.getfield 317, 3) := by decide +kernel
theorem dX11_isShelf_15 : decode cX11_isShelf 15 = .ok (.if_icmp .ge 7, 3) := by decide +kernel
theorem dX11_isShelf_18 : decode cX11_isShelf 18 = .ok (.iconst 1, 1) := by decide +kernel
theorem dX11_isShelf_19 : decode cX11_isShelf 19 = .ok (.goto 4, 3) := by decide +kernel
theorem dX11_isShelf_22 : decode cX11_isShelf 22 = .ok (.iconst 0, 1) := by decide +kernel
theorem dX11_isShelf_23 : decode cX11_isShelf 23 = .ok (.ireturn, 1) := by decide +kernel
theorem dX11_isItem_0 : decode cX11_isItem 0 = .ok (.iload_n 1, 1) := by decide +kernel
theorem dX11_isItem_1 : decode cX11_isItem 1 = .ok (.ifCond .lt 21, 3) := by decide +kernel
theorem dX11_isItem_4 : decode cX11_isItem 4 = .ok (.iload_n 1, 1) := by decide +kernel
theorem dX11_isItem_5 : decode cX11_isItem 5 = .ok (.aload_n 0, 1) := by decide +kernel
theorem dX11_isItem_6 : decode cX11_isItem 6 = .ok (.getfield 19, 3) := by decide +kernel
theorem dX11_isItem_9 : decode cX11_isItem 9 = .ok (.getfield 323, 3) := by decide +kernel
theorem dX11_isItem_12 : decode cX11_isItem 12 = .ok (.getfield 317, 3) := by decide +kernel
theorem dX11_isItem_15 : decode cX11_isItem 15 = .ok (.if_icmp .ge 7, 3) := by decide +kernel
theorem dX11_isItem_18 : decode cX11_isItem 18 = .ok (.iconst 1, 1) := by decide +kernel
theorem dX11_isItem_19 : decode cX11_isItem 19 = .ok (.goto 4, 3) := by decide +kernel
theorem dX11_isItem_22 : decode cX11_isItem 22 = .ok (.iconst 0, 1) := by decide +kernel
theorem dX11_isItem_23 : decode cX11_isItem 23 = .ok (.ireturn, 1) := by decide +kernel
theorem dX11_shutHeap_0 : decode cX11_shutHeap 0 = .ok (.aload_n 0, 1) := by decide +kernel
theorem dX11_shutHeap_1 : decode cX11_shutHeap 1 = .ok (.iload_n 1, 1) := by decide +kernel
theorem dX11_shutHeap_2 : decode cX11_shutHeap 2 = .ok (.invokevirtual 147, 3) := by decide +kernel
theorem dX11_shutHeap_5 : decode cX11_shutHeap 5 = .ok (.ifCond .ne 5, 3) := by decide +kernel
theorem dX11_shutHeap_8 : decode cX11_shutHeap 8 = .ok (.iconst 0, 1) := by decide +kernel
theorem dX11_shutHeap_9 : decode cX11_shutHeap 9 = .ok (.ireturn, 1) := by decide +kernel
theorem dX11_shutHeap_10 : decode cX11_shutHeap 10 = .ok (.aload_n 0, 1) := by decide +kernel
theorem dX11_shutHeap_11 : decode cX11_shutHeap 11 = .ok (.dup, 1) := by decide +kernel
theorem dX11_shutHeap_12 : decode cX11_shutHeap 12 = .ok (.getfield 74, 3) := by decide +kernel
theorem dX11_shutHeap_15 : decode cX11_shutHeap 15 = .ok (.iconst 1, 1) := by decide +kernel
theorem dX11_shutHeap_16 : decode cX11_shutHeap 16 = .ok (.iadd, 1) := by decide +kernel
theorem dX11_shutHeap_17 : decode cX11_shutHeap 17 = .ok (.putfield 74, 3) := by decide +kernel
theorem dX11_shutHeap_20 : decode cX11_shutHeap 20 = .ok (.iconst 1, 1) := by decide +kernel
theorem dX11_shutHeap_21 : decode cX11_shutHeap 21 = .ok (.ireturn, 1) := by decide +kernel
theorem dX11_remember_0 : decode cX11_remember 0 = .ok (.aload_n 0, 1) := by decide +kernel
theorem dX11_remember_1 : decode cX11_remember 1 = .ok (.aload_n 0, 1) := by decide +kernel
theorem dX11_remember_2 : decode cX11_remember 2 = .ok (.getfield 81, 3) := by decide +kernel
theorem dX11_remember_5 : decode cX11_remember 5 = .ok (.iconst 1, 1) := by decide +kernel
theorem dX11_remember_6 : decode cX11_remember 6 = .ok (.iadd, 1) := by decide +kernel
theorem dX11_remember_7 : decode cX11_remember 7 = .ok (.bipush 8, 2) := by decide +kernel
theorem dX11_remember_9 : decode cX11_remember 9 = .ok (.irem, 1) := by decide +kernel
theorem dX11_remember_10 : decode cX11_remember 10 = .ok (.putfield 81, 3) := by decide +kernel
theorem dX11_remember_13 : decode cX11_remember 13 = .ok (.aload_n 0, 1) := by decide +kernel
theorem dX11_remember_14 : decode cX11_remember 14 = .ok (.aload_n 0, 1) := by decide +kernel
theorem dX11_remember_15 : decode cX11_remember 15 = .ok (.getfield 77, 3) := by decide +kernel
theorem dX11_remember_18 : decode cX11_remember 18 = .ok (.aload_n 0, 1) := by decide +kernel
theorem dX11_remember_19 : decode cX11_remember 19 = .ok (.getfield 81, 3) := by decide +kernel
theorem dX11_remember_22 : decode cX11_remember 22 = .ok (.invokevirtual 214, 3) := by decide +kernel
theorem dX11_remember_25 : decode cX11_remember 25 = .ok (.aload_n 0, 1) := by decide +kernel
theorem dX11_remember_26 : decode cX11_remember 26 = .ok (.getfield 50, 3) := by decide +kernel
theorem dX11_remember_29 : decode cX11_remember 29 = .ok (.invokevirtual 218, 3) := by decide +kernel
theorem dX11_remember_32 : decode cX11_remember 32 = .ok (.aload_n 0, 1) := by decide +kernel
theorem dX11_remember_33 : decode cX11_remember 33 = .ok (.aload_n 0, 1) := by decide +kernel
theorem dX11_remember_34 : decode cX11_remember 34 = .ok (.getfield 84, 3) := by decide +kernel
theorem dX11_remember_37 : decode cX11_remember 37 = .ok (.iconst 1, 1) := by decide +kernel
theorem dX11_remember_38 : decode cX11_remember 38 = .ok (.iadd, 1) := by decide +kernel
theorem dX11_remember_39 : decode cX11_remember 39 = .ok (.bipush 8, 2) := by decide +kernel
theorem dX11_remember_41 : decode cX11_remember 41 = .ok (.invokestatic 326, 3) := by decide +kernel
theorem dX11_remember_44 : decode cX11_remember 44 = .ok (.putfield 84, 3) := by decide +kernel
theorem dX11_remember_47 : decode cX11_remember 47 = .ok (.return_, 1) := by decide +kernel
theorem dX11_forestAt_0 : decode cX11_forestAt 0 = .ok (.iload_n 2, 1) := by decide +kernel
theorem dX11_forestAt_1 : decode cX11_forestAt 1 = .ok (.ifCond .lt 15, 3) := by decide +kernel
theorem dX11_forestAt_4 : decode cX11_forestAt 4 = .ok (.iload_n 2, 1) := by decide +kernel
theorem dX11_forestAt_5 : decode cX11_forestAt 5 = .ok (.aload_n 1, 1) := by decide +kernel
theorem dX11_forestAt_6 : decode cX11_forestAt 6 = .ok (.arraylength, 1) := by decide +kernel
theorem dX11_forestAt_7 : decode cX11_forestAt 7 = .ok (.if_icmp .ge 9, 3) := by decide +kernel
theorem dX11_forestAt_10 : decode cX11_forestAt 10 = .ok (.aload_n 1, 1) := by decide +kernel
theorem dX11_forestAt_11 : decode cX11_forestAt 11 = .ok (.iload_n 2, 1) := by decide +kernel
theorem dX11_forestAt_12 : decode cX11_forestAt 12 = .ok (.aaload, 1) := by decide +kernel
theorem dX11_forestAt_13 : decode cX11_forestAt 13 = .ok (.goto 7, 3) := by decide +kernel
theorem dX11_forestAt_16 : decode cX11_forestAt 16 = .ok (.aload_n 0, 1) := by decide +kernel
theorem dX11_forestAt_17 : decode cX11_forestAt 17 = .ok (.getfield 50, 3) := by decide +kernel
theorem dX11_forestAt_20 : decode cX11_forestAt 20 = .ok (.astore_n 3, 1) := by decide +kernel
theorem dX11_forestAt_21 : decode cX11_forestAt 21 = .ok (.aload_n 3, 1) := by decide +kernel
theorem dX11_forestAt_22 : decode cX11_forestAt 22 = .ok (.ifnonnull 10, 3) := by decide +kernel
theorem dX11_forestAt_25 : decode cX11_forestAt 25 = .ok (.aload_n 0, 1) := by decide +kernel
theorem dX11_forestAt_26 : decode cX11_forestAt 26 = .ok (.getfield 50, 3) := by decide +kernel
theorem dX11_forestAt_29 : decode cX11_forestAt 29 = .ok (.goto 4, 3) := by decide +kernel
theorem dX11_forestAt_32 : decode cX11_forestAt 32 = .ok (.aload_n 3, 1) := by decide +kernel
theorem dX11_forestAt_33 : decode cX11_forestAt 33 = .ok (.areturn, 1) := by decide +kernel
theorem dX11_bitsOf_0 : decode cX11_bitsOf 0 = .ok (.fload_n 0, 1) := by decide +kernel
theorem dX11_bitsOf_1 : decode cX11_bitsOf 1 = .ok (.fconst 0, 1) := by decide +kernel
theorem dX11_bitsOf_2 : decode cX11_bitsOf 2 = .ok (.fcmp .g, 1) := by decide +kernel
theorem dX11_bitsOf_3 : decode cX11_bitsOf 3 = .ok (.ifCond .gt 5, 3) := by decide +kernel
theorem dX11_bitsOf_6 : decode cX11_bitsOf 6 = .ok (.iconst 0, 1) := by decide +kernel
theorem dX11_bitsOf_7 : decode cX11_bitsOf 7 = .ok (.ireturn, 1) := by decide +kernel
theorem dX11_bitsOf_8 : decode cX11_bitsOf 8 = .ok (.fload_n 0, 1) := by decide +kernel
theorem dX11_bitsOf_9 : decode cX11_bitsOf 9 = .ok (.fstore_n 1, 1) := by decide +kernel
theorem dX11_bitsOf_10 : decode cX11_bitsOf 10 = .ok (.bipush 127, 2) := by decide +kernel
theorem dX11_bitsOf_12 : decode cX11_bitsOf 12 = .ok (.istore_n 2, 1) := by decide +kernel
theorem dX11_bitsOf_13 : decode cX11_bitsOf 13 = .ok (.iconst 0, 1) := by decide +kernel
theorem dX11_bitsOf_14 : decode cX11_bitsOf 14 = .ok (.istore_n 3, 1) := by decide +kernel
theorem dX11_bitsOf_15 : decode cX11_bitsOf 15 = .ok (.iload_n 3, 1) := by decide +kernel
theorem dX11_bitsOf_16 : decode cX11_bitsOf 16 = .ok (.bipush 127, 2) := by decide +kernel
theorem dX11_bitsOf_18 : decode cX11_bitsOf 18 = .ok (.if_icmp .ge 22, 3) := by decide +kernel
theorem dX11_bitsOf_21 : decode cX11_bitsOf 21 = .ok (.fload_n 1, 1) := by decide +kernel
theorem dX11_bitsOf_22 : decode cX11_bitsOf 22 = .ok (.fconst 2, 1) := by decide +kernel
theorem dX11_bitsOf_23 : decode cX11_bitsOf 23 = .ok (.fcmp .l, 1) := by decide +kernel
theorem dX11_bitsOf_24 : decode cX11_bitsOf 24 = .ok (.ifCond .lt 16, 3) := by decide +kernel
theorem dX11_bitsOf_27 : decode cX11_bitsOf 27 = .ok (.fload_n 1, 1) := by decide +kernel
theorem dX11_bitsOf_28 : decode cX11_bitsOf 28 = .ok (.fconst 2, 1) := by decide +kernel
theorem dX11_bitsOf_29 : decode cX11_bitsOf 29 = .ok (.fdiv, 1) := by decide +kernel
theorem dX11_bitsOf_30 : decode cX11_bitsOf 30 = .ok (.fstore_n 1, 1) := by decide +kernel
theorem dX11_bitsOf_31 : decode cX11_bitsOf 31 = .ok (.iinc 2 1, 3) := by decide +kernel
theorem dX11_bitsOf_34 : decode cX11_bitsOf 34 = .ok (.iinc 3 1, 3) := by decide +kernel
theorem dX11_bitsOf_37 : decode cX11_bitsOf 37 = .ok (.goto (-22), 3) := by decide +kernel
theorem dX11_bitsOf_40 : decode cX11_bitsOf 40 = .ok (.iconst 0, 1) := by decide +kernel
theorem dX11_bitsOf_41 : decode cX11_bitsOf 41 = .ok (.istore_n 3, 1) := by decide +kernel
theorem dX11_bitsOf_42 : decode cX11_bitsOf 42 = .ok (.iload_n 3, 1) := by decide +kernel
theorem dX11_bitsOf_43 : decode cX11_bitsOf 43 = .ok (.bipush 126, 2) := by decide +kernel
theorem dX11_bitsOf_45 : decode cX11_bitsOf 45 = .ok (.if_icmp .ge 22, 3) := by decide +kernel
theorem dX11_bitsOf_48 : decode cX11_bitsOf 48 = .ok (.fload_n 1, 1) := by decide +kernel
theorem dX11_bitsOf_49 : decode cX11_bitsOf 49 = .ok (.fconst 1, 1) := by decide +kernel
theorem dX11_bitsOf_50 : decode cX11_bitsOf 50 = .ok (.fcmp .g, 1) := by decide +kernel
theorem dX11_bitsOf_51 : decode cX11_bitsOf 51 = .ok (.ifCond .ge 16, 3) := by decide +kernel
theorem dX11_bitsOf_54 : decode cX11_bitsOf 54 = .ok (.fload_n 1, 1) := by decide +kernel
theorem dX11_bitsOf_55 : decode cX11_bitsOf 55 = .ok (.fconst 2, 1) := by decide +kernel
theorem dX11_bitsOf_56 : decode cX11_bitsOf 56 = .ok (.fmul, 1) := by decide +kernel
theorem dX11_bitsOf_57 : decode cX11_bitsOf 57 = .ok (.fstore_n 1, 1) := by decide +kernel
theorem dX11_bitsOf_58 : decode cX11_bitsOf 58 = .ok (.iinc 2 (-1), 3) := by decide +kernel
theorem dX11_bitsOf_61 : decode cX11_bitsOf 61 = .ok (.iinc 3 1, 3) := by decide +kernel
theorem dX11_bitsOf_64 : decode cX11_bitsOf 64 = .ok (.goto (-22), 3) := by decide +kernel
theorem dX11_bitsOf_67 : decode cX11_bitsOf 67 = .ok (.iload_n 2, 1) := by decide +kernel
theorem dX11_bitsOf_68 : decode cX11_bitsOf 68 = .ok (.bipush 23, 2) := by decide +kernel
theorem dX11_bitsOf_70 : decode cX11_bitsOf 70 = .ok (.ishl, 1) := by decide +kernel
theorem dX11_bitsOf_71 : decode cX11_bitsOf 71 = .ok (.fload_n 1, 1) := by decide +kernel
theorem dX11_bitsOf_72 : decode cX11_bitsOf 72 = .ok (.fconst 1, 1) := by decide +kernel
theorem dX11_bitsOf_73 : decode cX11_bitsOf 73 = .ok (.fsub, 1) := by decide +kernel
theorem dX11_bitsOf_74 : decode cX11_bitsOf 74 = .ok (.ldc_w 331, 3) := by decide +kernel
theorem dX11_bitsOf_77 : decode cX11_bitsOf 77 = .ok (.fmul, 1) := by decide +kernel
theorem dX11_bitsOf_78 : decode cX11_bitsOf 78 = .ok (.f2i, 1) := by decide +kernel
theorem dX11_bitsOf_79 : decode cX11_bitsOf 79 = .ok (.iadd, 1) := by decide +kernel
theorem dX11_bitsOf_80 : decode cX11_bitsOf 80 = .ok (.ireturn, 1) := by decide +kernel
theorem dX12_thrown_0 : decode cX12_thrown 0 = .ok (.aload_n 0, 1) := by decide +kernel
theorem dX12_thrown_1 : decode cX12_thrown 1 = .ok (.getfield 1, 3) := by decide +kernel
theorem dX12_thrown_4 : decode cX12_thrown 4 = .ok (.ireturn, 1) := by decide +kernel
theorem dX12_feed_0 : decode cX12_feed 0 = .ok (.aload_n 0, 1) := by decide +kernel
theorem dX12_feed_1 : decode cX12_feed 1 = .ok (.iconst 0, 1) := by decide +kernel
theorem dX12_feed_2 : decode cX12_feed 2 = .ok (.putfield 1, 3) := by decide +kernel
theorem dX12_feed_5 : decode cX12_feed 5 = .ok (.aload_n 0, 1) := by decide +kernel
theorem dX12_feed_6 : decode cX12_feed 6 = .ok (.lload_n 1, 1) := by decide +kernel
theorem dX12_feed_7 : decode cX12_feed 7 = .ok (.invokevirtual 7, 3) := by decide +kernel
theorem dX12_feed_10 : decode cX12_feed 10 = .ok (.aload_n 0, 1) := by decide +kernel
theorem dX12_feed_11 : decode cX12_feed 11 = .ok (.lload_n 3, 1) := by decide +kernel
theorem dX12_feed_12 : decode cX12_feed 12 = .ok (.invokevirtual 7, 3) := by decide +kernel
theorem dX12_feed_15 : decode cX12_feed 15 = .ok (.aload_n 0, 1) := by decide +kernel
theorem dX12_feed_16 : decode cX12_feed 16 = .ok (.lload 5, 2) := by decide +kernel
theorem dX12_feed_18 : decode cX12_feed 18 = .ok (.invokevirtual 7, 3) := by decide +kernel
theorem dX12_feed_21 : decode cX12_feed 21 = .ok (.aload_n 0, 1) := by decide +kernel
theorem dX12_feed_22 : decode cX12_feed 22 = .ok (.getfield 11, 3) := by decide +kernel
theorem dX12_feed_25 : decode cX12_feed 25 = .ok (.ireturn, 1) := by decide +kernel
theorem dX12_lay_0 : decode cX12_lay 0 = .ok (.bipush 56, 2) := by decide +kernel
theorem dX12_lay_2 : decode cX12_lay 2 = .ok (.istore_n 3, 1) := by decide +kernel
theorem dX12_lay_3 : decode cX12_lay 3 = .ok (.iload_n 3, 1) := by decide +kernel
theorem dX12_lay_4 : decode cX12_lay 4 = .ok (.ifCond .lt 71, 3) := by decide +kernel
theorem dX12_lay_7 : decode cX12_lay 7 = .ok (.lload_n 1, 1) := by decide +kernel
theorem dX12_lay_8 : decode cX12_lay 8 = .ok (.iload_n 3, 1) := by decide +kernel
theorem dX12_lay_9 : decode cX12_lay 9 = .ok (.lshr, 1) := by decide +kernel
theorem dX12_lay_10 : decode cX12_lay 10 = .ok (.l2i, 1) := by decide +kernel
theorem dX12_lay_11 : decode cX12_lay 11 = .ok (.sipush 255, 3) := by decide +kernel
theorem dX12_lay_14 : decode cX12_lay 14 = .ok (.iand, 1) := by decide +kernel
theorem dX12_lay_15 : decode cX12_lay 15 = .ok (.istore 4, 2) := by decide +kernel
theorem dX12_lay_17 : decode cX12_lay 17 = .ok (.iload 4, 2) := by decide +kernel
theorem dX12_lay_19 : decode cX12_lay 19 = .ok (.bipush 10, 2) := by decide +kernel
theorem dX12_lay_21 : decode cX12_lay 21 = .ok (.if_icmp .eq 17, 3) := by decide +kernel
theorem dX12_lay_24 : decode cX12_lay 24 = .ok (.iload 4, 2) := by decide +kernel
theorem dX12_lay_26 : decode cX12_lay 26 = .ok (.bipush 32, 2) := by decide +kernel
theorem dX12_lay_28 : decode cX12_lay 28 = .ok (.if_icmp .lt 41, 3) := by decide +kernel
theorem dX12_lay_31 : decode cX12_lay 31 = .ok (.iload 4, 2) := by decide +kernel
theorem dX12_lay_33 : decode cX12_lay 33 = .ok (.bipush 126, 2) := by decide +kernel
theorem dX12_lay_35 : decode cX12_lay 35 = .ok (.if_icmp .gt 34, 3) := by decide +kernel
theorem dX12_lay_38 : decode cX12_lay 38 = .ok (.aload_n 0, 1) := by decide +kernel
theorem dX12_lay_39 : decode cX12_lay 39 = .ok (.getfield 11, 3) := by decide +kernel
theorem dX12_lay_42 : decode cX12_lay 42 = .ok (.sipush 1000, 3) := by decide +kernel
theorem dX12_lay_45 : decode cX12_lay 45 = .ok (.if_icmp .ge 24, 3) := by decide +kernel
theorem dX12_lay_48 : decode cX12_lay 48 = .ok (.aload_n 0, 1) := by decide +kernel
theorem dX12_lay_49 : decode cX12_lay 49 = .ok (.getfield 14, 3) := by decide +kernel
theorem dX12_lay_52 : decode cX12_lay 52 = .ok (.aload_n 0, 1) := by decide +kernel
theorem dX12_lay_53 : decode cX12_lay 53 = .ok (.getfield 11, 3) := by decide +kernel
theorem dX12_lay_56 : decode cX12_lay 56 = .ok (.iload 4, 2) := by decide +kernel
theorem dX12_lay_58 : decode cX12_lay 58 = .ok (.iastore, 1) := by decide +kernel
theorem dX12_lay_59 : decode cX12_lay 59 = .ok (.aload_n 0, 1) := by decide +kernel
theorem dX12_lay_60 : decode cX12_lay 60 = .ok (.dup, 1) := by decide +kernel
theorem dX12_lay_61 : decode cX12_lay 61 = .ok (.getfield 11, 3) := by decide +kernel
theorem dX12_lay_64 : decode cX12_lay 64 = .ok (.iconst 1, 1) := by decide +kernel
theorem dX12_lay_65 : decode cX12_lay 65 = .ok (.iadd, 1) := by decide +kernel
theorem dX12_lay_66 : decode cX12_lay 66 = .ok (.putfield 11, 3) := by decide +kernel
theorem dX12_lay_69 : decode cX12_lay 69 = .ok (.iinc 3 (-8), 3) := by decide +kernel
theorem dX12_lay_72 : decode cX12_lay 72 = .ok (.goto (-69), 3) := by decide +kernel
theorem dX12_lay_75 : decode cX12_lay 75 = .ok (.return_, 1) := by decide +kernel
theorem dX12_init_0 : decode cX12_init 0 = .ok (.aload_n 0, 1) := by decide +kernel
theorem dX12_init_1 : decode cX12_init 1 = .ok (.invokespecial 18, 3) := by decide +kernel
theorem dX12_init_4 : decode cX12_init 4 = .ok (.aload_n 0, 1) := by decide +kernel
theorem dX12_init_5 : decode cX12_init 5 = .ok (.sipush 1000, 3) := by decide +kernel
theorem dX12_init_8 : decode cX12_init 8 = .ok (.newarray .int, 2) := by decide +kernel
theorem dX12_init_10 : decode cX12_init 10 = .ok (.putfield 14, 3) := by decide +kernel
theorem dX12_init_13 : decode cX12_init 13 = .ok (.aload_n 0, 1) := by decide +kernel
theorem dX12_init_14 : decode cX12_init 14 = .ok (.sipush 1002, 3) := by decide +kernel
theorem dX12_init_17 : decode cX12_init 17 = .ok (.newarray .int, 2) := by decide +kernel
theorem dX12_init_19 : decode cX12_init 19 = .ok (.putfield 24, 3) := by decide +kernel
theorem dX12_init_22 : decode cX12_init 22 = .ok (.aload_n 0, 1) := by decide +kernel
theorem dX12_init_23 : decode cX12_init 23 = .ok (.sipush 1002, 3) := by decide +kernel
theorem dX12_init_26 : decode cX12_init 26 = .ok (.newarray .int, 2) := by decide +kernel
theorem dX12_init_28 : decode cX12_init 28 = .ok (.putfield 27, 3) := by decide +kernel
theorem dX12_init_31 : decode cX12_init 31 = .ok (.aload_n 0, 1) := by decide +kernel
theorem dX12_init_32 : decode cX12_init 32 = .ok (.sipush 1002, 3) := by decide +kernel
theorem dX12_init_35 : decode cX12_init 35 = .ok (.newarray .long, 2) := by decide +kernel
theorem dX12_init_37 : decode cX12_init 37 = .ok (.putfield 30, 3) := by decide +kernel
theorem dX12_init_40 : decode cX12_init 40 = .ok (.aload_n 0, 1) := by decide +kernel
theorem dX12_init_41 : decode cX12_init 41 = .ok (.bipush 22, 2) := by decide +kernel
theorem dX12_init_43 : decode cX12_init 43 = .ok (.newarray .long, 2) := by decide +kernel
theorem dX12_init_45 : decode cX12_init 45 = .ok (.dup, 1) := by decide +kernel
theorem dX12_init_46 : decode cX12_init 46 = .ok (.iconst 0, 1) := by decide +kernel
theorem dX12_init_47 : decode cX12_init 47 = .ok (.ldc2_w 34, 3) := by decide +kernel
theorem dX12_init_50 : decode cX12_init 50 = .ok (.lastore, 1) := by decide +kernel
theorem dX12_init_51 : decode cX12_init 51 = .ok (.dup, 1) := by decide +kernel
theorem dX12_init_52 : decode cX12_init 52 = .ok (.iconst 1, 1) := by decide +kernel
theorem dX12_init_53 : decode cX12_init 53 = .ok (.ldc2_w 36, 3) := by decide +kernel
theorem dX12_init_56 : decode cX12_init 56 = .ok (.lastore, 1) := by decide +kernel
theorem dX12_init_57 : decode cX12_init 57 = .ok (.dup, 1) := by decide +kernel
theorem dX12_init_58 : decode cX12_init 58 = .ok (.iconst 2, 1) := by decide +kernel
theorem dX12_init_59 : decode cX12_init 59 = .ok (.ldc2_w 38, 3) := by decide +kernel
theorem dX12_init_62 : decode cX12_init 62 = .ok (.lastore, 1) := by decide +kernel
theorem dX12_init_63 : decode cX12_init 63 = .ok (.dup, 1) := by decide +kernel
theorem dX12_init_64 : decode cX12_init 64 = .ok (.iconst 3, 1) := by decide +kernel
theorem dX12_init_65 : decode cX12_init 65 = .ok (.ldc2_w 40, 3) := by decide +kernel
theorem dX12_init_68 : decode cX12_init 68 = .ok (.lastore, 1) := by decide +kernel
theorem dX12_init_69 : decode cX12_init 69 = .ok (.dup, 1) := by decide +kernel
theorem dX12_init_70 : decode cX12_init 70 = .ok (.iconst 4, 1) := by decide +kernel
theorem dX12_init_71 : decode cX12_init 71 = .ok (.ldc2_w 42, 3) := by decide +kernel
theorem dX12_init_74 : decode cX12_init 74 = .ok (.lastore, 1) := by decide +kernel
theorem dX12_init_75 : decode cX12_init 75 = .ok (.dup, 1) := by decide +kernel
theorem dX12_init_76 : decode cX12_init 76 = .ok (.iconst 5, 1) := by decide +kernel
theorem dX12_init_77 : decode cX12_init 77 = .ok (.ldc2_w 44, 3) := by decide +kernel
theorem dX12_init_80 : decode cX12_init 80 = .ok (.lastore, 1) := by decide +kernel
theorem dX12_init_81 : decode cX12_init 81 = .ok (.dup, 1) := by decide +kernel
theorem dX12_init_82 : decode cX12_init 82 = .ok (.bipush 6, 2) := by decide +kernel
theorem dX12_init_84 : decode cX12_init 84 = .ok (.ldc2_w 46, 3) := by decide +kernel
theorem dX12_init_87 : decode cX12_init 87 = .ok (.lastore, 1) := by decide +kernel
theorem dX12_init_88 : decode cX12_init 88 = .ok (.dup, 1) := by decide +kernel
theorem dX12_init_89 : decode cX12_init 89 = .ok (.bipush 7, 2) := by decide +kernel
theorem dX12_init_91 : decode cX12_init 91 = .ok (.ldc2_w 48, 3) := by decide +kernel
theorem dX12_init_94 : decode cX12_init 94 = .ok (.lastore, 1) := by decide +kernel
theorem dX12_init_95 : decode cX12_init 95 = .ok (.dup, 1) := by decide +kernel
theorem dX12_init_96 : decode cX12_init 96 = .ok (.bipush 8, 2) := by decide +kernel
theorem dX12_init_98 : decode cX12_init 98 = .ok (.ldc2_w 50, 3) := by decide +kernel
theorem dX12_init_101 : decode cX12_init 101 = .ok (.lastore, 1) := by decide +kernel
theorem dX12_init_102 : decode cX12_init 102 = .ok (.dup, 1) := by decide +kernel
theorem dX12_init_103 : decode cX12_init 103 = .ok (.bipush 9, 2) := by decide +kernel
theorem dX12_init_105 : decode cX12_init 105 = .ok (.ldc2_w 52, 3) := by decide +kernel
theorem dX12_init_108 : decode cX12_init 108 = .ok (.lastore, 1) := by decide +kernel
theorem dX12_init_109 : decode cX12_init 109 = .ok (.dup, 1) := by decide +kernel
theorem dX12_init_110 : decode cX12_init 110 = .ok (.bipush 10, 2) := by decide +kernel
theorem dX12_init_112 : decode cX12_init 112 = .ok (.ldc2_w 54, 3) := by decide +kernel
theorem dX12_init_115 : decode cX12_init 115 = .ok (.lastore, 1) := by decide +kernel
theorem dX12_init_116 : decode cX12_init 116 = .ok (.dup, 1) := by decide +kernel
theorem dX12_init_117 : decode cX12_init 117 = .ok (.bipush 11, 2) := by decide +kernel
theorem dX12_init_119 : decode cX12_init 119 = .ok (.ldc2_w 56, 3) := by decide +kernel
theorem dX12_init_122 : decode cX12_init 122 = .ok (.lastore, 1) := by decide +kernel
theorem dX12_init_123 : decode cX12_init 123 = .ok (.dup, 1) := by decide +kernel
theorem dX12_init_124 : decode cX12_init 124 = .ok (.bipush 12, 2) := by decide +kernel
theorem dX12_init_126 : decode cX12_init 126 = .ok (.ldc2_w 58, 3) := by decide +kernel
theorem dX12_init_129 : decode cX12_init 129 = .ok (.lastore, 1) := by decide +kernel
theorem dX12_init_130 : decode cX12_init 130 = .ok (.dup, 1) := by decide +kernel
theorem dX12_init_131 : decode cX12_init 131 = .ok (.bipush 13, 2) := by decide +kernel
theorem dX12_init_133 : decode cX12_init 133 = .ok (.ldc2_w 60, 3) := by decide +kernel
theorem dX12_init_136 : decode cX12_init 136 = .ok (.lastore, 1) := by decide +kernel
theorem dX12_init_137 : decode cX12_init 137 = .ok (.dup, 1) := by decide +kernel
theorem dX12_init_138 : decode cX12_init 138 = .ok (.bipush 14, 2) := by decide +kernel
theorem dX12_init_140 : decode cX12_init 140 = .ok (.ldc2_w 62, 3) := by decide +kernel
theorem dX12_init_143 : decode cX12_init 143 = .ok (.lastore, 1) := by decide +kernel
theorem dX12_init_144 : decode cX12_init 144 = .ok (.dup, 1) := by decide +kernel
theorem dX12_init_145 : decode cX12_init 145 = .ok (.bipush 15, 2) := by decide +kernel
theorem dX12_init_147 : decode cX12_init 147 = .ok (.ldc2_w 64, 3) := by decide +kernel
theorem dX12_init_150 : decode cX12_init 150 = .ok (.lastore, 1) := by decide +kernel
theorem dX12_init_151 : decode cX12_init 151 = .ok (.dup, 1) := by decide +kernel
theorem dX12_init_152 : decode cX12_init 152 = .ok (.bipush 16, 2) := by decide +kernel
theorem dX12_init_154 : decode cX12_init 154 = .ok (.ldc2_w 66, 3) := by decide +kernel
theorem dX12_init_157 : decode cX12_init 157 = .ok (.lastore, 1) := by decide +kernel
theorem dX12_init_158 : decode cX12_init 158 = .ok (.dup, 1) := by decide +kernel
theorem dX12_init_159 : decode cX12_init 159 = .ok (.bipush 17, 2) := by decide +kernel
theorem dX12_init_161 : decode cX12_init 161 = .ok (.ldc2_w 68, 3) := by decide +kernel
theorem dX12_init_164 : decode cX12_init 164 = .ok (.lastore, 1) := by decide +kernel
theorem dX12_init_165 : decode cX12_init 165 = .ok (.dup, 1) := by decide +kernel
theorem dX12_init_166 : decode cX12_init 166 = .ok (.bipush 18, 2) := by decide +kernel
theorem dX12_init_168 : decode cX12_init 168 = .ok (.ldc2_w 70, 3) := by decide +kernel
theorem dX12_init_171 : decode cX12_init 171 = .ok (.lastore, 1) := by decide +kernel
theorem dX12_init_172 : decode cX12_init 172 = .ok (.dup, 1) := by decide +kernel
theorem dX12_init_173 : decode cX12_init 173 = .ok (.bipush 19, 2) := by decide +kernel
theorem dX12_init_175 : decode cX12_init 175 = .ok (.ldc2_w 72, 3) := by decide +kernel
theorem dX12_init_178 : decode cX12_init 178 = .ok (.lastore, 1) := by decide +kernel
theorem dX12_init_179 : decode cX12_init 179 = .ok (.dup, 1) := by decide +kernel
theorem dX12_init_180 : decode cX12_init 180 = .ok (.bipush 20, 2) := by decide +kernel
theorem dX12_init_182 : decode cX12_init 182 = .ok (.ldc2_w 44, 3) := by decide +kernel
theorem dX12_init_185 : decode cX12_init 185 = .ok (.lastore, 1) := by decide +kernel
theorem dX12_init_186 : decode cX12_init 186 = .ok (.dup, 1) := by decide +kernel
theorem dX12_init_187 : decode cX12_init 187 = .ok (.bipush 21, 2) := by decide +kernel
theorem dX12_init_189 : decode cX12_init 189 = .ok (.ldc2_w 74, 3) := by decide +kernel
theorem dX12_init_192 : decode cX12_init 192 = .ok (.lastore, 1) := by decide +kernel
theorem dX12_init_193 : decode cX12_init 193 = .ok (.putfield 76, 3) := by decide +kernel
theorem dX12_init_196 : decode cX12_init 196 = .ok (.aload_n 0, 1) := by decide +kernel
theorem dX12_init_197 : decode cX12_init 197 = .ok (.sipush 180, 3) := by decide +kernel
theorem dX12_init_200 : decode cX12_init 200 = .ok (.newarray .int, 2) := by decide +kernel
theorem dX12_init_202 : decode cX12_init 202 = .ok (.putfield 79, 3) := by decide +kernel
theorem dX12_init_205 : decode cX12_init 205 = .ok (.aload_n 0, 1) := by decide +kernel
theorem dX12_init_206 : decode cX12_init 206 = .ok (.sipush 2200, 3) := by decide +kernel
theorem dX12_init_209 : decode cX12_init 209 = .ok (.newarray .int, 2) := by decide +kernel
theorem dX12_init_211 : decode cX12_init 211 = .ok (.putfield 82, 3) := by decide +kernel
theorem dX12_init_214 : decode cX12_init 214 = .ok (.aload_n 0, 1) := by decide +kernel
theorem dX12_init_215 : decode cX12_init 215 = .ok (.bipush 50, 2) := by decide +kernel
theorem dX12_init_217 : decode cX12_init 217 = .ok (.newarray .long, 2) := by decide +kernel
theorem dX12_init_219 : decode cX12_init 219 = .ok (.putfield 85, 3) := by decide +kernel
theorem dX12_init_222 : decode cX12_init 222 = .ok (.aload_n 0, 1) := by decide +kernel
theorem dX12_init_223 : decode cX12_init 223 = .ok (.sipush 190, 3) := by decide +kernel
theorem dX12_init_226 : decode cX12_init 226 = .ok (.newarray .int, 2) := by decide +kernel
theorem dX12_init_228 : decode cX12_init 228 = .ok (.putfield 88, 3) := by decide +kernel
theorem dX12_init_231 : decode cX12_init 231 = .ok (.aload_n 0, 1) := by decide +kernel
theorem dX12_init_232 : decode cX12_init 232 = .ok (.iconst 4, 1) := by decide +kernel
theorem dX12_init_233 : decode cX12_init 233 = .ok (.newarray .int, 2) := by decide +kernel
theorem dX12_init_235 : decode cX12_init 235 = .ok (.putfield 91, 3) := by decide +kernel
theorem dX12_init_238 : decode cX12_init 238 = .ok (.aload_n 0, 1) := by decide +kernel
theorem dX12_init_239 : decode cX12_init 239 = .ok (.bipush 64, 2) := by decide +kernel
theorem dX12_init_241 : decode cX12_init 241 = .ok (.newarray .int, 2) := by decide +kernel
theorem dX12_init_243 : decode cX12_init 243 = .ok (.putfield 94, 3) := by decide +kernel
theorem dX12_init_246 : decode cX12_init 246 = .ok (.aload_n 0, 1) := by decide +kernel
theorem dX12_init_247 : decode cX12_init 247 = .ok (.sipush 4485, 3) := by decide +kernel
theorem dX12_init_250 : decode cX12_init 250 = .ok (.newarray .int, 2) := by decide +kernel
theorem dX12_init_252 : decode cX12_init 252 = .ok (.putfield 97, 3) := by decide +kernel
theorem dX12_init_255 : decode cX12_init 255 = .ok (.aload_n 0, 1) := by decide +kernel
theorem dX12_init_256 : decode cX12_init 256 = .ok (.iconst 2, 1) := by decide +kernel
theorem dX12_init_257 : decode cX12_init 257 = .ok (.newarray .boolean, 2) := by decide +kernel
theorem dX12_init_259 : decode cX12_init 259 = .ok (.putfield 100, 3) := by decide +kernel
theorem dX12_init_262 : decode cX12_init 262 = .ok (.aload_n 0, 1) := by decide +kernel
theorem dX12_init_263 : decode cX12_init 263 = .ok (.bipush 20, 2) := by decide +kernel
theorem dX12_init_265 : decode cX12_init 265 = .ok (.newarray .int, 2) := by decide +kernel
theorem dX12_init_267 : decode cX12_init 267 = .ok (.putfield 104, 3) := by decide +kernel
theorem dX12_init_270 : decode cX12_init 270 = .ok (.aload_n 0, 1) := by decide +kernel
theorem dX12_init_271 : decode cX12_init 271 = .ok (.bipush 20, 2) := by decide +kernel
theorem dX12_init_273 : decode cX12_init 273 = .ok (.newarray .int, 2) := by decide +kernel
theorem dX12_init_275 : decode cX12_init 275 = .ok (.putfield 107, 3) := by decide +kernel
theorem dX12_init_278 : decode cX12_init 278 = .ok (.aload_n 0, 1) := by decide +kernel
theorem dX12_init_279 : decode cX12_init 279 = .ok (.bipush 30, 2) := by decide +kernel
theorem dX12_init_281 : decode cX12_init 281 = .ok (.newarray .int, 2) := by decide +kernel
theorem dX12_init_283 : decode cX12_init 283 = .ok (.putfield 110, 3) := by decide +kernel
theorem dX12_init_286 : decode cX12_init 286 = .ok (.aload_n 0, 1) := by decide +kernel
theorem dX12_init_287 : decode cX12_init 287 = .ok (.iconst 0, 1) := by decide +kernel
theorem dX12_init_288 : decode cX12_init 288 = .ok (.invokevirtual 113, 3) := by decide +kernel
theorem dX12_init_291 : decode cX12_init 291 = .ok (.aload_n 0, 1) := by decide +kernel
theorem dX12_init_292 : decode cX12_init 292 = .ok (.invokevirtual 117, 3) := by decide +kernel
theorem dX12_init_295 : decode cX12_init 295 = .ok (.return_, 1) := by decide +kernel
theorem dX12_isLetter_0 : decode cX12_isLetter 0 = .ok (.iload_n 0, 1) := by decide +kernel
theorem dX12_isLetter_1 : decode cX12_isLetter 1 = .ok (.bipush 97, 2) := by decide +kernel
theorem dX12_isLetter_3 : decode cX12_isLetter 3 = .ok (.if_icmp .lt 13, 3) := by decide +kernel
theorem dX12_isLetter_6 : decode cX12_isLetter 6 = .ok (.iload_n 0, 1) := by decide +kernel
theorem dX12_isLetter_7 : decode cX12_isLetter 7 = .ok (.bipush 122, 2) := by decide +kernel
theorem dX12_isLetter_9 : decode cX12_isLetter 9 = .ok (.if_icmp .gt 7, 3) := by decide +kernel
theorem dX12_isLetter_12 : decode cX12_isLetter 12 = .ok (.iconst 1, 1) := by decide +kernel
theorem dX12_isLetter_13 : decode cX12_isLetter 13 = .ok (.goto 4, 3) := by decide +kernel
theorem dX12_isLetter_16 : decode cX12_isLetter 16 = .ok (.iconst 0, 1) := by decide +kernel
theorem dX12_isLetter_17 : decode cX12_isLetter 17 = .ok (.ireturn, 1) := by decide +kernel
theorem dX12_isDigit_0 : decode cX12_isDigit 0 = .ok (.iload_n 0, 1) := by decide +kernel
theorem dX12_isDigit_1 : decode cX12_isDigit 1 = .ok (.bipush 48, 2) := by decide +kernel
theorem dX12_isDigit_3 : decode cX12_isDigit 3 = .ok (.if_icmp .lt 13, 3) := by decide +kernel
theorem dX12_isDigit_6 : decode cX12_isDigit 6 = .ok (.iload_n 0, 1) := by decide +kernel
theorem dX12_isDigit_7 : decode cX12_isDigit 7 = .ok (.bipush 57, 2) := by decide +kernel
theorem dX12_isDigit_9 : decode cX12_isDigit 9 = .ok (.if_icmp .gt 7, 3) := by decide +kernel
theorem dX12_isDigit_12 : decode cX12_isDigit 12 = .ok (.iconst 1, 1) := by decide +kernel
theorem dX12_isDigit_13 : decode cX12_isDigit 13 = .ok (.goto 4, 3) := by decide +kernel
theorem dX12_isDigit_16 : decode cX12_isDigit 16 = .ok (.iconst 0, 1) := by decide +kernel
theorem dX12_isDigit_17 : decode cX12_isDigit 17 = .ok (.ireturn, 1) := by decide +kernel
theorem dX12_rank_0 : decode cX12_rank 0 = .ok (.iload_n 0, 1) := by decide +kernel
theorem dX12_rank_1 : decode cX12_rank 1 = .ok (.invokestatic 120, 3) := by decide +kernel
theorem dX12_rank_4 : decode cX12_rank 4 = .ok (.ifCond .eq 10, 3) := by decide +kernel
theorem dX12_rank_7 : decode cX12_rank 7 = .ok (.iload_n 0, 1) := by decide +kernel
theorem dX12_rank_8 : decode cX12_rank 8 = .ok (.bipush 96, 2) := by decide +kernel
theorem dX12_rank_10 : decode cX12_rank 10 = .ok (.isub, 1) := by decide +kernel
theorem dX12_rank_11 : decode cX12_rank 11 = .ok (.goto 7, 3) := by decide +kernel
theorem dX12_rank_14 : decode cX12_rank 14 = .ok (.iload_n 0, 1) := by decide +kernel
theorem dX12_rank_15 : decode cX12_rank 15 = .ok (.bipush 21, 2) := by decide +kernel
theorem dX12_rank_17 : decode cX12_rank 17 = .ok (.isub, 1) := by decide +kernel
theorem dX12_rank_18 : decode cX12_rank 18 = .ok (.ireturn, 1) := by decide +kernel
theorem dX12_isSignOf_0 : decode cX12_isSignOf 0 = .ok (.iload_n 0, 1) := by decide +kernel
theorem dX12_isSignOf_1 : decode cX12_isSignOf 1 = .ok (.bipush 40, 2) := by decide +kernel
theorem dX12_isSignOf_3 : decode cX12_isSignOf 3 = .ok (.if_icmp .eq 45, 3) := by decide +kernel
theorem dX12_isSignOf_6 : decode cX12_isSignOf 6 = .ok (.iload_n 0, 1) := by decide +kernel
theorem dX12_isSignOf_7 : decode cX12_isSignOf 7 = .ok (.bipush 41, 2) := by decide +kernel
theorem dX12_isSignOf_9 : decode cX12_isSignOf 9 = .ok (.if_icmp .eq 39, 3) := by decide +kernel
theorem dX12_isSignOf_12 : decode cX12_isSignOf 12 = .ok (.iload_n 0, 1) := by decide +kernel
theorem dX12_isSignOf_13 : decode cX12_isSignOf 13 = .ok (.bipush 59, 2) := by decide +kernel
theorem dX12_isSignOf_15 : decode cX12_isSignOf 15 = .ok (.if_icmp .eq 33, 3) := by decide +kernel
theorem dX12_isSignOf_18 : decode cX12_isSignOf 18 = .ok (.iload_n 0, 1) := by decide +kernel
theorem dX12_isSignOf_19 : decode cX12_isSignOf 19 = .ok (.bipush 61, 2) := by decide +kernel
theorem dX12_isSignOf_21 : decode cX12_isSignOf 21 = .ok (.if_icmp .eq 27, 3) := by decide +kernel
theorem dX12_isSignOf_24 : decode cX12_isSignOf 24 = .ok (.iload_n 0, 1) := by decide +kernel
theorem dX12_isSignOf_25 : decode cX12_isSignOf 25 = .ok (.bipush 60, 2) := by decide +kernel
theorem dX12_isSignOf_27 : decode cX12_isSignOf 27 = .ok (.if_icmp .eq 21, 3) := by decide +kernel
theorem dX12_isSignOf_30 : decode cX12_isSignOf 30 = .ok (.iload_n 0, 1) := by decide +kernel
theorem dX12_isSignOf_31 : decode cX12_isSignOf 31 = .ok (.bipush 43, 2) := by decide +kernel
theorem dX12_isSignOf_33 : decode cX12_isSignOf 33 = .ok (.if_icmp .eq 15, 3) := by decide +kernel
theorem dX12_isSignOf_36 : decode cX12_isSignOf 36 = .ok (.iload_n 0, 1) := by decide +kernel
theorem dX12_isSignOf_37 : decode cX12_isSignOf 37 = .ok (.bipush 45, 2) := by decide +kernel
theorem dX12_isSignOf_39 : decode cX12_isSignOf 39 = .ok (.if_icmp .eq 9, 3) := by decide +kernel
theorem dX12_isSignOf_42 : decode cX12_isSignOf 42 = .ok (.iload_n 0, 1) := by decide +kernel
theorem dX12_isSignOf_43 : decode cX12_isSignOf 43 = .ok (.bipush 42, 2) := by decide +kernel
theorem dX12_isSignOf_45 : decode cX12_isSignOf 45 = .ok (.if_icmp .ne 7, 3) := by decide +kernel
theorem dX12_isSignOf_48 : decode cX12_isSignOf 48 = .ok (.iconst 1, 1) := by decide +kernel
theorem dX12_isSignOf_49 : decode cX12_isSignOf 49 = .ok (.goto 4, 3) := by decide +kernel
theorem dX12_isSignOf_52 : decode cX12_isSignOf 52 = .ok (.iconst 0, 1) := by decide +kernel
theorem dX12_isSignOf_53 : decode cX12_isSignOf 53 = .ok (.ireturn, 1) := by decide +kernel
theorem dX12_cutAll_0 : decode cX12_cutAll 0 = .ok (.aload_n 0, 1) := by decide +kernel
theorem dX12_cutAll_1 : decode cX12_cutAll 1 = .ok (.aload_n 0, 1) := by decide +kernel
theorem dX12_cutAll_2 : decode cX12_cutAll 2 = .ok (.getfield 11, 3) := by decide +kernel
theorem dX12_cutAll_5 : decode cX12_cutAll 5 = .ok (.putfield 124, 3) := by decide +kernel
theorem dX12_cutAll_8 : decode cX12_cutAll 8 = .ok (.aload_n 0, 1) := by decide +kernel
theorem dX12_cutAll_9 : decode cX12_cutAll 9 = .ok (.iconst 0, 1) := by decide +kernel
theorem dX12_cutAll_10 : decode cX12_cutAll 10 = .ok (.putfield 11, 3) := by decide +kernel
theorem dX12_cutAll_13 : decode cX12_cutAll 13 = .ok (.iconst 0, 1) := by decide +kernel
theorem dX12_cutAll_14 : decode cX12_cutAll 14 = .ok (.istore_n 1, 1) := by decide +kernel
theorem dX12_cutAll_15 : decode cX12_cutAll 15 = .ok (.iconst 0, 1) := by decide +kernel
theorem dX12_cutAll_16 : decode cX12_cutAll 16 = .ok (.istore_n 2, 1) := by decide +kernel
theorem dX12_cutAll_17 : decode cX12_cutAll 17 = .ok (.iload_n 2, 1) := by decide +kernel
theorem dX12_cutAll_18 : decode cX12_cutAll 18 = .ok (.aload_n 0, 1) := by decide +kernel
theorem dX12_cutAll_19 : decode cX12_cutAll 19 = .ok (.getfield 124, 3) := by decide +kernel
theorem dX12_cutAll_22 : decode cX12_cutAll 22 = .ok (.if_icmp .ge 257, 3) := by decide +kernel
theorem dX12_cutAll_25 : decode cX12_cutAll 25 = .ok (.aload_n 0, 1) := by decide +kernel
theorem dX12_cutAll_26 : decode cX12_cutAll 26 = .ok (.getfield 14, 3) := by decide +kernel
theorem dX12_cutAll_29 : decode cX12_cutAll 29 = .ok (.iload_n 2, 1) := by decide +kernel
theorem dX12_cutAll_30 : decode cX12_cutAll 30 = .ok (.iaload, 1) := by decide +kernel
theorem dX12_cutAll_31 : decode cX12_cutAll 31 = .ok (.istore_n 3, 1) := by decide +kernel
theorem dX12_cutAll_32 : decode cX12_cutAll 32 = .ok (.iload_n 3, 1) := by decide +kernel
theorem dX12_cutAll_33 : decode cX12_cutAll 33 = .ok (.bipush 10, 2) := by decide +kernel
theorem dX12_cutAll_35 : decode cX12_cutAll 35 = .ok (.if_icmp .eq 9, 3) := by decide +kernel
theorem dX12_cutAll_38 : decode cX12_cutAll 38 = .ok (.iload_n 3, 1) := by decide +kernel
theorem dX12_cutAll_39 : decode cX12_cutAll 39 = .ok (.bipush 32, 2) := by decide +kernel
theorem dX12_cutAll_41 : decode cX12_cutAll 41 = .ok (.if_icmp .ne 9, 3) := by decide +kernel
theorem dX12_cutAll_44 : decode cX12_cutAll 44 = .ok (.iinc 2 1, 3) := by decide +kernel
theorem dX12_cutAll_47 : decode cX12_cutAll 47 = .ok (.goto (-30), 3) := by decide +kernel
theorem dX12_cutAll_50 : decode cX12_cutAll 50 = .ok (.iload_n 2, 1) := by decide +kernel
theorem dX12_cutAll_51 : decode cX12_cutAll 51 = .ok (.istore 4, 2) := by decide +kernel
theorem dX12_cutAll_53 : decode cX12_cutAll 53 = .ok (.lconst 0, 1) := by decide +kernel
theorem dX12_cutAll_54 : decode cX12_cutAll 54 = .ok (.lstore 5, 2) := by decide +kernel
theorem dX12_cutAll_56 : decode cX12_cutAll 56 = .ok (.aload_n 0, 1) := by decide +kernel
theorem dX12_cutAll_57 : decode cX12_cutAll 57 = .ok (.getfield 27, 3) := by decide +kernel
theorem dX12_cutAll_60 : decode cX12_cutAll 60 = .ok (.iload_n 1, 1) := by decide +kernel
theorem dX12_cutAll_61 : decode cX12_cutAll 61 = .ok (.iload_n 2, 1) := by decide +kernel
theorem dX12_cutAll_62 : decode cX12_cutAll 62 = .ok (.iastore, 1) := by decide +kernel
theorem dX12_cutAll_63 : decode cX12_cutAll 63 = .ok (.iload_n 3, 1) := by decide +kernel
theorem dX12_cutAll_64 : decode cX12_cutAll 64 = .ok (.invokestatic 120, 3) := by decide +kernel
theorem dX12_cutAll_67 : decode cX12_cutAll 67 = .ok (.ifCond .eq 85, 3) := by decide +kernel
theorem dX12_cutAll_70 : decode cX12_cutAll 70 = .ok (.iload_n 2, 1) := by decide +kernel
theorem dX12_cutAll_71 : decode cX12_cutAll 71 = .ok (.aload_n 0, 1) := by decide +kernel
theorem dX12_cutAll_72 : decode cX12_cutAll 72 = .ok (.getfield 124, 3) := by decide +kernel
theorem dX12_cutAll_75 : decode cX12_cutAll 75 = .ok (.if_icmp .ge 54, 3) := by decide +kernel
theorem dX12_cutAll_78 : decode cX12_cutAll 78 = .ok (.aload_n 0, 1) := by decide +kernel
theorem dX12_cutAll_79 : decode cX12_cutAll 79 = .ok (.getfield 14, 3) := by decide +kernel
theorem dX12_cutAll_82 : decode cX12_cutAll 82 = .ok (.iload_n 2, 1) := by decide +kernel
theorem dX12_cutAll_83 : decode cX12_cutAll 83 = .ok (.iaload, 1) := by decide +kernel
theorem dX12_cutAll_84 : decode cX12_cutAll 84 = .ok (.invokestatic 120, 3) := by decide +kernel
theorem dX12_cutAll_87 : decode cX12_cutAll 87 = .ok (.ifCond .eq 42, 3) := by decide +kernel
theorem dX12_cutAll_90 : decode cX12_cutAll 90 = .ok (.iload_n 2, 1) := by decide +kernel
theorem dX12_cutAll_91 : decode cX12_cutAll 91 = .ok (.iload 4, 2) := by decide +kernel
theorem dX12_cutAll_93 : decode cX12_cutAll 93 = .ok (.isub, 1) := by decide +kernel
theorem dX12_cutAll_94 : decode cX12_cutAll 94 = .ok (.bipush 8, 2) := by decide +kernel
theorem dX12_cutAll_96 : decode cX12_cutAll 96 = .ok (.if_icmp .ge 23, 3) := by decide +kernel
theorem dX12_cutAll_99 : decode cX12_cutAll 99 = .ok (.ldc2_w 127, 3) := by decide +kernel
theorem dX12_cutAll_102 : decode cX12_cutAll 102 = .ok (.lload 5, 2) := by decide +kernel
theorem dX12_cutAll_104 : decode cX12_cutAll 104 = .ok (.lmul, 1) := by decide +kernel
theorem dX12_cutAll_105 : decode cX12_cutAll 105 = .ok (.aload_n 0, 1) := by decide +kernel
theorem dX12_cutAll_106 : decode cX12_cutAll 106 = .ok (.getfield 14, 3) := by decide +kernel
theorem dX12_cutAll_109 : decode cX12_cutAll 109 = .ok (.iload_n 2, 1) := by decide +kernel
theorem dX12_cutAll_110 : decode cX12_cutAll 110 = .ok (.iaload, 1) := by decide +kernel
theorem dX12_cutAll_111 : decode cX12_cutAll 111 = .ok (.invokestatic 129, 3) := by decide +kernel
theorem dX12_cutAll_114 : decode cX12_cutAll 114 = .ok (.i2l, 1) := by decide +kernel
theorem dX12_cutAll_115 : decode cX12_cutAll 115 = .ok (.ladd, 1) := by decide +kernel
theorem dX12_cutAll_116 : decode cX12_cutAll 116 = .ok (.goto 5, 3) := by decide +kernel
theorem dX12_cutAll_119 : decode cX12_cutAll 119 = .ok (.lload 5, 2) := by decide +kernel
theorem dX12_cutAll_121 : decode cX12_cutAll 121 = .ok (.lstore 5, 2) := by decide +kernel
theorem dX12_cutAll_123 : decode cX12_cutAll 123 = .ok (.iinc 2 1, 3) := by decide +kernel
theorem dX12_cutAll_126 : decode cX12_cutAll 126 = .ok (.goto (-56), 3) := by decide +kernel
theorem dX12_cutAll_129 : decode cX12_cutAll 129 = .ok (.aload_n 0, 1) := by decide +kernel
theorem dX12_cutAll_130 : decode cX12_cutAll 130 = .ok (.getfield 24, 3) := by decide +kernel
theorem dX12_cutAll_133 : decode cX12_cutAll 133 = .ok (.iload_n 1, 1) := by decide +kernel
theorem dX12_cutAll_134 : decode cX12_cutAll 134 = .ok (.iload_n 2, 1) := by decide +kernel
theorem dX12_cutAll_135 : decode cX12_cutAll 135 = .ok (.iload 4, 2) := by decide +kernel
theorem dX12_cutAll_137 : decode cX12_cutAll 137 = .ok (.isub, 1) := by decide +kernel
theorem dX12_cutAll_138 : decode cX12_cutAll 138 = .ok (.bipush 8, 2) := by decide +kernel
theorem dX12_cutAll_140 : decode cX12_cutAll 140 = .ok (.if_icmp .le 7, 3) := by decide +kernel
theorem dX12_cutAll_143 : decode cX12_cutAll 143 = .ok (.iconst 4, 1) := by decide +kernel
theorem dX12_cutAll_144 : decode cX12_cutAll 144 = .ok (.goto 4, 3) := by decide +kernel
theorem dX12_cutAll_147 : decode cX12_cutAll 147 = .ok (.iconst 1, 1) := by decide +kernel
theorem dX12_cutAll_148 : decode cX12_cutAll 148 = .ok (.iastore, 1) := by decide +kernel
theorem dX12_cutAll_149 : decode cX12_cutAll 149 = .ok (.goto 116, 3) := by decide +kernel
theorem dX12_cutAll_152 : decode cX12_cutAll 152 = .ok (.iload_n 3, 1) := by decide +kernel
theorem dX12_cutAll_153 : decode cX12_cutAll 153 = .ok (.invokestatic 133, 3) := by decide +kernel
theorem dX12_cutAll_156 : decode cX12_cutAll 156 = .ok (.ifCond .eq 84, 3) := by decide +kernel
theorem dX12_cutAll_159 : decode cX12_cutAll 159 = .ok (.iload_n 2, 1) := by decide +kernel
theorem dX12_cutAll_160 : decode cX12_cutAll 160 = .ok (.aload_n 0, 1) := by decide +kernel
theorem dX12_cutAll_161 : decode cX12_cutAll 161 = .ok (.getfield 124, 3) := by decide +kernel
theorem dX12_cutAll_164 : decode cX12_cutAll 164 = .ok (.if_icmp .ge 54, 3) := by decide +kernel
theorem dX12_cutAll_167 : decode cX12_cutAll 167 = .ok (.aload_n 0, 1) := by decide +kernel
theorem dX12_cutAll_168 : decode cX12_cutAll 168 = .ok (.getfield 14, 3) := by decide +kernel
theorem dX12_cutAll_171 : decode cX12_cutAll 171 = .ok (.iload_n 2, 1) := by decide +kernel
theorem dX12_cutAll_172 : decode cX12_cutAll 172 = .ok (.iaload, 1) := by decide +kernel
theorem dX12_cutAll_173 : decode cX12_cutAll 173 = .ok (.invokestatic 133, 3) := by decide +kernel
theorem dX12_cutAll_176 : decode cX12_cutAll 176 = .ok (.ifCond .eq 42, 3) := by decide +kernel
theorem dX12_cutAll_179 : decode cX12_cutAll 179 = .ok (.iload_n 2, 1) := by decide +kernel
theorem dX12_cutAll_180 : decode cX12_cutAll 180 = .ok (.iload 4, 2) := by decide +kernel
theorem dX12_cutAll_182 : decode cX12_cutAll 182 = .ok (.isub, 1) := by decide +kernel
theorem dX12_cutAll_183 : decode cX12_cutAll 183 = .ok (.iconst 4, 1) := by decide +kernel
theorem dX12_cutAll_184 : decode cX12_cutAll 184 = .ok (.if_icmp .ge 24, 3) := by decide +kernel
theorem dX12_cutAll_187 : decode cX12_cutAll 187 = .ok (.ldc2_w 136, 3) := by decide +kernel
theorem dX12_cutAll_190 : decode cX12_cutAll 190 = .ok (.lload 5, 2) := by decide +kernel
theorem dX12_cutAll_192 : decode cX12_cutAll 192 = .ok (.lmul, 1) := by decide +kernel
theorem dX12_cutAll_193 : decode cX12_cutAll 193 = .ok (.aload_n 0, 1) := by decide +kernel
theorem dX12_cutAll_194 : decode cX12_cutAll 194 = .ok (.getfield 14, 3) := by decide +kernel
theorem dX12_cutAll_197 : decode cX12_cutAll 197 = .ok (.iload_n 2, 1) := by decide +kernel
theorem dX12_cutAll_198 : decode cX12_cutAll 198 = .ok (.iaload, 1) := by decide +kernel
theorem dX12_cutAll_199 : decode cX12_cutAll 199 = .ok (.i2l, 1) := by decide +kernel
theorem dX12_cutAll_200 : decode cX12_cutAll 200 = .ok (.ladd, 1) := by decide +kernel
theorem dX12_cutAll_201 : decode cX12_cutAll 201 = .ok (.ldc2_w 138, 3) := by decide +kernel
theorem dX12_cutAll_204 : decode cX12_cutAll 204 = .ok (.lsub, 1) := by decide +kernel
theorem dX12_cutAll_205 : decode cX12_cutAll 205 = .ok (.goto 5, 3) := by decide +kernel
theorem dX12_cutAll_208 : decode cX12_cutAll 208 = .ok (.lload 5, 2) := by decide +kernel
theorem dX12_cutAll_210 : decode cX12_cutAll 210 = .ok (.lstore 5, 2) := by decide +kernel
theorem dX12_cutAll_212 : decode cX12_cutAll 212 = .ok (.iinc 2 1, 3) := by decide +kernel
theorem dX12_cutAll_215 : decode cX12_cutAll 215 = .ok (.goto (-56), 3) := by decide +kernel
theorem dX12_cutAll_218 : decode cX12_cutAll 218 = .ok (.aload_n 0, 1) := by decide +kernel
theorem dX12_cutAll_219 : decode cX12_cutAll 219 = .ok (.getfield 24, 3) := by decide +kernel
theorem dX12_cutAll_222 : decode cX12_cutAll 222 = .ok (.iload_n 1, 1) := by decide +kernel
theorem dX12_cutAll_223 : decode cX12_cutAll 223 = .ok (.iload_n 2, 1) := by decide +kernel
theorem dX12_cutAll_224 : decode cX12_cutAll 224 = .ok (.iload 4, 2) := by decide +kernel
theorem dX12_cutAll_226 : decode cX12_cutAll 226 = .ok (.isub, 1) := by decide +kernel
theorem dX12_cutAll_227 : decode cX12_cutAll 227 = .ok (.iconst 4, 1) := by decide +kernel
theorem dX12_cutAll_228 : decode cX12_cutAll 228 = .ok (.if_icmp .le 7, 3) := by decide +kernel
theorem dX12_cutAll_231 : decode cX12_cutAll 231 = .ok (.iconst 4, 1) := by decide +kernel
theorem dX12_cutAll_232 : decode cX12_cutAll 232 = .ok (.goto 4, 3) := by decide +kernel
theorem dX12_cutAll_235 : decode cX12_cutAll 235 = .ok (.iconst 2, 1) := by decide +kernel
theorem dX12_cutAll_236 : decode cX12_cutAll 236 = .ok (.iastore, 1) := by decide +kernel
theorem dX12_cutAll_237 : decode cX12_cutAll 237 = .ok (.goto 28, 3) := by decide +kernel
theorem dX12_cutAll_240 : decode cX12_cutAll 240 = .ok (.iload_n 3, 1) := by decide +kernel
theorem dX12_cutAll_241 : decode cX12_cutAll 241 = .ok (.i2l, 1) := by decide +kernel
theorem dX12_cutAll_242 : decode cX12_cutAll 242 = .ok (.lstore 5, 2) := by decide +kernel
theorem dX12_cutAll_244 : decode cX12_cutAll 244 = .ok (.aload_n 0, 1) := by decide +kernel
theorem dX12_cutAll_245 : decode cX12_cutAll 245 = .ok (.getfield 24, 3) := by decide +kernel
theorem dX12_cutAll_248 : decode cX12_cutAll 248 = .ok (.iload_n 1, 1) := by decide +kernel
theorem dX12_cutAll_249 : decode cX12_cutAll 249 = .ok (.iload_n 3, 1) := by decide +kernel
theorem dX12_cutAll_250 : decode cX12_cutAll 250 = .ok (.invokestatic 140, 3) := by decide +kernel
theorem dX12_cutAll_253 : decode cX12_cutAll 253 = .ok (.ifCond .eq 7, 3) := by decide +kernel
theorem dX12_cutAll_256 : decode cX12_cutAll 256 = .ok (.iconst 3, 1) := by decide +kernel
theorem dX12_cutAll_257 : decode cX12_cutAll 257 = .ok (.goto 4, 3) := by decide +kernel
theorem dX12_cutAll_260 : decode cX12_cutAll 260 = .ok (.iconst 4, 1) := by decide +kernel
theorem dX12_cutAll_261 : decode cX12_cutAll 261 = .ok (.iastore, 1) := by decide +kernel
theorem dX12_cutAll_262 : decode cX12_cutAll 262 = .ok (.iinc 2 1, 3) := by decide +kernel
theorem dX12_cutAll_265 : decode cX12_cutAll 265 = .ok (.aload_n 0, 1) := by decide +kernel
theorem dX12_cutAll_266 : decode cX12_cutAll 266 = .ok (.getfield 30, 3) := by decide +kernel
theorem dX12_cutAll_269 : decode cX12_cutAll 269 = .ok (.iload_n 1, 1) := by decide +kernel
theorem dX12_cutAll_270 : decode cX12_cutAll 270 = .ok (.lload 5, 2) := by decide +kernel
theorem dX12_cutAll_272 : decode cX12_cutAll 272 = .ok (.lastore, 1) := by decide +kernel
theorem dX12_cutAll_273 : decode cX12_cutAll 273 = .ok (.iinc 1 1, 3) := by decide +kernel
theorem dX12_cutAll_276 : decode cX12_cutAll 276 = .ok (.goto (-259), 3) := by decide +kernel
theorem dX12_cutAll_279 : decode cX12_cutAll 279 = .ok (.aload_n 0, 1) := by decide +kernel
theorem dX12_cutAll_280 : decode cX12_cutAll 280 = .ok (.getfield 24, 3) := by decide +kernel
theorem dX12_cutAll_283 : decode cX12_cutAll 283 = .ok (.iload_n 1, 1) := by decide +kernel
theorem dX12_cutAll_284 : decode cX12_cutAll 284 = .ok (.iconst 0, 1) := by decide +kernel
theorem dX12_cutAll_285 : decode cX12_cutAll 285 = .ok (.iastore, 1) := by decide +kernel
theorem dX12_cutAll_286 : decode cX12_cutAll 286 = .ok (.aload_n 0, 1) := by decide +kernel
theorem dX12_cutAll_287 : decode cX12_cutAll 287 = .ok (.getfield 27, 3) := by decide +kernel
theorem dX12_cutAll_290 : decode cX12_cutAll 290 = .ok (.iload_n 1, 1) := by decide +kernel
theorem dX12_cutAll_291 : decode cX12_cutAll 291 = .ok (.aload_n 0, 1) := by decide +kernel
theorem dX12_cutAll_292 : decode cX12_cutAll 292 = .ok (.getfield 124, 3) := by decide +kernel
theorem dX12_cutAll_295 : decode cX12_cutAll 295 = .ok (.iastore, 1) := by decide +kernel
theorem dX12_cutAll_296 : decode cX12_cutAll 296 = .ok (.aload_n 0, 1) := by decide +kernel
theorem dX12_cutAll_297 : decode cX12_cutAll 297 = .ok (.iconst 0, 1) := by decide +kernel
theorem dX12_cutAll_298 : decode cX12_cutAll 298 = .ok (.putfield 143, 3) := by decide +kernel
theorem dX12_cutAll_301 : decode cX12_cutAll 301 = .ok (.aload_n 0, 1) := by decide +kernel
theorem dX12_cutAll_302 : decode cX12_cutAll 302 = .ok (.iconst 0, 1) := by decide +kernel
theorem dX12_cutAll_303 : decode cX12_cutAll 303 = .ok (.putfield 146, 3) := by decide +kernel
theorem dX12_cutAll_306 : decode cX12_cutAll 306 = .ok (.return_, 1) := by decide +kernel
theorem dX12_wrong_0 : decode cX12_wrong 0 = .ok (.aload_n 0, 1) := by decide +kernel
theorem dX12_wrong_1 : decode cX12_wrong 1 = .ok (.getfield 146, 3) := by decide +kernel
theorem dX12_wrong_4 : decode cX12_wrong 4 = .ok (.ifCond .ne 21, 3) := by decide +kernel
theorem dX12_wrong_7 : decode cX12_wrong 7 = .ok (.aload_n 0, 1) := by decide +kernel
theorem dX12_wrong_8 : decode cX12_wrong 8 = .ok (.iload_n 1, 1) := by decide +kernel
theorem dX12_wrong_9 : decode cX12_wrong 9 = .ok (.bipush 16, 2) := by decide +kernel
theorem dX12_wrong_11 : decode cX12_wrong 11 = .ok (.aload_n 0, 1) := by decide +kernel
theorem dX12_wrong_12 : decode cX12_wrong 12 = .ok (.getfield 27, 3) := by decide +kernel
theorem dX12_wrong_15 : decode cX12_wrong 15 = .ok (.aload_n 0, 1) := by decide +kernel
theorem dX12_wrong_16 : decode cX12_wrong 16 = .ok (.getfield 143, 3) := by decide +kernel
theorem dX12_wrong_19 : decode cX12_wrong 19 = .ok (.iaload, 1) := by decide +kernel
theorem dX12_wrong_20 : decode cX12_wrong 20 = .ok (.imul, 1) := by decide +kernel
theorem dX12_wrong_21 : decode cX12_wrong 21 = .ok (.iadd, 1) := by decide +kernel
theorem dX12_wrong_22 : decode cX12_wrong 22 = .ok (.putfield 146, 3) := by decide +kernel
theorem dX12_wrong_25 : decode cX12_wrong 25 = .ok (.return_, 1) := by decide +kernel
theorem dX12_isSign_0 : decode cX12_isSign 0 = .ok (.aload_n 0, 1) := by decide +kernel
theorem dX12_isSign_1 : decode cX12_isSign 1 = .ok (.getfield 146, 3) := by decide +kernel
theorem dX12_isSign_4 : decode cX12_isSign 4 = .ok (.ifCond .ne 35, 3) := by decide +kernel
theorem dX12_isSign_7 : decode cX12_isSign 7 = .ok (.aload_n 0, 1) := by decide +kernel
theorem dX12_isSign_8 : decode cX12_isSign 8 = .ok (.getfield 24, 3) := by decide +kernel
theorem dX12_isSign_11 : decode cX12_isSign 11 = .ok (.aload_n 0, 1) := by decide +kernel
theorem dX12_isSign_12 : decode cX12_isSign 12 = .ok (.getfield 143, 3) := by decide +kernel
theorem dX12_isSign_15 : decode cX12_isSign 15 = .ok (.iaload, 1) := by decide +kernel
theorem dX12_isSign_16 : decode cX12_isSign 16 = .ok (.iconst 3, 1) := by decide +kernel
theorem dX12_isSign_17 : decode cX12_isSign 17 = .ok (.if_icmp .ne 22, 3) := by decide +kernel
theorem dX12_isSign_20 : decode cX12_isSign 20 = .ok (.aload_n 0, 1) := by decide +kernel
theorem dX12_isSign_21 : decode cX12_isSign 21 = .ok (.getfield 30, 3) := by decide +kernel
theorem dX12_isSign_24 : decode cX12_isSign 24 = .ok (.aload_n 0, 1) := by decide +kernel
theorem dX12_isSign_25 : decode cX12_isSign 25 = .ok (.getfield 143, 3) := by decide +kernel
theorem dX12_isSign_28 : decode cX12_isSign 28 = .ok (.laload, 1) := by decide +kernel
theorem dX12_isSign_29 : decode cX12_isSign 29 = .ok (.iload_n 1, 1) := by decide +kernel
theorem dX12_isSign_30 : decode cX12_isSign 30 = .ok (.i2l, 1) := by decide +kernel
theorem dX12_isSign_31 : decode cX12_isSign 31 = .ok (.lcmp, 1) := by decide +kernel
theorem dX12_isSign_32 : decode cX12_isSign 32 = .ok (.ifCond .ne 7, 3) := by decide +kernel
theorem dX12_isSign_35 : decode cX12_isSign 35 = .ok (.iconst 1, 1) := by decide +kernel
theorem dX12_isSign_36 : decode cX12_isSign 36 = .ok (.goto 4, 3) := by decide +kernel
theorem dX12_isSign_39 : decode cX12_isSign 39 = .ok (.iconst 0, 1) := by decide +kernel
theorem dX12_isSign_40 : decode cX12_isSign 40 = .ok (.ireturn, 1) := by decide +kernel
theorem dX12_isWord_0 : decode cX12_isWord 0 = .ok (.aload_n 0, 1) := by decide +kernel
theorem dX12_isWord_1 : decode cX12_isWord 1 = .ok (.getfield 146, 3) := by decide +kernel
theorem dX12_isWord_4 : decode cX12_isWord 4 = .ok (.ifCond .ne 39, 3) := by decide +kernel
theorem dX12_isWord_7 : decode cX12_isWord 7 = .ok (.aload_n 0, 1) := by decide +kernel
theorem dX12_isWord_8 : decode cX12_isWord 8 = .ok (.getfield 24, 3) := by decide +kernel
theorem dX12_isWord_11 : decode cX12_isWord 11 = .ok (.aload_n 0, 1) := by decide +kernel
theorem dX12_isWord_12 : decode cX12_isWord 12 = .ok (.getfield 143, 3) := by decide +kernel
theorem dX12_isWord_15 : decode cX12_isWord 15 = .ok (.iaload, 1) := by decide +kernel
theorem dX12_isWord_16 : decode cX12_isWord 16 = .ok (.iconst 1, 1) := by decide +kernel
theorem dX12_isWord_17 : decode cX12_isWord 17 = .ok (.if_icmp .ne 26, 3) := by decide +kernel
theorem dX12_isWord_20 : decode cX12_isWord 20 = .ok (.aload_n 0, 1) := by decide +kernel
theorem dX12_isWord_21 : decode cX12_isWord 21 = .ok (.getfield 30, 3) := by decide +kernel
theorem dX12_isWord_24 : decode cX12_isWord 24 = .ok (.aload_n 0, 1) := by decide +kernel
theorem dX12_isWord_25 : decode cX12_isWord 25 = .ok (.getfield 143, 3) := by decide +kernel
theorem dX12_isWord_28 : decode cX12_isWord 28 = .ok (.laload, 1) := by decide +kernel
theorem dX12_isWord_29 : decode cX12_isWord 29 = .ok (.aload_n 0, 1) := by decide +kernel
theorem dX12_isWord_30 : decode cX12_isWord 30 = .ok (.getfield 76, 3) := by decide +kernel
theorem dX12_isWord_33 : decode cX12_isWord 33 = .ok (.iload_n 1, 1) := by decide +kernel
theorem dX12_isWord_34 : decode cX12_isWord 34 = .ok (.laload, 1) := by decide +kernel
theorem dX12_isWord_35 : decode cX12_isWord 35 = .ok (.lcmp, 1) := by decide +kernel
theorem dX12_isWord_36 : decode cX12_isWord 36 = .ok (.ifCond .ne 7, 3) := by decide +kernel
theorem dX12_isWord_39 : decode cX12_isWord 39 = .ok (.iconst 1, 1) := by decide +kernel
theorem dX12_isWord_40 : decode cX12_isWord 40 = .ok (.goto 4, 3) := by decide +kernel
theorem dX12_isWord_43 : decode cX12_isWord 43 = .ok (.iconst 0, 1) := by decide +kernel
theorem dX12_isWord_44 : decode cX12_isWord 44 = .ok (.ireturn, 1) := by decide +kernel
