theorem dX12_raisedIn_2 : decode cX12_raisedIn 2 = .ok (.iconst 0, 1) := by decide +kernel
theorem dX12_raisedIn_3 : decode cX12_raisedIn 3 = .ok (.istore 4, 2) := by decide +kernel
theorem dX12_raisedIn_5 : decode cX12_raisedIn 5 = .ok (.iload 4, 2) := by decide +kernel
theorem dX12_raisedIn_7 : decode cX12_raisedIn 7 = .ok (.aload_n 0, 1) := by decide +kernel
theorem dX12_raisedIn_8 : decode cX12_raisedIn 8 = .ok (.invokevirtual 217, 3) := by decide +kernel
theorem dX12_raisedIn_11 : decode cX12_raisedIn 11 = .ok (.if_icmp .ge 48, 3) := by decide +kernel
theorem dX12_raisedIn_14 : decode cX12_raisedIn 14 = .ok (.iload_n 3, 1) := by decide +kernel
theorem dX12_raisedIn_15 : decode cX12_raisedIn 15 = .ok (.iload_n 2, 1) := by decide +kernel
theorem dX12_raisedIn_16 : decode cX12_raisedIn 16 = .ok (.ifCond .lt 20, 3) := by decide +kernel
theorem dX12_raisedIn_19 : decode cX12_raisedIn 19 = .ok (.aload_n 0, 1) := by decide +kernel
theorem dX12_raisedIn_20 : decode cX12_raisedIn 20 = .ok (.getfield 97, 3) := by decide +kernel
theorem dX12_raisedIn_23 : decode cX12_raisedIn 23 = .ok (.iload_n 1, 1) := by decide +kernel
theorem dX12_raisedIn_24 : decode cX12_raisedIn 24 = .ok (.sipush 240, 3) := by decide +kernel
theorem dX12_raisedIn_27 : decode cX12_raisedIn 27 = .ok (.iadd, 1) := by decide +kernel
theorem dX12_raisedIn_28 : decode cX12_raisedIn 28 = .ok (.iload 4, 2) := by decide +kernel
theorem dX12_raisedIn_30 : decode cX12_raisedIn 30 = .ok (.iadd, 1) := by decide +kernel
theorem dX12_raisedIn_31 : decode cX12_raisedIn 31 = .ok (.iaload, 1) := by decide +kernel
theorem dX12_raisedIn_32 : decode cX12_raisedIn 32 = .ok (.iload_n 2, 1) := by decide +kernel
theorem dX12_raisedIn_33 : decode cX12_raisedIn 33 = .ok (.if_icmp .ne 17, 3) := by decide +kernel
theorem dX12_raisedIn_36 : decode cX12_raisedIn 36 = .ok (.aload_n 0, 1) := by decide +kernel
theorem dX12_raisedIn_37 : decode cX12_raisedIn 37 = .ok (.iload_n 1, 1) := by decide +kernel
theorem dX12_raisedIn_38 : decode cX12_raisedIn 38 = .ok (.iload 4, 2) := by decide +kernel
theorem dX12_raisedIn_40 : decode cX12_raisedIn 40 = .ok (.invokevirtual 388, 3) := by decide +kernel
theorem dX12_raisedIn_43 : decode cX12_raisedIn 43 = .ok (.ifCond .eq 7, 3) := by decide +kernel
theorem dX12_raisedIn_46 : decode cX12_raisedIn 46 = .ok (.iconst 1, 1) := by decide +kernel
theorem dX12_raisedIn_47 : decode cX12_raisedIn 47 = .ok (.goto 4, 3) := by decide +kernel
theorem dX12_raisedIn_50 : decode cX12_raisedIn 50 = .ok (.iconst 0, 1) := by decide +kernel
theorem dX12_raisedIn_51 : decode cX12_raisedIn 51 = .ok (.iadd, 1) := by decide +kernel
theorem dX12_raisedIn_52 : decode cX12_raisedIn 52 = .ok (.istore_n 3, 1) := by decide +kernel
theorem dX12_raisedIn_53 : decode cX12_raisedIn 53 = .ok (.iinc 4 1, 3) := by decide +kernel
theorem dX12_raisedIn_56 : decode cX12_raisedIn 56 = .ok (.goto (-51), 3) := by decide +kernel
theorem dX12_raisedIn_59 : decode cX12_raisedIn 59 = .ok (.iload_n 3, 1) := by decide +kernel
theorem dX12_raisedIn_60 : decode cX12_raisedIn 60 = .ok (.ireturn, 1) := by decide +kernel
theorem dX12_onFloor_0 : decode cX12_onFloor 0 = .ok (.iconst 0, 1) := by decide +kernel
theorem dX12_onFloor_1 : decode cX12_onFloor 1 = .ok (.istore_n 2, 1) := by decide +kernel
theorem dX12_onFloor_2 : decode cX12_onFloor 2 = .ok (.iconst 0, 1) := by decide +kernel
theorem dX12_onFloor_3 : decode cX12_onFloor 3 = .ok (.istore_n 3, 1) := by decide +kernel
theorem dX12_onFloor_4 : decode cX12_onFloor 4 = .ok (.iload_n 3, 1) := by decide +kernel
theorem dX12_onFloor_5 : decode cX12_onFloor 5 = .ok (.aload_n 0, 1) := by decide +kernel
theorem dX12_onFloor_6 : decode cX12_onFloor 6 = .ok (.invokevirtual 217, 3) := by decide +kernel
theorem dX12_onFloor_9 : decode cX12_onFloor 9 = .ok (.if_icmp .ge 47, 3) := by decide +kernel
theorem dX12_onFloor_12 : decode cX12_onFloor 12 = .ok (.iload_n 2, 1) := by decide +kernel
theorem dX12_onFloor_13 : decode cX12_onFloor 13 = .ok (.aload_n 0, 1) := by decide +kernel
theorem dX12_onFloor_14 : decode cX12_onFloor 14 = .ok (.getfield 97, 3) := by decide +kernel
theorem dX12_onFloor_17 : decode cX12_onFloor 17 = .ok (.iload_n 1, 1) := by decide +kernel
theorem dX12_onFloor_18 : decode cX12_onFloor 18 = .ok (.sipush 240, 3) := by decide +kernel
theorem dX12_onFloor_21 : decode cX12_onFloor 21 = .ok (.iadd, 1) := by decide +kernel
theorem dX12_onFloor_22 : decode cX12_onFloor 22 = .ok (.iload_n 3, 1) := by decide +kernel
theorem dX12_onFloor_23 : decode cX12_onFloor 23 = .ok (.iadd, 1) := by decide +kernel
theorem dX12_onFloor_24 : decode cX12_onFloor 24 = .ok (.iaload, 1) := by decide +kernel
theorem dX12_onFloor_25 : decode cX12_onFloor 25 = .ok (.ifCond .ge 22, 3) := by decide +kernel
theorem dX12_onFloor_28 : decode cX12_onFloor 28 = .ok (.aload_n 0, 1) := by decide +kernel
theorem dX12_onFloor_29 : decode cX12_onFloor 29 = .ok (.getfield 97, 3) := by decide +kernel
theorem dX12_onFloor_32 : decode cX12_onFloor 32 = .ok (.iload_n 1, 1) := by decide +kernel
theorem dX12_onFloor_33 : decode cX12_onFloor 33 = .ok (.sipush 260, 3) := by decide +kernel
theorem dX12_onFloor_36 : decode cX12_onFloor 36 = .ok (.iadd, 1) := by decide +kernel
theorem dX12_onFloor_37 : decode cX12_onFloor 37 = .ok (.iload_n 3, 1) := by decide +kernel
theorem dX12_onFloor_38 : decode cX12_onFloor 38 = .ok (.iadd, 1) := by decide +kernel
theorem dX12_onFloor_39 : decode cX12_onFloor 39 = .ok (.iaload, 1) := by decide +kernel
theorem dX12_onFloor_40 : decode cX12_onFloor 40 = .ok (.ifCond .ge 7, 3) := by decide +kernel
theorem dX12_onFloor_43 : decode cX12_onFloor 43 = .ok (.iconst 1, 1) := by decide +kernel
theorem dX12_onFloor_44 : decode cX12_onFloor 44 = .ok (.goto 4, 3) := by decide +kernel
theorem dX12_onFloor_47 : decode cX12_onFloor 47 = .ok (.iconst 0, 1) := by decide +kernel
theorem dX12_onFloor_48 : decode cX12_onFloor 48 = .ok (.iadd, 1) := by decide +kernel
theorem dX12_onFloor_49 : decode cX12_onFloor 49 = .ok (.istore_n 2, 1) := by decide +kernel
theorem dX12_onFloor_50 : decode cX12_onFloor 50 = .ok (.iinc 3 1, 3) := by decide +kernel
theorem dX12_onFloor_53 : decode cX12_onFloor 53 = .ok (.goto (-49), 3) := by decide +kernel
theorem dX12_onFloor_56 : decode cX12_onFloor 56 = .ok (.iload_n 2, 1) := by decide +kernel
theorem dX12_onFloor_57 : decode cX12_onFloor 57 = .ok (.ireturn, 1) := by decide +kernel
theorem dX12_judged_0 : decode cX12_judged 0 = .ok (.aload_n 0, 1) := by decide +kernel
theorem dX12_judged_1 : decode cX12_judged 1 = .ok (.iconst 0, 1) := by decide +kernel
theorem dX12_judged_2 : decode cX12_judged 2 = .ok (.putfield 1, 3) := by decide +kernel
theorem dX12_judged_5 : decode cX12_judged 5 = .ok (.iload_n 1, 1) := by decide +kernel
theorem dX12_judged_6 : decode cX12_judged 6 = .ok (.iconst 0, 1) := by decide +kernel
theorem dX12_judged_7 : decode cX12_judged 7 = .ok (.iconst 2, 1) := by decide +kernel
theorem dX12_judged_8 : decode cX12_judged 8 = .ok (.invokestatic 376, 3) := by decide +kernel
theorem dX12_judged_11 : decode cX12_judged 11 = .ok (.ifCond .ne 6, 3) := by decide +kernel
theorem dX12_judged_14 : decode cX12_judged 14 = .ok (.bipush (-2), 2) := by decide +kernel
theorem dX12_judged_16 : decode cX12_judged 16 = .ok (.ireturn, 1) := by decide +kernel
theorem dX12_judged_17 : decode cX12_judged 17 = .ok (.aload_n 0, 1) := by decide +kernel
theorem dX12_judged_18 : decode cX12_judged 18 = .ok (.sipush 3795, 3) := by decide +kernel
theorem dX12_judged_21 : decode cX12_judged 21 = .ok (.invokevirtual 286, 3) := by decide +kernel
theorem dX12_judged_24 : decode cX12_judged 24 = .ok (.iconst (-1), 1) := by decide +kernel
theorem dX12_judged_25 : decode cX12_judged 25 = .ok (.istore_n 2, 1) := by decide +kernel
theorem dX12_judged_26 : decode cX12_judged 26 = .ok (.iconst 0, 1) := by decide +kernel
theorem dX12_judged_27 : decode cX12_judged 27 = .ok (.istore_n 3, 1) := by decide +kernel
theorem dX12_judged_28 : decode cX12_judged 28 = .ok (.iload_n 3, 1) := by decide +kernel
theorem dX12_judged_29 : decode cX12_judged 29 = .ok (.aload_n 0, 1) := by decide +kernel
theorem dX12_judged_30 : decode cX12_judged 30 = .ok (.getfield 88, 3) := by decide +kernel
theorem dX12_judged_33 : decode cX12_judged 33 = .ok (.iconst 0, 1) := by decide +kernel
theorem dX12_judged_34 : decode cX12_judged 34 = .ok (.iaload, 1) := by decide +kernel
theorem dX12_judged_35 : decode cX12_judged 35 = .ok (.if_icmp .ge 59, 3) := by decide +kernel
theorem dX12_judged_38 : decode cX12_judged 38 = .ok (.aload_n 0, 1) := by decide +kernel
theorem dX12_judged_39 : decode cX12_judged 39 = .ok (.sipush 3795, 3) := by decide +kernel
theorem dX12_judged_42 : decode cX12_judged 42 = .ok (.aload_n 0, 1) := by decide +kernel
theorem dX12_judged_43 : decode cX12_judged 43 = .ok (.getfield 88, 3) := by decide +kernel
theorem dX12_judged_46 : decode cX12_judged 46 = .ok (.iconst 1, 1) := by decide +kernel
theorem dX12_judged_47 : decode cX12_judged 47 = .ok (.iconst 3, 1) := by decide +kernel
theorem dX12_judged_48 : decode cX12_judged 48 = .ok (.iload_n 3, 1) := by decide +kernel
theorem dX12_judged_49 : decode cX12_judged 49 = .ok (.imul, 1) := by decide +kernel
theorem dX12_judged_50 : decode cX12_judged 50 = .ok (.iadd, 1) := by decide +kernel
theorem dX12_judged_51 : decode cX12_judged 51 = .ok (.iaload, 1) := by decide +kernel
theorem dX12_judged_52 : decode cX12_judged 52 = .ok (.aload_n 0, 1) := by decide +kernel
theorem dX12_judged_53 : decode cX12_judged 53 = .ok (.getfield 88, 3) := by decide +kernel
theorem dX12_judged_56 : decode cX12_judged 56 = .ok (.iconst 2, 1) := by decide +kernel
theorem dX12_judged_57 : decode cX12_judged 57 = .ok (.iconst 3, 1) := by decide +kernel
theorem dX12_judged_58 : decode cX12_judged 58 = .ok (.iload_n 3, 1) := by decide +kernel
theorem dX12_judged_59 : decode cX12_judged 59 = .ok (.imul, 1) := by decide +kernel
theorem dX12_judged_60 : decode cX12_judged 60 = .ok (.iadd, 1) := by decide +kernel
theorem dX12_judged_61 : decode cX12_judged 61 = .ok (.iaload, 1) := by decide +kernel
theorem dX12_judged_62 : decode cX12_judged 62 = .ok (.aload_n 0, 1) := by decide +kernel
theorem dX12_judged_63 : decode cX12_judged 63 = .ok (.getfield 88, 3) := by decide +kernel
theorem dX12_judged_66 : decode cX12_judged 66 = .ok (.iconst 3, 1) := by decide +kernel
theorem dX12_judged_67 : decode cX12_judged 67 = .ok (.iconst 3, 1) := by decide +kernel
theorem dX12_judged_68 : decode cX12_judged 68 = .ok (.iload_n 3, 1) := by decide +kernel
theorem dX12_judged_69 : decode cX12_judged 69 = .ok (.imul, 1) := by decide +kernel
theorem dX12_judged_70 : decode cX12_judged 70 = .ok (.iadd, 1) := by decide +kernel
theorem dX12_judged_71 : decode cX12_judged 71 = .ok (.iaload, 1) := by decide +kernel
theorem dX12_judged_72 : decode cX12_judged 72 = .ok (.invokevirtual 391, 3) := by decide +kernel
theorem dX12_judged_75 : decode cX12_judged 75 = .ok (.ifCond .ne 11, 3) := by decide +kernel
theorem dX12_judged_78 : decode cX12_judged 78 = .ok (.iload_n 2, 1) := by decide +kernel
theorem dX12_judged_79 : decode cX12_judged 79 = .ok (.ifCond .ge 7, 3) := by decide +kernel
theorem dX12_judged_82 : decode cX12_judged 82 = .ok (.iload_n 3, 1) := by decide +kernel
theorem dX12_judged_83 : decode cX12_judged 83 = .ok (.goto 4, 3) := by decide +kernel
theorem dX12_judged_86 : decode cX12_judged 86 = .ok (.iload_n 2, 1) := by decide +kernel
theorem dX12_judged_87 : decode cX12_judged 87 = .ok (.istore_n 2, 1) := by decide +kernel
theorem dX12_judged_88 : decode cX12_judged 88 = .ok (.iinc 3 1, 3) := by decide +kernel
theorem dX12_judged_91 : decode cX12_judged 91 = .ok (.goto (-63), 3) := by decide +kernel
theorem dX12_judged_94 : decode cX12_judged 94 = .ok (.iload_n 1, 1) := by decide +kernel
theorem dX12_judged_95 : decode cX12_judged 95 = .ok (.ifCond .ne 7, 3) := by decide +kernel
theorem dX12_judged_98 : decode cX12_judged 98 = .ok (.iload_n 2, 1) := by decide +kernel
theorem dX12_judged_99 : decode cX12_judged 99 = .ok (.goto 26, 3) := by decide +kernel
theorem dX12_judged_102 : decode cX12_judged 102 = .ok (.iload_n 1, 1) := by decide +kernel
theorem dX12_judged_103 : decode cX12_judged 103 = .ok (.iconst 1, 1) := by decide +kernel
theorem dX12_judged_104 : decode cX12_judged 104 = .ok (.if_icmp .ne 13, 3) := by decide +kernel
theorem dX12_judged_107 : decode cX12_judged 107 = .ok (.aload_n 0, 1) := by decide +kernel
theorem dX12_judged_108 : decode cX12_judged 108 = .ok (.sipush 3795, 3) := by decide +kernel
theorem dX12_judged_111 : decode cX12_judged 111 = .ok (.invokevirtual 395, 3) := by decide +kernel
theorem dX12_judged_114 : decode cX12_judged 114 = .ok (.goto 11, 3) := by decide +kernel
theorem dX12_judged_117 : decode cX12_judged 117 = .ok (.aload_n 0, 1) := by decide +kernel
theorem dX12_judged_118 : decode cX12_judged 118 = .ok (.sipush 3795, 3) := by decide +kernel
theorem dX12_judged_121 : decode cX12_judged 121 = .ok (.iconst (-1), 1) := by decide +kernel
theorem dX12_judged_122 : decode cX12_judged 122 = .ok (.invokevirtual 398, 3) := by decide +kernel
theorem dX12_judged_125 : decode cX12_judged 125 = .ok (.ireturn, 1) := by decide +kernel
theorem dX12_doesLine_0 : decode cX12_doesLine 0 = .ok (.iload_n 2, 1) := by decide +kernel
theorem dX12_doesLine_1 : decode cX12_doesLine 1 = .ok (.lookupswitch 64 #[(0, 27), (2, 54)], 27) := by decide +kernel
theorem dX12_doesLine_28 : decode cX12_doesLine 28 = .ok (.aload_n 0, 1) := by decide +kernel
theorem dX12_doesLine_29 : decode cX12_doesLine 29 = .ok (.getfield 97, 3) := by decide +kernel
theorem dX12_doesLine_32 : decode cX12_doesLine 32 = .ok (.iload_n 1, 1) := by decide +kernel
theorem dX12_doesLine_33 : decode cX12_doesLine 33 = .ok (.sipush 240, 3) := by decide +kernel
theorem dX12_doesLine_36 : decode cX12_doesLine 36 = .ok (.iadd, 1) := by decide +kernel
theorem dX12_doesLine_37 : decode cX12_doesLine 37 = .ok (.iload_n 3, 1) := by decide +kernel
theorem dX12_doesLine_38 : decode cX12_doesLine 38 = .ok (.iadd, 1) := by decide +kernel
theorem dX12_doesLine_39 : decode cX12_doesLine 39 = .ok (.iaload, 1) := by decide +kernel
theorem dX12_doesLine_40 : decode cX12_doesLine 40 = .ok (.ifCond .lt 5, 3) := by decide +kernel
theorem dX12_doesLine_43 : decode cX12_doesLine 43 = .ok (.iconst 0, 1) := by decide +kernel
theorem dX12_doesLine_44 : decode cX12_doesLine 44 = .ok (.ireturn, 1) := by decide +kernel
theorem dX12_doesLine_45 : decode cX12_doesLine 45 = .ok (.aload_n 0, 1) := by decide +kernel
theorem dX12_doesLine_46 : decode cX12_doesLine 46 = .ok (.iload_n 1, 1) := by decide +kernel
theorem dX12_doesLine_47 : decode cX12_doesLine 47 = .ok (.iload_n 3, 1) := by decide +kernel
theorem dX12_doesLine_48 : decode cX12_doesLine 48 = .ok (.iload 4, 2) := by decide +kernel
theorem dX12_doesLine_50 : decode cX12_doesLine 50 = .ok (.invokevirtual 280, 3) := by decide +kernel
theorem dX12_doesLine_53 : decode cX12_doesLine 53 = .ok (.iconst 1, 1) := by decide +kernel
theorem dX12_doesLine_54 : decode cX12_doesLine 54 = .ok (.ireturn, 1) := by decide +kernel
theorem dX12_doesLine_55 : decode cX12_doesLine 55 = .ok (.aload_n 0, 1) := by decide +kernel
theorem dX12_doesLine_56 : decode cX12_doesLine 56 = .ok (.iload_n 1, 1) := by decide +kernel
theorem dX12_doesLine_57 : decode cX12_doesLine 57 = .ok (.iload_n 3, 1) := by decide +kernel
theorem dX12_doesLine_58 : decode cX12_doesLine 58 = .ok (.iload 4, 2) := by decide +kernel
theorem dX12_doesLine_60 : decode cX12_doesLine 60 = .ok (.invokevirtual 373, 3) := by decide +kernel
theorem dX12_doesLine_63 : decode cX12_doesLine 63 = .ok (.iconst 1, 1) := by decide +kernel
theorem dX12_doesLine_64 : decode cX12_doesLine 64 = .ok (.ireturn, 1) := by decide +kernel
theorem dX12_doesLine_65 : decode cX12_doesLine 65 = .ok (.aload_n 0, 1) := by decide +kernel
theorem dX12_doesLine_66 : decode cX12_doesLine 66 = .ok (.iload_n 1, 1) := by decide +kernel
theorem dX12_doesLine_67 : decode cX12_doesLine 67 = .ok (.iload_n 3, 1) := by decide +kernel
theorem dX12_doesLine_68 : decode cX12_doesLine 68 = .ok (.invokevirtual 348, 3) := by decide +kernel
theorem dX12_doesLine_71 : decode cX12_doesLine 71 = .ok (.ifCond .ge 5, 3) := by decide +kernel
theorem dX12_doesLine_74 : decode cX12_doesLine 74 = .ok (.iconst 0, 1) := by decide +kernel
theorem dX12_doesLine_75 : decode cX12_doesLine 75 = .ok (.ireturn, 1) := by decide +kernel
theorem dX12_doesLine_76 : decode cX12_doesLine 76 = .ok (.iload_n 2, 1) := by decide +kernel
theorem dX12_doesLine_77 : decode cX12_doesLine 77 = .ok (.iconst 1, 1) := by decide +kernel
theorem dX12_doesLine_78 : decode cX12_doesLine 78 = .ok (.if_icmp .ne 13, 3) := by decide +kernel
theorem dX12_doesLine_81 : decode cX12_doesLine 81 = .ok (.aload_n 0, 1) := by decide +kernel
theorem dX12_doesLine_82 : decode cX12_doesLine 82 = .ok (.iload_n 1, 1) := by decide +kernel
theorem dX12_doesLine_83 : decode cX12_doesLine 83 = .ok (.iload_n 3, 1) := by decide +kernel
theorem dX12_doesLine_84 : decode cX12_doesLine 84 = .ok (.invokevirtual 351, 3) := by decide +kernel
theorem dX12_doesLine_87 : decode cX12_doesLine 87 = .ok (.pop, 1) := by decide +kernel
theorem dX12_doesLine_88 : decode cX12_doesLine 88 = .ok (.goto 12, 3) := by decide +kernel
theorem dX12_doesLine_91 : decode cX12_doesLine 91 = .ok (.aload_n 0, 1) := by decide +kernel
theorem dX12_doesLine_92 : decode cX12_doesLine 92 = .ok (.iload_n 1, 1) := by decide +kernel
theorem dX12_doesLine_93 : decode cX12_doesLine 93 = .ok (.iload_n 3, 1) := by decide +kernel
theorem dX12_doesLine_94 : decode cX12_doesLine 94 = .ok (.iload 4, 2) := by decide +kernel
theorem dX12_doesLine_96 : decode cX12_doesLine 96 = .ok (.invokevirtual 379, 3) := by decide +kernel
theorem dX12_doesLine_99 : decode cX12_doesLine 99 = .ok (.pop, 1) := by decide +kernel
theorem dX12_doesLine_100 : decode cX12_doesLine 100 = .ok (.iconst 1, 1) := by decide +kernel
theorem dX12_doesLine_101 : decode cX12_doesLine 101 = .ok (.ireturn, 1) := by decide +kernel
theorem dX12_item_0 : decode cX12_item 0 = .ok (.aload_n 0, 1) := by decide +kernel
theorem dX12_item_1 : decode cX12_item 1 = .ok (.iconst 0, 1) := by decide +kernel
theorem dX12_item_2 : decode cX12_item 2 = .ok (.putfield 1, 3) := by decide +kernel
theorem dX12_item_5 : decode cX12_item 5 = .ok (.aload_n 0, 1) := by decide +kernel
theorem dX12_item_6 : decode cX12_item 6 = .ok (.iload_n 1, 1) := by decide +kernel
theorem dX12_item_7 : decode cX12_item 7 = .ok (.invokevirtual 361, 3) := by decide +kernel
theorem dX12_item_10 : decode cX12_item 10 = .ok (.ifCond .eq 12, 3) := by decide +kernel
theorem dX12_item_13 : decode cX12_item 13 = .ok (.iload_n 2, 1) := by decide +kernel
theorem dX12_item_14 : decode cX12_item 14 = .ok (.iconst 0, 1) := by decide +kernel
theorem dX12_item_15 : decode cX12_item 15 = .ok (.iconst 4, 1) := by decide +kernel
theorem dX12_item_16 : decode cX12_item 16 = .ok (.invokestatic 376, 3) := by decide +kernel
theorem dX12_item_19 : decode cX12_item 19 = .ok (.ifCond .ne 6, 3) := by decide +kernel
theorem dX12_item_22 : decode cX12_item 22 = .ok (.bipush (-2), 2) := by decide +kernel
theorem dX12_item_24 : decode cX12_item 24 = .ok (.ireturn, 1) := by decide +kernel
theorem dX12_item_25 : decode cX12_item 25 = .ok (.iload_n 2, 1) := by decide +kernel
theorem dX12_item_26 : decode cX12_item 26 = .ok (.tableswitch 70 0 3 #[30, 37, 48, 59], 30) := by decide +kernel
theorem dX12_item_56 : decode cX12_item 56 = .ok (.aload_n 0, 1) := by decide +kernel
theorem dX12_item_57 : decode cX12_item 57 = .ok (.iload_n 1, 1) := by decide +kernel
theorem dX12_item_58 : decode cX12_item 58 = .ok (.iconst 0, 1) := by decide +kernel
theorem dX12_item_59 : decode cX12_item 59 = .ok (.invokevirtual 259, 3) := by decide +kernel
theorem dX12_item_62 : decode cX12_item 62 = .ok (.ireturn, 1) := by decide +kernel
theorem dX12_item_63 : decode cX12_item 63 = .ok (.aload_n 0, 1) := by decide +kernel
theorem dX12_item_64 : decode cX12_item 64 = .ok (.getfield 97, 3) := by decide +kernel
theorem dX12_item_67 : decode cX12_item 67 = .ok (.sipush 240, 3) := by decide +kernel
theorem dX12_item_70 : decode cX12_item 70 = .ok (.iload_n 1, 1) := by decide +kernel
theorem dX12_item_71 : decode cX12_item 71 = .ok (.iadd, 1) := by decide +kernel
theorem dX12_item_72 : decode cX12_item 72 = .ok (.iaload, 1) := by decide +kernel
theorem dX12_item_73 : decode cX12_item 73 = .ok (.ireturn, 1) := by decide +kernel
theorem dX12_item_74 : decode cX12_item 74 = .ok (.aload_n 0, 1) := by decide +kernel
theorem dX12_item_75 : decode cX12_item 75 = .ok (.getfield 97, 3) := by decide +kernel
theorem dX12_item_78 : decode cX12_item 78 = .ok (.sipush 260, 3) := by decide +kernel
theorem dX12_item_81 : decode cX12_item 81 = .ok (.iload_n 1, 1) := by decide +kernel
theorem dX12_item_82 : decode cX12_item 82 = .ok (.iadd, 1) := by decide +kernel
theorem dX12_item_83 : decode cX12_item 83 = .ok (.iaload, 1) := by decide +kernel
theorem dX12_item_84 : decode cX12_item 84 = .ok (.ireturn, 1) := by decide +kernel
theorem dX12_item_85 : decode cX12_item 85 = .ok (.aload_n 0, 1) := by decide +kernel
theorem dX12_item_86 : decode cX12_item 86 = .ok (.getfield 97, 3) := by decide +kernel
theorem dX12_item_89 : decode cX12_item 89 = .ok (.sipush 280, 3) := by decide +kernel
theorem dX12_item_92 : decode cX12_item 92 = .ok (.iload_n 1, 1) := by decide +kernel
theorem dX12_item_93 : decode cX12_item 93 = .ok (.iadd, 1) := by decide +kernel
theorem dX12_item_94 : decode cX12_item 94 = .ok (.iaload, 1) := by decide +kernel
theorem dX12_item_95 : decode cX12_item 95 = .ok (.ireturn, 1) := by decide +kernel
theorem dX12_item_96 : decode cX12_item 96 = .ok (.aload_n 0, 1) := by decide +kernel
theorem dX12_item_97 : decode cX12_item 97 = .ok (.iconst 0, 1) := by decide +kernel
theorem dX12_item_98 : decode cX12_item 98 = .ok (.iload_n 1, 1) := by decide +kernel
theorem dX12_item_99 : decode cX12_item 99 = .ok (.invokevirtual 388, 3) := by decide +kernel
theorem dX12_item_102 : decode cX12_item 102 = .ok (.ifCond .eq 7, 3) := by decide +kernel
theorem dX12_item_105 : decode cX12_item 105 = .ok (.iconst 1, 1) := by decide +kernel
theorem dX12_item_106 : decode cX12_item 106 = .ok (.goto 4, 3) := by decide +kernel
theorem dX12_item_109 : decode cX12_item 109 = .ok (.iconst 0, 1) := by decide +kernel
theorem dX12_item_110 : decode cX12_item 110 = .ok (.ireturn, 1) := by decide +kernel
theorem dX12_treesIn_0 : decode cX12_treesIn 0 = .ok (.iconst 0, 1) := by decide +kernel
theorem dX12_treesIn_1 : decode cX12_treesIn 1 = .ok (.istore_n 2, 1) := by decide +kernel
theorem dX12_treesIn_2 : decode cX12_treesIn 2 = .ok (.iconst 0, 1) := by decide +kernel
theorem dX12_treesIn_3 : decode cX12_treesIn 3 = .ok (.istore_n 3, 1) := by decide +kernel
theorem dX12_treesIn_4 : decode cX12_treesIn 4 = .ok (.iload_n 3, 1) := by decide +kernel
theorem dX12_treesIn_5 : decode cX12_treesIn 5 = .ok (.bipush 16, 2) := by decide +kernel
theorem dX12_treesIn_7 : decode cX12_treesIn 7 = .ok (.if_icmp .ge 27, 3) := by decide +kernel
theorem dX12_treesIn_10 : decode cX12_treesIn 10 = .ok (.iload_n 2, 1) := by decide +kernel
theorem dX12_treesIn_11 : decode cX12_treesIn 11 = .ok (.aload_n 0, 1) := by decide +kernel
theorem dX12_treesIn_12 : decode cX12_treesIn 12 = .ok (.iconst 0, 1) := by decide +kernel
theorem dX12_treesIn_13 : decode cX12_treesIn 13 = .ok (.iload_n 1, 1) := by decide +kernel
theorem dX12_treesIn_14 : decode cX12_treesIn 14 = .ok (.iload_n 3, 1) := by decide +kernel
theorem dX12_treesIn_15 : decode cX12_treesIn 15 = .ok (.invokevirtual 324, 3) := by decide +kernel
theorem dX12_treesIn_18 : decode cX12_treesIn 18 = .ok (.ifCond .lt 7, 3) := by decide +kernel
theorem dX12_treesIn_21 : decode cX12_treesIn 21 = .ok (.iconst 1, 1) := by decide +kernel
theorem dX12_treesIn_22 : decode cX12_treesIn 22 = .ok (.goto 4, 3) := by decide +kernel
theorem dX12_treesIn_25 : decode cX12_treesIn 25 = .ok (.iconst 0, 1) := by decide +kernel
theorem dX12_treesIn_26 : decode cX12_treesIn 26 = .ok (.iadd, 1) := by decide +kernel
theorem dX12_treesIn_27 : decode cX12_treesIn 27 = .ok (.istore_n 2, 1) := by decide +kernel
theorem dX12_treesIn_28 : decode cX12_treesIn 28 = .ok (.iinc 3 1, 3) := by decide +kernel
theorem dX12_treesIn_31 : decode cX12_treesIn 31 = .ok (.goto (-27), 3) := by decide +kernel
theorem dX12_treesIn_34 : decode cX12_treesIn 34 = .ok (.iload_n 2, 1) := by decide +kernel
theorem dX12_treesIn_35 : decode cX12_treesIn 35 = .ok (.ireturn, 1) := by decide +kernel
theorem dX12_treeAt_0 : decode cX12_treeAt 0 = .ok (.iconst 0, 1) := by decide +kernel
theorem dX12_treeAt_1 : decode cX12_treeAt 1 = .ok (.istore_n 3, 1) := by decide +kernel
theorem dX12_treeAt_2 : decode cX12_treeAt 2 = .ok (.iconst 0, 1) := by decide +kernel
theorem dX12_treeAt_3 : decode cX12_treeAt 3 = .ok (.istore 4, 2) := by decide +kernel
theorem dX12_treeAt_5 : decode cX12_treeAt 5 = .ok (.iload 4, 2) := by decide +kernel
theorem dX12_treeAt_7 : decode cX12_treeAt 7 = .ok (.bipush 16, 2) := by decide +kernel
theorem dX12_treeAt_9 : decode cX12_treeAt 9 = .ok (.if_icmp .ge 45, 3) := by decide +kernel
theorem dX12_treeAt_12 : decode cX12_treeAt 12 = .ok (.aload_n 0, 1) := by decide +kernel
theorem dX12_treeAt_13 : decode cX12_treeAt 13 = .ok (.iload_n 1, 1) := by decide +kernel
theorem dX12_treeAt_14 : decode cX12_treeAt 14 = .ok (.invokevirtual 364, 3) := by decide +kernel
theorem dX12_treeAt_17 : decode cX12_treeAt 17 = .ok (.ifCond .eq 37, 3) := by decide +kernel
theorem dX12_treeAt_20 : decode cX12_treeAt 20 = .ok (.aload_n 0, 1) := by decide +kernel
theorem dX12_treeAt_21 : decode cX12_treeAt 21 = .ok (.iconst 0, 1) := by decide +kernel
theorem dX12_treeAt_22 : decode cX12_treeAt 22 = .ok (.iload_n 1, 1) := by decide +kernel
theorem dX12_treeAt_23 : decode cX12_treeAt 23 = .ok (.iload 4, 2) := by decide +kernel
theorem dX12_treeAt_25 : decode cX12_treeAt 25 = .ok (.invokevirtual 324, 3) := by decide +kernel
theorem dX12_treeAt_28 : decode cX12_treeAt 28 = .ok (.ifCond .lt 20, 3) := by decide +kernel
theorem dX12_treeAt_31 : decode cX12_treeAt 31 = .ok (.iload_n 3, 1) := by decide +kernel
theorem dX12_treeAt_32 : decode cX12_treeAt 32 = .ok (.iload_n 2, 1) := by decide +kernel
theorem dX12_treeAt_33 : decode cX12_treeAt 33 = .ok (.if_icmp .ne 12, 3) := by decide +kernel
theorem dX12_treeAt_36 : decode cX12_treeAt 36 = .ok (.aload_n 0, 1) := by decide +kernel
theorem dX12_treeAt_37 : decode cX12_treeAt 37 = .ok (.iconst 0, 1) := by decide +kernel
theorem dX12_treeAt_38 : decode cX12_treeAt 38 = .ok (.iload_n 1, 1) := by decide +kernel
theorem dX12_treeAt_39 : decode cX12_treeAt 39 = .ok (.iload 4, 2) := by decide +kernel
theorem dX12_treeAt_41 : decode cX12_treeAt 41 = .ok (.invokevirtual 324, 3) := by decide +kernel
theorem dX12_treeAt_44 : decode cX12_treeAt 44 = .ok (.ireturn, 1) := by decide +kernel
theorem dX12_treeAt_45 : decode cX12_treeAt 45 = .ok (.iinc 3 1, 3) := by decide +kernel
theorem dX12_treeAt_48 : decode cX12_treeAt 48 = .ok (.iinc 4 1, 3) := by decide +kernel
theorem dX12_treeAt_51 : decode cX12_treeAt 51 = .ok (.goto (-46), 3) := by decide +kernel
theorem dX12_treeAt_54 : decode cX12_treeAt 54 = .ok (.iconst (-1), 1) := by decide +kernel
theorem dX12_treeAt_55 : decode cX12_treeAt 55 = .ok (.ireturn, 1) := by decide +kernel
theorem dX12_heap_0 : decode cX12_heap 0 = .ok (.aload_n 0, 1) := by decide +kernel
theorem dX12_heap_1 : decode cX12_heap 1 = .ok (.iconst 0, 1) := by decide +kernel
theorem dX12_heap_2 : decode cX12_heap 2 = .ok (.putfield 1, 3) := by decide +kernel
theorem dX12_heap_5 : decode cX12_heap 5 = .ok (.aload_n 0, 1) := by decide +kernel
theorem dX12_heap_6 : decode cX12_heap 6 = .ok (.iload_n 1, 1) := by decide +kernel
theorem dX12_heap_7 : decode cX12_heap 7 = .ok (.invokevirtual 364, 3) := by decide +kernel
theorem dX12_heap_10 : decode cX12_heap 10 = .ok (.ifCond .eq 12, 3) := by decide +kernel
theorem dX12_heap_13 : decode cX12_heap 13 = .ok (.iload_n 2, 1) := by decide +kernel
theorem dX12_heap_14 : decode cX12_heap 14 = .ok (.iconst 0, 1) := by decide +kernel
theorem dX12_heap_15 : decode cX12_heap 15 = .ok (.iconst 3, 1) := by decide +kernel
theorem dX12_heap_16 : decode cX12_heap 16 = .ok (.invokestatic 376, 3) := by decide +kernel
theorem dX12_heap_19 : decode cX12_heap 19 = .ok (.ifCond .ne 6, 3) := by decide +kernel
theorem dX12_heap_22 : decode cX12_heap 22 = .ok (.bipush (-2), 2) := by decide +kernel
theorem dX12_heap_24 : decode cX12_heap 24 = .ok (.ireturn, 1) := by decide +kernel
theorem dX12_heap_25 : decode cX12_heap 25 = .ok (.iload_n 2, 1) := by decide +kernel
theorem dX12_heap_26 : decode cX12_heap 26 = .ok (.iconst 3, 1) := by decide +kernel
theorem dX12_heap_27 : decode cX12_heap 27 = .ok (.if_icmp .ge 36, 3) := by decide +kernel
theorem dX12_heap_30 : decode cX12_heap 30 = .ok (.iload_n 2, 1) := by decide +kernel
theorem dX12_heap_31 : decode cX12_heap 31 = .ok (.ifCond .ne 12, 3) := by decide +kernel
theorem dX12_heap_34 : decode cX12_heap 34 = .ok (.aload_n 0, 1) := by decide +kernel
theorem dX12_heap_35 : decode cX12_heap 35 = .ok (.iconst 0, 1) := by decide +kernel
theorem dX12_heap_36 : decode cX12_heap 36 = .ok (.iload_n 1, 1) := by decide +kernel
theorem dX12_heap_37 : decode cX12_heap 37 = .ok (.invokevirtual 330, 3) := by decide +kernel
theorem dX12_heap_40 : decode cX12_heap 40 = .ok (.goto 22, 3) := by decide +kernel
theorem dX12_heap_43 : decode cX12_heap 43 = .ok (.iload_n 2, 1) := by decide +kernel
theorem dX12_heap_44 : decode cX12_heap 44 = .ok (.iconst 1, 1) := by decide +kernel
theorem dX12_heap_45 : decode cX12_heap 45 = .ok (.if_icmp .ne 11, 3) := by decide +kernel
theorem dX12_heap_48 : decode cX12_heap 48 = .ok (.aload_n 0, 1) := by decide +kernel
theorem dX12_heap_49 : decode cX12_heap 49 = .ok (.iload_n 1, 1) := by decide +kernel
theorem dX12_heap_50 : decode cX12_heap 50 = .ok (.invokevirtual 401, 3) := by decide +kernel
theorem dX12_heap_53 : decode cX12_heap 53 = .ok (.goto 9, 3) := by decide +kernel
theorem dX12_heap_56 : decode cX12_heap 56 = .ok (.aload_n 0, 1) := by decide +kernel
theorem dX12_heap_57 : decode cX12_heap 57 = .ok (.iconst 0, 1) := by decide +kernel
theorem dX12_heap_58 : decode cX12_heap 58 = .ok (.iload_n 1, 1) := by decide +kernel
theorem dX12_heap_59 : decode cX12_heap 59 = .ok (.invokevirtual 398, 3) := by decide +kernel
theorem dX12_heap_62 : decode cX12_heap 62 = .ok (.ireturn, 1) := by decide +kernel
theorem dX12_heap_63 : decode cX12_heap 63 = .ok (.aload_n 0, 1) := by decide +kernel
theorem dX12_heap_64 : decode cX12_heap 64 = .ok (.iload_n 1, 1) := by decide +kernel
theorem dX12_heap_65 : decode cX12_heap 65 = .ok (.aload_n 0, 1) := by decide +kernel
theorem dX12_heap_66 : decode cX12_heap 66 = .ok (.iload_n 1, 1) := by decide +kernel
theorem dX12_heap_67 : decode cX12_heap 67 = .ok (.invokevirtual 401, 3) := by decide +kernel
theorem dX12_heap_70 : decode cX12_heap 70 = .ok (.iconst 1, 1) := by decide +kernel
theorem dX12_heap_71 : decode cX12_heap 71 = .ok (.isub, 1) := by decide +kernel
theorem dX12_heap_72 : decode cX12_heap 72 = .ok (.invokevirtual 404, 3) := by decide +kernel
theorem dX12_heap_75 : decode cX12_heap 75 = .ok (.istore_n 3, 1) := by decide +kernel
theorem dX12_heap_76 : decode cX12_heap 76 = .ok (.iload_n 3, 1) := by decide +kernel
theorem dX12_heap_77 : decode cX12_heap 77 = .ok (.ifCond .ge 7, 3) := by decide +kernel
theorem dX12_heap_80 : decode cX12_heap 80 = .ok (.iconst (-1), 1) := by decide +kernel
theorem dX12_heap_81 : decode cX12_heap 81 = .ok (.goto 10, 3) := by decide +kernel
theorem dX12_heap_84 : decode cX12_heap 84 = .ok (.aload_n 0, 1) := by decide +kernel
theorem dX12_heap_85 : decode cX12_heap 85 = .ok (.iconst 0, 1) := by decide +kernel
theorem dX12_heap_86 : decode cX12_heap 86 = .ok (.iload_n 3, 1) := by decide +kernel
theorem dX12_heap_87 : decode cX12_heap 87 = .ok (.iconst 0, 1) := by decide +kernel
theorem dX12_heap_88 : decode cX12_heap 88 = .ok (.invokevirtual 298, 3) := by decide +kernel
theorem dX12_heap_91 : decode cX12_heap 91 = .ok (.ireturn, 1) := by decide +kernel
theorem dX12_tree_0 : decode cX12_tree 0 = .ok (.aload_n 0, 1) := by decide +kernel
theorem dX12_tree_1 : decode cX12_tree 1 = .ok (.iconst 0, 1) := by decide +kernel
theorem dX12_tree_2 : decode cX12_tree 2 = .ok (.putfield 1, 3) := by decide +kernel
theorem dX12_tree_5 : decode cX12_tree 5 = .ok (.aload_n 0, 1) := by decide +kernel
theorem dX12_tree_6 : decode cX12_tree 6 = .ok (.iload_n 1, 1) := by decide +kernel
theorem dX12_tree_7 : decode cX12_tree 7 = .ok (.iload_n 2, 1) := by decide +kernel
theorem dX12_tree_8 : decode cX12_tree 8 = .ok (.invokevirtual 404, 3) := by decide +kernel
theorem dX12_tree_11 : decode cX12_tree 11 = .ok (.istore 4, 2) := by decide +kernel
theorem dX12_tree_13 : decode cX12_tree 13 = .ok (.iload 4, 2) := by decide +kernel
theorem dX12_tree_15 : decode cX12_tree 15 = .ok (.ifCond .ge 5, 3) := by decide +kernel
theorem dX12_tree_18 : decode cX12_tree 18 = .ok (.iconst (-1), 1) := by decide +kernel
theorem dX12_tree_19 : decode cX12_tree 19 = .ok (.ireturn, 1) := by decide +kernel
theorem dX12_tree_20 : decode cX12_tree 20 = .ok (.iload_n 3, 1) := by decide +kernel
theorem dX12_tree_21 : decode cX12_tree 21 = .ok (.tableswitch 79 0 4 #[35, 44, 53, 62, 71], 35) := by decide +kernel
theorem dX12_tree_56 : decode cX12_tree 56 = .ok (.aload_n 0, 1) := by decide +kernel
theorem dX12_tree_57 : decode cX12_tree 57 = .ok (.iconst 0, 1) := by decide +kernel
theorem dX12_tree_58 : decode cX12_tree 58 = .ok (.iload 4, 2) := by decide +kernel
theorem dX12_tree_60 : decode cX12_tree 60 = .ok (.iconst 0, 1) := by decide +kernel
theorem dX12_tree_61 : decode cX12_tree 61 = .ok (.invokevirtual 298, 3) := by decide +kernel
theorem dX12_tree_64 : decode cX12_tree 64 = .ok (.ireturn, 1) := by decide +kernel
theorem dX12_tree_65 : decode cX12_tree 65 = .ok (.aload_n 0, 1) := by decide +kernel
theorem dX12_tree_66 : decode cX12_tree 66 = .ok (.iconst 0, 1) := by decide +kernel
theorem dX12_tree_67 : decode cX12_tree 67 = .ok (.iload 4, 2) := by decide +kernel
theorem dX12_tree_69 : decode cX12_tree 69 = .ok (.iconst 1, 1) := by decide +kernel
theorem dX12_tree_70 : decode cX12_tree 70 = .ok (.invokevirtual 298, 3) := by decide +kernel
theorem dX12_tree_73 : decode cX12_tree 73 = .ok (.ireturn, 1) := by decide +kernel
theorem dX12_tree_74 : decode cX12_tree 74 = .ok (.aload_n 0, 1) := by decide +kernel
theorem dX12_tree_75 : decode cX12_tree 75 = .ok (.iconst 0, 1) := by decide +kernel
theorem dX12_tree_76 : decode cX12_tree 76 = .ok (.iload 4, 2) := by decide +kernel
theorem dX12_tree_78 : decode cX12_tree 78 = .ok (.iconst 3, 1) := by decide +kernel
theorem dX12_tree_79 : decode cX12_tree 79 = .ok (.invokevirtual 298, 3) := by decide +kernel
theorem dX12_tree_82 : decode cX12_tree 82 = .ok (.ireturn, 1) := by decide +kernel
theorem dX12_tree_83 : decode cX12_tree 83 = .ok (.aload_n 0, 1) := by decide +kernel
theorem dX12_tree_84 : decode cX12_tree 84 = .ok (.iconst 0, 1) := by decide +kernel
theorem dX12_tree_85 : decode cX12_tree 85 = .ok (.iload 4, 2) := by decide +kernel
theorem dX12_tree_87 : decode cX12_tree 87 = .ok (.iconst 2, 1) := by decide +kernel
theorem dX12_tree_88 : decode cX12_tree 88 = .ok (.invokevirtual 298, 3) := by decide +kernel
theorem dX12_tree_91 : decode cX12_tree 91 = .ok (.ireturn, 1) := by decide +kernel
theorem dX12_tree_92 : decode cX12_tree 92 = .ok (.aload_n 0, 1) := by decide +kernel
theorem dX12_tree_93 : decode cX12_tree 93 = .ok (.iconst 0, 1) := by decide +kernel
theorem dX12_tree_94 : decode cX12_tree 94 = .ok (.iload 4, 2) := by decide +kernel
theorem dX12_tree_96 : decode cX12_tree 96 = .ok (.invokevirtual 321, 3) := by decide +kernel
theorem dX12_tree_99 : decode cX12_tree 99 = .ok (.ireturn, 1) := by decide +kernel
theorem dX12_tree_100 : decode cX12_tree 100 = .ok (.iconst (-1), 1) := by decide +kernel
theorem dX12_tree_101 : decode cX12_tree 101 = .ok (.ireturn, 1) := by decide +kernel
theorem dX12_listed_0 : decode cX12_listed 0 = .ok (.aload_n 0, 1) := by decide +kernel
theorem dX12_listed_1 : decode cX12_listed 1 = .ok (.iconst 0, 1) := by decide +kernel
theorem dX12_listed_2 : decode cX12_listed 2 = .ok (.putfield 1, 3) := by decide +kernel
theorem dX12_listed_5 : decode cX12_listed 5 = .ok (.aload_n 0, 1) := by decide +kernel
theorem dX12_listed_6 : decode cX12_listed 6 = .ok (.iload_n 1, 1) := by decide +kernel
theorem dX12_listed_7 : decode cX12_listed 7 = .ok (.iload_n 2, 1) := by decide +kernel
theorem dX12_listed_8 : decode cX12_listed 8 = .ok (.invokevirtual 404, 3) := by decide +kernel
theorem dX12_listed_11 : decode cX12_listed 11 = .ok (.istore 4, 2) := by decide +kernel
theorem dX12_listed_13 : decode cX12_listed 13 = .ok (.iload 4, 2) := by decide +kernel
theorem dX12_listed_15 : decode cX12_listed 15 = .ok (.ifCond .lt 21, 3) := by decide +kernel
theorem dX12_listed_18 : decode cX12_listed 18 = .ok (.iload_n 3, 1) := by decide +kernel
theorem dX12_listed_19 : decode cX12_listed 19 = .ok (.iconst 0, 1) := by decide +kernel
theorem dX12_listed_20 : decode cX12_listed 20 = .ok (.aload_n 0, 1) := by decide +kernel
theorem dX12_listed_21 : decode cX12_listed 21 = .ok (.iconst 0, 1) := by decide +kernel
theorem dX12_listed_22 : decode cX12_listed 22 = .ok (.iload 4, 2) := by decide +kernel
theorem dX12_listed_24 : decode cX12_listed 24 = .ok (.iconst 3, 1) := by decide +kernel
theorem dX12_listed_25 : decode cX12_listed 25 = .ok (.invokevirtual 298, 3) := by decide +kernel
theorem dX12_listed_28 : decode cX12_listed 28 = .ok (.iconst 1, 1) := by decide +kernel
theorem dX12_listed_29 : decode cX12_listed 29 = .ok (.isub, 1) := by decide +kernel
theorem dX12_listed_30 : decode cX12_listed 30 = .ok (.invokestatic 376, 3) := by decide +kernel
theorem dX12_listed_33 : decode cX12_listed 33 = .ok (.ifCond .ne 5, 3) := by decide +kernel
theorem dX12_listed_36 : decode cX12_listed 36 = .ok (.iconst (-1), 1) := by decide +kernel
theorem dX12_listed_37 : decode cX12_listed 37 = .ok (.ireturn, 1) := by decide +kernel
theorem dX12_listed_38 : decode cX12_listed 38 = .ok (.aload_n 0, 1) := by decide +kernel
theorem dX12_listed_39 : decode cX12_listed 39 = .ok (.iconst 0, 1) := by decide +kernel
theorem dX12_listed_40 : decode cX12_listed 40 = .ok (.iload 4, 2) := by decide +kernel
theorem dX12_listed_42 : decode cX12_listed 42 = .ok (.iconst 4, 1) := by decide +kernel
theorem dX12_listed_43 : decode cX12_listed 43 = .ok (.invokevirtual 298, 3) := by decide +kernel
theorem dX12_listed_46 : decode cX12_listed 46 = .ok (.istore 5, 2) := by decide +kernel
theorem dX12_listed_48 : decode cX12_listed 48 = .ok (.iconst 0, 1) := by decide +kernel
theorem dX12_listed_49 : decode cX12_listed 49 = .ok (.istore 6, 2) := by decide +kernel
theorem dX12_listed_51 : decode cX12_listed 51 = .ok (.iload 6, 2) := by decide +kernel
theorem dX12_listed_53 : decode cX12_listed 53 = .ok (.iload_n 3, 1) := by decide +kernel
theorem dX12_listed_54 : decode cX12_listed 54 = .ok (.if_icmp .ge 22, 3) := by decide +kernel
theorem dX12_listed_57 : decode cX12_listed 57 = .ok (.aload_n 0, 1) := by decide +kernel
theorem dX12_listed_58 : decode cX12_listed 58 = .ok (.getfield 97, 3) := by decide +kernel
theorem dX12_listed_61 : decode cX12_listed 61 = .ok (.sipush 300, 3) := by decide +kernel
theorem dX12_listed_64 : decode cX12_listed 64 = .ok (.iload 5, 2) := by decide +kernel
theorem dX12_listed_66 : decode cX12_listed 66 = .ok (.iadd, 1) := by decide +kernel
theorem dX12_listed_67 : decode cX12_listed 67 = .ok (.iaload, 1) := by decide +kernel
theorem dX12_listed_68 : decode cX12_listed 68 = .ok (.istore 5, 2) := by decide +kernel
theorem dX12_listed_70 : decode cX12_listed 70 = .ok (.iinc 6 1, 3) := by decide +kernel
theorem dX12_listed_73 : decode cX12_listed 73 = .ok (.goto (-22), 3) := by decide +kernel
theorem dX12_listed_76 : decode cX12_listed 76 = .ok (.iload 5, 2) := by decide +kernel
theorem dX12_listed_78 : decode cX12_listed 78 = .ok (.ireturn, 1) := by decide +kernel
theorem dX12_shelf_0 : decode cX12_shelf 0 = .ok (.aload_n 0, 1) := by decide +kernel
theorem dX12_shelf_1 : decode cX12_shelf 1 = .ok (.iconst 0, 1) := by decide +kernel
theorem dX12_shelf_2 : decode cX12_shelf 2 = .ok (.putfield 1, 3) := by decide +kernel
theorem dX12_shelf_5 : decode cX12_shelf 5 = .ok (.iload_n 1, 1) := by decide +kernel
theorem dX12_shelf_6 : decode cX12_shelf 6 = .ok (.iconst 0, 1) := by decide +kernel
theorem dX12_shelf_7 : decode cX12_shelf 7 = .ok (.aload_n 0, 1) := by decide +kernel
theorem dX12_shelf_8 : decode cX12_shelf 8 = .ok (.getfield 79, 3) := by decide +kernel
theorem dX12_shelf_11 : decode cX12_shelf 11 = .ok (.iconst 1, 1) := by decide +kernel
theorem dX12_shelf_12 : decode cX12_shelf 12 = .ok (.iaload, 1) := by decide +kernel
theorem dX12_shelf_13 : decode cX12_shelf 13 = .ok (.iconst 1, 1) := by decide +kernel
theorem dX12_shelf_14 : decode cX12_shelf 14 = .ok (.isub, 1) := by decide +kernel
theorem dX12_shelf_15 : decode cX12_shelf 15 = .ok (.invokestatic 376, 3) := by decide +kernel
theorem dX12_shelf_18 : decode cX12_shelf 18 = .ok (.ifCond .eq 12, 3) := by decide +kernel
theorem dX12_shelf_21 : decode cX12_shelf 21 = .ok (.aload_n 0, 1) := by decide +kernel
theorem dX12_shelf_22 : decode cX12_shelf 22 = .ok (.iconst 0, 1) := by decide +kernel
theorem dX12_shelf_23 : decode cX12_shelf 23 = .ok (.iload_n 1, 1) := by decide +kernel
theorem dX12_shelf_24 : decode cX12_shelf 24 = .ok (.invokevirtual 354, 3) := by decide +kernel
theorem dX12_shelf_27 : decode cX12_shelf 27 = .ok (.goto 4, 3) := by decide +kernel
theorem dX12_shelf_30 : decode cX12_shelf 30 = .ok (.iconst (-1), 1) := by decide +kernel
theorem dX12_shelf_31 : decode cX12_shelf 31 = .ok (.ireturn, 1) := by decide +kernel
theorem dX12_comesOf_0 : decode cX12_comesOf 0 = .ok (.aload_n 0, 1) := by decide +kernel
theorem dX12_comesOf_1 : decode cX12_comesOf 1 = .ok (.iload_n 1, 1) := by decide +kernel
theorem dX12_comesOf_2 : decode cX12_comesOf 2 = .ok (.sipush 3795, 3) := by decide +kernel
theorem dX12_comesOf_5 : decode cX12_comesOf 5 = .ok (.sipush 320, 3) := by decide +kernel
theorem dX12_comesOf_8 : decode cX12_comesOf 8 = .ok (.invokevirtual 295, 3) := by decide +kernel
theorem dX12_comesOf_11 : decode cX12_comesOf 11 = .ok (.iconst 0, 1) := by decide +kernel
theorem dX12_comesOf_12 : decode cX12_comesOf 12 = .ok (.istore_n 3, 1) := by decide +kernel
theorem dX12_comesOf_13 : decode cX12_comesOf 13 = .ok (.aload_n 0, 1) := by decide +kernel
theorem dX12_comesOf_14 : decode cX12_comesOf 14 = .ok (.sipush 3795, 3) := by decide +kernel
theorem dX12_comesOf_17 : decode cX12_comesOf 17 = .ok (.iload_n 2, 1) := by decide +kernel
theorem dX12_comesOf_18 : decode cX12_comesOf 18 = .ok (.invokevirtual 348, 3) := by decide +kernel
theorem dX12_comesOf_21 : decode cX12_comesOf 21 = .ok (.ifCond .lt 23, 3) := by decide +kernel
theorem dX12_comesOf_24 : decode cX12_comesOf 24 = .ok (.aload_n 0, 1) := by decide +kernel
theorem dX12_comesOf_25 : decode cX12_comesOf 25 = .ok (.getfield 107, 3) := by decide +kernel
theorem dX12_comesOf_28 : decode cX12_comesOf 28 = .ok (.iload_n 3, 1) := by decide +kernel
theorem dX12_comesOf_29 : decode cX12_comesOf 29 = .ok (.aload_n 0, 1) := by decide +kernel
theorem dX12_comesOf_30 : decode cX12_comesOf 30 = .ok (.sipush 3795, 3) := by decide +kernel
theorem dX12_comesOf_33 : decode cX12_comesOf 33 = .ok (.iload_n 2, 1) := by decide +kernel
theorem dX12_comesOf_34 : decode cX12_comesOf 34 = .ok (.invokevirtual 351, 3) := by decide +kernel
theorem dX12_comesOf_37 : decode cX12_comesOf 37 = .ok (.iastore, 1) := by decide +kernel
theorem dX12_comesOf_38 : decode cX12_comesOf 38 = .ok (.iinc 3 1, 3) := by decide +kernel
theorem dX12_comesOf_41 : decode cX12_comesOf 41 = .ok (.goto (-28), 3) := by decide +kernel
theorem dX12_comesOf_44 : decode cX12_comesOf 44 = .ok (.iload_n 3, 1) := by decide +kernel
theorem dX12_comesOf_45 : decode cX12_comesOf 45 = .ok (.ireturn, 1) := by decide +kernel
theorem dX12_isAhead_0 : decode cX12_isAhead 0 = .ok (.aload_n 0, 1) := by decide +kernel
theorem dX12_isAhead_1 : decode cX12_isAhead 1 = .ok (.getfield 104, 3) := by decide +kernel
theorem dX12_isAhead_4 : decode cX12_isAhead 4 = .ok (.iload_n 1, 1) := by decide +kernel
theorem dX12_isAhead_5 : decode cX12_isAhead 5 = .ok (.iaload, 1) := by decide +kernel
theorem dX12_isAhead_6 : decode cX12_isAhead 6 = .ok (.aload_n 0, 1) := by decide +kernel
theorem dX12_isAhead_7 : decode cX12_isAhead 7 = .ok (.getfield 104, 3) := by decide +kernel
theorem dX12_isAhead_10 : decode cX12_isAhead 10 = .ok (.iload_n 2, 1) := by decide +kernel
theorem dX12_isAhead_11 : decode cX12_isAhead 11 = .ok (.iaload, 1) := by decide +kernel
theorem dX12_isAhead_12 : decode cX12_isAhead 12 = .ok (.if_icmp .lt 23, 3) := by decide +kernel
theorem dX12_isAhead_15 : decode cX12_isAhead 15 = .ok (.aload_n 0, 1) := by decide +kernel
theorem dX12_isAhead_16 : decode cX12_isAhead 16 = .ok (.getfield 104, 3) := by decide +kernel
theorem dX12_isAhead_19 : decode cX12_isAhead 19 = .ok (.iload_n 1, 1) := by decide +kernel
theorem dX12_isAhead_20 : decode cX12_isAhead 20 = .ok (.iaload, 1) := by decide +kernel
theorem dX12_isAhead_21 : decode cX12_isAhead 21 = .ok (.aload_n 0, 1) := by decide +kernel
theorem dX12_isAhead_22 : decode cX12_isAhead 22 = .ok (.getfield 104, 3) := by decide +kernel
theorem dX12_isAhead_25 : decode cX12_isAhead 25 = .ok (.iload_n 2, 1) := by decide +kernel
theorem dX12_isAhead_26 : decode cX12_isAhead 26 = .ok (.iaload, 1) := by decide +kernel
theorem dX12_isAhead_27 : decode cX12_isAhead 27 = .ok (.if_icmp .ne 12, 3) := by decide +kernel
theorem dX12_isAhead_30 : decode cX12_isAhead 30 = .ok (.iload_n 1, 1) := by decide +kernel
theorem dX12_isAhead_31 : decode cX12_isAhead 31 = .ok (.iload_n 2, 1) := by decide +kernel
theorem dX12_isAhead_32 : decode cX12_isAhead 32 = .ok (.if_icmp .ge 7, 3) := by decide +kernel
theorem dX12_isAhead_35 : decode cX12_isAhead 35 = .ok (.iconst 1, 1) := by decide +kernel
theorem dX12_isAhead_36 : decode cX12_isAhead 36 = .ok (.goto 4, 3) := by decide +kernel
theorem dX12_isAhead_39 : decode cX12_isAhead 39 = .ok (.iconst 0, 1) := by decide +kernel
theorem dX12_isAhead_40 : decode cX12_isAhead 40 = .ok (.ireturn, 1) := by decide +kernel
theorem dX12_placeOf_0 : decode cX12_placeOf 0 = .ok (.iconst 0, 1) := by decide +kernel
theorem dX12_placeOf_1 : decode cX12_placeOf 1 = .ok (.istore 4, 2) := by decide +kernel
theorem dX12_placeOf_3 : decode cX12_placeOf 3 = .ok (.iconst 0, 1) := by decide +kernel
theorem dX12_placeOf_4 : decode cX12_placeOf 4 = .ok (.istore 5, 2) := by decide +kernel
theorem dX12_placeOf_6 : decode cX12_placeOf 6 = .ok (.iload 5, 2) := by decide +kernel
theorem dX12_placeOf_8 : decode cX12_placeOf 8 = .ok (.aload_n 0, 1) := by decide +kernel
theorem dX12_placeOf_9 : decode cX12_placeOf 9 = .ok (.invokevirtual 217, 3) := by decide +kernel
theorem dX12_placeOf_12 : decode cX12_placeOf 12 = .ok (.if_icmp .ge 46, 3) := by decide +kernel
theorem dX12_placeOf_15 : decode cX12_placeOf 15 = .ok (.iload 4, 2) := by decide +kernel
theorem dX12_placeOf_17 : decode cX12_placeOf 17 = .ok (.aload_n 0, 1) := by decide +kernel
theorem dX12_placeOf_18 : decode cX12_placeOf 18 = .ok (.getfield 97, 3) := by decide +kernel
theorem dX12_placeOf_21 : decode cX12_placeOf 21 = .ok (.iload_n 1, 1) := by decide +kernel
theorem dX12_placeOf_22 : decode cX12_placeOf 22 = .ok (.sipush 240, 3) := by decide +kernel
theorem dX12_placeOf_25 : decode cX12_placeOf 25 = .ok (.iadd, 1) := by decide +kernel
theorem dX12_placeOf_26 : decode cX12_placeOf 26 = .ok (.iload 5, 2) := by decide +kernel
theorem dX12_placeOf_28 : decode cX12_placeOf 28 = .ok (.iadd, 1) := by decide +kernel
theorem dX12_placeOf_29 : decode cX12_placeOf 29 = .ok (.iaload, 1) := by decide +kernel
theorem dX12_placeOf_30 : decode cX12_placeOf 30 = .ok (.iload_n 2, 1) := by decide +kernel
theorem dX12_placeOf_31 : decode cX12_placeOf 31 = .ok (.if_icmp .ne 17, 3) := by decide +kernel
theorem dX12_placeOf_34 : decode cX12_placeOf 34 = .ok (.aload_n 0, 1) := by decide +kernel
theorem dX12_placeOf_35 : decode cX12_placeOf 35 = .ok (.iload 5, 2) := by decide +kernel
theorem dX12_placeOf_37 : decode cX12_placeOf 37 = .ok (.iload_n 3, 1) := by decide +kernel
theorem dX12_placeOf_38 : decode cX12_placeOf 38 = .ok (.invokevirtual 407, 3) := by decide +kernel
theorem dX12_placeOf_41 : decode cX12_placeOf 41 = .ok (.ifCond .eq 7, 3) := by decide +kernel
theorem dX12_placeOf_44 : decode cX12_placeOf 44 = .ok (.iconst 1, 1) := by decide +kernel
theorem dX12_placeOf_45 : decode cX12_placeOf 45 = .ok (.goto 4, 3) := by decide +kernel
theorem dX12_placeOf_48 : decode cX12_placeOf 48 = .ok (.iconst 0, 1) := by decide +kernel
theorem dX12_placeOf_49 : decode cX12_placeOf 49 = .ok (.iadd, 1) := by decide +kernel
theorem dX12_placeOf_50 : decode cX12_placeOf 50 = .ok (.istore 4, 2) := by decide +kernel
theorem dX12_placeOf_52 : decode cX12_placeOf 52 = .ok (.iinc 5 1, 3) := by decide +kernel
theorem dX12_placeOf_55 : decode cX12_placeOf 55 = .ok (.goto (-49), 3) := by decide +kernel
theorem dX12_placeOf_58 : decode cX12_placeOf 58 = .ok (.iload 4, 2) := by decide +kernel
theorem dX12_placeOf_60 : decode cX12_placeOf 60 = .ok (.ireturn, 1) := by decide +kernel
theorem dX12_selectOf_0 : decode cX12_selectOf 0 = .ok (.iconst (-1), 1) := by decide +kernel
theorem dX12_selectOf_1 : decode cX12_selectOf 1 = .ok (.istore_n 3, 1) := by decide +kernel
theorem dX12_selectOf_2 : decode cX12_selectOf 2 = .ok (.iconst 0, 1) := by decide +kernel
theorem dX12_selectOf_3 : decode cX12_selectOf 3 = .ok (.istore 4, 2) := by decide +kernel
theorem dX12_selectOf_5 : decode cX12_selectOf 5 = .ok (.iload 4, 2) := by decide +kernel
theorem dX12_selectOf_7 : decode cX12_selectOf 7 = .ok (.aload_n 0, 1) := by decide +kernel
theorem dX12_selectOf_8 : decode cX12_selectOf 8 = .ok (.invokevirtual 217, 3) := by decide +kernel
theorem dX12_selectOf_11 : decode cX12_selectOf 11 = .ok (.if_icmp .ge 43, 3) := by decide +kernel
theorem dX12_selectOf_14 : decode cX12_selectOf 14 = .ok (.aload_n 0, 1) := by decide +kernel
theorem dX12_selectOf_15 : decode cX12_selectOf 15 = .ok (.getfield 97, 3) := by decide +kernel
theorem dX12_selectOf_18 : decode cX12_selectOf 18 = .ok (.sipush 240, 3) := by decide +kernel
theorem dX12_selectOf_21 : decode cX12_selectOf 21 = .ok (.iload 4, 2) := by decide +kernel
theorem dX12_selectOf_23 : decode cX12_selectOf 23 = .ok (.iadd, 1) := by decide +kernel
theorem dX12_selectOf_24 : decode cX12_selectOf 24 = .ok (.iaload, 1) := by decide +kernel
theorem dX12_selectOf_25 : decode cX12_selectOf 25 = .ok (.iload_n 1, 1) := by decide +kernel
theorem dX12_selectOf_26 : decode cX12_selectOf 26 = .ok (.if_icmp .ne 20, 3) := by decide +kernel
theorem dX12_selectOf_29 : decode cX12_selectOf 29 = .ok (.aload_n 0, 1) := by decide +kernel
theorem dX12_selectOf_30 : decode cX12_selectOf 30 = .ok (.iconst 0, 1) := by decide +kernel
theorem dX12_selectOf_31 : decode cX12_selectOf 31 = .ok (.iload_n 1, 1) := by decide +kernel
theorem dX12_selectOf_32 : decode cX12_selectOf 32 = .ok (.iload 4, 2) := by decide +kernel
theorem dX12_selectOf_34 : decode cX12_selectOf 34 = .ok (.invokevirtual 410, 3) := by decide +kernel
theorem dX12_selectOf_37 : decode cX12_selectOf 37 = .ok (.iload_n 2, 1) := by decide +kernel
theorem dX12_selectOf_38 : decode cX12_selectOf 38 = .ok (.if_icmp .ne 8, 3) := by decide +kernel
theorem dX12_selectOf_41 : decode cX12_selectOf 41 = .ok (.iload 4, 2) := by decide +kernel
theorem dX12_selectOf_43 : decode cX12_selectOf 43 = .ok (.goto 4, 3) := by decide +kernel
theorem dX12_selectOf_46 : decode cX12_selectOf 46 = .ok (.iload_n 3, 1) := by decide +kernel
theorem dX12_selectOf_47 : decode cX12_selectOf 47 = .ok (.istore_n 3, 1) := by decide +kernel
theorem dX12_selectOf_48 : decode cX12_selectOf 48 = .ok (.iinc 4 1, 3) := by decide +kernel
theorem dX12_selectOf_51 : decode cX12_selectOf 51 = .ok (.goto (-46), 3) := by decide +kernel
theorem dX12_selectOf_54 : decode cX12_selectOf 54 = .ok (.iload_n 3, 1) := by decide +kernel
theorem dX12_selectOf_55 : decode cX12_selectOf 55 = .ok (.ireturn, 1) := by decide +kernel
theorem dX12_first_0 : decode cX12_first 0 = .ok (.aload_n 0, 1) := by decide +kernel
theorem dX12_first_1 : decode cX12_first 1 = .ok (.iconst 0, 1) := by decide +kernel
theorem dX12_first_2 : decode cX12_first 2 = .ok (.putfield 1, 3) := by decide +kernel
theorem dX12_first_5 : decode cX12_first 5 = .ok (.aload_n 0, 1) := by decide +kernel
theorem dX12_first_6 : decode cX12_first 6 = .ok (.iload_n 1, 1) := by decide +kernel
theorem dX12_first_7 : decode cX12_first 7 = .ok (.invokevirtual 364, 3) := by decide +kernel
theorem dX12_first_10 : decode cX12_first 10 = .ok (.ifCond .ne 5, 3) := by decide +kernel
theorem dX12_first_13 : decode cX12_first 13 = .ok (.iconst (-1), 1) := by decide +kernel
theorem dX12_first_14 : decode cX12_first 14 = .ok (.ireturn, 1) := by decide +kernel
theorem dX12_first_15 : decode cX12_first 15 = .ok (.aload_n 0, 1) := by decide +kernel
theorem dX12_first_16 : decode cX12_first 16 = .ok (.dup, 1) := by decide +kernel
theorem dX12_first_17 : decode cX12_first 17 = .ok (.getfield 292, 3) := by decide +kernel
theorem dX12_first_20 : decode cX12_first 20 = .ok (.iconst 1, 1) := by decide +kernel
theorem dX12_first_21 : decode cX12_first 21 = .ok (.iadd, 1) := by decide +kernel
theorem dX12_first_22 : decode cX12_first 22 = .ok (.putfield 292, 3) := by decide +kernel
theorem dX12_first_25 : decode cX12_first 25 = .ok (.aload_n 0, 1) := by decide +kernel
theorem dX12_first_26 : decode cX12_first 26 = .ok (.iconst 0, 1) := by decide +kernel
theorem dX12_first_27 : decode cX12_first 27 = .ok (.iload_n 1, 1) := by decide +kernel
theorem dX12_first_28 : decode cX12_first 28 = .ok (.invokevirtual 348, 3) := by decide +kernel
theorem dX12_first_31 : decode cX12_first 31 = .ok (.istore_n 2, 1) := by decide +kernel
theorem dX12_first_32 : decode cX12_first 32 = .ok (.iload_n 2, 1) := by decide +kernel
theorem dX12_first_33 : decode cX12_first 33 = .ok (.ifCond .ge 7, 3) := by decide +kernel
theorem dX12_first_36 : decode cX12_first 36 = .ok (.iconst (-1), 1) := by decide +kernel
theorem dX12_first_37 : decode cX12_first 37 = .ok (.goto 10, 3) := by decide +kernel
theorem dX12_first_40 : decode cX12_first 40 = .ok (.aload_n 0, 1) := by decide +kernel
theorem dX12_first_41 : decode cX12_first 41 = .ok (.iconst 0, 1) := by decide +kernel
theorem dX12_first_42 : decode cX12_first 42 = .ok (.iload_n 2, 1) := by decide +kernel
theorem dX12_first_43 : decode cX12_first 43 = .ok (.iconst 4, 1) := by decide +kernel
theorem dX12_first_44 : decode cX12_first 44 = .ok (.invokevirtual 298, 3) := by decide +kernel
theorem dX12_first_47 : decode cX12_first 47 = .ok (.ireturn, 1) := by decide +kernel
theorem dX12_comes_0 : decode cX12_comes 0 = .ok (.aload_n 0, 1) := by decide +kernel
theorem dX12_comes_1 : decode cX12_comes 1 = .ok (.iconst 0, 1) := by decide +kernel
theorem dX12_comes_2 : decode cX12_comes 2 = .ok (.putfield 1, 3) := by decide +kernel
theorem dX12_comes_5 : decode cX12_comes 5 = .ok (.iconst 0, 1) := by decide +kernel
theorem dX12_comes_6 : decode cX12_comes 6 = .ok (.istore_n 3, 1) := by decide +kernel
theorem dX12_comes_7 : decode cX12_comes 7 = .ok (.aload_n 0, 1) := by decide +kernel
theorem dX12_comes_8 : decode cX12_comes 8 = .ok (.iload_n 1, 1) := by decide +kernel
theorem dX12_comes_9 : decode cX12_comes 9 = .ok (.invokevirtual 364, 3) := by decide +kernel
theorem dX12_comes_12 : decode cX12_comes 12 = .ok (.ifCond .eq 20, 3) := by decide +kernel
theorem dX12_comes_15 : decode cX12_comes 15 = .ok (.aload_n 0, 1) := by decide +kernel
theorem dX12_comes_16 : decode cX12_comes 16 = .ok (.dup, 1) := by decide +kernel
theorem dX12_comes_17 : decode cX12_comes 17 = .ok (.getfield 292, 3) := by decide +kernel
theorem dX12_comes_20 : decode cX12_comes 20 = .ok (.iconst 1, 1) := by decide +kernel
theorem dX12_comes_21 : decode cX12_comes 21 = .ok (.iadd, 1) := by decide +kernel
theorem dX12_comes_22 : decode cX12_comes 22 = .ok (.putfield 292, 3) := by decide +kernel
theorem dX12_comes_25 : decode cX12_comes 25 = .ok (.aload_n 0, 1) := by decide +kernel
theorem dX12_comes_26 : decode cX12_comes 26 = .ok (.iconst 0, 1) := by decide +kernel
theorem dX12_comes_27 : decode cX12_comes 27 = .ok (.iload_n 1, 1) := by decide +kernel
theorem dX12_comes_28 : decode cX12_comes 28 = .ok (.invokevirtual 413, 3) := by decide +kernel
theorem dX12_comes_31 : decode cX12_comes 31 = .ok (.istore_n 3, 1) := by decide +kernel
theorem dX12_comes_32 : decode cX12_comes 32 = .ok (.aload_n 0, 1) := by decide +kernel
theorem dX12_comes_33 : decode cX12_comes 33 = .ok (.iload_n 2, 1) := by decide +kernel
theorem dX12_comes_34 : decode cX12_comes 34 = .ok (.iconst 0, 1) := by decide +kernel
theorem dX12_comes_35 : decode cX12_comes 35 = .ok (.iload_n 3, 1) := by decide +kernel
theorem dX12_comes_36 : decode cX12_comes 36 = .ok (.iconst 1, 1) := by decide +kernel
theorem dX12_comes_37 : decode cX12_comes 37 = .ok (.isub, 1) := by decide +kernel
theorem dX12_comes_38 : decode cX12_comes 38 = .ok (.invokestatic 376, 3) := by decide +kernel
theorem dX12_comes_41 : decode cX12_comes 41 = .ok (.ifCond .eq 7, 3) := by decide +kernel
theorem dX12_comes_44 : decode cX12_comes 44 = .ok (.iconst 0, 1) := by decide +kernel
theorem dX12_comes_45 : decode cX12_comes 45 = .ok (.goto 4, 3) := by decide +kernel
theorem dX12_comes_48 : decode cX12_comes 48 = .ok (.iconst 1, 1) := by decide +kernel
theorem dX12_comes_49 : decode cX12_comes 49 = .ok (.putfield 1, 3) := by decide +kernel
theorem dX12_comes_52 : decode cX12_comes 52 = .ok (.aload_n 0, 1) := by decide +kernel
theorem dX12_comes_53 : decode cX12_comes 53 = .ok (.getfield 1, 3) := by decide +kernel
theorem dX12_comes_56 : decode cX12_comes 56 = .ok (.ifCond .le 7, 3) := by decide +kernel
theorem dX12_comes_59 : decode cX12_comes 59 = .ok (.iconst 0, 1) := by decide +kernel
theorem dX12_comes_60 : decode cX12_comes 60 = .ok (.goto 9, 3) := by decide +kernel
theorem dX12_comes_63 : decode cX12_comes 63 = .ok (.aload_n 0, 1) := by decide +kernel
theorem dX12_comes_64 : decode cX12_comes 64 = .ok (.getfield 107, 3) := by decide +kernel
theorem dX12_comes_67 : decode cX12_comes 67 = .ok (.iload_n 2, 1) := by decide +kernel
theorem dX12_comes_68 : decode cX12_comes 68 = .ok (.iaload, 1) := by decide +kernel
theorem dX12_comes_69 : decode cX12_comes 69 = .ok (.ireturn, 1) := by decide +kernel
theorem dX12_awayOf_0 : decode cX12_awayOf 0 = .ok (.iconst 0, 1) := by decide +kernel
theorem dX12_awayOf_1 : decode cX12_awayOf 1 = .ok (.istore 4, 2) := by decide +kernel
theorem dX12_awayOf_3 : decode cX12_awayOf 3 = .ok (.iconst 0, 1) := by decide +kernel
theorem dX12_awayOf_4 : decode cX12_awayOf 4 = .ok (.istore 5, 2) := by decide +kernel
theorem dX12_awayOf_6 : decode cX12_awayOf 6 = .ok (.iload 5, 2) := by decide +kernel
theorem dX12_awayOf_8 : decode cX12_awayOf 8 = .ok (.iload_n 3, 1) := by decide +kernel
theorem dX12_awayOf_9 : decode cX12_awayOf 9 = .ok (.if_icmp .ge 29, 3) := by decide +kernel
theorem dX12_awayOf_12 : decode cX12_awayOf 12 = .ok (.aload_n 0, 1) := by decide +kernel
theorem dX12_awayOf_13 : decode cX12_awayOf 13 = .ok (.getfield 107, 3) := by decide +kernel
theorem dX12_awayOf_16 : decode cX12_awayOf 16 = .ok (.iload 5, 2) := by decide +kernel
theorem dX12_awayOf_18 : decode cX12_awayOf 18 = .ok (.iaload, 1) := by decide +kernel
theorem dX12_awayOf_19 : decode cX12_awayOf 19 = .ok (.iload_n 2, 1) := by decide +kernel
theorem dX12_awayOf_20 : decode cX12_awayOf 20 = .ok (.if_icmp .ne 8, 3) := by decide +kernel
theorem dX12_awayOf_23 : decode cX12_awayOf 23 = .ok (.iload 5, 2) := by decide +kernel
theorem dX12_awayOf_25 : decode cX12_awayOf 25 = .ok (.goto 5, 3) := by decide +kernel
theorem dX12_awayOf_28 : decode cX12_awayOf 28 = .ok (.iload 4, 2) := by decide +kernel
theorem dX12_awayOf_30 : decode cX12_awayOf 30 = .ok (.istore 4, 2) := by decide +kernel
theorem dX12_awayOf_32 : decode cX12_awayOf 32 = .ok (.iinc 5 1, 3) := by decide +kernel
theorem dX12_awayOf_35 : decode cX12_awayOf 35 = .ok (.goto (-29), 3) := by decide +kernel
theorem dX12_awayOf_38 : decode cX12_awayOf 38 = .ok (.iload 4, 2) := by decide +kernel
theorem dX12_awayOf_40 : decode cX12_awayOf 40 = .ok (.aload_n 0, 1) := by decide +kernel
theorem dX12_awayOf_41 : decode cX12_awayOf 41 = .ok (.iconst 0, 1) := by decide +kernel
theorem dX12_awayOf_42 : decode cX12_awayOf 42 = .ok (.iload_n 1, 1) := by decide +kernel
theorem dX12_awayOf_43 : decode cX12_awayOf 43 = .ok (.iload_n 2, 1) := by decide +kernel
theorem dX12_awayOf_44 : decode cX12_awayOf 44 = .ok (.invokevirtual 410, 3) := by decide +kernel
theorem dX12_awayOf_47 : decode cX12_awayOf 47 = .ok (.isub, 1) := by decide +kernel
theorem dX12_awayOf_48 : decode cX12_awayOf 48 = .ok (.ireturn, 1) := by decide +kernel
theorem dX12_away_0 : decode cX12_away 0 = .ok (.aload_n 0, 1) := by decide +kernel
theorem dX12_away_1 : decode cX12_away 1 = .ok (.iconst 0, 1) := by decide +kernel
theorem dX12_away_2 : decode cX12_away 2 = .ok (.putfield 1, 3) := by decide +kernel
theorem dX12_away_5 : decode cX12_away 5 = .ok (.iconst 0, 1) := by decide +kernel
theorem dX12_away_6 : decode cX12_away 6 = .ok (.istore_n 3, 1) := by decide +kernel
theorem dX12_away_7 : decode cX12_away 7 = .ok (.aload_n 0, 1) := by decide +kernel
theorem dX12_away_8 : decode cX12_away 8 = .ok (.iload_n 1, 1) := by decide +kernel
theorem dX12_away_9 : decode cX12_away 9 = .ok (.invokevirtual 364, 3) := by decide +kernel
theorem dX12_away_12 : decode cX12_away 12 = .ok (.ifCond .eq 20, 3) := by decide +kernel
theorem dX12_away_15 : decode cX12_away 15 = .ok (.aload_n 0, 1) := by decide +kernel
theorem dX12_away_16 : decode cX12_away 16 = .ok (.dup, 1) := by decide +kernel
theorem dX12_away_17 : decode cX12_away 17 = .ok (.getfield 292, 3) := by decide +kernel
theorem dX12_away_20 : decode cX12_away 20 = .ok (.iconst 1, 1) := by decide +kernel
theorem dX12_away_21 : decode cX12_away 21 = .ok (.iadd, 1) := by decide +kernel
theorem dX12_away_22 : decode cX12_away 22 = .ok (.putfield 292, 3) := by decide +kernel
theorem dX12_away_25 : decode cX12_away 25 = .ok (.aload_n 0, 1) := by decide +kernel
theorem dX12_away_26 : decode cX12_away 26 = .ok (.iconst 0, 1) := by decide +kernel
theorem dX12_away_27 : decode cX12_away 27 = .ok (.iload_n 1, 1) := by decide +kernel
theorem dX12_away_28 : decode cX12_away 28 = .ok (.invokevirtual 413, 3) := by decide +kernel
theorem dX12_away_31 : decode cX12_away 31 = .ok (.istore_n 3, 1) := by decide +kernel
theorem dX12_away_32 : decode cX12_away 32 = .ok (.aload_n 0, 1) := by decide +kernel
theorem dX12_away_33 : decode cX12_away 33 = .ok (.aload_n 0, 1) := by decide +kernel
theorem dX12_away_34 : decode cX12_away 34 = .ok (.iload_n 1, 1) := by decide +kernel
theorem dX12_away_35 : decode cX12_away 35 = .ok (.invokevirtual 364, 3) := by decide +kernel
theorem dX12_away_38 : decode cX12_away 38 = .ok (.ifCond .eq 29, 3) := by decide +kernel
theorem dX12_away_41 : decode cX12_away 41 = .ok (.aload_n 0, 1) := by decide +kernel
theorem dX12_away_42 : decode cX12_away 42 = .ok (.iload_n 2, 1) := by decide +kernel
theorem dX12_away_43 : decode cX12_away 43 = .ok (.invokevirtual 361, 3) := by decide +kernel
theorem dX12_away_46 : decode cX12_away 46 = .ok (.ifCond .eq 21, 3) := by decide +kernel
theorem dX12_away_49 : decode cX12_away 49 = .ok (.aload_n 0, 1) := by decide +kernel
theorem dX12_away_50 : decode cX12_away 50 = .ok (.getfield 97, 3) := by decide +kernel
theorem dX12_away_53 : decode cX12_away 53 = .ok (.sipush 240, 3) := by decide +kernel
theorem dX12_away_56 : decode cX12_away 56 = .ok (.iload_n 2, 1) := by decide +kernel
theorem dX12_away_57 : decode cX12_away 57 = .ok (.iadd, 1) := by decide +kernel
theorem dX12_away_58 : decode cX12_away 58 = .ok (.iaload, 1) := by decide +kernel
theorem dX12_away_59 : decode cX12_away 59 = .ok (.iload_n 1, 1) := by decide +kernel
theorem dX12_away_60 : decode cX12_away 60 = .ok (.if_icmp .ne 7, 3) := by decide +kernel
theorem dX12_away_63 : decode cX12_away 63 = .ok (.iconst 0, 1) := by decide +kernel
theorem dX12_away_64 : decode cX12_away 64 = .ok (.goto 4, 3) := by decide +kernel
theorem dX12_away_67 : decode cX12_away 67 = .ok (.iconst 1, 1) := by decide +kernel
theorem dX12_away_68 : decode cX12_away 68 = .ok (.putfield 1, 3) := by decide +kernel
theorem dX12_away_71 : decode cX12_away 71 = .ok (.aload_n 0, 1) := by decide +kernel
theorem dX12_away_72 : decode cX12_away 72 = .ok (.getfield 1, 3) := by decide +kernel
theorem dX12_away_75 : decode cX12_away 75 = .ok (.ifCond .le 7, 3) := by decide +kernel
theorem dX12_away_78 : decode cX12_away 78 = .ok (.iconst 0, 1) := by decide +kernel
theorem dX12_away_79 : decode cX12_away 79 = .ok (.goto 10, 3) := by decide +kernel
theorem dX12_away_82 : decode cX12_away 82 = .ok (.aload_n 0, 1) := by decide +kernel
theorem dX12_away_83 : decode cX12_away 83 = .ok (.iload_n 1, 1) := by decide +kernel
theorem dX12_away_84 : decode cX12_away 84 = .ok (.iload_n 2, 1) := by decide +kernel
theorem dX12_away_85 : decode cX12_away 85 = .ok (.iload_n 3, 1) := by decide +kernel
theorem dX12_away_86 : decode cX12_away 86 = .ok (.invokevirtual 416, 3) := by decide +kernel
theorem dX12_away_89 : decode cX12_away 89 = .ok (.ireturn, 1) := by decide +kernel
theorem dX12_wrongs_0 : decode cX12_wrongs 0 = .ok (.aload_n 0, 1) := by decide +kernel
theorem dX12_wrongs_1 : decode cX12_wrongs 1 = .ok (.iconst 0, 1) := by decide +kernel
theorem dX12_wrongs_2 : decode cX12_wrongs 2 = .ok (.putfield 1, 3) := by decide +kernel
theorem dX12_wrongs_5 : decode cX12_wrongs 5 = .ok (.aload_n 0, 1) := by decide +kernel
theorem dX12_wrongs_6 : decode cX12_wrongs 6 = .ok (.iload_n 1, 1) := by decide +kernel
theorem dX12_wrongs_7 : decode cX12_wrongs 7 = .ok (.invokevirtual 364, 3) := by decide +kernel
theorem dX12_wrongs_10 : decode cX12_wrongs 10 = .ok (.ifCond .ne 5, 3) := by decide +kernel
theorem dX12_wrongs_13 : decode cX12_wrongs 13 = .ok (.iconst (-1), 1) := by decide +kernel
theorem dX12_wrongs_14 : decode cX12_wrongs 14 = .ok (.ireturn, 1) := by decide +kernel
theorem dX12_wrongs_15 : decode cX12_wrongs 15 = .ok (.aload_n 0, 1) := by decide +kernel
theorem dX12_wrongs_16 : decode cX12_wrongs 16 = .ok (.dup, 1) := by decide +kernel
theorem dX12_wrongs_17 : decode cX12_wrongs 17 = .ok (.getfield 292, 3) := by decide +kernel
theorem dX12_wrongs_20 : decode cX12_wrongs 20 = .ok (.iconst 1, 1) := by decide +kernel
theorem dX12_wrongs_21 : decode cX12_wrongs 21 = .ok (.iadd, 1) := by decide +kernel
theorem dX12_wrongs_22 : decode cX12_wrongs 22 = .ok (.putfield 292, 3) := by decide +kernel
theorem dX12_wrongs_25 : decode cX12_wrongs 25 = .ok (.aload_n 0, 1) := by decide +kernel
theorem dX12_wrongs_26 : decode cX12_wrongs 26 = .ok (.iconst 0, 1) := by decide +kernel
theorem dX12_wrongs_27 : decode cX12_wrongs 27 = .ok (.iload_n 1, 1) := by decide +kernel
theorem dX12_wrongs_28 : decode cX12_wrongs 28 = .ok (.invokevirtual 413, 3) := by decide +kernel
theorem dX12_wrongs_31 : decode cX12_wrongs 31 = .ok (.istore_n 2, 1) := by decide +kernel
theorem dX12_wrongs_32 : decode cX12_wrongs 32 = .ok (.iconst 0, 1) := by decide +kernel
theorem dX12_wrongs_33 : decode cX12_wrongs 33 = .ok (.istore_n 3, 1) := by decide +kernel
theorem dX12_wrongs_34 : decode cX12_wrongs 34 = .ok (.iconst 0, 1) := by decide +kernel
theorem dX12_wrongs_35 : decode cX12_wrongs 35 = .ok (.istore 4, 2) := by decide +kernel
theorem dX12_wrongs_37 : decode cX12_wrongs 37 = .ok (.iload 4, 2) := by decide +kernel
theorem dX12_wrongs_39 : decode cX12_wrongs 39 = .ok (.iload_n 2, 1) := by decide +kernel
theorem dX12_wrongs_40 : decode cX12_wrongs 40 = .ok (.if_icmp .ge 60, 3) := by decide +kernel
theorem dX12_wrongs_43 : decode cX12_wrongs 43 = .ok (.iconst 0, 1) := by decide +kernel
theorem dX12_wrongs_44 : decode cX12_wrongs 44 = .ok (.istore 5, 2) := by decide +kernel
theorem dX12_wrongs_46 : decode cX12_wrongs 46 = .ok (.iload 5, 2) := by decide +kernel
theorem dX12_wrongs_48 : decode cX12_wrongs 48 = .ok (.iload 4, 2) := by decide +kernel
theorem dX12_wrongs_50 : decode cX12_wrongs 50 = .ok (.if_icmp .ge 44, 3) := by decide +kernel
theorem dX12_wrongs_53 : decode cX12_wrongs 53 = .ok (.iload_n 3, 1) := by decide +kernel
theorem dX12_wrongs_54 : decode cX12_wrongs 54 = .ok (.aload_n 0, 1) := by decide +kernel
theorem dX12_wrongs_55 : decode cX12_wrongs 55 = .ok (.getfield 104, 3) := by decide +kernel
theorem dX12_wrongs_58 : decode cX12_wrongs 58 = .ok (.aload_n 0, 1) := by decide +kernel
theorem dX12_wrongs_59 : decode cX12_wrongs 59 = .ok (.getfield 107, 3) := by decide +kernel
theorem dX12_wrongs_62 : decode cX12_wrongs 62 = .ok (.iload 4, 2) := by decide +kernel
theorem dX12_wrongs_64 : decode cX12_wrongs 64 = .ok (.iaload, 1) := by decide +kernel
theorem dX12_wrongs_65 : decode cX12_wrongs 65 = .ok (.iaload, 1) := by decide +kernel
theorem dX12_wrongs_66 : decode cX12_wrongs 66 = .ok (.aload_n 0, 1) := by decide +kernel
theorem dX12_wrongs_67 : decode cX12_wrongs 67 = .ok (.getfield 104, 3) := by decide +kernel
theorem dX12_wrongs_70 : decode cX12_wrongs 70 = .ok (.aload_n 0, 1) := by decide +kernel
theorem dX12_wrongs_71 : decode cX12_wrongs 71 = .ok (.getfield 107, 3) := by decide +kernel
theorem dX12_wrongs_74 : decode cX12_wrongs 74 = .ok (.iload 5, 2) := by decide +kernel
theorem dX12_wrongs_76 : decode cX12_wrongs 76 = .ok (.iaload, 1) := by decide +kernel
theorem dX12_wrongs_77 : decode cX12_wrongs 77 = .ok (.iaload, 1) := by decide +kernel
theorem dX12_wrongs_78 : decode cX12_wrongs 78 = .ok (.if_icmp .ge 7, 3) := by decide +kernel
theorem dX12_wrongs_81 : decode cX12_wrongs 81 = .ok (.iconst 1, 1) := by decide +kernel
theorem dX12_wrongs_82 : decode cX12_wrongs 82 = .ok (.goto 4, 3) := by decide +kernel
theorem dX12_wrongs_85 : decode cX12_wrongs 85 = .ok (.iconst 0, 1) := by decide +kernel
theorem dX12_wrongs_86 : decode cX12_wrongs 86 = .ok (.iadd, 1) := by decide +kernel
theorem dX12_wrongs_87 : decode cX12_wrongs 87 = .ok (.istore_n 3, 1) := by decide +kernel
theorem dX12_wrongs_88 : decode cX12_wrongs 88 = .ok (.iinc 5 1, 3) := by decide +kernel
theorem dX12_wrongs_91 : decode cX12_wrongs 91 = .ok (.goto (-45), 3) := by decide +kernel
theorem dX12_wrongs_94 : decode cX12_wrongs 94 = .ok (.iinc 4 1, 3) := by decide +kernel
theorem dX12_wrongs_97 : decode cX12_wrongs 97 = .ok (.goto (-60), 3) := by decide +kernel
theorem dX12_wrongs_100 : decode cX12_wrongs 100 = .ok (.iload_n 3, 1) := by decide +kernel
theorem dX12_wrongs_101 : decode cX12_wrongs 101 = .ok (.ireturn, 1) := by decide +kernel
theorem dX12_far_0 : decode cX12_far 0 = .ok (.aload_n 0, 1) := by decide +kernel
theorem dX12_far_1 : decode cX12_far 1 = .ok (.iconst 0, 1) := by decide +kernel
theorem dX12_far_2 : decode cX12_far 2 = .ok (.putfield 1, 3) := by decide +kernel
theorem dX12_far_5 : decode cX12_far 5 = .ok (.aload_n 0, 1) := by decide +kernel
theorem dX12_far_6 : decode cX12_far 6 = .ok (.iload_n 1, 1) := by decide +kernel
theorem dX12_far_7 : decode cX12_far 7 = .ok (.invokevirtual 364, 3) := by decide +kernel
theorem dX12_far_10 : decode cX12_far 10 = .ok (.ifCond .ne 5, 3) := by decide +kernel
theorem dX12_far_13 : decode cX12_far 13 = .ok (.iconst (-1), 1) := by decide +kernel
theorem dX12_far_14 : decode cX12_far 14 = .ok (.ireturn, 1) := by decide +kernel
theorem dX12_far_15 : decode cX12_far 15 = .ok (.aload_n 0, 1) := by decide +kernel
theorem dX12_far_16 : decode cX12_far 16 = .ok (.dup, 1) := by decide +kernel
theorem dX12_far_17 : decode cX12_far 17 = .ok (.getfield 292, 3) := by decide +kernel
theorem dX12_far_20 : decode cX12_far 20 = .ok (.iconst 1, 1) := by decide +kernel
theorem dX12_far_21 : decode cX12_far 21 = .ok (.iadd, 1) := by decide +kernel
theorem dX12_far_22 : decode cX12_far 22 = .ok (.putfield 292, 3) := by decide +kernel
theorem dX12_far_25 : decode cX12_far 25 = .ok (.aload_n 0, 1) := by decide +kernel
theorem dX12_far_26 : decode cX12_far 26 = .ok (.iconst 0, 1) := by decide +kernel
theorem dX12_far_27 : decode cX12_far 27 = .ok (.iload_n 1, 1) := by decide +kernel
theorem dX12_far_28 : decode cX12_far 28 = .ok (.invokevirtual 413, 3) := by decide +kernel
theorem dX12_far_31 : decode cX12_far 31 = .ok (.istore_n 2, 1) := by decide +kernel
theorem dX12_far_32 : decode cX12_far 32 = .ok (.iconst 0, 1) := by decide +kernel
theorem dX12_far_33 : decode cX12_far 33 = .ok (.istore_n 3, 1) := by decide +kernel
theorem dX12_far_34 : decode cX12_far 34 = .ok (.iconst 0, 1) := by decide +kernel
theorem dX12_far_35 : decode cX12_far 35 = .ok (.istore 4, 2) := by decide +kernel
theorem dX12_far_37 : decode cX12_far 37 = .ok (.iload 4, 2) := by decide +kernel
theorem dX12_far_39 : decode cX12_far 39 = .ok (.iload_n 2, 1) := by decide +kernel
theorem dX12_far_40 : decode cX12_far 40 = .ok (.if_icmp .ge 52, 3) := by decide +kernel
theorem dX12_far_43 : decode cX12_far 43 = .ok (.aload_n 0, 1) := by decide +kernel
theorem dX12_far_44 : decode cX12_far 44 = .ok (.iload_n 1, 1) := by decide +kernel
theorem dX12_far_45 : decode cX12_far 45 = .ok (.aload_n 0, 1) := by decide +kernel
theorem dX12_far_46 : decode cX12_far 46 = .ok (.getfield 107, 3) := by decide +kernel
theorem dX12_far_49 : decode cX12_far 49 = .ok (.iload 4, 2) := by decide +kernel
theorem dX12_far_51 : decode cX12_far 51 = .ok (.iaload, 1) := by decide +kernel
theorem dX12_far_52 : decode cX12_far 52 = .ok (.iload_n 2, 1) := by decide +kernel
theorem dX12_far_53 : decode cX12_far 53 = .ok (.invokevirtual 416, 3) := by decide +kernel
theorem dX12_far_56 : decode cX12_far 56 = .ok (.istore 5, 2) := by decide +kernel
theorem dX12_far_58 : decode cX12_far 58 = .ok (.iload 5, 2) := by decide +kernel
theorem dX12_far_60 : decode cX12_far 60 = .ok (.ifCond .ge 9, 3) := by decide +kernel
theorem dX12_far_63 : decode cX12_far 63 = .ok (.iload 5, 2) := by decide +kernel
theorem dX12_far_65 : decode cX12_far 65 = .ok (.ineg, 1) := by decide +kernel
theorem dX12_far_66 : decode cX12_far 66 = .ok (.goto 5, 3) := by decide +kernel
theorem dX12_far_69 : decode cX12_far 69 = .ok (.iload 5, 2) := by decide +kernel
theorem dX12_far_71 : decode cX12_far 71 = .ok (.istore 5, 2) := by decide +kernel
theorem dX12_far_73 : decode cX12_far 73 = .ok (.iload 5, 2) := by decide +kernel
theorem dX12_far_75 : decode cX12_far 75 = .ok (.iload_n 3, 1) := by decide +kernel
theorem dX12_far_76 : decode cX12_far 76 = .ok (.if_icmp .le 8, 3) := by decide +kernel
theorem dX12_far_79 : decode cX12_far 79 = .ok (.iload 5, 2) := by decide +kernel
theorem dX12_far_81 : decode cX12_far 81 = .ok (.goto 4, 3) := by decide +kernel
theorem dX12_far_84 : decode cX12_far 84 = .ok (.iload_n 3, 1) := by decide +kernel
theorem dX12_far_85 : decode cX12_far 85 = .ok (.istore_n 3, 1) := by decide +kernel
theorem dX12_far_86 : decode cX12_far 86 = .ok (.iinc 4 1, 3) := by decide +kernel
theorem dX12_far_89 : decode cX12_far 89 = .ok (.goto (-52), 3) := by decide +kernel
theorem dX12_far_92 : decode cX12_far 92 = .ok (.iload_n 3, 1) := by decide +kernel
theorem dX12_far_93 : decode cX12_far 93 = .ok (.ireturn, 1) := by decide +kernel
theorem dX12_select_0 : decode cX12_select 0 = .ok (.aload_n 0, 1) := by decide +kernel
theorem dX12_select_1 : decode cX12_select 1 = .ok (.iconst 0, 1) := by decide +kernel
theorem dX12_select_2 : decode cX12_select 2 = .ok (.putfield 1, 3) := by decide +kernel
theorem dX12_select_5 : decode cX12_select 5 = .ok (.aload_n 0, 1) := by decide +kernel
theorem dX12_select_6 : decode cX12_select 6 = .ok (.iload_n 1, 1) := by decide +kernel
theorem dX12_select_7 : decode cX12_select 7 = .ok (.invokevirtual 364, 3) := by decide +kernel
theorem dX12_select_10 : decode cX12_select 10 = .ok (.ifCond .eq 16, 3) := by decide +kernel
theorem dX12_select_13 : decode cX12_select 13 = .ok (.iload_n 2, 1) := by decide +kernel
theorem dX12_select_14 : decode cX12_select 14 = .ok (.ifCond .lt 12, 3) := by decide +kernel
theorem dX12_select_17 : decode cX12_select 17 = .ok (.aload_n 0, 1) := by decide +kernel
theorem dX12_select_18 : decode cX12_select 18 = .ok (.iload_n 1, 1) := by decide +kernel
theorem dX12_select_19 : decode cX12_select 19 = .ok (.iload_n 2, 1) := by decide +kernel
theorem dX12_select_20 : decode cX12_select 20 = .ok (.invokevirtual 419, 3) := by decide +kernel
theorem dX12_select_23 : decode cX12_select 23 = .ok (.goto 4, 3) := by decide +kernel
theorem dX12_select_26 : decode cX12_select 26 = .ok (.iconst (-1), 1) := by decide +kernel
theorem dX12_select_27 : decode cX12_select 27 = .ok (.ireturn, 1) := by decide +kernel
theorem dX12_splitOf_0 : decode cX12_splitOf 0 = .ok (.iload_n 1, 1) := by decide +kernel
theorem dX12_splitOf_1 : decode cX12_splitOf 1 = .ok (.iconst 3, 1) := by decide +kernel
theorem dX12_splitOf_2 : decode cX12_splitOf 2 = .ok (.idiv, 1) := by decide +kernel
theorem dX12_splitOf_3 : decode cX12_splitOf 3 = .ok (.iconst 1, 1) := by decide +kernel
theorem dX12_splitOf_4 : decode cX12_splitOf 4 = .ok (.if_icmp .ge 7, 3) := by decide +kernel
theorem dX12_splitOf_7 : decode cX12_splitOf 7 = .ok (.iconst 1, 1) := by decide +kernel
theorem dX12_splitOf_8 : decode cX12_splitOf 8 = .ok (.goto 6, 3) := by decide +kernel
theorem dX12_splitOf_11 : decode cX12_splitOf 11 = .ok (.iload_n 1, 1) := by decide +kernel
theorem dX12_splitOf_12 : decode cX12_splitOf 12 = .ok (.iconst 3, 1) := by decide +kernel
theorem dX12_splitOf_13 : decode cX12_splitOf 13 = .ok (.idiv, 1) := by decide +kernel
theorem dX12_splitOf_14 : decode cX12_splitOf 14 = .ok (.istore_n 2, 1) := by decide +kernel
theorem dX12_splitOf_15 : decode cX12_splitOf 15 = .ok (.iconst (-1), 1) := by decide +kernel
theorem dX12_splitOf_16 : decode cX12_splitOf 16 = .ok (.istore_n 3, 1) := by decide +kernel
theorem dX12_splitOf_17 : decode cX12_splitOf 17 = .ok (.iconst 0, 1) := by decide +kernel
theorem dX12_splitOf_18 : decode cX12_splitOf 18 = .ok (.istore 4, 2) := by decide +kernel
theorem dX12_splitOf_20 : decode cX12_splitOf 20 = .ok (.iload 4, 2) := by decide +kernel
theorem dX12_splitOf_22 : decode cX12_splitOf 22 = .ok (.iload_n 2, 1) := by decide +kernel
theorem dX12_splitOf_23 : decode cX12_splitOf 23 = .ok (.if_icmp .ge 46, 3) := by decide +kernel
theorem dX12_splitOf_26 : decode cX12_splitOf 26 = .ok (.iload 4, 2) := by decide +kernel
theorem dX12_splitOf_28 : decode cX12_splitOf 28 = .ok (.iload_n 1, 1) := by decide +kernel
theorem dX12_splitOf_29 : decode cX12_splitOf 29 = .ok (.if_icmp .ge 40, 3) := by decide +kernel
theorem dX12_splitOf_32 : decode cX12_splitOf 32 = .ok (.iload_n 3, 1) := by decide +kernel
theorem dX12_splitOf_33 : decode cX12_splitOf 33 = .ok (.ifCond .lt 18, 3) := by decide +kernel
theorem dX12_splitOf_36 : decode cX12_splitOf 36 = .ok (.aload_n 0, 1) := by decide +kernel
theorem dX12_splitOf_37 : decode cX12_splitOf 37 = .ok (.iload_n 3, 1) := by decide +kernel
theorem dX12_splitOf_38 : decode cX12_splitOf 38 = .ok (.aload_n 0, 1) := by decide +kernel
theorem dX12_splitOf_39 : decode cX12_splitOf 39 = .ok (.getfield 107, 3) := by decide +kernel
theorem dX12_splitOf_42 : decode cX12_splitOf 42 = .ok (.iload 4, 2) := by decide +kernel
theorem dX12_splitOf_44 : decode cX12_splitOf 44 = .ok (.iaload, 1) := by decide +kernel
theorem dX12_splitOf_45 : decode cX12_splitOf 45 = .ok (.invokevirtual 407, 3) := by decide +kernel
theorem dX12_splitOf_48 : decode cX12_splitOf 48 = .ok (.ifCond .eq 13, 3) := by decide +kernel
theorem dX12_splitOf_51 : decode cX12_splitOf 51 = .ok (.aload_n 0, 1) := by decide +kernel
theorem dX12_splitOf_52 : decode cX12_splitOf 52 = .ok (.getfield 107, 3) := by decide +kernel
theorem dX12_splitOf_55 : decode cX12_splitOf 55 = .ok (.iload 4, 2) := by decide +kernel
theorem dX12_splitOf_57 : decode cX12_splitOf 57 = .ok (.iaload, 1) := by decide +kernel
theorem dX12_splitOf_58 : decode cX12_splitOf 58 = .ok (.goto 4, 3) := by decide +kernel
theorem dX12_splitOf_61 : decode cX12_splitOf 61 = .ok (.iload_n 3, 1) := by decide +kernel
theorem dX12_splitOf_62 : decode cX12_splitOf 62 = .ok (.istore_n 3, 1) := by decide +kernel
theorem dX12_splitOf_63 : decode cX12_splitOf 63 = .ok (.iinc 4 1, 3) := by decide +kernel
theorem dX12_splitOf_66 : decode cX12_splitOf 66 = .ok (.goto (-46), 3) := by decide +kernel
theorem dX12_splitOf_69 : decode cX12_splitOf 69 = .ok (.iload_n 3, 1) := by decide +kernel
theorem dX12_splitOf_70 : decode cX12_splitOf 70 = .ok (.ireturn, 1) := by decide +kernel
theorem dX12_split_0 : decode cX12_split 0 = .ok (.aload_n 0, 1) := by decide +kernel
theorem dX12_split_1 : decode cX12_split 1 = .ok (.iconst 0, 1) := by decide +kernel
theorem dX12_split_2 : decode cX12_split 2 = .ok (.putfield 1, 3) := by decide +kernel
theorem dX12_split_5 : decode cX12_split 5 = .ok (.aload_n 0, 1) := by decide +kernel
theorem dX12_split_6 : decode cX12_split 6 = .ok (.iload_n 1, 1) := by decide +kernel
theorem dX12_split_7 : decode cX12_split 7 = .ok (.invokevirtual 364, 3) := by decide +kernel
theorem dX12_split_10 : decode cX12_split 10 = .ok (.ifCond .ne 5, 3) := by decide +kernel
theorem dX12_split_13 : decode cX12_split 13 = .ok (.iconst (-1), 1) := by decide +kernel
theorem dX12_split_14 : decode cX12_split 14 = .ok (.ireturn, 1) := by decide +kernel
theorem dX12_split_15 : decode cX12_split 15 = .ok (.aload_n 0, 1) := by decide +kernel
theorem dX12_split_16 : decode cX12_split 16 = .ok (.dup, 1) := by decide +kernel
theorem dX12_split_17 : decode cX12_split 17 = .ok (.getfield 292, 3) := by decide +kernel
theorem dX12_split_20 : decode cX12_split 20 = .ok (.iconst 1, 1) := by decide +kernel
theorem dX12_split_21 : decode cX12_split 21 = .ok (.iadd, 1) := by decide +kernel
theorem dX12_split_22 : decode cX12_split 22 = .ok (.putfield 292, 3) := by decide +kernel
theorem dX12_split_25 : decode cX12_split 25 = .ok (.aload_n 0, 1) := by decide +kernel
theorem dX12_split_26 : decode cX12_split 26 = .ok (.aload_n 0, 1) := by decide +kernel
theorem dX12_split_27 : decode cX12_split 27 = .ok (.iconst 0, 1) := by decide +kernel
theorem dX12_split_28 : decode cX12_split 28 = .ok (.iload_n 1, 1) := by decide +kernel
theorem dX12_split_29 : decode cX12_split 29 = .ok (.invokevirtual 413, 3) := by decide +kernel
theorem dX12_split_32 : decode cX12_split 32 = .ok (.invokevirtual 422, 3) := by decide +kernel
theorem dX12_split_35 : decode cX12_split 35 = .ok (.istore_n 3, 1) := by decide +kernel
theorem dX12_split_36 : decode cX12_split 36 = .ok (.iload_n 3, 1) := by decide +kernel
theorem dX12_split_37 : decode cX12_split 37 = .ok (.ifCond .lt 12, 3) := by decide +kernel
theorem dX12_split_40 : decode cX12_split 40 = .ok (.iload_n 2, 1) := by decide +kernel
theorem dX12_split_41 : decode cX12_split 41 = .ok (.iconst 0, 1) := by decide +kernel
theorem dX12_split_42 : decode cX12_split 42 = .ok (.iconst 1, 1) := by decide +kernel
theorem dX12_split_43 : decode cX12_split 43 = .ok (.invokestatic 376, 3) := by decide +kernel
theorem dX12_split_46 : decode cX12_split 46 = .ok (.ifCond .ne 7, 3) := by decide +kernel
theorem dX12_split_49 : decode cX12_split 49 = .ok (.iconst (-1), 1) := by decide +kernel
theorem dX12_split_50 : decode cX12_split 50 = .ok (.goto 18, 3) := by decide +kernel
theorem dX12_split_53 : decode cX12_split 53 = .ok (.iload_n 2, 1) := by decide +kernel
theorem dX12_split_54 : decode cX12_split 54 = .ok (.ifCond .ne 7, 3) := by decide +kernel
theorem dX12_split_57 : decode cX12_split 57 = .ok (.iload_n 3, 1) := by decide +kernel
theorem dX12_split_58 : decode cX12_split 58 = .ok (.goto 10, 3) := by decide +kernel
theorem dX12_split_61 : decode cX12_split 61 = .ok (.aload_n 0, 1) := by decide +kernel
theorem dX12_split_62 : decode cX12_split 62 = .ok (.iconst 0, 1) := by decide +kernel
theorem dX12_split_63 : decode cX12_split 63 = .ok (.iload_n 1, 1) := by decide +kernel
theorem dX12_split_64 : decode cX12_split 64 = .ok (.iload_n 3, 1) := by decide +kernel
theorem dX12_split_65 : decode cX12_split 65 = .ok (.invokevirtual 410, 3) := by decide +kernel
theorem dX12_split_68 : decode cX12_split 68 = .ok (.ireturn, 1) := by decide +kernel
theorem dX12_steps_0 : decode cX12_steps 0 = .ok (.aload_n 0, 1) := by decide +kernel
theorem dX12_steps_1 : decode cX12_steps 1 = .ok (.iconst 0, 1) := by decide +kernel
theorem dX12_steps_2 : decode cX12_steps 2 = .ok (.putfield 1, 3) := by decide +kernel
theorem dX12_steps_5 : decode cX12_steps 5 = .ok (.aload_n 0, 1) := by decide +kernel
theorem dX12_steps_6 : decode cX12_steps 6 = .ok (.iload_n 1, 1) := by decide +kernel
theorem dX12_steps_7 : decode cX12_steps 7 = .ok (.invokevirtual 364, 3) := by decide +kernel
theorem dX12_steps_10 : decode cX12_steps 10 = .ok (.ifCond .ne 5, 3) := by decide +kernel
theorem dX12_steps_13 : decode cX12_steps 13 = .ok (.iconst (-1), 1) := by decide +kernel
theorem dX12_steps_14 : decode cX12_steps 14 = .ok (.ireturn, 1) := by decide +kernel
theorem dX12_steps_15 : decode cX12_steps 15 = .ok (.aload_n 0, 1) := by decide +kernel
theorem dX12_steps_16 : decode cX12_steps 16 = .ok (.dup, 1) := by decide +kernel
theorem dX12_steps_17 : decode cX12_steps 17 = .ok (.getfield 292, 3) := by decide +kernel
theorem dX12_steps_20 : decode cX12_steps 20 = .ok (.iconst 1, 1) := by decide +kernel
theorem dX12_steps_21 : decode cX12_steps 21 = .ok (.iadd, 1) := by decide +kernel
theorem dX12_steps_22 : decode cX12_steps 22 = .ok (.putfield 292, 3) := by decide +kernel
theorem dX12_steps_25 : decode cX12_steps 25 = .ok (.iload_n 2, 1) := by decide +kernel
theorem dX12_steps_26 : decode cX12_steps 26 = .ok (.ifCond .ge 7, 3) := by decide +kernel
theorem dX12_steps_29 : decode cX12_steps 29 = .ok (.iconst (-1), 1) := by decide +kernel
theorem dX12_steps_30 : decode cX12_steps 30 = .ok (.goto 9, 3) := by decide +kernel
theorem dX12_steps_33 : decode cX12_steps 33 = .ok (.aload_n 0, 1) := by decide +kernel
theorem dX12_steps_34 : decode cX12_steps 34 = .ok (.iload_n 1, 1) := by decide +kernel
theorem dX12_steps_35 : decode cX12_steps 35 = .ok (.iload_n 2, 1) := by decide +kernel
theorem dX12_steps_36 : decode cX12_steps 36 = .ok (.invokevirtual 419, 3) := by decide +kernel
theorem dX12_steps_39 : decode cX12_steps 39 = .ok (.istore_n 3, 1) := by decide +kernel
theorem dX12_steps_40 : decode cX12_steps 40 = .ok (.iload_n 3, 1) := by decide +kernel
theorem dX12_steps_41 : decode cX12_steps 41 = .ok (.ifCond .ge 5, 3) := by decide +kernel
theorem dX12_steps_44 : decode cX12_steps 44 = .ok (.iconst (-1), 1) := by decide +kernel
theorem dX12_steps_45 : decode cX12_steps 45 = .ok (.ireturn, 1) := by decide +kernel
theorem dX12_steps_46 : decode cX12_steps 46 = .ok (.iconst 0, 1) := by decide +kernel
theorem dX12_steps_47 : decode cX12_steps 47 = .ok (.istore 4, 2) := by decide +kernel
theorem dX12_steps_49 : decode cX12_steps 49 = .ok (.iconst 0, 1) := by decide +kernel
theorem dX12_steps_50 : decode cX12_steps 50 = .ok (.istore 5, 2) := by decide +kernel
theorem dX12_steps_52 : decode cX12_steps 52 = .ok (.iload 5, 2) := by decide +kernel
theorem dX12_steps_54 : decode cX12_steps 54 = .ok (.aload_n 0, 1) := by decide +kernel
theorem dX12_steps_55 : decode cX12_steps 55 = .ok (.invokevirtual 217, 3) := by decide +kernel
theorem dX12_steps_58 : decode cX12_steps 58 = .ok (.if_icmp .ge 37, 3) := by decide +kernel
theorem dX12_steps_61 : decode cX12_steps 61 = .ok (.iload 4, 2) := by decide +kernel
theorem dX12_steps_63 : decode cX12_steps 63 = .ok (.aload_n 0, 1) := by decide +kernel
theorem dX12_steps_64 : decode cX12_steps 64 = .ok (.getfield 97, 3) := by decide +kernel
theorem dX12_steps_67 : decode cX12_steps 67 = .ok (.sipush 240, 3) := by decide +kernel
theorem dX12_steps_70 : decode cX12_steps 70 = .ok (.iload 5, 2) := by decide +kernel
theorem dX12_steps_72 : decode cX12_steps 72 = .ok (.iadd, 1) := by decide +kernel
theorem dX12_steps_73 : decode cX12_steps 73 = .ok (.iaload, 1) := by decide +kernel
theorem dX12_steps_74 : decode cX12_steps 74 = .ok (.iload_n 1, 1) := by decide +kernel
theorem dX12_steps_75 : decode cX12_steps 75 = .ok (.if_icmp .ne 10, 3) := by decide +kernel
theorem dX12_steps_78 : decode cX12_steps 78 = .ok (.iconst 1, 1) := by decide +kernel
theorem dX12_steps_79 : decode cX12_steps 79 = .ok (.iload 5, 2) := by decide +kernel
theorem dX12_steps_81 : decode cX12_steps 81 = .ok (.ishl, 1) := by decide +kernel
theorem dX12_steps_82 : decode cX12_steps 82 = .ok (.goto 4, 3) := by decide +kernel
theorem dX12_steps_85 : decode cX12_steps 85 = .ok (.iconst 0, 1) := by decide +kernel
theorem dX12_steps_86 : decode cX12_steps 86 = .ok (.ior, 1) := by decide +kernel
theorem dX12_steps_87 : decode cX12_steps 87 = .ok (.istore 4, 2) := by decide +kernel
theorem dX12_steps_89 : decode cX12_steps 89 = .ok (.iinc 5 1, 3) := by decide +kernel
theorem dX12_steps_92 : decode cX12_steps 92 = .ok (.goto (-40), 3) := by decide +kernel
theorem dX12_steps_95 : decode cX12_steps 95 = .ok (.iconst 1, 1) := by decide +kernel
theorem dX12_steps_96 : decode cX12_steps 96 = .ok (.istore 5, 2) := by decide +kernel
theorem dX12_steps_98 : decode cX12_steps 98 = .ok (.aload_n 0, 1) := by decide +kernel
theorem dX12_steps_99 : decode cX12_steps 99 = .ok (.iload 4, 2) := by decide +kernel
theorem dX12_steps_101 : decode cX12_steps 101 = .ok (.invokevirtual 425, 3) := by decide +kernel
theorem dX12_steps_104 : decode cX12_steps 104 = .ok (.istore 6, 2) := by decide +kernel
theorem dX12_steps_106 : decode cX12_steps 106 = .ok (.iload 6, 2) := by decide +kernel
theorem dX12_steps_108 : decode cX12_steps 108 = .ok (.iload_n 3, 1) := by decide +kernel
theorem dX12_steps_109 : decode cX12_steps 109 = .ok (.if_icmp .eq 75, 3) := by decide +kernel
theorem dX12_steps_112 : decode cX12_steps 112 = .ok (.iconst 0, 1) := by decide +kernel
theorem dX12_steps_113 : decode cX12_steps 113 = .ok (.istore 7, 2) := by decide +kernel
theorem dX12_steps_115 : decode cX12_steps 115 = .ok (.iload 7, 2) := by decide +kernel
theorem dX12_steps_117 : decode cX12_steps 117 = .ok (.aload_n 0, 1) := by decide +kernel
theorem dX12_steps_118 : decode cX12_steps 118 = .ok (.invokevirtual 217, 3) := by decide +kernel
theorem dX12_steps_121 : decode cX12_steps 121 = .ok (.if_icmp .ge 49, 3) := by decide +kernel
theorem dX12_steps_124 : decode cX12_steps 124 = .ok (.iload 4, 2) := by decide +kernel
theorem dX12_steps_126 : decode cX12_steps 126 = .ok (.iload 7, 2) := by decide +kernel
theorem dX12_steps_128 : decode cX12_steps 128 = .ok (.iload 6, 2) := by decide +kernel
theorem dX12_steps_130 : decode cX12_steps 130 = .ok (.if_icmp .eq 21, 3) := by decide +kernel
theorem dX12_steps_133 : decode cX12_steps 133 = .ok (.aload_n 0, 1) := by decide +kernel
theorem dX12_steps_134 : decode cX12_steps 134 = .ok (.iload 7, 2) := by decide +kernel
theorem dX12_steps_136 : decode cX12_steps 136 = .ok (.iload 6, 2) := by decide +kernel
theorem dX12_steps_138 : decode cX12_steps 138 = .ok (.invokevirtual 407, 3) := by decide +kernel
theorem dX12_steps_141 : decode cX12_steps 141 = .ok (.aload_n 0, 1) := by decide +kernel
theorem dX12_steps_142 : decode cX12_steps 142 = .ok (.iload_n 3, 1) := by decide +kernel
theorem dX12_steps_143 : decode cX12_steps 143 = .ok (.iload 6, 2) := by decide +kernel
theorem dX12_steps_145 : decode cX12_steps 145 = .ok (.invokevirtual 407, 3) := by decide +kernel
theorem dX12_steps_148 : decode cX12_steps 148 = .ok (.if_icmp .eq 12, 3) := by decide +kernel
theorem dX12_steps_151 : decode cX12_steps 151 = .ok (.iconst 1, 1) := by decide +kernel
theorem dX12_steps_152 : decode cX12_steps 152 = .ok (.iload 7, 2) := by decide +kernel
theorem dX12_steps_154 : decode cX12_steps 154 = .ok (.ishl, 1) := by decide +kernel
theorem dX12_steps_155 : decode cX12_steps 155 = .ok (.iconst (-1), 1) := by decide +kernel
theorem dX12_steps_156 : decode cX12_steps 156 = .ok (.ixor, 1) := by decide +kernel
theorem dX12_steps_157 : decode cX12_steps 157 = .ok (.goto 4, 3) := by decide +kernel
theorem dX12_steps_160 : decode cX12_steps 160 = .ok (.iconst (-1), 1) := by decide +kernel
theorem dX12_steps_161 : decode cX12_steps 161 = .ok (.iand, 1) := by decide +kernel
theorem dX12_steps_162 : decode cX12_steps 162 = .ok (.istore 4, 2) := by decide +kernel
theorem dX12_steps_164 : decode cX12_steps 164 = .ok (.iinc 7 1, 3) := by decide +kernel
theorem dX12_steps_167 : decode cX12_steps 167 = .ok (.goto (-52), 3) := by decide +kernel
theorem dX12_steps_170 : decode cX12_steps 170 = .ok (.iinc 5 1, 3) := by decide +kernel
theorem dX12_steps_173 : decode cX12_steps 173 = .ok (.aload_n 0, 1) := by decide +kernel
theorem dX12_steps_174 : decode cX12_steps 174 = .ok (.iload 4, 2) := by decide +kernel
theorem dX12_steps_176 : decode cX12_steps 176 = .ok (.invokevirtual 425, 3) := by decide +kernel
theorem dX12_steps_179 : decode cX12_steps 179 = .ok (.istore 6, 2) := by decide +kernel
theorem dX12_steps_181 : decode cX12_steps 181 = .ok (.goto (-75), 3) := by decide +kernel
theorem dX12_steps_184 : decode cX12_steps 184 = .ok (.iload 5, 2) := by decide +kernel
theorem dX12_steps_186 : decode cX12_steps 186 = .ok (.ireturn, 1) := by decide +kernel
theorem dX12_splitOfSome_0 : decode cX12_splitOfSome 0 = .ok (.aload_n 0, 1) := by decide +kernel
theorem dX12_splitOfSome_1 : decode cX12_splitOfSome 1 = .ok (.sipush 4140, 3) := by decide +kernel
theorem dX12_splitOfSome_4 : decode cX12_splitOfSome 4 = .ok (.invokevirtual 277, 3) := by decide +kernel
theorem dX12_splitOfSome_7 : decode cX12_splitOfSome 7 = .ok (.iconst 0, 1) := by decide +kernel
theorem dX12_splitOfSome_8 : decode cX12_splitOfSome 8 = .ok (.istore_n 2, 1) := by decide +kernel
theorem dX12_splitOfSome_9 : decode cX12_splitOfSome 9 = .ok (.iload_n 2, 1) := by decide +kernel
theorem dX12_splitOfSome_10 : decode cX12_splitOfSome 10 = .ok (.aload_n 0, 1) := by decide +kernel
theorem dX12_splitOfSome_11 : decode cX12_splitOfSome 11 = .ok (.invokevirtual 217, 3) := by decide +kernel
theorem dX12_splitOfSome_14 : decode cX12_splitOfSome 14 = .ok (.if_icmp .ge 27, 3) := by decide +kernel
theorem dX12_splitOfSome_17 : decode cX12_splitOfSome 17 = .ok (.iload_n 1, 1) := by decide +kernel
theorem dX12_splitOfSome_18 : decode cX12_splitOfSome 18 = .ok (.iload_n 2, 1) := by decide +kernel
theorem dX12_splitOfSome_19 : decode cX12_splitOfSome 19 = .ok (.ishr, 1) := by decide +kernel
theorem dX12_splitOfSome_20 : decode cX12_splitOfSome 20 = .ok (.iconst 1, 1) := by decide +kernel
theorem dX12_splitOfSome_21 : decode cX12_splitOfSome 21 = .ok (.iand, 1) := by decide +kernel
theorem dX12_splitOfSome_22 : decode cX12_splitOfSome 22 = .ok (.iconst 1, 1) := by decide +kernel
theorem dX12_splitOfSome_23 : decode cX12_splitOfSome 23 = .ok (.if_icmp .ne 12, 3) := by decide +kernel
theorem dX12_splitOfSome_26 : decode cX12_splitOfSome 26 = .ok (.aload_n 0, 1) := by decide +kernel
theorem dX12_splitOfSome_27 : decode cX12_splitOfSome 27 = .ok (.sipush 4140, 3) := by decide +kernel
theorem dX12_splitOfSome_30 : decode cX12_splitOfSome 30 = .ok (.iload_n 2, 1) := by decide +kernel
theorem dX12_splitOfSome_31 : decode cX12_splitOfSome 31 = .ok (.iconst 0, 1) := by decide +kernel
theorem dX12_splitOfSome_32 : decode cX12_splitOfSome 32 = .ok (.invokevirtual 280, 3) := by decide +kernel
theorem dX12_splitOfSome_35 : decode cX12_splitOfSome 35 = .ok (.iinc 2 1, 3) := by decide +kernel
theorem dX12_splitOfSome_38 : decode cX12_splitOfSome 38 = .ok (.goto (-29), 3) := by decide +kernel
theorem dX12_splitOfSome_41 : decode cX12_splitOfSome 41 = .ok (.aload_n 0, 1) := by decide +kernel
theorem dX12_splitOfSome_42 : decode cX12_splitOfSome 42 = .ok (.aload_n 0, 1) := by decide +kernel
theorem dX12_splitOfSome_43 : decode cX12_splitOfSome 43 = .ok (.sipush 4140, 3) := by decide +kernel
theorem dX12_splitOfSome_46 : decode cX12_splitOfSome 46 = .ok (.iconst 0, 1) := by decide +kernel
theorem dX12_splitOfSome_47 : decode cX12_splitOfSome 47 = .ok (.invokevirtual 413, 3) := by decide +kernel
theorem dX12_splitOfSome_50 : decode cX12_splitOfSome 50 = .ok (.invokevirtual 422, 3) := by decide +kernel
theorem dX12_splitOfSome_53 : decode cX12_splitOfSome 53 = .ok (.ireturn, 1) := by decide +kernel
theorem dX12_worthOf_0 : decode cX12_worthOf 0 = .ok (.iconst 0, 1) := by decide +kernel
theorem dX12_worthOf_1 : decode cX12_worthOf 1 = .ok (.istore_n 2, 1) := by decide +kernel
theorem dX12_worthOf_2 : decode cX12_worthOf 2 = .ok (.iconst 0, 1) := by decide +kernel
theorem dX12_worthOf_3 : decode cX12_worthOf 3 = .ok (.istore_n 3, 1) := by decide +kernel
theorem dX12_worthOf_4 : decode cX12_worthOf 4 = .ok (.iload_n 3, 1) := by decide +kernel
theorem dX12_worthOf_5 : decode cX12_worthOf 5 = .ok (.iload_n 1, 1) := by decide +kernel
theorem dX12_worthOf_6 : decode cX12_worthOf 6 = .ok (.if_icmp .ge 25, 3) := by decide +kernel
theorem dX12_worthOf_9 : decode cX12_worthOf 9 = .ok (.iload_n 2, 1) := by decide +kernel
theorem dX12_worthOf_10 : decode cX12_worthOf 10 = .ok (.aload_n 0, 1) := by decide +kernel
theorem dX12_worthOf_11 : decode cX12_worthOf 11 = .ok (.getfield 104, 3) := by decide +kernel
theorem dX12_worthOf_14 : decode cX12_worthOf 14 = .ok (.aload_n 0, 1) := by decide +kernel
theorem dX12_worthOf_15 : decode cX12_worthOf 15 = .ok (.getfield 107, 3) := by decide +kernel
theorem dX12_worthOf_18 : decode cX12_worthOf 18 = .ok (.iload_n 3, 1) := by decide +kernel
theorem dX12_worthOf_19 : decode cX12_worthOf 19 = .ok (.iaload, 1) := by decide +kernel
theorem dX12_worthOf_20 : decode cX12_worthOf 20 = .ok (.iaload, 1) := by decide +kernel
theorem dX12_worthOf_21 : decode cX12_worthOf 21 = .ok (.invokestatic 273, 3) := by decide +kernel
theorem dX12_worthOf_24 : decode cX12_worthOf 24 = .ok (.istore_n 2, 1) := by decide +kernel
theorem dX12_worthOf_25 : decode cX12_worthOf 25 = .ok (.iinc 3 1, 3) := by decide +kernel
theorem dX12_worthOf_28 : decode cX12_worthOf 28 = .ok (.goto (-24), 3) := by decide +kernel
theorem dX12_worthOf_31 : decode cX12_worthOf 31 = .ok (.iload_n 2, 1) := by decide +kernel
theorem dX12_worthOf_32 : decode cX12_worthOf 32 = .ok (.ireturn, 1) := by decide +kernel
theorem dX12_worth_0 : decode cX12_worth 0 = .ok (.aload_n 0, 1) := by decide +kernel
theorem dX12_worth_1 : decode cX12_worth 1 = .ok (.iconst 0, 1) := by decide +kernel
theorem dX12_worth_2 : decode cX12_worth 2 = .ok (.putfield 1, 3) := by decide +kernel
theorem dX12_worth_5 : decode cX12_worth 5 = .ok (.aload_n 0, 1) := by decide +kernel
theorem dX12_worth_6 : decode cX12_worth 6 = .ok (.iload_n 1, 1) := by decide +kernel
theorem dX12_worth_7 : decode cX12_worth 7 = .ok (.invokevirtual 364, 3) := by decide +kernel
theorem dX12_worth_10 : decode cX12_worth 10 = .ok (.ifCond .ne 5, 3) := by decide +kernel
theorem dX12_worth_13 : decode cX12_worth 13 = .ok (.iconst (-1), 1) := by decide +kernel
theorem dX12_worth_14 : decode cX12_worth 14 = .ok (.ireturn, 1) := by decide +kernel
theorem dX12_worth_15 : decode cX12_worth 15 = .ok (.aload_n 0, 1) := by decide +kernel
theorem dX12_worth_16 : decode cX12_worth 16 = .ok (.dup, 1) := by decide +kernel
theorem dX12_worth_17 : decode cX12_worth 17 = .ok (.getfield 292, 3) := by decide +kernel
theorem dX12_worth_20 : decode cX12_worth 20 = .ok (.iconst 1, 1) := by decide +kernel
theorem dX12_worth_21 : decode cX12_worth 21 = .ok (.iadd, 1) := by decide +kernel
theorem dX12_worth_22 : decode cX12_worth 22 = .ok (.putfield 292, 3) := by decide +kernel
theorem dX12_worth_25 : decode cX12_worth 25 = .ok (.aload_n 0, 1) := by decide +kernel
theorem dX12_worth_26 : decode cX12_worth 26 = .ok (.aload_n 0, 1) := by decide +kernel
theorem dX12_worth_27 : decode cX12_worth 27 = .ok (.iconst 0, 1) := by decide +kernel
theorem dX12_worth_28 : decode cX12_worth 28 = .ok (.iload_n 1, 1) := by decide +kernel
theorem dX12_worth_29 : decode cX12_worth 29 = .ok (.invokevirtual 413, 3) := by decide +kernel
theorem dX12_worth_32 : decode cX12_worth 32 = .ok (.invokevirtual 428, 3) := by decide +kernel
theorem dX12_worth_35 : decode cX12_worth 35 = .ok (.ireturn, 1) := by decide +kernel
theorem dX12_mean_0 : decode cX12_mean 0 = .ok (.aload_n 0, 1) := by decide +kernel
theorem dX12_mean_1 : decode cX12_mean 1 = .ok (.iconst 0, 1) := by decide +kernel
theorem dX12_mean_2 : decode cX12_mean 2 = .ok (.putfield 1, 3) := by decide +kernel
theorem dX12_mean_5 : decode cX12_mean 5 = .ok (.aload_n 0, 1) := by decide +kernel
theorem dX12_mean_6 : decode cX12_mean 6 = .ok (.iload_n 1, 1) := by decide +kernel
theorem dX12_mean_7 : decode cX12_mean 7 = .ok (.invokevirtual 364, 3) := by decide +kernel
theorem dX12_mean_10 : decode cX12_mean 10 = .ok (.ifCond .ne 5, 3) := by decide +kernel
theorem dX12_mean_13 : decode cX12_mean 13 = .ok (.iconst (-1), 1) := by decide +kernel
theorem dX12_mean_14 : decode cX12_mean 14 = .ok (.ireturn, 1) := by decide +kernel
theorem dX12_mean_15 : decode cX12_mean 15 = .ok (.aload_n 0, 1) := by decide +kernel
theorem dX12_mean_16 : decode cX12_mean 16 = .ok (.dup, 1) := by decide +kernel
theorem dX12_mean_17 : decode cX12_mean 17 = .ok (.getfield 292, 3) := by decide +kernel
theorem dX12_mean_20 : decode cX12_mean 20 = .ok (.iconst 1, 1) := by decide +kernel
theorem dX12_mean_21 : decode cX12_mean 21 = .ok (.iadd, 1) := by decide +kernel
theorem dX12_mean_22 : decode cX12_mean 22 = .ok (.putfield 292, 3) := by decide +kernel
theorem dX12_mean_25 : decode cX12_mean 25 = .ok (.aload_n 0, 1) := by decide +kernel
theorem dX12_mean_26 : decode cX12_mean 26 = .ok (.iconst 0, 1) := by decide +kernel
theorem dX12_mean_27 : decode cX12_mean 27 = .ok (.iload_n 1, 1) := by decide +kernel
theorem dX12_mean_28 : decode cX12_mean 28 = .ok (.invokevirtual 413, 3) := by decide +kernel
theorem dX12_mean_31 : decode cX12_mean 31 = .ok (.istore_n 2, 1) := by decide +kernel
theorem dX12_mean_32 : decode cX12_mean 32 = .ok (.iload_n 2, 1) := by decide +kernel
theorem dX12_mean_33 : decode cX12_mean 33 = .ok (.ifCond .ne 7, 3) := by decide +kernel
theorem dX12_mean_36 : decode cX12_mean 36 = .ok (.iconst 0, 1) := by decide +kernel
theorem dX12_mean_37 : decode cX12_mean 37 = .ok (.goto 15, 3) := by decide +kernel
theorem dX12_mean_40 : decode cX12_mean 40 = .ok (.aload_n 0, 1) := by decide +kernel
theorem dX12_mean_41 : decode cX12_mean 41 = .ok (.iload_n 2, 1) := by decide +kernel
theorem dX12_mean_42 : decode cX12_mean 42 = .ok (.invokevirtual 428, 3) := by decide +kernel
theorem dX12_mean_45 : decode cX12_mean 45 = .ok (.iload_n 2, 1) := by decide +kernel
theorem dX12_mean_46 : decode cX12_mean 46 = .ok (.invokestatic 262, 3) := by decide +kernel
theorem dX12_mean_49 : decode cX12_mean 49 = .ok (.invokestatic 265, 3) := by decide +kernel
theorem dX12_mean_52 : decode cX12_mean 52 = .ok (.ireturn, 1) := by decide +kernel
theorem dX12_bits_0 : decode cX12_bits 0 = .ok (.aload_n 0, 1) := by decide +kernel
theorem dX12_bits_1 : decode cX12_bits 1 = .ok (.iconst 0, 1) := by decide +kernel
theorem dX12_bits_2 : decode cX12_bits 2 = .ok (.putfield 1, 3) := by decide +kernel
theorem dX12_bits_5 : decode cX12_bits 5 = .ok (.aload_n 0, 1) := by decide +kernel
theorem dX12_bits_6 : decode cX12_bits 6 = .ok (.iload_n 1, 1) := by decide +kernel
theorem dX12_bits_7 : decode cX12_bits 7 = .ok (.invokevirtual 361, 3) := by decide +kernel
theorem dX12_bits_10 : decode cX12_bits 10 = .ok (.ifCond .eq 12, 3) := by decide +kernel
theorem dX12_bits_13 : decode cX12_bits 13 = .ok (.aload_n 0, 1) := by decide +kernel
theorem dX12_bits_14 : decode cX12_bits 14 = .ok (.getfield 104, 3) := by decide +kernel
theorem dX12_bits_17 : decode cX12_bits 17 = .ok (.iload_n 1, 1) := by decide +kernel
theorem dX12_bits_18 : decode cX12_bits 18 = .ok (.iaload, 1) := by decide +kernel
theorem dX12_bits_19 : decode cX12_bits 19 = .ok (.goto 4, 3) := by decide +kernel
theorem dX12_bits_22 : decode cX12_bits 22 = .ok (.iconst (-1), 1) := by decide +kernel
theorem dX12_bits_23 : decode cX12_bits 23 = .ok (.ireturn, 1) := by decide +kernel
theorem dX12_thousand_0 : decode cX12_thousand 0 = .ok (.aload_n 0, 1) := by decide +kernel
theorem dX12_thousand_1 : decode cX12_thousand 1 = .ok (.iconst 0, 1) := by decide +kernel
theorem dX12_thousand_2 : decode cX12_thousand 2 = .ok (.putfield 1, 3) := by decide +kernel
theorem dX12_thousand_5 : decode cX12_thousand 5 = .ok (.aload_n 0, 1) := by decide +kernel
theorem dX12_thousand_6 : decode cX12_thousand 6 = .ok (.iload_n 1, 1) := by decide +kernel
theorem dX12_thousand_7 : decode cX12_thousand 7 = .ok (.invokevirtual 361, 3) := by decide +kernel
theorem dX12_thousand_10 : decode cX12_thousand 10 = .ok (.ifCond .eq 24, 3) := by decide +kernel
theorem dX12_thousand_13 : decode cX12_thousand 13 = .ok (.aload_n 0, 1) := by decide +kernel
theorem dX12_thousand_14 : decode cX12_thousand 14 = .ok (.getfield 104, 3) := by decide +kernel
theorem dX12_thousand_17 : decode cX12_thousand 17 = .ok (.iload_n 1, 1) := by decide +kernel
theorem dX12_thousand_18 : decode cX12_thousand 18 = .ok (.iaload, 1) := by decide +kernel
theorem dX12_thousand_19 : decode cX12_thousand 19 = .ok (.sipush 1000, 3) := by decide +kernel
theorem dX12_thousand_22 : decode cX12_thousand 22 = .ok (.invokestatic 262, 3) := by decide +kernel
theorem dX12_thousand_25 : decode cX12_thousand 25 = .ok (.invokestatic 269, 3) := by decide +kernel
theorem dX12_thousand_28 : decode cX12_thousand 28 = .ok (.invokestatic 431, 3) := by decide +kernel
theorem dX12_thousand_31 : decode cX12_thousand 31 = .ok (.goto 4, 3) := by decide +kernel
theorem dX12_thousand_34 : decode cX12_thousand 34 = .ok (.iconst (-1), 1) := by decide +kernel
theorem dX12_thousand_35 : decode cX12_thousand 35 = .ok (.ireturn, 1) := by decide +kernel
theorem dX12_lift_0 : decode cX12_lift 0 = .ok (.aload_n 0, 1) := by decide +kernel
theorem dX12_lift_1 : decode cX12_lift 1 = .ok (.iconst 0, 1) := by decide +kernel
theorem dX12_lift_2 : decode cX12_lift 2 = .ok (.putfield 1, 3) := by decide +kernel
theorem dX12_lift_5 : decode cX12_lift 5 = .ok (.aload_n 0, 1) := by decide +kernel
theorem dX12_lift_6 : decode cX12_lift 6 = .ok (.iload_n 1, 1) := by decide +kernel
theorem dX12_lift_7 : decode cX12_lift 7 = .ok (.invokevirtual 361, 3) := by decide +kernel
theorem dX12_lift_10 : decode cX12_lift 10 = .ok (.ifCond .eq 12, 3) := by decide +kernel
theorem dX12_lift_13 : decode cX12_lift 13 = .ok (.aload_n 0, 1) := by decide +kernel
theorem dX12_lift_14 : decode cX12_lift 14 = .ok (.iconst 0, 1) := by decide +kernel
theorem dX12_lift_15 : decode cX12_lift 15 = .ok (.iload_n 1, 1) := by decide +kernel
theorem dX12_lift_16 : decode cX12_lift 16 = .ok (.invokevirtual 385, 3) := by decide +kernel
theorem dX12_lift_19 : decode cX12_lift 19 = .ok (.goto 4, 3) := by decide +kernel
theorem dX12_lift_22 : decode cX12_lift 22 = .ok (.iconst (-1), 1) := by decide +kernel
theorem dX12_lift_23 : decode cX12_lift 23 = .ok (.istore_n 2, 1) := by decide +kernel
theorem dX12_lift_24 : decode cX12_lift 24 = .ok (.iload_n 2, 1) := by decide +kernel
theorem dX12_lift_25 : decode cX12_lift 25 = .ok (.ifCond .ge 7, 3) := by decide +kernel
theorem dX12_lift_28 : decode cX12_lift 28 = .ok (.iconst (-1), 1) := by decide +kernel
theorem dX12_lift_29 : decode cX12_lift 29 = .ok (.goto 19, 3) := by decide +kernel
theorem dX12_lift_32 : decode cX12_lift 32 = .ok (.aload_n 0, 1) := by decide +kernel
theorem dX12_lift_33 : decode cX12_lift 33 = .ok (.iconst 0, 1) := by decide +kernel
theorem dX12_lift_34 : decode cX12_lift 34 = .ok (.iload_n 2, 1) := by decide +kernel
theorem dX12_lift_35 : decode cX12_lift 35 = .ok (.iconst 2, 1) := by decide +kernel
theorem dX12_lift_36 : decode cX12_lift 36 = .ok (.invokevirtual 298, 3) := by decide +kernel
theorem dX12_lift_39 : decode cX12_lift 39 = .ok (.aload_n 0, 1) := by decide +kernel
theorem dX12_lift_40 : decode cX12_lift 40 = .ok (.getfield 104, 3) := by decide +kernel
theorem dX12_lift_43 : decode cX12_lift 43 = .ok (.iload_n 1, 1) := by decide +kernel
theorem dX12_lift_44 : decode cX12_lift 44 = .ok (.iaload, 1) := by decide +kernel
theorem dX12_lift_45 : decode cX12_lift 45 = .ok (.invokestatic 434, 3) := by decide +kernel
theorem dX12_lift_48 : decode cX12_lift 48 = .ok (.ireturn, 1) := by decide +kernel
theorem dX12_bound_0 : decode cX12_bound 0 = .ok (.aload_n 0, 1) := by decide +kernel
theorem dX12_bound_1 : decode cX12_bound 1 = .ok (.iconst 0, 1) := by decide +kernel
theorem dX12_bound_2 : decode cX12_bound 2 = .ok (.putfield 1, 3) := by decide +kernel
theorem dX12_bound_5 : decode cX12_bound 5 = .ok (.aload_n 0, 1) := by decide +kernel
theorem dX12_bound_6 : decode cX12_bound 6 = .ok (.iload_n 1, 1) := by decide +kernel
theorem dX12_bound_7 : decode cX12_bound 7 = .ok (.invokevirtual 364, 3) := by decide +kernel
theorem dX12_bound_10 : decode cX12_bound 10 = .ok (.ifCond .eq 29, 3) := by decide +kernel
theorem dX12_bound_13 : decode cX12_bound 13 = .ok (.aload_n 0, 1) := by decide +kernel
theorem dX12_bound_14 : decode cX12_bound 14 = .ok (.iconst 0, 1) := by decide +kernel
theorem dX12_bound_15 : decode cX12_bound 15 = .ok (.iload_n 1, 1) := by decide +kernel
theorem dX12_bound_16 : decode cX12_bound 16 = .ok (.invokevirtual 398, 3) := by decide +kernel
theorem dX12_bound_19 : decode cX12_bound 19 = .ok (.aload_n 0, 1) := by decide +kernel
theorem dX12_bound_20 : decode cX12_bound 20 = .ok (.iconst 0, 1) := by decide +kernel
theorem dX12_bound_21 : decode cX12_bound 21 = .ok (.iload_n 1, 1) := by decide +kernel
theorem dX12_bound_22 : decode cX12_bound 22 = .ok (.invokevirtual 330, 3) := by decide +kernel
theorem dX12_bound_25 : decode cX12_bound 25 = .ok (.aload_n 0, 1) := by decide +kernel
theorem dX12_bound_26 : decode cX12_bound 26 = .ok (.getfield 79, 3) := by decide +kernel
theorem dX12_bound_29 : decode cX12_bound 29 = .ok (.iconst 3, 1) := by decide +kernel
theorem dX12_bound_30 : decode cX12_bound 30 = .ok (.iaload, 1) := by decide +kernel
theorem dX12_bound_31 : decode cX12_bound 31 = .ok (.ishr, 1) := by decide +kernel
theorem dX12_bound_32 : decode cX12_bound 32 = .ok (.if_icmp .gt 7, 3) := by decide +kernel
theorem dX12_bound_35 : decode cX12_bound 35 = .ok (.iconst 1, 1) := by decide +kernel
theorem dX12_bound_36 : decode cX12_bound 36 = .ok (.goto 4, 3) := by decide +kernel
theorem dX12_bound_39 : decode cX12_bound 39 = .ok (.iconst 0, 1) := by decide +kernel
theorem dX12_bound_40 : decode cX12_bound 40 = .ok (.ireturn, 1) := by decide +kernel
theorem dX12_depthFrom_0 : decode cX12_depthFrom 0 = .ok (.iload_n 1, 1) := by decide +kernel
theorem dX12_depthFrom_1 : decode cX12_depthFrom 1 = .ok (.ifCond .lt 8, 3) := by decide +kernel
theorem dX12_depthFrom_4 : decode cX12_depthFrom 4 = .ok (.iload_n 1, 1) := by decide +kernel
theorem dX12_depthFrom_5 : decode cX12_depthFrom 5 = .ok (.iload_n 2, 1) := by decide +kernel
theorem dX12_depthFrom_6 : decode cX12_depthFrom 6 = .ok (.if_icmp .ne 13, 3) := by decide +kernel
theorem dX12_depthFrom_9 : decode cX12_depthFrom 9 = .ok (.iload_n 1, 1) := by decide +kernel
theorem dX12_depthFrom_10 : decode cX12_depthFrom 10 = .ok (.ifCond .ge 7, 3) := by decide +kernel
theorem dX12_depthFrom_13 : decode cX12_depthFrom 13 = .ok (.iconst (-1), 1) := by decide +kernel
theorem dX12_depthFrom_14 : decode cX12_depthFrom 14 = .ok (.goto 4, 3) := by decide +kernel
theorem dX12_depthFrom_17 : decode cX12_depthFrom 17 = .ok (.iconst 0, 1) := by decide +kernel
theorem dX12_depthFrom_18 : decode cX12_depthFrom 18 = .ok (.ireturn, 1) := by decide +kernel
theorem dX12_depthFrom_19 : decode cX12_depthFrom 19 = .ok (.aload_n 0, 1) := by decide +kernel
theorem dX12_depthFrom_20 : decode cX12_depthFrom 20 = .ok (.aload_n 0, 1) := by decide +kernel
theorem dX12_depthFrom_21 : decode cX12_depthFrom 21 = .ok (.iconst 0, 1) := by decide +kernel
theorem dX12_depthFrom_22 : decode cX12_depthFrom 22 = .ok (.iload_n 1, 1) := by decide +kernel
theorem dX12_depthFrom_23 : decode cX12_depthFrom 23 = .ok (.bipush 6, 2) := by decide +kernel
theorem dX12_depthFrom_25 : decode cX12_depthFrom 25 = .ok (.invokevirtual 298, 3) := by decide +kernel
theorem dX12_depthFrom_28 : decode cX12_depthFrom 28 = .ok (.iload_n 2, 1) := by decide +kernel
theorem dX12_depthFrom_29 : decode cX12_depthFrom 29 = .ok (.invokevirtual 437, 3) := by decide +kernel
theorem dX12_depthFrom_32 : decode cX12_depthFrom 32 = .ok (.istore_n 3, 1) := by decide +kernel
theorem dX12_depthFrom_33 : decode cX12_depthFrom 33 = .ok (.aload_n 0, 1) := by decide +kernel
theorem dX12_depthFrom_34 : decode cX12_depthFrom 34 = .ok (.aload_n 0, 1) := by decide +kernel
theorem dX12_depthFrom_35 : decode cX12_depthFrom 35 = .ok (.iconst 0, 1) := by decide +kernel
theorem dX12_depthFrom_36 : decode cX12_depthFrom 36 = .ok (.iload_n 1, 1) := by decide +kernel
theorem dX12_depthFrom_37 : decode cX12_depthFrom 37 = .ok (.bipush 7, 2) := by decide +kernel
theorem dX12_depthFrom_39 : decode cX12_depthFrom 39 = .ok (.invokevirtual 298, 3) := by decide +kernel
theorem dX12_depthFrom_42 : decode cX12_depthFrom 42 = .ok (.iload_n 2, 1) := by decide +kernel
theorem dX12_depthFrom_43 : decode cX12_depthFrom 43 = .ok (.invokevirtual 437, 3) := by decide +kernel
theorem dX12_depthFrom_46 : decode cX12_depthFrom 46 = .ok (.istore 4, 2) := by decide +kernel
theorem dX12_depthFrom_48 : decode cX12_depthFrom 48 = .ok (.iload_n 3, 1) := by decide +kernel
theorem dX12_depthFrom_49 : decode cX12_depthFrom 49 = .ok (.ifCond .lt 9, 3) := by decide +kernel
theorem dX12_depthFrom_52 : decode cX12_depthFrom 52 = .ok (.iload_n 3, 1) := by decide +kernel
theorem dX12_depthFrom_53 : decode cX12_depthFrom 53 = .ok (.iconst 1, 1) := by decide +kernel
theorem dX12_depthFrom_54 : decode cX12_depthFrom 54 = .ok (.iadd, 1) := by decide +kernel
theorem dX12_depthFrom_55 : decode cX12_depthFrom 55 = .ok (.goto 16, 3) := by decide +kernel
theorem dX12_depthFrom_58 : decode cX12_depthFrom 58 = .ok (.iload 4, 2) := by decide +kernel
theorem dX12_depthFrom_60 : decode cX12_depthFrom 60 = .ok (.ifCond .lt 10, 3) := by decide +kernel
theorem dX12_depthFrom_63 : decode cX12_depthFrom 63 = .ok (.iload 4, 2) := by decide +kernel
theorem dX12_depthFrom_65 : decode cX12_depthFrom 65 = .ok (.iconst 1, 1) := by decide +kernel
theorem dX12_depthFrom_66 : decode cX12_depthFrom 66 = .ok (.iadd, 1) := by decide +kernel
theorem dX12_depthFrom_67 : decode cX12_depthFrom 67 = .ok (.goto 4, 3) := by decide +kernel
theorem dX12_depthFrom_70 : decode cX12_depthFrom 70 = .ok (.iconst (-1), 1) := by decide +kernel
theorem dX12_depthFrom_71 : decode cX12_depthFrom 71 = .ok (.ireturn, 1) := by decide +kernel
theorem dX12_depth_0 : decode cX12_depth 0 = .ok (.aload_n 0, 1) := by decide +kernel
theorem dX12_depth_1 : decode cX12_depth 1 = .ok (.iconst 0, 1) := by decide +kernel
theorem dX12_depth_2 : decode cX12_depth 2 = .ok (.putfield 1, 3) := by decide +kernel
theorem dX12_depth_5 : decode cX12_depth 5 = .ok (.aload_n 0, 1) := by decide +kernel
theorem dX12_depth_6 : decode cX12_depth 6 = .ok (.iload_n 1, 1) := by decide +kernel
theorem dX12_depth_7 : decode cX12_depth 7 = .ok (.invokevirtual 361, 3) := by decide +kernel
theorem dX12_depth_10 : decode cX12_depth 10 = .ok (.ifCond .eq 11, 3) := by decide +kernel
theorem dX12_depth_13 : decode cX12_depth 13 = .ok (.aload_n 0, 1) := by decide +kernel
theorem dX12_depth_14 : decode cX12_depth 14 = .ok (.iload_n 1, 1) := by decide +kernel
theorem dX12_depth_15 : decode cX12_depth 15 = .ok (.invokevirtual 367, 3) := by decide +kernel
theorem dX12_depth_18 : decode cX12_depth 18 = .ok (.ifCond .ne 5, 3) := by decide +kernel
theorem dX12_depth_21 : decode cX12_depth 21 = .ok (.iconst (-1), 1) := by decide +kernel
theorem dX12_depth_22 : decode cX12_depth 22 = .ok (.ireturn, 1) := by decide +kernel
theorem dX12_depth_23 : decode cX12_depth 23 = .ok (.aload_n 0, 1) := by decide +kernel
theorem dX12_depth_24 : decode cX12_depth 24 = .ok (.iconst 0, 1) := by decide +kernel
theorem dX12_depth_25 : decode cX12_depth 25 = .ok (.iload_n 1, 1) := by decide +kernel
theorem dX12_depth_26 : decode cX12_depth 26 = .ok (.invokevirtual 385, 3) := by decide +kernel
theorem dX12_depth_29 : decode cX12_depth 29 = .ok (.istore_n 2, 1) := by decide +kernel
theorem dX12_depth_30 : decode cX12_depth 30 = .ok (.iconst (-1), 1) := by decide +kernel
theorem dX12_depth_31 : decode cX12_depth 31 = .ok (.istore_n 3, 1) := by decide +kernel
theorem dX12_depth_32 : decode cX12_depth 32 = .ok (.iconst 0, 1) := by decide +kernel
theorem dX12_depth_33 : decode cX12_depth 33 = .ok (.istore 4, 2) := by decide +kernel
theorem dX12_depth_35 : decode cX12_depth 35 = .ok (.iload 4, 2) := by decide +kernel
theorem dX12_depth_37 : decode cX12_depth 37 = .ok (.bipush 16, 2) := by decide +kernel
theorem dX12_depth_39 : decode cX12_depth 39 = .ok (.if_icmp .ge 45, 3) := by decide +kernel
theorem dX12_depth_42 : decode cX12_depth 42 = .ok (.aload_n 0, 1) := by decide +kernel
theorem dX12_depth_43 : decode cX12_depth 43 = .ok (.aload_n 0, 1) := by decide +kernel
theorem dX12_depth_44 : decode cX12_depth 44 = .ok (.iconst 0, 1) := by decide +kernel
theorem dX12_depth_45 : decode cX12_depth 45 = .ok (.aload_n 0, 1) := by decide +kernel
theorem dX12_depth_46 : decode cX12_depth 46 = .ok (.getfield 97, 3) := by decide +kernel
theorem dX12_depth_49 : decode cX12_depth 49 = .ok (.sipush 240, 3) := by decide +kernel
theorem dX12_depth_52 : decode cX12_depth 52 = .ok (.iload_n 1, 1) := by decide +kernel
theorem dX12_depth_53 : decode cX12_depth 53 = .ok (.iadd, 1) := by decide +kernel
theorem dX12_depth_54 : decode cX12_depth 54 = .ok (.iaload, 1) := by decide +kernel
theorem dX12_depth_55 : decode cX12_depth 55 = .ok (.iload 4, 2) := by decide +kernel
theorem dX12_depth_57 : decode cX12_depth 57 = .ok (.invokevirtual 324, 3) := by decide +kernel
theorem dX12_depth_60 : decode cX12_depth 60 = .ok (.iload_n 2, 1) := by decide +kernel
theorem dX12_depth_61 : decode cX12_depth 61 = .ok (.invokevirtual 437, 3) := by decide +kernel
theorem dX12_depth_64 : decode cX12_depth 64 = .ok (.istore 5, 2) := by decide +kernel
theorem dX12_depth_66 : decode cX12_depth 66 = .ok (.iload 5, 2) := by decide +kernel
theorem dX12_depth_68 : decode cX12_depth 68 = .ok (.ifCond .lt 8, 3) := by decide +kernel
theorem dX12_depth_71 : decode cX12_depth 71 = .ok (.iload 5, 2) := by decide +kernel
theorem dX12_depth_73 : decode cX12_depth 73 = .ok (.goto 4, 3) := by decide +kernel
theorem dX12_depth_76 : decode cX12_depth 76 = .ok (.iload_n 3, 1) := by decide +kernel
theorem dX12_depth_77 : decode cX12_depth 77 = .ok (.istore_n 3, 1) := by decide +kernel
theorem dX12_depth_78 : decode cX12_depth 78 = .ok (.iinc 4 1, 3) := by decide +kernel
theorem dX12_depth_81 : decode cX12_depth 81 = .ok (.goto (-46), 3) := by decide +kernel
theorem dX12_depth_84 : decode cX12_depth 84 = .ok (.iload_n 3, 1) := by decide +kernel
theorem dX12_depth_85 : decode cX12_depth 85 = .ok (.ireturn, 1) := by decide +kernel
theorem dX12_laysKinds_0 : decode cX12_laysKinds 0 = .ok (.iconst 0, 1) := by decide +kernel
theorem dX12_laysKinds_1 : decode cX12_laysKinds 1 = .ok (.istore_n 1, 1) := by decide +kernel
theorem dX12_laysKinds_2 : decode cX12_laysKinds 2 = .ok (.iload_n 1, 1) := by decide +kernel
theorem dX12_laysKinds_3 : decode cX12_laysKinds 3 = .ok (.aload_n 0, 1) := by decide +kernel
theorem dX12_laysKinds_4 : decode cX12_laysKinds 4 = .ok (.invokevirtual 221, 3) := by decide +kernel
theorem dX12_laysKinds_7 : decode cX12_laysKinds 7 = .ok (.if_icmp .ge 61, 3) := by decide +kernel
theorem dX12_laysKinds_10 : decode cX12_laysKinds 10 = .ok (.aload_n 0, 1) := by decide +kernel
theorem dX12_laysKinds_11 : decode cX12_laysKinds 11 = .ok (.iconst 0, 1) := by decide +kernel
theorem dX12_laysKinds_12 : decode cX12_laysKinds 12 = .ok (.iload_n 1, 1) := by decide +kernel
theorem dX12_laysKinds_13 : decode cX12_laysKinds 13 = .ok (.invokevirtual 413, 3) := by decide +kernel
theorem dX12_laysKinds_16 : decode cX12_laysKinds 16 = .ok (.istore_n 2, 1) := by decide +kernel
theorem dX12_laysKinds_17 : decode cX12_laysKinds 17 = .ok (.iconst 0, 1) := by decide +kernel
theorem dX12_laysKinds_18 : decode cX12_laysKinds 18 = .ok (.istore_n 3, 1) := by decide +kernel
theorem dX12_laysKinds_19 : decode cX12_laysKinds 19 = .ok (.iload_n 3, 1) := by decide +kernel
theorem dX12_laysKinds_20 : decode cX12_laysKinds 20 = .ok (.bipush 10, 2) := by decide +kernel
theorem dX12_laysKinds_22 : decode cX12_laysKinds 22 = .ok (.if_icmp .ge 40, 3) := by decide +kernel
theorem dX12_laysKinds_25 : decode cX12_laysKinds 25 = .ok (.aload_n 0, 1) := by decide +kernel
theorem dX12_laysKinds_26 : decode cX12_laysKinds 26 = .ok (.getfield 110, 3) := by decide +kernel
theorem dX12_laysKinds_29 : decode cX12_laysKinds 29 = .ok (.bipush 10, 2) := by decide +kernel
theorem dX12_laysKinds_31 : decode cX12_laysKinds 31 = .ok (.iload_n 1, 1) := by decide +kernel
theorem dX12_laysKinds_32 : decode cX12_laysKinds 32 = .ok (.imul, 1) := by decide +kernel
theorem dX12_laysKinds_33 : decode cX12_laysKinds 33 = .ok (.iload_n 3, 1) := by decide +kernel
theorem dX12_laysKinds_34 : decode cX12_laysKinds 34 = .ok (.iadd, 1) := by decide +kernel
theorem dX12_laysKinds_35 : decode cX12_laysKinds 35 = .ok (.iload_n 3, 1) := by decide +kernel
theorem dX12_laysKinds_36 : decode cX12_laysKinds 36 = .ok (.iload_n 2, 1) := by decide +kernel
theorem dX12_laysKinds_37 : decode cX12_laysKinds 37 = .ok (.if_icmp .ge 17, 3) := by decide +kernel
theorem dX12_laysKinds_40 : decode cX12_laysKinds 40 = .ok (.aload_n 0, 1) := by decide +kernel
theorem dX12_laysKinds_41 : decode cX12_laysKinds 41 = .ok (.aload_n 0, 1) := by decide +kernel
theorem dX12_laysKinds_42 : decode cX12_laysKinds 42 = .ok (.getfield 107, 3) := by decide +kernel
theorem dX12_laysKinds_45 : decode cX12_laysKinds 45 = .ok (.iload_n 3, 1) := by decide +kernel
theorem dX12_laysKinds_46 : decode cX12_laysKinds 46 = .ok (.iaload, 1) := by decide +kernel
theorem dX12_laysKinds_47 : decode cX12_laysKinds 47 = .ok (.iconst 0, 1) := by decide +kernel
theorem dX12_laysKinds_48 : decode cX12_laysKinds 48 = .ok (.invokevirtual 259, 3) := by decide +kernel
theorem dX12_laysKinds_51 : decode cX12_laysKinds 51 = .ok (.goto 4, 3) := by decide +kernel
theorem dX12_laysKinds_54 : decode cX12_laysKinds 54 = .ok (.iconst (-1), 1) := by decide +kernel
theorem dX12_laysKinds_55 : decode cX12_laysKinds 55 = .ok (.iastore, 1) := by decide +kernel
theorem dX12_laysKinds_56 : decode cX12_laysKinds 56 = .ok (.iinc 3 1, 3) := by decide +kernel
theorem dX12_laysKinds_59 : decode cX12_laysKinds 59 = .ok (.goto (-40), 3) := by decide +kernel
theorem dX12_laysKinds_62 : decode cX12_laysKinds 62 = .ok (.iinc 1 1, 3) := by decide +kernel
theorem dX12_laysKinds_65 : decode cX12_laysKinds 65 = .ok (.goto (-63), 3) := by decide +kernel
theorem dX12_laysKinds_68 : decode cX12_laysKinds 68 = .ok (.return_, 1) := by decide +kernel
theorem dX12_see_0 : decode cX12_see 0 = .ok (.aload_n 0, 1) := by decide +kernel
theorem dX12_see_1 : decode cX12_see 1 = .ok (.iconst 0, 1) := by decide +kernel
theorem dX12_see_2 : decode cX12_see 2 = .ok (.putfield 1, 3) := by decide +kernel
theorem dX12_see_5 : decode cX12_see 5 = .ok (.iload_n 1, 1) := by decide +kernel
theorem dX12_see_6 : decode cX12_see 6 = .ok (.iconst 0, 1) := by decide +kernel
theorem dX12_see_7 : decode cX12_see 7 = .ok (.bipush 9, 2) := by decide +kernel
theorem dX12_see_9 : decode cX12_see 9 = .ok (.invokestatic 376, 3) := by decide +kernel
theorem dX12_see_12 : decode cX12_see 12 = .ok (.ifCond .eq 25, 3) := by decide +kernel
theorem dX12_see_15 : decode cX12_see 15 = .ok (.iload_n 2, 1) := by decide +kernel
theorem dX12_see_16 : decode cX12_see 16 = .ok (.iconst 0, 1) := by decide +kernel
theorem dX12_see_17 : decode cX12_see 17 = .ok (.iconst 3, 1) := by decide +kernel
theorem dX12_see_18 : decode cX12_see 18 = .ok (.invokestatic 376, 3) := by decide +kernel
theorem dX12_see_21 : decode cX12_see 21 = .ok (.ifCond .eq 16, 3) := by decide +kernel
theorem dX12_see_24 : decode cX12_see 24 = .ok (.aload_n 0, 1) := by decide +kernel
theorem dX12_see_25 : decode cX12_see 25 = .ok (.getfield 97, 3) := by decide +kernel
theorem dX12_see_28 : decode cX12_see 28 = .ok (.sipush 320, 3) := by decide +kernel
theorem dX12_see_31 : decode cX12_see 31 = .ok (.iaload, 1) := by decide +kernel
theorem dX12_see_32 : decode cX12_see 32 = .ok (.bipush 8, 2) := by decide +kernel
theorem dX12_see_34 : decode cX12_see 34 = .ok (.if_icmp .ne 5, 3) := by decide +kernel
theorem dX12_see_37 : decode cX12_see 37 = .ok (.iconst 0, 1) := by decide +kernel
theorem dX12_see_38 : decode cX12_see 38 = .ok (.ireturn, 1) := by decide +kernel
theorem dX12_see_39 : decode cX12_see 39 = .ok (.sipush 321, 3) := by decide +kernel
theorem dX12_see_42 : decode cX12_see 42 = .ok (.iconst 3, 1) := by decide +kernel
theorem dX12_see_43 : decode cX12_see 43 = .ok (.aload_n 0, 1) := by decide +kernel
theorem dX12_see_44 : decode cX12_see 44 = .ok (.getfield 97, 3) := by decide +kernel
theorem dX12_see_47 : decode cX12_see 47 = .ok (.sipush 320, 3) := by decide +kernel
theorem dX12_see_50 : decode cX12_see 50 = .ok (.iaload, 1) := by decide +kernel
theorem dX12_see_51 : decode cX12_see 51 = .ok (.imul, 1) := by decide +kernel
theorem dX12_see_52 : decode cX12_see 52 = .ok (.iadd, 1) := by decide +kernel
theorem dX12_see_53 : decode cX12_see 53 = .ok (.istore 4, 2) := by decide +kernel
theorem dX12_see_55 : decode cX12_see 55 = .ok (.aload_n 0, 1) := by decide +kernel
theorem dX12_see_56 : decode cX12_see 56 = .ok (.getfield 97, 3) := by decide +kernel
theorem dX12_see_59 : decode cX12_see 59 = .ok (.iload 4, 2) := by decide +kernel
theorem dX12_see_61 : decode cX12_see 61 = .ok (.iload_n 1, 1) := by decide +kernel
theorem dX12_see_62 : decode cX12_see 62 = .ok (.iastore, 1) := by decide +kernel
theorem dX12_see_63 : decode cX12_see 63 = .ok (.aload_n 0, 1) := by decide +kernel
theorem dX12_see_64 : decode cX12_see 64 = .ok (.getfield 97, 3) := by decide +kernel
theorem dX12_see_67 : decode cX12_see 67 = .ok (.iload 4, 2) := by decide +kernel
theorem dX12_see_69 : decode cX12_see 69 = .ok (.iconst 1, 1) := by decide +kernel
theorem dX12_see_70 : decode cX12_see 70 = .ok (.iadd, 1) := by decide +kernel
theorem dX12_see_71 : decode cX12_see 71 = .ok (.iload_n 2, 1) := by decide +kernel
theorem dX12_see_72 : decode cX12_see 72 = .ok (.iastore, 1) := by decide +kernel
theorem dX12_see_73 : decode cX12_see 73 = .ok (.aload_n 0, 1) := by decide +kernel
theorem dX12_see_74 : decode cX12_see 74 = .ok (.getfield 97, 3) := by decide +kernel
theorem dX12_see_77 : decode cX12_see 77 = .ok (.iload 4, 2) := by decide +kernel
theorem dX12_see_79 : decode cX12_see 79 = .ok (.iconst 2, 1) := by decide +kernel
theorem dX12_see_80 : decode cX12_see 80 = .ok (.iadd, 1) := by decide +kernel
theorem dX12_see_81 : decode cX12_see 81 = .ok (.iload_n 3, 1) := by decide +kernel
theorem dX12_see_82 : decode cX12_see 82 = .ok (.ifCond .eq 7, 3) := by decide +kernel
theorem dX12_see_85 : decode cX12_see 85 = .ok (.iconst 1, 1) := by decide +kernel
theorem dX12_see_86 : decode cX12_see 86 = .ok (.goto 4, 3) := by decide +kernel
theorem dX12_see_89 : decode cX12_see 89 = .ok (.iconst 0, 1) := by decide +kernel
theorem dX12_see_90 : decode cX12_see 90 = .ok (.iastore, 1) := by decide +kernel
theorem dX12_see_91 : decode cX12_see 91 = .ok (.aload_n 0, 1) := by decide +kernel
theorem dX12_see_92 : decode cX12_see 92 = .ok (.getfield 97, 3) := by decide +kernel
theorem dX12_see_95 : decode cX12_see 95 = .ok (.sipush 320, 3) := by decide +kernel
theorem dX12_see_98 : decode cX12_see 98 = .ok (.dup2, 1) := by decide +kernel
theorem dX12_see_99 : decode cX12_see 99 = .ok (.iaload, 1) := by decide +kernel
theorem dX12_see_100 : decode cX12_see 100 = .ok (.iconst 1, 1) := by decide +kernel
theorem dX12_see_101 : decode cX12_see 101 = .ok (.iadd, 1) := by decide +kernel
theorem dX12_see_102 : decode cX12_see 102 = .ok (.iastore, 1) := by decide +kernel
theorem dX12_see_103 : decode cX12_see 103 = .ok (.iconst 1, 1) := by decide +kernel
theorem dX12_see_104 : decode cX12_see 104 = .ok (.ireturn, 1) := by decide +kernel
theorem dX12_whoNow_0 : decode cX12_whoNow 0 = .ok (.aload_n 0, 1) := by decide +kernel
theorem dX12_whoNow_1 : decode cX12_whoNow 1 = .ok (.invokevirtual 440, 3) := by decide +kernel
theorem dX12_whoNow_4 : decode cX12_whoNow 4 = .ok (.iconst 0, 1) := by decide +kernel
theorem dX12_whoNow_5 : decode cX12_whoNow 5 = .ok (.istore_n 1, 1) := by decide +kernel
theorem dX12_whoNow_6 : decode cX12_whoNow 6 = .ok (.iconst 0, 1) := by decide +kernel
theorem dX12_whoNow_7 : decode cX12_whoNow 7 = .ok (.istore_n 2, 1) := by decide +kernel
theorem dX12_whoNow_8 : decode cX12_whoNow 8 = .ok (.iload_n 2, 1) := by decide +kernel
theorem dX12_whoNow_9 : decode cX12_whoNow 9 = .ok (.aload_n 0, 1) := by decide +kernel
theorem dX12_whoNow_10 : decode cX12_whoNow 10 = .ok (.invokevirtual 221, 3) := by decide +kernel
theorem dX12_whoNow_13 : decode cX12_whoNow 13 = .ok (.if_icmp .ge 122, 3) := by decide +kernel
theorem dX12_whoNow_16 : decode cX12_whoNow 16 = .ok (.iconst 1, 1) := by decide +kernel
theorem dX12_whoNow_17 : decode cX12_whoNow 17 = .ok (.istore_n 3, 1) := by decide +kernel
theorem dX12_whoNow_18 : decode cX12_whoNow 18 = .ok (.iconst 0, 1) := by decide +kernel
theorem dX12_whoNow_19 : decode cX12_whoNow 19 = .ok (.istore 4, 2) := by decide +kernel
theorem dX12_whoNow_21 : decode cX12_whoNow 21 = .ok (.iload 4, 2) := by decide +kernel
theorem dX12_whoNow_23 : decode cX12_whoNow 23 = .ok (.aload_n 0, 1) := by decide +kernel
theorem dX12_whoNow_24 : decode cX12_whoNow 24 = .ok (.getfield 97, 3) := by decide +kernel
theorem dX12_whoNow_27 : decode cX12_whoNow 27 = .ok (.sipush 320, 3) := by decide +kernel
theorem dX12_whoNow_30 : decode cX12_whoNow 30 = .ok (.iaload, 1) := by decide +kernel
theorem dX12_whoNow_31 : decode cX12_whoNow 31 = .ok (.if_icmp .ge 84, 3) := by decide +kernel
theorem dX12_whoNow_34 : decode cX12_whoNow 34 = .ok (.sipush 321, 3) := by decide +kernel
theorem dX12_whoNow_37 : decode cX12_whoNow 37 = .ok (.iconst 3, 1) := by decide +kernel
theorem dX12_whoNow_38 : decode cX12_whoNow 38 = .ok (.iload 4, 2) := by decide +kernel
theorem dX12_whoNow_40 : decode cX12_whoNow 40 = .ok (.imul, 1) := by decide +kernel
theorem dX12_whoNow_41 : decode cX12_whoNow 41 = .ok (.iadd, 1) := by decide +kernel
theorem dX12_whoNow_42 : decode cX12_whoNow 42 = .ok (.istore 5, 2) := by decide +kernel
theorem dX12_whoNow_44 : decode cX12_whoNow 44 = .ok (.iload_n 3, 1) := by decide +kernel
theorem dX12_whoNow_45 : decode cX12_whoNow 45 = .ok (.ifCond .eq 62, 3) := by decide +kernel
theorem dX12_whoNow_48 : decode cX12_whoNow 48 = .ok (.aload_n 0, 1) := by decide +kernel
theorem dX12_whoNow_49 : decode cX12_whoNow 49 = .ok (.getfield 110, 3) := by decide +kernel
theorem dX12_whoNow_52 : decode cX12_whoNow 52 = .ok (.bipush 10, 2) := by decide +kernel
theorem dX12_whoNow_54 : decode cX12_whoNow 54 = .ok (.iload_n 2, 1) := by decide +kernel
theorem dX12_whoNow_55 : decode cX12_whoNow 55 = .ok (.imul, 1) := by decide +kernel
theorem dX12_whoNow_56 : decode cX12_whoNow 56 = .ok (.aload_n 0, 1) := by decide +kernel
theorem dX12_whoNow_57 : decode cX12_whoNow 57 = .ok (.getfield 97, 3) := by decide +kernel
theorem dX12_whoNow_60 : decode cX12_whoNow 60 = .ok (.iload 5, 2) := by decide +kernel
theorem dX12_whoNow_62 : decode cX12_whoNow 62 = .ok (.iaload, 1) := by decide +kernel
theorem dX12_whoNow_63 : decode cX12_whoNow 63 = .ok (.iadd, 1) := by decide +kernel
theorem dX12_whoNow_64 : decode cX12_whoNow 64 = .ok (.iaload, 1) := by decide +kernel
theorem dX12_whoNow_65 : decode cX12_whoNow 65 = .ok (.aload_n 0, 1) := by decide +kernel
theorem dX12_whoNow_66 : decode cX12_whoNow 66 = .ok (.getfield 97, 3) := by decide +kernel
theorem dX12_whoNow_69 : decode cX12_whoNow 69 = .ok (.iload 5, 2) := by decide +kernel
theorem dX12_whoNow_71 : decode cX12_whoNow 71 = .ok (.iconst 1, 1) := by decide +kernel
theorem dX12_whoNow_72 : decode cX12_whoNow 72 = .ok (.iadd, 1) := by decide +kernel
theorem dX12_whoNow_73 : decode cX12_whoNow 73 = .ok (.iaload, 1) := by decide +kernel
theorem dX12_whoNow_74 : decode cX12_whoNow 74 = .ok (.if_icmp .ne 7, 3) := by decide +kernel
theorem dX12_whoNow_77 : decode cX12_whoNow 77 = .ok (.iconst 1, 1) := by decide +kernel
theorem dX12_whoNow_78 : decode cX12_whoNow 78 = .ok (.goto 4, 3) := by decide +kernel
theorem dX12_whoNow_81 : decode cX12_whoNow 81 = .ok (.iconst 0, 1) := by decide +kernel
theorem dX12_whoNow_82 : decode cX12_whoNow 82 = .ok (.aload_n 0, 1) := by decide +kernel
theorem dX12_whoNow_83 : decode cX12_whoNow 83 = .ok (.getfield 97, 3) := by decide +kernel
theorem dX12_whoNow_86 : decode cX12_whoNow 86 = .ok (.iload 5, 2) := by decide +kernel
theorem dX12_whoNow_88 : decode cX12_whoNow 88 = .ok (.iconst 2, 1) := by decide +kernel
theorem dX12_whoNow_89 : decode cX12_whoNow 89 = .ok (.iadd, 1) := by decide +kernel
theorem dX12_whoNow_90 : decode cX12_whoNow 90 = .ok (.iaload, 1) := by decide +kernel
theorem dX12_whoNow_91 : decode cX12_whoNow 91 = .ok (.iconst 1, 1) := by decide +kernel
theorem dX12_whoNow_92 : decode cX12_whoNow 92 = .ok (.if_icmp .ne 7, 3) := by decide +kernel
theorem dX12_whoNow_95 : decode cX12_whoNow 95 = .ok (.iconst 1, 1) := by decide +kernel
theorem dX12_whoNow_96 : decode cX12_whoNow 96 = .ok (.goto 4, 3) := by decide +kernel
theorem dX12_whoNow_99 : decode cX12_whoNow 99 = .ok (.iconst 0, 1) := by decide +kernel
theorem dX12_whoNow_100 : decode cX12_whoNow 100 = .ok (.if_icmp .ne 7, 3) := by decide +kernel
theorem dX12_whoNow_103 : decode cX12_whoNow 103 = .ok (.iconst 1, 1) := by decide +kernel
theorem dX12_whoNow_104 : decode cX12_whoNow 104 = .ok (.goto 4, 3) := by decide +kernel
theorem dX12_whoNow_107 : decode cX12_whoNow 107 = .ok (.iconst 0, 1) := by decide +kernel
theorem dX12_whoNow_108 : decode cX12_whoNow 108 = .ok (.istore_n 3, 1) := by decide +kernel
theorem dX12_whoNow_109 : decode cX12_whoNow 109 = .ok (.iinc 4 1, 3) := by decide +kernel
theorem dX12_whoNow_112 : decode cX12_whoNow 112 = .ok (.goto (-91), 3) := by decide +kernel
theorem dX12_whoNow_115 : decode cX12_whoNow 115 = .ok (.iload_n 1, 1) := by decide +kernel
theorem dX12_whoNow_116 : decode cX12_whoNow 116 = .ok (.iload_n 3, 1) := by decide +kernel
theorem dX12_whoNow_117 : decode cX12_whoNow 117 = .ok (.ifCond .eq 9, 3) := by decide +kernel
theorem dX12_whoNow_120 : decode cX12_whoNow 120 = .ok (.iconst 1, 1) := by decide +kernel
theorem dX12_whoNow_121 : decode cX12_whoNow 121 = .ok (.iload_n 2, 1) := by decide +kernel
theorem dX12_whoNow_122 : decode cX12_whoNow 122 = .ok (.ishl, 1) := by decide +kernel
theorem dX12_whoNow_123 : decode cX12_whoNow 123 = .ok (.goto 4, 3) := by decide +kernel
theorem dX12_whoNow_126 : decode cX12_whoNow 126 = .ok (.iconst 0, 1) := by decide +kernel
theorem dX12_whoNow_127 : decode cX12_whoNow 127 = .ok (.ior, 1) := by decide +kernel
theorem dX12_whoNow_128 : decode cX12_whoNow 128 = .ok (.istore_n 1, 1) := by decide +kernel
theorem dX12_whoNow_129 : decode cX12_whoNow 129 = .ok (.iinc 2 1, 3) := by decide +kernel
theorem dX12_whoNow_132 : decode cX12_whoNow 132 = .ok (.goto (-124), 3) := by decide +kernel
theorem dX12_whoNow_135 : decode cX12_whoNow 135 = .ok (.iload_n 1, 1) := by decide +kernel
theorem dX12_whoNow_136 : decode cX12_whoNow 136 = .ok (.ireturn, 1) := by decide +kernel
theorem dX12_who_0 : decode cX12_who 0 = .ok (.aload_n 0, 1) := by decide +kernel
theorem dX12_who_1 : decode cX12_who 1 = .ok (.iconst 0, 1) := by decide +kernel
theorem dX12_who_2 : decode cX12_who 2 = .ok (.putfield 1, 3) := by decide +kernel
theorem dX12_who_5 : decode cX12_who 5 = .ok (.aload_n 0, 1) := by decide +kernel
theorem dX12_who_6 : decode cX12_who 6 = .ok (.dup, 1) := by decide +kernel
theorem dX12_who_7 : decode cX12_who 7 = .ok (.getfield 292, 3) := by decide +kernel
theorem dX12_who_10 : decode cX12_who 10 = .ok (.iconst 1, 1) := by decide +kernel
theorem dX12_who_11 : decode cX12_who 11 = .ok (.iadd, 1) := by decide +kernel
theorem dX12_who_12 : decode cX12_who 12 = .ok (.putfield 292, 3) := by decide +kernel
theorem dX12_who_15 : decode cX12_who 15 = .ok (.aload_n 0, 1) := by decide +kernel
theorem dX12_who_16 : decode cX12_who 16 = .ok (.invokevirtual 443, 3) := by decide +kernel
theorem dX12_who_19 : decode cX12_who 19 = .ok (.ireturn, 1) := by decide +kernel
theorem dX12_ones_0 : decode cX12_ones 0 = .ok (.iconst 0, 1) := by decide +kernel
theorem dX12_ones_1 : decode cX12_ones 1 = .ok (.istore_n 1, 1) := by decide +kernel
theorem dX12_ones_2 : decode cX12_ones 2 = .ok (.iconst 0, 1) := by decide +kernel
theorem dX12_ones_3 : decode cX12_ones 3 = .ok (.istore_n 2, 1) := by decide +kernel
theorem dX12_ones_4 : decode cX12_ones 4 = .ok (.iload_n 2, 1) := by decide +kernel
theorem dX12_ones_5 : decode cX12_ones 5 = .ok (.bipush 30, 2) := by decide +kernel
theorem dX12_ones_7 : decode cX12_ones 7 = .ok (.if_icmp .ge 17, 3) := by decide +kernel
theorem dX12_ones_10 : decode cX12_ones 10 = .ok (.iload_n 1, 1) := by decide +kernel
theorem dX12_ones_11 : decode cX12_ones 11 = .ok (.iload_n 0, 1) := by decide +kernel
theorem dX12_ones_12 : decode cX12_ones 12 = .ok (.iload_n 2, 1) := by decide +kernel
theorem dX12_ones_13 : decode cX12_ones 13 = .ok (.ishr, 1) := by decide +kernel
theorem dX12_ones_14 : decode cX12_ones 14 = .ok (.iconst 1, 1) := by decide +kernel
theorem dX12_ones_15 : decode cX12_ones 15 = .ok (.iand, 1) := by decide +kernel
theorem dX12_ones_16 : decode cX12_ones 16 = .ok (.iadd, 1) := by decide +kernel
theorem dX12_ones_17 : decode cX12_ones 17 = .ok (.istore_n 1, 1) := by decide +kernel
theorem dX12_ones_18 : decode cX12_ones 18 = .ok (.iinc 2 1, 3) := by decide +kernel
theorem dX12_ones_21 : decode cX12_ones 21 = .ok (.goto (-17), 3) := by decide +kernel
theorem dX12_ones_24 : decode cX12_ones 24 = .ok (.iload_n 1, 1) := by decide +kernel
theorem dX12_ones_25 : decode cX12_ones 25 = .ok (.ireturn, 1) := by decide +kernel
theorem dX12_ask_0 : decode cX12_ask 0 = .ok (.aload_n 0, 1) := by decide +kernel
theorem dX12_ask_1 : decode cX12_ask 1 = .ok (.iconst 0, 1) := by decide +kernel
theorem dX12_ask_2 : decode cX12_ask 2 = .ok (.putfield 1, 3) := by decide +kernel
theorem dX12_ask_5 : decode cX12_ask 5 = .ok (.aload_n 0, 1) := by decide +kernel
theorem dX12_ask_6 : decode cX12_ask 6 = .ok (.dup, 1) := by decide +kernel
theorem dX12_ask_7 : decode cX12_ask 7 = .ok (.getfield 292, 3) := by decide +kernel
theorem dX12_ask_10 : decode cX12_ask 10 = .ok (.iconst 1, 1) := by decide +kernel
theorem dX12_ask_11 : decode cX12_ask 11 = .ok (.iadd, 1) := by decide +kernel
theorem dX12_ask_12 : decode cX12_ask 12 = .ok (.putfield 292, 3) := by decide +kernel
theorem dX12_ask_15 : decode cX12_ask 15 = .ok (.aload_n 0, 1) := by decide +kernel
theorem dX12_ask_16 : decode cX12_ask 16 = .ok (.invokevirtual 443, 3) := by decide +kernel
theorem dX12_ask_19 : decode cX12_ask 19 = .ok (.istore_n 1, 1) := by decide +kernel
theorem dX12_ask_20 : decode cX12_ask 20 = .ok (.iconst (-1), 1) := by decide +kernel
theorem dX12_ask_21 : decode cX12_ask 21 = .ok (.istore_n 2, 1) := by decide +kernel
theorem dX12_ask_22 : decode cX12_ask 22 = .ok (.iload_n 1, 1) := by decide +kernel
theorem dX12_ask_23 : decode cX12_ask 23 = .ok (.invokestatic 446, 3) := by decide +kernel
theorem dX12_ask_26 : decode cX12_ask 26 = .ok (.istore_n 3, 1) := by decide +kernel
theorem dX12_ask_27 : decode cX12_ask 27 = .ok (.iconst 0, 1) := by decide +kernel
theorem dX12_ask_28 : decode cX12_ask 28 = .ok (.istore 4, 2) := by decide +kernel
theorem dX12_ask_30 : decode cX12_ask 30 = .ok (.iload 4, 2) := by decide +kernel
theorem dX12_ask_32 : decode cX12_ask 32 = .ok (.bipush 40, 2) := by decide +kernel
theorem dX12_ask_34 : decode cX12_ask 34 = .ok (.if_icmp .ge 124, 3) := by decide +kernel
theorem dX12_ask_37 : decode cX12_ask 37 = .ok (.iconst 0, 1) := by decide +kernel
theorem dX12_ask_38 : decode cX12_ask 38 = .ok (.istore 5, 2) := by decide +kernel
theorem dX12_ask_40 : decode cX12_ask 40 = .ok (.iconst 0, 1) := by decide +kernel
theorem dX12_ask_41 : decode cX12_ask 41 = .ok (.istore 6, 2) := by decide +kernel
theorem dX12_ask_43 : decode cX12_ask 43 = .ok (.iload 6, 2) := by decide +kernel
theorem dX12_ask_45 : decode cX12_ask 45 = .ok (.aload_n 0, 1) := by decide +kernel
theorem dX12_ask_46 : decode cX12_ask 46 = .ok (.invokevirtual 221, 3) := by decide +kernel
theorem dX12_ask_49 : decode cX12_ask 49 = .ok (.if_icmp .ge 51, 3) := by decide +kernel
theorem dX12_ask_52 : decode cX12_ask 52 = .ok (.iload 5, 2) := by decide +kernel
theorem dX12_ask_54 : decode cX12_ask 54 = .ok (.iload_n 1, 1) := by decide +kernel
theorem dX12_ask_55 : decode cX12_ask 55 = .ok (.iload 6, 2) := by decide +kernel
theorem dX12_ask_57 : decode cX12_ask 57 = .ok (.ishr, 1) := by decide +kernel
theorem dX12_ask_58 : decode cX12_ask 58 = .ok (.iconst 1, 1) := by decide +kernel
theorem dX12_ask_59 : decode cX12_ask 59 = .ok (.iand, 1) := by decide +kernel
theorem dX12_ask_60 : decode cX12_ask 60 = .ok (.iconst 1, 1) := by decide +kernel
theorem dX12_ask_61 : decode cX12_ask 61 = .ok (.if_icmp .ne 29, 3) := by decide +kernel
theorem dX12_ask_64 : decode cX12_ask 64 = .ok (.aload_n 0, 1) := by decide +kernel
theorem dX12_ask_65 : decode cX12_ask 65 = .ok (.getfield 110, 3) := by decide +kernel
theorem dX12_ask_68 : decode cX12_ask 68 = .ok (.bipush 10, 2) := by decide +kernel
theorem dX12_ask_70 : decode cX12_ask 70 = .ok (.iload 6, 2) := by decide +kernel
theorem dX12_ask_72 : decode cX12_ask 72 = .ok (.imul, 1) := by decide +kernel
theorem dX12_ask_73 : decode cX12_ask 73 = .ok (.iload 4, 2) := by decide +kernel
theorem dX12_ask_75 : decode cX12_ask 75 = .ok (.iconst 4, 1) := by decide +kernel
theorem dX12_ask_76 : decode cX12_ask 76 = .ok (.idiv, 1) := by decide +kernel
theorem dX12_ask_77 : decode cX12_ask 77 = .ok (.iadd, 1) := by decide +kernel
theorem dX12_ask_78 : decode cX12_ask 78 = .ok (.iaload, 1) := by decide +kernel
theorem dX12_ask_79 : decode cX12_ask 79 = .ok (.iload 4, 2) := by decide +kernel
theorem dX12_ask_81 : decode cX12_ask 81 = .ok (.iconst 4, 1) := by decide +kernel
theorem dX12_ask_82 : decode cX12_ask 82 = .ok (.irem, 1) := by decide +kernel
theorem dX12_ask_83 : decode cX12_ask 83 = .ok (.if_icmp .ne 7, 3) := by decide +kernel
theorem dX12_ask_86 : decode cX12_ask 86 = .ok (.iconst 1, 1) := by decide +kernel
theorem dX12_ask_87 : decode cX12_ask 87 = .ok (.goto 4, 3) := by decide +kernel
theorem dX12_ask_90 : decode cX12_ask 90 = .ok (.iconst 0, 1) := by decide +kernel
theorem dX12_ask_91 : decode cX12_ask 91 = .ok (.iadd, 1) := by decide +kernel
theorem dX12_ask_92 : decode cX12_ask 92 = .ok (.istore 5, 2) := by decide +kernel
theorem dX12_ask_94 : decode cX12_ask 94 = .ok (.iinc 6 1, 3) := by decide +kernel
theorem dX12_ask_97 : decode cX12_ask 97 = .ok (.goto (-54), 3) := by decide +kernel
theorem dX12_ask_100 : decode cX12_ask 100 = .ok (.iload 5, 2) := by decide +kernel
theorem dX12_ask_102 : decode cX12_ask 102 = .ok (.iload_n 1, 1) := by decide +kernel
theorem dX12_ask_103 : decode cX12_ask 103 = .ok (.invokestatic 446, 3) := by decide +kernel
theorem dX12_ask_106 : decode cX12_ask 106 = .ok (.iload 5, 2) := by decide +kernel
theorem dX12_ask_108 : decode cX12_ask 108 = .ok (.isub, 1) := by decide +kernel
theorem dX12_ask_109 : decode cX12_ask 109 = .ok (.if_icmp .le 8, 3) := by decide +kernel
theorem dX12_ask_112 : decode cX12_ask 112 = .ok (.iload 5, 2) := by decide +kernel
theorem dX12_ask_114 : decode cX12_ask 114 = .ok (.goto 10, 3) := by decide +kernel
theorem dX12_ask_117 : decode cX12_ask 117 = .ok (.iload_n 1, 1) := by decide +kernel
theorem dX12_ask_118 : decode cX12_ask 118 = .ok (.invokestatic 446, 3) := by decide +kernel
theorem dX12_ask_121 : decode cX12_ask 121 = .ok (.iload 5, 2) := by decide +kernel
theorem dX12_ask_123 : decode cX12_ask 123 = .ok (.isub, 1) := by decide +kernel
theorem dX12_ask_124 : decode cX12_ask 124 = .ok (.istore 6, 2) := by decide +kernel
theorem dX12_ask_126 : decode cX12_ask 126 = .ok (.iload 6, 2) := by decide +kernel
theorem dX12_ask_128 : decode cX12_ask 128 = .ok (.iload_n 3, 1) := by decide +kernel
theorem dX12_ask_129 : decode cX12_ask 129 = .ok (.if_icmp .ge 8, 3) := by decide +kernel
theorem dX12_ask_132 : decode cX12_ask 132 = .ok (.iload 4, 2) := by decide +kernel
theorem dX12_ask_134 : decode cX12_ask 134 = .ok (.goto 4, 3) := by decide +kernel
theorem dX12_ask_137 : decode cX12_ask 137 = .ok (.iload_n 2, 1) := by decide +kernel
theorem dX12_ask_138 : decode cX12_ask 138 = .ok (.istore_n 2, 1) := by decide +kernel
theorem dX12_ask_139 : decode cX12_ask 139 = .ok (.iload 6, 2) := by decide +kernel
theorem dX12_ask_141 : decode cX12_ask 141 = .ok (.iload_n 3, 1) := by decide +kernel
theorem dX12_ask_142 : decode cX12_ask 142 = .ok (.if_icmp .ge 8, 3) := by decide +kernel
theorem dX12_ask_145 : decode cX12_ask 145 = .ok (.iload 6, 2) := by decide +kernel
theorem dX12_ask_147 : decode cX12_ask 147 = .ok (.goto 4, 3) := by decide +kernel
theorem dX12_ask_150 : decode cX12_ask 150 = .ok (.iload_n 3, 1) := by decide +kernel
theorem dX12_ask_151 : decode cX12_ask 151 = .ok (.istore_n 3, 1) := by decide +kernel
theorem dX12_ask_152 : decode cX12_ask 152 = .ok (.iinc 4 1, 3) := by decide +kernel
theorem dX12_ask_155 : decode cX12_ask 155 = .ok (.goto (-125), 3) := by decide +kernel
theorem dX12_ask_158 : decode cX12_ask 158 = .ok (.iload_n 2, 1) := by decide +kernel
theorem dX12_ask_159 : decode cX12_ask 159 = .ok (.ireturn, 1) := by decide +kernel
theorem dX12_draw_0 : decode cX12_draw 0 = .ok (.aload_n 0, 1) := by decide +kernel
theorem dX12_draw_1 : decode cX12_draw 1 = .ok (.aload_n 0, 1) := by decide +kernel
theorem dX12_draw_2 : decode cX12_draw 2 = .ok (.getfield 449, 3) := by decide +kernel
theorem dX12_draw_5 : decode cX12_draw 5 = .ok (.ldc2_w 453, 3) := by decide +kernel
theorem dX12_draw_8 : decode cX12_draw 8 = .ok (.lmul, 1) := by decide +kernel
theorem dX12_draw_9 : decode cX12_draw 9 = .ok (.ldc2_w 455, 3) := by decide +kernel
theorem dX12_draw_12 : decode cX12_draw 12 = .ok (.ladd, 1) := by decide +kernel
theorem dX12_draw_13 : decode cX12_draw 13 = .ok (.ldc2_w 457, 3) := by decide +kernel
theorem dX12_draw_16 : decode cX12_draw 16 = .ok (.lrem, 1) := by decide +kernel
theorem dX12_draw_17 : decode cX12_draw 17 = .ok (.putfield 449, 3) := by decide +kernel
theorem dX12_draw_20 : decode cX12_draw 20 = .ok (.aload_n 0, 1) := by decide +kernel
theorem dX12_draw_21 : decode cX12_draw 21 = .ok (.getfield 449, 3) := by decide +kernel
theorem dX12_draw_24 : decode cX12_draw 24 = .ok (.ldc2_w 459, 3) := by decide +kernel
theorem dX12_draw_27 : decode cX12_draw 27 = .ok (.ldiv, 1) := by decide +kernel
theorem dX12_draw_28 : decode cX12_draw 28 = .ok (.iload_n 1, 1) := by decide +kernel
theorem dX12_draw_29 : decode cX12_draw 29 = .ok (.i2l, 1) := by decide +kernel
theorem dX12_draw_30 : decode cX12_draw 30 = .ok (.lrem, 1) := by decide +kernel
theorem dX12_draw_31 : decode cX12_draw 31 = .ok (.l2i, 1) := by decide +kernel
theorem dX12_draw_32 : decode cX12_draw 32 = .ok (.ireturn, 1) := by decide +kernel
theorem dX12_drawsDeed_0 : decode cX12_drawsDeed 0 = .ok (.aload_n 0, 1) := by decide +kernel
theorem dX12_drawsDeed_1 : decode cX12_drawsDeed 1 = .ok (.aload_n 0, 1) := by decide +kernel
theorem dX12_drawsDeed_2 : decode cX12_drawsDeed 2 = .ok (.invokevirtual 221, 3) := by decide +kernel
theorem dX12_drawsDeed_5 : decode cX12_drawsDeed 5 = .ok (.invokevirtual 461, 3) := by decide +kernel
theorem dX12_drawsDeed_8 : decode cX12_drawsDeed 8 = .ok (.istore_n 1, 1) := by decide +kernel
theorem dX12_drawsDeed_9 : decode cX12_drawsDeed 9 = .ok (.aload_n 0, 1) := by decide +kernel
theorem dX12_drawsDeed_10 : decode cX12_drawsDeed 10 = .ok (.aload_n 0, 1) := by decide +kernel
theorem dX12_drawsDeed_11 : decode cX12_drawsDeed 11 = .ok (.invokevirtual 217, 3) := by decide +kernel
theorem dX12_drawsDeed_14 : decode cX12_drawsDeed 14 = .ok (.invokevirtual 461, 3) := by decide +kernel
theorem dX12_drawsDeed_17 : decode cX12_drawsDeed 17 = .ok (.istore_n 2, 1) := by decide +kernel
theorem dX12_drawsDeed_18 : decode cX12_drawsDeed 18 = .ok (.aload_n 0, 1) := by decide +kernel
theorem dX12_drawsDeed_19 : decode cX12_drawsDeed 19 = .ok (.iconst 4, 1) := by decide +kernel
theorem dX12_drawsDeed_20 : decode cX12_drawsDeed 20 = .ok (.invokevirtual 461, 3) := by decide +kernel
theorem dX12_drawsDeed_23 : decode cX12_drawsDeed 23 = .ok (.istore_n 3, 1) := by decide +kernel
theorem dX12_drawsDeed_24 : decode cX12_drawsDeed 24 = .ok (.iload_n 3, 1) := by decide +kernel
theorem dX12_drawsDeed_25 : decode cX12_drawsDeed 25 = .ok (.iconst 2, 1) := by decide +kernel
theorem dX12_drawsDeed_26 : decode cX12_drawsDeed 26 = .ok (.if_icmp .ge 14, 3) := by decide +kernel
theorem dX12_drawsDeed_29 : decode cX12_drawsDeed 29 = .ok (.aload_n 0, 1) := by decide +kernel
theorem dX12_drawsDeed_30 : decode cX12_drawsDeed 30 = .ok (.sipush 3795, 3) := by decide +kernel
theorem dX12_drawsDeed_33 : decode cX12_drawsDeed 33 = .ok (.iconst 0, 1) := by decide +kernel
theorem dX12_drawsDeed_34 : decode cX12_drawsDeed 34 = .ok (.iload_n 2, 1) := by decide +kernel
theorem dX12_drawsDeed_35 : decode cX12_drawsDeed 35 = .ok (.iload_n 1, 1) := by decide +kernel
theorem dX12_drawsDeed_36 : decode cX12_drawsDeed 36 = .ok (.invokevirtual 391, 3) := by decide +kernel
theorem dX12_drawsDeed_39 : decode cX12_drawsDeed 39 = .ok (.ireturn, 1) := by decide +kernel
theorem dX12_drawsDeed_40 : decode cX12_drawsDeed 40 = .ok (.iload_n 3, 1) := by decide +kernel
theorem dX12_drawsDeed_41 : decode cX12_drawsDeed 41 = .ok (.iconst 2, 1) := by decide +kernel
theorem dX12_drawsDeed_42 : decode cX12_drawsDeed 42 = .ok (.if_icmp .ne 14, 3) := by decide +kernel
theorem dX12_drawsDeed_45 : decode cX12_drawsDeed 45 = .ok (.aload_n 0, 1) := by decide +kernel
theorem dX12_drawsDeed_46 : decode cX12_drawsDeed 46 = .ok (.sipush 3795, 3) := by decide +kernel
theorem dX12_drawsDeed_49 : decode cX12_drawsDeed 49 = .ok (.iconst 1, 1) := by decide +kernel
theorem dX12_drawsDeed_50 : decode cX12_drawsDeed 50 = .ok (.iload_n 1, 1) := by decide +kernel
theorem dX12_drawsDeed_51 : decode cX12_drawsDeed 51 = .ok (.iconst 0, 1) := by decide +kernel
theorem dX12_drawsDeed_52 : decode cX12_drawsDeed 52 = .ok (.invokevirtual 391, 3) := by decide +kernel
theorem dX12_drawsDeed_55 : decode cX12_drawsDeed 55 = .ok (.ireturn, 1) := by decide +kernel
theorem dX12_drawsDeed_56 : decode cX12_drawsDeed 56 = .ok (.iload_n 1, 1) := by decide +kernel
theorem dX12_drawsDeed_57 : decode cX12_drawsDeed 57 = .ok (.iconst 1, 1) := by decide +kernel
theorem dX12_drawsDeed_58 : decode cX12_drawsDeed 58 = .ok (.iadd, 1) := by decide +kernel
theorem dX12_drawsDeed_59 : decode cX12_drawsDeed 59 = .ok (.aload_n 0, 1) := by decide +kernel
theorem dX12_drawsDeed_60 : decode cX12_drawsDeed 60 = .ok (.invokevirtual 221, 3) := by decide +kernel
theorem dX12_drawsDeed_63 : decode cX12_drawsDeed 63 = .ok (.irem, 1) := by decide +kernel
theorem dX12_drawsDeed_64 : decode cX12_drawsDeed 64 = .ok (.istore 4, 2) := by decide +kernel
theorem dX12_drawsDeed_66 : decode cX12_drawsDeed 66 = .ok (.iload 4, 2) := by decide +kernel
theorem dX12_drawsDeed_68 : decode cX12_drawsDeed 68 = .ok (.iload_n 1, 1) := by decide +kernel
theorem dX12_drawsDeed_69 : decode cX12_drawsDeed 69 = .ok (.if_icmp .eq 21, 3) := by decide +kernel
theorem dX12_drawsDeed_72 : decode cX12_drawsDeed 72 = .ok (.aload_n 0, 1) := by decide +kernel
theorem dX12_drawsDeed_73 : decode cX12_drawsDeed 73 = .ok (.sipush 3795, 3) := by decide +kernel
theorem dX12_drawsDeed_76 : decode cX12_drawsDeed 76 = .ok (.iconst 2, 1) := by decide +kernel
theorem dX12_drawsDeed_77 : decode cX12_drawsDeed 77 = .ok (.iload_n 1, 1) := by decide +kernel
theorem dX12_drawsDeed_78 : decode cX12_drawsDeed 78 = .ok (.iload 4, 2) := by decide +kernel
theorem dX12_drawsDeed_80 : decode cX12_drawsDeed 80 = .ok (.invokevirtual 391, 3) := by decide +kernel
theorem dX12_drawsDeed_83 : decode cX12_drawsDeed 83 = .ok (.ifCond .eq 7, 3) := by decide +kernel
theorem dX12_drawsDeed_86 : decode cX12_drawsDeed 86 = .ok (.iconst 1, 1) := by decide +kernel
theorem dX12_drawsDeed_87 : decode cX12_drawsDeed 87 = .ok (.goto 4, 3) := by decide +kernel
theorem dX12_drawsDeed_90 : decode cX12_drawsDeed 90 = .ok (.iconst 0, 1) := by decide +kernel
theorem dX12_drawsDeed_91 : decode cX12_drawsDeed 91 = .ok (.ireturn, 1) := by decide +kernel
theorem dX12_days_0 : decode cX12_days 0 = .ok (.aload_n 0, 1) := by decide +kernel
theorem dX12_days_1 : decode cX12_days 1 = .ok (.iconst 0, 1) := by decide +kernel
theorem dX12_days_2 : decode cX12_days 2 = .ok (.putfield 1, 3) := by decide +kernel
theorem dX12_days_5 : decode cX12_days 5 = .ok (.iload_n 1, 1) := by decide +kernel
theorem dX12_days_6 : decode cX12_days 6 = .ok (.iconst 0, 1) := by decide +kernel
theorem dX12_days_7 : decode cX12_days 7 = .ok (.sipush 9999, 3) := by decide +kernel
theorem dX12_days_10 : decode cX12_days 10 = .ok (.invokestatic 376, 3) := by decide +kernel
theorem dX12_days_13 : decode cX12_days 13 = .ok (.ifCond .eq 22, 3) := by decide +kernel
theorem dX12_days_16 : decode cX12_days 16 = .ok (.iload_n 2, 1) := by decide +kernel
theorem dX12_days_17 : decode cX12_days 17 = .ok (.iconst 1, 1) := by decide +kernel
theorem dX12_days_18 : decode cX12_days 18 = .ok (.bipush 99, 2) := by decide +kernel
theorem dX12_days_20 : decode cX12_days 20 = .ok (.invokestatic 376, 3) := by decide +kernel
theorem dX12_days_23 : decode cX12_days 23 = .ok (.ifCond .eq 12, 3) := by decide +kernel
theorem dX12_days_26 : decode cX12_days 26 = .ok (.iload_n 3, 1) := by decide +kernel
theorem dX12_days_27 : decode cX12_days 27 = .ok (.iconst 0, 1) := by decide +kernel
theorem dX12_days_28 : decode cX12_days 28 = .ok (.iconst 2, 1) := by decide +kernel
theorem dX12_days_29 : decode cX12_days 29 = .ok (.invokestatic 376, 3) := by decide +kernel
theorem dX12_days_32 : decode cX12_days 32 = .ok (.ifCond .ne 5, 3) := by decide +kernel
theorem dX12_days_35 : decode cX12_days 35 = .ok (.iconst (-1), 1) := by decide +kernel
theorem dX12_days_36 : decode cX12_days 36 = .ok (.ireturn, 1) := by decide +kernel
theorem dX12_days_37 : decode cX12_days 37 = .ok (.aload_n 0, 1) := by decide +kernel
theorem dX12_days_38 : decode cX12_days 38 = .ok (.dup, 1) := by decide +kernel
theorem dX12_days_39 : decode cX12_days 39 = .ok (.getfield 292, 3) := by decide +kernel
theorem dX12_days_42 : decode cX12_days 42 = .ok (.iconst 1, 1) := by decide +kernel
theorem dX12_days_43 : decode cX12_days 43 = .ok (.iadd, 1) := by decide +kernel
theorem dX12_days_44 : decode cX12_days 44 = .ok (.putfield 292, 3) := by decide +kernel
theorem dX12_days_47 : decode cX12_days 47 = .ok (.aload_n 0, 1) := by decide +kernel
theorem dX12_days_48 : decode cX12_days 48 = .ok (.iconst 0, 1) := by decide +kernel
theorem dX12_days_49 : decode cX12_days 49 = .ok (.sipush 3795, 3) := by decide +kernel
theorem dX12_days_52 : decode cX12_days 52 = .ok (.sipush 320, 3) := by decide +kernel
theorem dX12_days_55 : decode cX12_days 55 = .ok (.invokevirtual 295, 3) := by decide +kernel
theorem dX12_days_58 : decode cX12_days 58 = .ok (.aload_n 0, 1) := by decide +kernel
theorem dX12_days_59 : decode cX12_days 59 = .ok (.iload_n 1, 1) := by decide +kernel
theorem dX12_days_60 : decode cX12_days 60 = .ok (.i2l, 1) := by decide +kernel
theorem dX12_days_61 : decode cX12_days 61 = .ok (.putfield 449, 3) := by decide +kernel
theorem dX12_days_64 : decode cX12_days 64 = .ok (.iconst 0, 1) := by decide +kernel
theorem dX12_days_65 : decode cX12_days 65 = .ok (.istore 4, 2) := by decide +kernel
theorem dX12_days_67 : decode cX12_days 67 = .ok (.iconst 0, 1) := by decide +kernel
theorem dX12_days_68 : decode cX12_days 68 = .ok (.istore 5, 2) := by decide +kernel
theorem dX12_days_70 : decode cX12_days 70 = .ok (.iload 5, 2) := by decide +kernel
theorem dX12_days_72 : decode cX12_days 72 = .ok (.iload_n 2, 1) := by decide +kernel
theorem dX12_days_73 : decode cX12_days 73 = .ok (.if_icmp .ge 40, 3) := by decide +kernel
theorem dX12_days_76 : decode cX12_days 76 = .ok (.aload_n 0, 1) := by decide +kernel
theorem dX12_days_77 : decode cX12_days 77 = .ok (.invokevirtual 221, 3) := by decide +kernel
theorem dX12_days_80 : decode cX12_days 80 = .ok (.ifCond .le 33, 3) := by decide +kernel
theorem dX12_days_83 : decode cX12_days 83 = .ok (.aload_n 0, 1) := by decide +kernel
theorem dX12_days_84 : decode cX12_days 84 = .ok (.invokevirtual 217, 3) := by decide +kernel
theorem dX12_days_87 : decode cX12_days 87 = .ok (.ifCond .le 26, 3) := by decide +kernel
theorem dX12_days_90 : decode cX12_days 90 = .ok (.iload 4, 2) := by decide +kernel
theorem dX12_days_92 : decode cX12_days 92 = .ok (.aload_n 0, 1) := by decide +kernel
theorem dX12_days_93 : decode cX12_days 93 = .ok (.invokevirtual 464, 3) := by decide +kernel
theorem dX12_days_96 : decode cX12_days 96 = .ok (.ifCond .eq 7, 3) := by decide +kernel
theorem dX12_days_99 : decode cX12_days 99 = .ok (.iconst 1, 1) := by decide +kernel
theorem dX12_days_100 : decode cX12_days 100 = .ok (.goto 4, 3) := by decide +kernel
theorem dX12_days_103 : decode cX12_days 103 = .ok (.iconst 0, 1) := by decide +kernel
theorem dX12_days_104 : decode cX12_days 104 = .ok (.iadd, 1) := by decide +kernel
theorem dX12_days_105 : decode cX12_days 105 = .ok (.istore 4, 2) := by decide +kernel
theorem dX12_days_107 : decode cX12_days 107 = .ok (.iinc 5 1, 3) := by decide +kernel
theorem dX12_days_110 : decode cX12_days 110 = .ok (.goto (-40), 3) := by decide +kernel
theorem dX12_days_113 : decode cX12_days 113 = .ok (.iload_n 3, 1) := by decide +kernel
theorem dX12_days_114 : decode cX12_days 114 = .ok (.ifCond .ne 8, 3) := by decide +kernel
theorem dX12_days_117 : decode cX12_days 117 = .ok (.iload 4, 2) := by decide +kernel
theorem dX12_days_119 : decode cX12_days 119 = .ok (.goto 26, 3) := by decide +kernel
theorem dX12_days_122 : decode cX12_days 122 = .ok (.iload_n 3, 1) := by decide +kernel
theorem dX12_days_123 : decode cX12_days 123 = .ok (.iconst 1, 1) := by decide +kernel
theorem dX12_days_124 : decode cX12_days 124 = .ok (.if_icmp .ne 14, 3) := by decide +kernel
theorem dX12_days_127 : decode cX12_days 127 = .ok (.aload_n 0, 1) := by decide +kernel
theorem dX12_days_128 : decode cX12_days 128 = .ok (.sipush 3795, 3) := by decide +kernel
theorem dX12_days_131 : decode cX12_days 131 = .ok (.iconst (-1), 1) := by decide +kernel
theorem dX12_days_132 : decode cX12_days 132 = .ok (.invokevirtual 398, 3) := by decide +kernel
theorem dX12_days_135 : decode cX12_days 135 = .ok (.goto 10, 3) := by decide +kernel
theorem dX12_days_138 : decode cX12_days 138 = .ok (.aload_n 0, 1) := by decide +kernel
theorem dX12_days_139 : decode cX12_days 139 = .ok (.sipush 3795, 3) := by decide +kernel
theorem dX12_days_142 : decode cX12_days 142 = .ok (.invokevirtual 395, 3) := by decide +kernel
theorem dX12_days_145 : decode cX12_days 145 = .ok (.ireturn, 1) := by decide +kernel
theorem dX12_mark_0 : decode cX12_mark 0 = .ok (.aload_n 0, 1) := by decide +kernel
theorem dX12_mark_1 : decode cX12_mark 1 = .ok (.iconst 0, 1) := by decide +kernel
theorem dX12_mark_2 : decode cX12_mark 2 = .ok (.putfield 1, 3) := by decide +kernel
theorem dX12_mark_5 : decode cX12_mark 5 = .ok (.iload_n 1, 1) := by decide +kernel
theorem dX12_mark_6 : decode cX12_mark 6 = .ok (.iconst 0, 1) := by decide +kernel
theorem dX12_mark_7 : decode cX12_mark 7 = .ok (.iconst 1, 1) := by decide +kernel
theorem dX12_mark_8 : decode cX12_mark 8 = .ok (.invokestatic 376, 3) := by decide +kernel
theorem dX12_mark_11 : decode cX12_mark 11 = .ok (.ifCond .eq 16, 3) := by decide +kernel
theorem dX12_mark_14 : decode cX12_mark 14 = .ok (.iload_n 2, 1) := by decide +kernel
theorem dX12_mark_15 : decode cX12_mark 15 = .ok (.ifCond .eq 14, 3) := by decide +kernel
theorem dX12_mark_18 : decode cX12_mark 18 = .ok (.aload_n 0, 1) := by decide +kernel
theorem dX12_mark_19 : decode cX12_mark 19 = .ok (.getfield 100, 3) := by decide +kernel
theorem dX12_mark_22 : decode cX12_mark 22 = .ok (.iload_n 1, 1) := by decide +kernel
theorem dX12_mark_23 : decode cX12_mark 23 = .ok (.baload, 1) := by decide +kernel
theorem dX12_mark_24 : decode cX12_mark 24 = .ok (.ifCond .ne 5, 3) := by decide +kernel
theorem dX12_mark_27 : decode cX12_mark 27 = .ok (.iconst 0, 1) := by decide +kernel
theorem dX12_mark_28 : decode cX12_mark 28 = .ok (.ireturn, 1) := by decide +kernel
theorem dX12_mark_29 : decode cX12_mark 29 = .ok (.aload_n 0, 1) := by decide +kernel
theorem dX12_mark_30 : decode cX12_mark 30 = .ok (.getfield 100, 3) := by decide +kernel
theorem dX12_mark_33 : decode cX12_mark 33 = .ok (.iload_n 1, 1) := by decide +kernel
theorem dX12_mark_34 : decode cX12_mark 34 = .ok (.iconst 1, 1) := by decide +kernel
theorem dX12_mark_35 : decode cX12_mark 35 = .ok (.bastore, 1) := by decide +kernel
theorem dX12_mark_36 : decode cX12_mark 36 = .ok (.aload_n 0, 1) := by decide +kernel
theorem dX12_mark_37 : decode cX12_mark 37 = .ok (.iload_n 2, 1) := by decide +kernel
theorem dX12_mark_38 : decode cX12_mark 38 = .ok (.ifCond .eq 13, 3) := by decide +kernel
theorem dX12_mark_41 : decode cX12_mark 41 = .ok (.sipush 345, 3) := by decide +kernel
theorem dX12_mark_44 : decode cX12_mark 44 = .ok (.iconst 1, 1) := by decide +kernel
theorem dX12_mark_45 : decode cX12_mark 45 = .ok (.iload_n 1, 1) := by decide +kernel
theorem dX12_mark_46 : decode cX12_mark 46 = .ok (.iadd, 1) := by decide +kernel
theorem dX12_mark_47 : decode cX12_mark 47 = .ok (.imul, 1) := by decide +kernel
theorem dX12_mark_48 : decode cX12_mark 48 = .ok (.goto 4, 3) := by decide +kernel
theorem dX12_mark_51 : decode cX12_mark 51 = .ok (.iconst 0, 1) := by decide +kernel
theorem dX12_mark_52 : decode cX12_mark 52 = .ok (.iload_n 2, 1) := by decide +kernel
theorem dX12_mark_53 : decode cX12_mark 53 = .ok (.ifCond .eq 7, 3) := by decide +kernel
theorem dX12_mark_56 : decode cX12_mark 56 = .ok (.iconst 0, 1) := by decide +kernel
theorem dX12_mark_57 : decode cX12_mark 57 = .ok (.goto 10, 3) := by decide +kernel
theorem dX12_mark_60 : decode cX12_mark 60 = .ok (.sipush 345, 3) := by decide +kernel
theorem dX12_mark_63 : decode cX12_mark 63 = .ok (.iconst 1, 1) := by decide +kernel
theorem dX12_mark_64 : decode cX12_mark 64 = .ok (.iload_n 1, 1) := by decide +kernel
theorem dX12_mark_65 : decode cX12_mark 65 = .ok (.iadd, 1) := by decide +kernel
theorem dX12_mark_66 : decode cX12_mark 66 = .ok (.imul, 1) := by decide +kernel
theorem dX12_mark_67 : decode cX12_mark 67 = .ok (.sipush 345, 3) := by decide +kernel
theorem dX12_mark_70 : decode cX12_mark 70 = .ok (.invokevirtual 295, 3) := by decide +kernel
theorem dX12_mark_73 : decode cX12_mark 73 = .ok (.aload_n 0, 1) := by decide +kernel
theorem dX12_mark_74 : decode cX12_mark 74 = .ok (.iload_n 2, 1) := by decide +kernel
theorem dX12_mark_75 : decode cX12_mark 75 = .ok (.ifCond .eq 7, 3) := by decide +kernel
theorem dX12_mark_78 : decode cX12_mark 78 = .ok (.iconst 0, 1) := by decide +kernel
theorem dX12_mark_79 : decode cX12_mark 79 = .ok (.goto 7, 3) := by decide +kernel
theorem dX12_mark_82 : decode cX12_mark 82 = .ok (.aload_n 0, 1) := by decide +kernel
theorem dX12_mark_83 : decode cX12_mark 83 = .ok (.getfield 289, 3) := by decide +kernel
theorem dX12_mark_86 : decode cX12_mark 86 = .ok (.putfield 289, 3) := by decide +kernel
theorem dX12_mark_89 : decode cX12_mark 89 = .ok (.iconst 1, 1) := by decide +kernel
theorem dX12_mark_90 : decode cX12_mark 90 = .ok (.ireturn, 1) := by decide +kernel
theorem dX12_count_0 : decode cX12_count 0 = .ok (.aload_n 0, 1) := by decide +kernel
theorem dX12_count_1 : decode cX12_count 1 = .ok (.iconst 0, 1) := by decide +kernel
theorem dX12_count_2 : decode cX12_count 2 = .ok (.putfield 1, 3) := by decide +kernel
theorem dX12_count_5 : decode cX12_count 5 = .ok (.iload_n 1, 1) := by decide +kernel
theorem dX12_count_6 : decode cX12_count 6 = .ok (.tableswitch 126 0 10 #[58, 63, 70, 75, 82, 88, 95, 100, 107, 116, 121], 58) := by decide +kernel
theorem dX12_count_64 : decode cX12_count 64 = .ok (.aload_n 0, 1) := by decide +kernel
theorem dX12_count_65 : decode cX12_count 65 = .ok (.invokevirtual 221, 3) := by decide +kernel
theorem dX12_count_68 : decode cX12_count 68 = .ok (.ireturn, 1) := by decide +kernel
theorem dX12_count_69 : decode cX12_count 69 = .ok (.aload_n 0, 1) := by decide +kernel
theorem dX12_count_70 : decode cX12_count 70 = .ok (.getfield 79, 3) := by decide +kernel
theorem dX12_count_73 : decode cX12_count 73 = .ok (.iconst 1, 1) := by decide +kernel
theorem dX12_count_74 : decode cX12_count 74 = .ok (.iaload, 1) := by decide +kernel
theorem dX12_count_75 : decode cX12_count 75 = .ok (.ireturn, 1) := by decide +kernel
theorem dX12_count_76 : decode cX12_count 76 = .ok (.aload_n 0, 1) := by decide +kernel
theorem dX12_count_77 : decode cX12_count 77 = .ok (.invokevirtual 217, 3) := by decide +kernel
theorem dX12_count_80 : decode cX12_count 80 = .ok (.ireturn, 1) := by decide +kernel
theorem dX12_count_81 : decode cX12_count 81 = .ok (.aload_n 0, 1) := by decide +kernel
theorem dX12_count_82 : decode cX12_count 82 = .ok (.getfield 79, 3) := by decide +kernel
theorem dX12_count_85 : decode cX12_count 85 = .ok (.iconst 3, 1) := by decide +kernel
theorem dX12_count_86 : decode cX12_count 86 = .ok (.iaload, 1) := by decide +kernel
theorem dX12_count_87 : decode cX12_count 87 = .ok (.ireturn, 1) := by decide +kernel
theorem dX12_count_88 : decode cX12_count 88 = .ok (.aload_n 0, 1) := by decide +kernel
theorem dX12_count_89 : decode cX12_count 89 = .ok (.iconst 0, 1) := by decide +kernel
theorem dX12_count_90 : decode cX12_count 90 = .ok (.invokevirtual 395, 3) := by decide +kernel
theorem dX12_count_93 : decode cX12_count 93 = .ok (.ireturn, 1) := by decide +kernel
theorem dX12_count_94 : decode cX12_count 94 = .ok (.aload_n 0, 1) := by decide +kernel
theorem dX12_count_95 : decode cX12_count 95 = .ok (.iconst 0, 1) := by decide +kernel
theorem dX12_count_96 : decode cX12_count 96 = .ok (.iconst (-1), 1) := by decide +kernel
theorem dX12_count_97 : decode cX12_count 97 = .ok (.invokevirtual 398, 3) := by decide +kernel
theorem dX12_count_100 : decode cX12_count 100 = .ok (.ireturn, 1) := by decide +kernel
theorem dX12_count_101 : decode cX12_count 101 = .ok (.aload_n 0, 1) := by decide +kernel
theorem dX12_count_102 : decode cX12_count 102 = .ok (.getfield 292, 3) := by decide +kernel
theorem dX12_count_105 : decode cX12_count 105 = .ok (.ireturn, 1) := by decide +kernel
theorem dX12_count_106 : decode cX12_count 106 = .ok (.aload_n 0, 1) := by decide +kernel
theorem dX12_count_107 : decode cX12_count 107 = .ok (.getfield 88, 3) := by decide +kernel
theorem dX12_count_110 : decode cX12_count 110 = .ok (.iconst 0, 1) := by decide +kernel
theorem dX12_count_111 : decode cX12_count 111 = .ok (.iaload, 1) := by decide +kernel
theorem dX12_count_112 : decode cX12_count 112 = .ok (.ireturn, 1) := by decide +kernel
theorem dX12_count_113 : decode cX12_count 113 = .ok (.aload_n 0, 1) := by decide +kernel
theorem dX12_count_114 : decode cX12_count 114 = .ok (.getfield 97, 3) := by decide +kernel
theorem dX12_count_117 : decode cX12_count 117 = .ok (.sipush 320, 3) := by decide +kernel
theorem dX12_count_120 : decode cX12_count 120 = .ok (.iaload, 1) := by decide +kernel
theorem dX12_count_121 : decode cX12_count 121 = .ok (.ireturn, 1) := by decide +kernel
theorem dX12_count_122 : decode cX12_count 122 = .ok (.aload_n 0, 1) := by decide +kernel
theorem dX12_count_123 : decode cX12_count 123 = .ok (.getfield 289, 3) := by decide +kernel
theorem dX12_count_126 : decode cX12_count 126 = .ok (.ireturn, 1) := by decide +kernel
theorem dX12_count_127 : decode cX12_count 127 = .ok (.aload_n 0, 1) := by decide +kernel
theorem dX12_count_128 : decode cX12_count 128 = .ok (.getfield 11, 3) := by decide +kernel
theorem dX12_count_131 : decode cX12_count 131 = .ok (.ireturn, 1) := by decide +kernel
theorem dX12_count_132 : decode cX12_count 132 = .ok (.iconst (-1), 1) := by decide +kernel
theorem dX12_count_133 : decode cX12_count 133 = .ok (.ireturn, 1) := by decide +kernel
theorem dJ6_bitCount_0f7a4_0 : decode cJ6_bitCount_0f7a4 0 = .ok (.iload_n 0, 1) := by decide +kernel
theorem dJ6_bitCount_0f7a4_1 : decode cJ6_bitCount_0f7a4 1 = .ok (.iload_n 0, 1) := by decide +kernel
theorem dJ6_bitCount_0f7a4_2 : decode cJ6_bitCount_0f7a4 2 = .ok (.iconst 1, 1) := by decide +kernel
theorem dJ6_bitCount_0f7a4_3 : decode cJ6_bitCount_0f7a4 3 = .ok (.iushr, 1) := by decide +kernel
theorem dJ6_bitCount_0f7a4_4 : decode cJ6_bitCount_0f7a4 4 = .ok (.ldc_w 265, 3) := by decide +kernel
theorem dJ6_bitCount_0f7a4_7 : decode cJ6_bitCount_0f7a4 7 = .ok (.iand, 1) := by decide +kernel
theorem dJ6_bitCount_0f7a4_8 : decode cJ6_bitCount_0f7a4 8 = .ok (.isub, 1) := by decide +kernel
theorem dJ6_bitCount_0f7a4_9 : decode cJ6_bitCount_0f7a4 9 = .ok (.istore_n 0, 1) := by decide +kernel
theorem dJ6_bitCount_0f7a4_10 : decode cJ6_bitCount_0f7a4 10 = .ok (.iload_n 0, 1) := by decide +kernel
theorem dJ6_bitCount_0f7a4_11 : decode cJ6_bitCount_0f7a4 11 = .ok (.ldc_w 266, 3) := by decide +kernel
theorem dJ6_bitCount_0f7a4_14 : decode cJ6_bitCount_0f7a4 14 = .ok (.iand, 1) := by decide +kernel
theorem dJ6_bitCount_0f7a4_15 : decode cJ6_bitCount_0f7a4 15 = .ok (.iload_n 0, 1) := by decide +kernel
theorem dJ6_bitCount_0f7a4_16 : decode cJ6_bitCount_0f7a4 16 = .ok (.iconst 2, 1) := by decide +kernel
theorem dJ6_bitCount_0f7a4_17 : decode cJ6_bitCount_0f7a4 17 = .ok (.iushr, 1) := by decide +kernel
theorem dJ6_bitCount_0f7a4_18 : decode cJ6_bitCount_0f7a4 18 = .ok (.ldc_w 266, 3) := by decide +kernel
theorem dJ6_bitCount_0f7a4_21 : decode cJ6_bitCount_0f7a4 21 = .ok (.iand, 1) := by decide +kernel
theorem dJ6_bitCount_0f7a4_22 : decode cJ6_bitCount_0f7a4 22 = .ok (.iadd, 1) := by decide +kernel
theorem dJ6_bitCount_0f7a4_23 : decode cJ6_bitCount_0f7a4 23 = .ok (.istore_n 0, 1) := by decide +kernel
theorem dJ6_bitCount_0f7a4_24 : decode cJ6_bitCount_0f7a4 24 = .ok (.iload_n 0, 1) := by decide +kernel
theorem dJ6_bitCount_0f7a4_25 : decode cJ6_bitCount_0f7a4 25 = .ok (.iload_n 0, 1) := by decide +kernel
theorem dJ6_bitCount_0f7a4_26 : decode cJ6_bitCount_0f7a4 26 = .ok (.iconst 4, 1) := by decide +kernel
theorem dJ6_bitCount_0f7a4_27 : decode cJ6_bitCount_0f7a4 27 = .ok (.iushr, 1) := by decide +kernel
theorem dJ6_bitCount_0f7a4_28 : decode cJ6_bitCount_0f7a4 28 = .ok (.iadd, 1) := by decide +kernel
theorem dJ6_bitCount_0f7a4_29 : decode cJ6_bitCount_0f7a4 29 = .ok (.ldc_w 267, 3) := by decide +kernel
theorem dJ6_bitCount_0f7a4_32 : decode cJ6_bitCount_0f7a4 32 = .ok (.iand, 1) := by decide +kernel
theorem dJ6_bitCount_0f7a4_33 : decode cJ6_bitCount_0f7a4 33 = .ok (.istore_n 0, 1) := by decide +kernel
theorem dJ6_bitCount_0f7a4_34 : decode cJ6_bitCount_0f7a4 34 = .ok (.iload_n 0, 1) := by decide +kernel
theorem dJ6_bitCount_0f7a4_35 : decode cJ6_bitCount_0f7a4 35 = .ok (.iload_n 0, 1) := by decide +kernel
theorem dJ6_bitCount_0f7a4_36 : decode cJ6_bitCount_0f7a4 36 = .ok (.bipush 8, 2) := by decide +kernel
theorem dJ6_bitCount_0f7a4_38 : decode cJ6_bitCount_0f7a4 38 = .ok (.iushr, 1) := by decide +kernel
theorem dJ6_bitCount_0f7a4_39 : decode cJ6_bitCount_0f7a4 39 = .ok (.iadd, 1) := by decide +kernel
theorem dJ6_bitCount_0f7a4_40 : decode cJ6_bitCount_0f7a4 40 = .ok (.istore_n 0, 1) := by decide +kernel
theorem dJ6_bitCount_0f7a4_41 : decode cJ6_bitCount_0f7a4 41 = .ok (.iload_n 0, 1) := by decide +kernel
theorem dJ6_bitCount_0f7a4_42 : decode cJ6_bitCount_0f7a4 42 = .ok (.iload_n 0, 1) := by decide +kernel
theorem dJ6_bitCount_0f7a4_43 : decode cJ6_bitCount_0f7a4 43 = .ok (.bipush 16, 2) := by decide +kernel
theorem dJ6_bitCount_0f7a4_45 : decode cJ6_bitCount_0f7a4 45 = .ok (.iushr, 1) := by decide +kernel
theorem dJ6_bitCount_0f7a4_46 : decode cJ6_bitCount_0f7a4 46 = .ok (.iadd, 1) := by decide +kernel
theorem dJ6_bitCount_0f7a4_47 : decode cJ6_bitCount_0f7a4 47 = .ok (.istore_n 0, 1) := by decide +kernel
theorem dJ6_bitCount_0f7a4_48 : decode cJ6_bitCount_0f7a4 48 = .ok (.iload_n 0, 1) := by decide +kernel
theorem dJ6_bitCount_0f7a4_49 : decode cJ6_bitCount_0f7a4 49 = .ok (.bipush 63, 2) := by decide +kernel
theorem dJ6_bitCount_0f7a4_51 : decode cJ6_bitCount_0f7a4 51 = .ok (.iand, 1) := by decide +kernel
theorem dJ6_bitCount_0f7a4_52 : decode cJ6_bitCount_0f7a4 52 = .ok (.ireturn, 1) := by decide +kernel
theorem dJ9_abs_0f7a4_0 : decode cJ9_abs_0f7a4 0 = .ok (.iload_n 0, 1) := by decide +kernel
theorem dJ9_abs_0f7a4_1 : decode cJ9_abs_0f7a4 1 = .ok (.ifCond .ge 8, 3) := by decide +kernel
theorem dJ9_abs_0f7a4_4 : decode cJ9_abs_0f7a4 4 = .ok (.iload_n 0, 1) := by decide +kernel
theorem dJ9_abs_0f7a4_5 : decode cJ9_abs_0f7a4 5 = .ok (.ineg, 1) := by decide +kernel
theorem dJ9_abs_0f7a4_6 : decode cJ9_abs_0f7a4 6 = .ok (.goto 4, 3) := by decide +kernel
theorem dJ9_abs_0f7a4_9 : decode cJ9_abs_0f7a4 9 = .ok (.iload_n 0, 1) := by decide +kernel
theorem dJ9_abs_0f7a4_10 : decode cJ9_abs_0f7a4 10 = .ok (.ireturn, 1) := by decide +kernel
theorem dJ9_max_7cf53_0 : decode cJ9_max_7cf53 0 = .ok (.iload_n 0, 1) := by decide +kernel
theorem dJ9_max_7cf53_1 : decode cJ9_max_7cf53 1 = .ok (.iload_n 1, 1) := by decide +kernel
theorem dJ9_max_7cf53_2 : decode cJ9_max_7cf53 2 = .ok (.if_icmp .lt 7, 3) := by decide +kernel
theorem dJ9_max_7cf53_5 : decode cJ9_max_7cf53 5 = .ok (.iload_n 0, 1) := by decide +kernel
theorem dJ9_max_7cf53_6 : decode cJ9_max_7cf53 6 = .ok (.goto 4, 3) := by decide +kernel
theorem dJ9_max_7cf53_9 : decode cJ9_max_7cf53 9 = .ok (.iload_n 1, 1) := by decide +kernel
theorem dJ9_max_7cf53_10 : decode cJ9_max_7cf53 10 = .ok (.ireturn, 1) := by decide +kernel
theorem dJ9_min_7cf53_0 : decode cJ9_min_7cf53 0 = .ok (.iload_n 0, 1) := by decide +kernel
theorem dJ9_min_7cf53_1 : decode cJ9_min_7cf53 1 = .ok (.iload_n 1, 1) := by decide +kernel
theorem dJ9_min_7cf53_2 : decode cJ9_min_7cf53 2 = .ok (.if_icmp .gt 7, 3) := by decide +kernel
theorem dJ9_min_7cf53_5 : decode cJ9_min_7cf53 5 = .ok (.iload_n 0, 1) := by decide +kernel
theorem dJ9_min_7cf53_6 : decode cJ9_min_7cf53 6 = .ok (.goto 4, 3) := by decide +kernel
theorem dJ9_min_7cf53_9 : decode cJ9_min_7cf53 9 = .ok (.iload_n 1, 1) := by decide +kernel
theorem dJ9_min_7cf53_10 : decode cJ9_min_7cf53 10 = .ok (.ireturn, 1) := by decide +kernel
theorem dL_comes_0 : decode cL_comes 0 = .ok (.aload_n 3, 1) := by decide +kernel
theorem dL_comes_1 : decode cL_comes 1 = .ok (.iconst 0, 1) := by decide +kernel
theorem dL_comes_2 : decode cL_comes 2 = .ok (.aload_n 0, 1) := by decide +kernel
theorem dL_comes_3 : decode cL_comes 3 = .ok (.iload_n 1, 1) := by decide +kernel
theorem dL_comes_4 : decode cL_comes 4 = .ok (.iload_n 2, 1) := by decide +kernel
theorem dL_comes_5 : decode cL_comes 5 = .ok (.invokevirtual 7, 3) := by decide +kernel
theorem dL_comes_8 : decode cL_comes 8 = .ok (.i2l, 1) := by decide +kernel
theorem dL_comes_9 : decode cL_comes 9 = .ok (.lastore, 1) := by decide +kernel
theorem dL_comes_10 : decode cL_comes 10 = .ok (.goto 7, 3) := by decide +kernel
theorem dL_comes_13 : decode cL_comes 13 = .ok (.astore 4, 2) := by decide +kernel
theorem dL_comes_15 : decode cL_comes 15 = .ok (.iconst 1, 1) := by decide +kernel
theorem dL_comes_16 : decode cL_comes 16 = .ok (.ireturn, 1) := by decide +kernel
theorem dL_comes_17 : decode cL_comes 17 = .ok (.iconst 0, 1) := by decide +kernel
theorem dL_comes_18 : decode cL_comes 18 = .ok (.ireturn, 1) := by decide +kernel
theorem dL_away_0 : decode cL_away 0 = .ok (.aload_n 3, 1) := by decide +kernel
theorem dL_away_1 : decode cL_away 1 = .ok (.iconst 0, 1) := by decide +kernel
theorem dL_away_2 : decode cL_away 2 = .ok (.aload_n 0, 1) := by decide +kernel
theorem dL_away_3 : decode cL_away 3 = .ok (.iload_n 1, 1) := by decide +kernel
theorem dL_away_4 : decode cL_away 4 = .ok (.iload_n 2, 1) := by decide +kernel
theorem dL_away_5 : decode cL_away 5 = .ok (.invokevirtual 15, 3) := by decide +kernel
theorem dL_away_8 : decode cL_away 8 = .ok (.i2l, 1) := by decide +kernel
theorem dL_away_9 : decode cL_away 9 = .ok (.lastore, 1) := by decide +kernel
theorem dL_away_10 : decode cL_away 10 = .ok (.goto 7, 3) := by decide +kernel
theorem dL_away_13 : decode cL_away 13 = .ok (.astore 4, 2) := by decide +kernel
theorem dL_away_15 : decode cL_away 15 = .ok (.iconst 1, 1) := by decide +kernel
theorem dL_away_16 : decode cL_away 16 = .ok (.ireturn, 1) := by decide +kernel
theorem dL_away_17 : decode cL_away 17 = .ok (.iconst 0, 1) := by decide +kernel
theorem dL_away_18 : decode cL_away 18 = .ok (.ireturn, 1) := by decide +kernel
theorem dL_law_0 : decode cL_law 0 = .ok (.new 8, 3) := by decide +kernel
theorem dL_law_3 : decode cL_law 3 = .ok (.dup, 1) := by decide +kernel
theorem dL_law_4 : decode cL_law 4 = .ok (.invokespecial 18, 3) := by decide +kernel
theorem dL_law_7 : decode cL_law 7 = .ok (.astore_n 1, 1) := by decide +kernel
theorem dL_law_8 : decode cL_law 8 = .ok (.new 19, 3) := by decide +kernel
theorem dL_law_11 : decode cL_law 11 = .ok (.dup, 1) := by decide +kernel
theorem dL_law_12 : decode cL_law 12 = .ok (.invokespecial 21, 3) := by decide +kernel
theorem dL_law_15 : decode cL_law 15 = .ok (.astore_n 2, 1) := by decide +kernel
theorem dL_law_16 : decode cL_law 16 = .ok (.iconst 1, 1) := by decide +kernel
theorem dL_law_17 : decode cL_law 17 = .ok (.newarray .long, 2) := by decide +kernel
theorem dL_law_19 : decode cL_law 19 = .ok (.astore_n 3, 1) := by decide +kernel
theorem dL_law_20 : decode cL_law 20 = .ok (.iconst 0, 1) := by decide +kernel
theorem dL_law_21 : decode cL_law 21 = .ok (.istore 4, 2) := by decide +kernel
theorem dL_law_23 : decode cL_law 23 = .ok (.iload 4, 2) := by decide +kernel
theorem dL_law_25 : decode cL_law 25 = .ok (.aload_n 0, 1) := by decide +kernel
theorem dL_law_26 : decode cL_law 26 = .ok (.arraylength, 1) := by decide +kernel
theorem dL_law_27 : decode cL_law 27 = .ok (.bipush 7, 2) := by decide +kernel
theorem dL_law_29 : decode cL_law 29 = .ok (.isub, 1) := by decide +kernel
theorem dL_law_30 : decode cL_law 30 = .ok (.if_icmp .gt 1431, 3) := by decide +kernel
theorem dL_law_33 : decode cL_law 33 = .ok (.aload_n 0, 1) := by decide +kernel
theorem dL_law_34 : decode cL_law 34 = .ok (.iload 4, 2) := by decide +kernel
theorem dL_law_36 : decode cL_law 36 = .ok (.iaload, 1) := by decide +kernel
theorem dL_law_37 : decode cL_law 37 = .ok (.bipush 63, 2) := by decide +kernel
theorem dL_law_39 : decode cL_law 39 = .ok (.iand, 1) := by decide +kernel
theorem dL_law_40 : decode cL_law 40 = .ok (.tableswitch 1415 0 34 #[156, 303, 316, 329, 366, 403, 452, 501, 526, 563, 588, 625, 662, 675, 700, 725, 793, 861, 886, 911, 948, 985, 1022, 1047, 1072, 1097, 1122, 1147, 1172, 1197, 1262, 1275, 1288, 1337, 1390], 156) := by decide +kernel
theorem dL_law_196 : decode cL_law 196 = .ok (.aload_n 1, 1) := by decide +kernel
theorem dL_law_197 : decode cL_law 197 = .ok (.aload_n 0, 1) := by decide +kernel
theorem dL_law_198 : decode cL_law 198 = .ok (.iload 4, 2) := by decide +kernel
theorem dL_law_200 : decode cL_law 200 = .ok (.iconst 1, 1) := by decide +kernel
theorem dL_law_201 : decode cL_law 201 = .ok (.iadd, 1) := by decide +kernel
theorem dL_law_202 : decode cL_law 202 = .ok (.iaload, 1) := by decide +kernel
theorem dL_law_203 : decode cL_law 203 = .ok (.i2l, 1) := by decide +kernel
theorem dL_law_204 : decode cL_law 204 = .ok (.bipush 32, 2) := by decide +kernel
theorem dL_law_206 : decode cL_law 206 = .ok (.lshl, 1) := by decide +kernel
theorem dL_law_207 : decode cL_law 207 = .ok (.aload_n 0, 1) := by decide +kernel
theorem dL_law_208 : decode cL_law 208 = .ok (.iload 4, 2) := by decide +kernel
theorem dL_law_210 : decode cL_law 210 = .ok (.iconst 2, 1) := by decide +kernel
theorem dL_law_211 : decode cL_law 211 = .ok (.iadd, 1) := by decide +kernel
theorem dL_law_212 : decode cL_law 212 = .ok (.iaload, 1) := by decide +kernel
theorem dL_law_213 : decode cL_law 213 = .ok (.i2l, 1) := by decide +kernel
theorem dL_law_214 : decode cL_law 214 = .ok (.ldc2_w 22, 3) := by decide +kernel
theorem dL_law_217 : decode cL_law 217 = .ok (.land, 1) := by decide +kernel
theorem dL_law_218 : decode cL_law 218 = .ok (.lor, 1) := by decide +kernel
theorem dL_law_219 : decode cL_law 219 = .ok (.aload_n 0, 1) := by decide +kernel
theorem dL_law_220 : decode cL_law 220 = .ok (.iload 4, 2) := by decide +kernel
theorem dL_law_222 : decode cL_law 222 = .ok (.iconst 3, 1) := by decide +kernel
theorem dL_law_223 : decode cL_law 223 = .ok (.iadd, 1) := by decide +kernel
theorem dL_law_224 : decode cL_law 224 = .ok (.iaload, 1) := by decide +kernel
theorem dL_law_225 : decode cL_law 225 = .ok (.i2l, 1) := by decide +kernel
theorem dL_law_226 : decode cL_law 226 = .ok (.bipush 32, 2) := by decide +kernel
theorem dL_law_228 : decode cL_law 228 = .ok (.lshl, 1) := by decide +kernel
theorem dL_law_229 : decode cL_law 229 = .ok (.aload_n 0, 1) := by decide +kernel
theorem dL_law_230 : decode cL_law 230 = .ok (.iload 4, 2) := by decide +kernel
theorem dL_law_232 : decode cL_law 232 = .ok (.iconst 4, 1) := by decide +kernel
theorem dL_law_233 : decode cL_law 233 = .ok (.iadd, 1) := by decide +kernel
theorem dL_law_234 : decode cL_law 234 = .ok (.iaload, 1) := by decide +kernel
theorem dL_law_235 : decode cL_law 235 = .ok (.i2l, 1) := by decide +kernel
theorem dL_law_236 : decode cL_law 236 = .ok (.ldc2_w 22, 3) := by decide +kernel
theorem dL_law_239 : decode cL_law 239 = .ok (.land, 1) := by decide +kernel
theorem dL_law_240 : decode cL_law 240 = .ok (.lor, 1) := by decide +kernel
theorem dL_law_241 : decode cL_law 241 = .ok (.aload_n 0, 1) := by decide +kernel
theorem dL_law_242 : decode cL_law 242 = .ok (.iload 4, 2) := by decide +kernel
theorem dL_law_244 : decode cL_law 244 = .ok (.iconst 5, 1) := by decide +kernel
theorem dL_law_245 : decode cL_law 245 = .ok (.iadd, 1) := by decide +kernel
theorem dL_law_246 : decode cL_law 246 = .ok (.iaload, 1) := by decide +kernel
theorem dL_law_247 : decode cL_law 247 = .ok (.i2l, 1) := by decide +kernel
theorem dL_law_248 : decode cL_law 248 = .ok (.bipush 32, 2) := by decide +kernel
theorem dL_law_250 : decode cL_law 250 = .ok (.lshl, 1) := by decide +kernel
theorem dL_law_251 : decode cL_law 251 = .ok (.aload_n 0, 1) := by decide +kernel
theorem dL_law_252 : decode cL_law 252 = .ok (.iload 4, 2) := by decide +kernel
theorem dL_law_254 : decode cL_law 254 = .ok (.bipush 6, 2) := by decide +kernel
theorem dL_law_256 : decode cL_law 256 = .ok (.iadd, 1) := by decide +kernel
theorem dL_law_257 : decode cL_law 257 = .ok (.iaload, 1) := by decide +kernel
theorem dL_law_258 : decode cL_law 258 = .ok (.i2l, 1) := by decide +kernel
theorem dL_law_259 : decode cL_law 259 = .ok (.ldc2_w 22, 3) := by decide +kernel
theorem dL_law_262 : decode cL_law 262 = .ok (.land, 1) := by decide +kernel
theorem dL_law_263 : decode cL_law 263 = .ok (.lor, 1) := by decide +kernel
theorem dL_law_264 : decode cL_law 264 = .ok (.invokevirtual 24, 3) := by decide +kernel
theorem dL_law_267 : decode cL_law 267 = .ok (.aload_n 2, 1) := by decide +kernel
theorem dL_law_268 : decode cL_law 268 = .ok (.aload_n 0, 1) := by decide +kernel
theorem dL_law_269 : decode cL_law 269 = .ok (.iload 4, 2) := by decide +kernel
theorem dL_law_271 : decode cL_law 271 = .ok (.iconst 1, 1) := by decide +kernel
theorem dL_law_272 : decode cL_law 272 = .ok (.iadd, 1) := by decide +kernel
theorem dL_law_273 : decode cL_law 273 = .ok (.iaload, 1) := by decide +kernel
theorem dL_law_274 : decode cL_law 274 = .ok (.i2l, 1) := by decide +kernel
theorem dL_law_275 : decode cL_law 275 = .ok (.bipush 32, 2) := by decide +kernel
theorem dL_law_277 : decode cL_law 277 = .ok (.lshl, 1) := by decide +kernel
theorem dL_law_278 : decode cL_law 278 = .ok (.aload_n 0, 1) := by decide +kernel
theorem dL_law_279 : decode cL_law 279 = .ok (.iload 4, 2) := by decide +kernel
theorem dL_law_281 : decode cL_law 281 = .ok (.iconst 2, 1) := by decide +kernel
theorem dL_law_282 : decode cL_law 282 = .ok (.iadd, 1) := by decide +kernel
theorem dL_law_283 : decode cL_law 283 = .ok (.iaload, 1) := by decide +kernel
theorem dL_law_284 : decode cL_law 284 = .ok (.i2l, 1) := by decide +kernel
theorem dL_law_285 : decode cL_law 285 = .ok (.ldc2_w 22, 3) := by decide +kernel
theorem dL_law_288 : decode cL_law 288 = .ok (.land, 1) := by decide +kernel
theorem dL_law_289 : decode cL_law 289 = .ok (.lor, 1) := by decide +kernel
theorem dL_law_290 : decode cL_law 290 = .ok (.aload_n 0, 1) := by decide +kernel
theorem dL_law_291 : decode cL_law 291 = .ok (.iload 4, 2) := by decide +kernel
theorem dL_law_293 : decode cL_law 293 = .ok (.iconst 3, 1) := by decide +kernel
theorem dL_law_294 : decode cL_law 294 = .ok (.iadd, 1) := by decide +kernel
theorem dL_law_295 : decode cL_law 295 = .ok (.iaload, 1) := by decide +kernel
theorem dL_law_296 : decode cL_law 296 = .ok (.i2l, 1) := by decide +kernel
theorem dL_law_297 : decode cL_law 297 = .ok (.bipush 32, 2) := by decide +kernel
theorem dL_law_299 : decode cL_law 299 = .ok (.lshl, 1) := by decide +kernel
theorem dL_law_300 : decode cL_law 300 = .ok (.aload_n 0, 1) := by decide +kernel
theorem dL_law_301 : decode cL_law 301 = .ok (.iload 4, 2) := by decide +kernel
theorem dL_law_303 : decode cL_law 303 = .ok (.iconst 4, 1) := by decide +kernel
theorem dL_law_304 : decode cL_law 304 = .ok (.iadd, 1) := by decide +kernel
theorem dL_law_305 : decode cL_law 305 = .ok (.iaload, 1) := by decide +kernel
theorem dL_law_306 : decode cL_law 306 = .ok (.i2l, 1) := by decide +kernel
theorem dL_law_307 : decode cL_law 307 = .ok (.ldc2_w 22, 3) := by decide +kernel
theorem dL_law_310 : decode cL_law 310 = .ok (.land, 1) := by decide +kernel
theorem dL_law_311 : decode cL_law 311 = .ok (.lor, 1) := by decide +kernel
theorem dL_law_312 : decode cL_law 312 = .ok (.aload_n 0, 1) := by decide +kernel
theorem dL_law_313 : decode cL_law 313 = .ok (.iload 4, 2) := by decide +kernel
theorem dL_law_315 : decode cL_law 315 = .ok (.iconst 5, 1) := by decide +kernel
theorem dL_law_316 : decode cL_law 316 = .ok (.iadd, 1) := by decide +kernel
theorem dL_law_317 : decode cL_law 317 = .ok (.iaload, 1) := by decide +kernel
theorem dL_law_318 : decode cL_law 318 = .ok (.i2l, 1) := by decide +kernel
theorem dL_law_319 : decode cL_law 319 = .ok (.bipush 32, 2) := by decide +kernel
theorem dL_law_321 : decode cL_law 321 = .ok (.lshl, 1) := by decide +kernel
theorem dL_law_322 : decode cL_law 322 = .ok (.aload_n 0, 1) := by decide +kernel
theorem dL_law_323 : decode cL_law 323 = .ok (.iload 4, 2) := by decide +kernel
theorem dL_law_325 : decode cL_law 325 = .ok (.bipush 6, 2) := by decide +kernel
theorem dL_law_327 : decode cL_law 327 = .ok (.iadd, 1) := by decide +kernel
theorem dL_law_328 : decode cL_law 328 = .ok (.iaload, 1) := by decide +kernel
theorem dL_law_329 : decode cL_law 329 = .ok (.i2l, 1) := by decide +kernel
theorem dL_law_330 : decode cL_law 330 = .ok (.ldc2_w 22, 3) := by decide +kernel
theorem dL_law_333 : decode cL_law 333 = .ok (.land, 1) := by decide +kernel
theorem dL_law_334 : decode cL_law 334 = .ok (.lor, 1) := by decide +kernel
theorem dL_law_335 : decode cL_law 335 = .ok (.invokevirtual 28, 3) := by decide +kernel
theorem dL_law_338 : decode cL_law 338 = .ok (.if_icmp .eq 1117, 3) := by decide +kernel
theorem dL_law_341 : decode cL_law 341 = .ok (.iconst 0, 1) := by decide +kernel
theorem dL_law_342 : decode cL_law 342 = .ok (.ireturn, 1) := by decide +kernel
theorem dL_law_343 : decode cL_law 343 = .ok (.aload_n 1, 1) := by decide +kernel
theorem dL_law_344 : decode cL_law 344 = .ok (.invokevirtual 29, 3) := by decide +kernel
theorem dL_law_347 : decode cL_law 347 = .ok (.aload_n 2, 1) := by decide +kernel
theorem dL_law_348 : decode cL_law 348 = .ok (.invokevirtual 33, 3) := by decide +kernel
theorem dL_law_351 : decode cL_law 351 = .ok (.if_icmp .eq 1104, 3) := by decide +kernel
theorem dL_law_354 : decode cL_law 354 = .ok (.iconst 0, 1) := by decide +kernel
theorem dL_law_355 : decode cL_law 355 = .ok (.ireturn, 1) := by decide +kernel
theorem dL_law_356 : decode cL_law 356 = .ok (.aload_n 1, 1) := by decide +kernel
theorem dL_law_357 : decode cL_law 357 = .ok (.invokevirtual 34, 3) := by decide +kernel
theorem dL_law_360 : decode cL_law 360 = .ok (.aload_n 2, 1) := by decide +kernel
theorem dL_law_361 : decode cL_law 361 = .ok (.invokevirtual 37, 3) := by decide +kernel
theorem dL_law_364 : decode cL_law 364 = .ok (.if_icmp .eq 1091, 3) := by decide +kernel
theorem dL_law_367 : decode cL_law 367 = .ok (.iconst 0, 1) := by decide +kernel
theorem dL_law_368 : decode cL_law 368 = .ok (.ireturn, 1) := by decide +kernel
theorem dL_law_369 : decode cL_law 369 = .ok (.aload_n 1, 1) := by decide +kernel
theorem dL_law_370 : decode cL_law 370 = .ok (.aload_n 0, 1) := by decide +kernel
theorem dL_law_371 : decode cL_law 371 = .ok (.iload 4, 2) := by decide +kernel
theorem dL_law_373 : decode cL_law 373 = .ok (.iconst 1, 1) := by decide +kernel
theorem dL_law_374 : decode cL_law 374 = .ok (.iadd, 1) := by decide +kernel
theorem dL_law_375 : decode cL_law 375 = .ok (.iaload, 1) := by decide +kernel
theorem dL_law_376 : decode cL_law 376 = .ok (.aload_n 0, 1) := by decide +kernel
theorem dL_law_377 : decode cL_law 377 = .ok (.iload 4, 2) := by decide +kernel
theorem dL_law_379 : decode cL_law 379 = .ok (.iconst 2, 1) := by decide +kernel
theorem dL_law_380 : decode cL_law 380 = .ok (.iadd, 1) := by decide +kernel
theorem dL_law_381 : decode cL_law 381 = .ok (.iaload, 1) := by decide +kernel
theorem dL_law_382 : decode cL_law 382 = .ok (.invokevirtual 38, 3) := by decide +kernel
theorem dL_law_385 : decode cL_law 385 = .ok (.aload_n 2, 1) := by decide +kernel
theorem dL_law_386 : decode cL_law 386 = .ok (.aload_n 0, 1) := by decide +kernel
theorem dL_law_387 : decode cL_law 387 = .ok (.iload 4, 2) := by decide +kernel
theorem dL_law_389 : decode cL_law 389 = .ok (.iconst 1, 1) := by decide +kernel
theorem dL_law_390 : decode cL_law 390 = .ok (.iadd, 1) := by decide +kernel
theorem dL_law_391 : decode cL_law 391 = .ok (.iaload, 1) := by decide +kernel
theorem dL_law_392 : decode cL_law 392 = .ok (.aload_n 0, 1) := by decide +kernel
theorem dL_law_393 : decode cL_law 393 = .ok (.iload 4, 2) := by decide +kernel
theorem dL_law_395 : decode cL_law 395 = .ok (.iconst 2, 1) := by decide +kernel
theorem dL_law_396 : decode cL_law 396 = .ok (.iadd, 1) := by decide +kernel
theorem dL_law_397 : decode cL_law 397 = .ok (.iaload, 1) := by decide +kernel
theorem dL_law_398 : decode cL_law 398 = .ok (.invokevirtual 41, 3) := by decide +kernel
theorem dL_law_401 : decode cL_law 401 = .ok (.if_icmp .eq 1054, 3) := by decide +kernel
theorem dL_law_404 : decode cL_law 404 = .ok (.iconst 0, 1) := by decide +kernel
theorem dL_law_405 : decode cL_law 405 = .ok (.ireturn, 1) := by decide +kernel
theorem dL_law_406 : decode cL_law 406 = .ok (.aload_n 1, 1) := by decide +kernel
theorem dL_law_407 : decode cL_law 407 = .ok (.aload_n 0, 1) := by decide +kernel
theorem dL_law_408 : decode cL_law 408 = .ok (.iload 4, 2) := by decide +kernel
theorem dL_law_410 : decode cL_law 410 = .ok (.iconst 1, 1) := by decide +kernel
theorem dL_law_411 : decode cL_law 411 = .ok (.iadd, 1) := by decide +kernel
theorem dL_law_412 : decode cL_law 412 = .ok (.iaload, 1) := by decide +kernel
theorem dL_law_413 : decode cL_law 413 = .ok (.aload_n 0, 1) := by decide +kernel
theorem dL_law_414 : decode cL_law 414 = .ok (.iload 4, 2) := by decide +kernel
theorem dL_law_416 : decode cL_law 416 = .ok (.iconst 2, 1) := by decide +kernel
theorem dL_law_417 : decode cL_law 417 = .ok (.iadd, 1) := by decide +kernel
theorem dL_law_418 : decode cL_law 418 = .ok (.iaload, 1) := by decide +kernel
theorem dL_law_419 : decode cL_law 419 = .ok (.invokevirtual 42, 3) := by decide +kernel
theorem dL_law_422 : decode cL_law 422 = .ok (.aload_n 2, 1) := by decide +kernel
theorem dL_law_423 : decode cL_law 423 = .ok (.aload_n 0, 1) := by decide +kernel
theorem dL_law_424 : decode cL_law 424 = .ok (.iload 4, 2) := by decide +kernel
theorem dL_law_426 : decode cL_law 426 = .ok (.iconst 1, 1) := by decide +kernel
theorem dL_law_427 : decode cL_law 427 = .ok (.iadd, 1) := by decide +kernel
theorem dL_law_428 : decode cL_law 428 = .ok (.iaload, 1) := by decide +kernel
theorem dL_law_429 : decode cL_law 429 = .ok (.aload_n 0, 1) := by decide +kernel
theorem dL_law_430 : decode cL_law 430 = .ok (.iload 4, 2) := by decide +kernel
theorem dL_law_432 : decode cL_law 432 = .ok (.iconst 2, 1) := by decide +kernel
theorem dL_law_433 : decode cL_law 433 = .ok (.iadd, 1) := by decide +kernel
theorem dL_law_434 : decode cL_law 434 = .ok (.iaload, 1) := by decide +kernel
theorem dL_law_435 : decode cL_law 435 = .ok (.invokevirtual 45, 3) := by decide +kernel
theorem dL_law_438 : decode cL_law 438 = .ok (.if_icmp .eq 1017, 3) := by decide +kernel
theorem dL_law_441 : decode cL_law 441 = .ok (.iconst 0, 1) := by decide +kernel
theorem dL_law_442 : decode cL_law 442 = .ok (.ireturn, 1) := by decide +kernel
theorem dL_law_443 : decode cL_law 443 = .ok (.aload_n 1, 1) := by decide +kernel
theorem dL_law_444 : decode cL_law 444 = .ok (.aload_n 0, 1) := by decide +kernel
theorem dL_law_445 : decode cL_law 445 = .ok (.iload 4, 2) := by decide +kernel
theorem dL_law_447 : decode cL_law 447 = .ok (.iconst 1, 1) := by decide +kernel
theorem dL_law_448 : decode cL_law 448 = .ok (.iadd, 1) := by decide +kernel
theorem dL_law_449 : decode cL_law 449 = .ok (.iaload, 1) := by decide +kernel
theorem dL_law_450 : decode cL_law 450 = .ok (.aload_n 0, 1) := by decide +kernel
theorem dL_law_451 : decode cL_law 451 = .ok (.iload 4, 2) := by decide +kernel
theorem dL_law_453 : decode cL_law 453 = .ok (.iconst 2, 1) := by decide +kernel
theorem dL_law_454 : decode cL_law 454 = .ok (.iadd, 1) := by decide +kernel
theorem dL_law_455 : decode cL_law 455 = .ok (.iaload, 1) := by decide +kernel
theorem dL_law_456 : decode cL_law 456 = .ok (.aload_n 0, 1) := by decide +kernel
theorem dL_law_457 : decode cL_law 457 = .ok (.iload 4, 2) := by decide +kernel
theorem dL_law_459 : decode cL_law 459 = .ok (.iconst 3, 1) := by decide +kernel
theorem dL_law_460 : decode cL_law 460 = .ok (.iadd, 1) := by decide +kernel
theorem dL_law_461 : decode cL_law 461 = .ok (.iaload, 1) := by decide +kernel
theorem dL_law_462 : decode cL_law 462 = .ok (.invokevirtual 46, 3) := by decide +kernel
theorem dL_law_465 : decode cL_law 465 = .ok (.aload_n 2, 1) := by decide +kernel
theorem dL_law_466 : decode cL_law 466 = .ok (.aload_n 0, 1) := by decide +kernel
theorem dL_law_467 : decode cL_law 467 = .ok (.iload 4, 2) := by decide +kernel
theorem dL_law_469 : decode cL_law 469 = .ok (.iconst 1, 1) := by decide +kernel
theorem dL_law_470 : decode cL_law 470 = .ok (.iadd, 1) := by decide +kernel
theorem dL_law_471 : decode cL_law 471 = .ok (.iaload, 1) := by decide +kernel
theorem dL_law_472 : decode cL_law 472 = .ok (.aload_n 0, 1) := by decide +kernel
theorem dL_law_473 : decode cL_law 473 = .ok (.iload 4, 2) := by decide +kernel
theorem dL_law_475 : decode cL_law 475 = .ok (.iconst 2, 1) := by decide +kernel
theorem dL_law_476 : decode cL_law 476 = .ok (.iadd, 1) := by decide +kernel
theorem dL_law_477 : decode cL_law 477 = .ok (.iaload, 1) := by decide +kernel
theorem dL_law_478 : decode cL_law 478 = .ok (.aload_n 0, 1) := by decide +kernel
theorem dL_law_479 : decode cL_law 479 = .ok (.iload 4, 2) := by decide +kernel
theorem dL_law_481 : decode cL_law 481 = .ok (.iconst 3, 1) := by decide +kernel
theorem dL_law_482 : decode cL_law 482 = .ok (.iadd, 1) := by decide +kernel
theorem dL_law_483 : decode cL_law 483 = .ok (.iaload, 1) := by decide +kernel
theorem dL_law_484 : decode cL_law 484 = .ok (.invokevirtual 50, 3) := by decide +kernel
theorem dL_law_487 : decode cL_law 487 = .ok (.if_icmp .eq 968, 3) := by decide +kernel
theorem dL_law_490 : decode cL_law 490 = .ok (.iconst 0, 1) := by decide +kernel
theorem dL_law_491 : decode cL_law 491 = .ok (.ireturn, 1) := by decide +kernel
theorem dL_law_492 : decode cL_law 492 = .ok (.aload_n 1, 1) := by decide +kernel
theorem dL_law_493 : decode cL_law 493 = .ok (.aload_n 0, 1) := by decide +kernel
theorem dL_law_494 : decode cL_law 494 = .ok (.iload 4, 2) := by decide +kernel
theorem dL_law_496 : decode cL_law 496 = .ok (.iconst 1, 1) := by decide +kernel
theorem dL_law_497 : decode cL_law 497 = .ok (.iadd, 1) := by decide +kernel
theorem dL_law_498 : decode cL_law 498 = .ok (.iaload, 1) := by decide +kernel
theorem dL_law_499 : decode cL_law 499 = .ok (.aload_n 0, 1) := by decide +kernel
theorem dL_law_500 : decode cL_law 500 = .ok (.iload 4, 2) := by decide +kernel
theorem dL_law_502 : decode cL_law 502 = .ok (.iconst 2, 1) := by decide +kernel
theorem dL_law_503 : decode cL_law 503 = .ok (.iadd, 1) := by decide +kernel
theorem dL_law_504 : decode cL_law 504 = .ok (.iaload, 1) := by decide +kernel
theorem dL_law_505 : decode cL_law 505 = .ok (.aload_n 0, 1) := by decide +kernel
theorem dL_law_506 : decode cL_law 506 = .ok (.iload 4, 2) := by decide +kernel
theorem dL_law_508 : decode cL_law 508 = .ok (.iconst 3, 1) := by decide +kernel
theorem dL_law_509 : decode cL_law 509 = .ok (.iadd, 1) := by decide +kernel
theorem dL_law_510 : decode cL_law 510 = .ok (.iaload, 1) := by decide +kernel
theorem dL_law_511 : decode cL_law 511 = .ok (.invokevirtual 51, 3) := by decide +kernel
theorem dL_law_514 : decode cL_law 514 = .ok (.aload_n 2, 1) := by decide +kernel
theorem dL_law_515 : decode cL_law 515 = .ok (.aload_n 0, 1) := by decide +kernel
theorem dL_law_516 : decode cL_law 516 = .ok (.iload 4, 2) := by decide +kernel
theorem dL_law_518 : decode cL_law 518 = .ok (.iconst 1, 1) := by decide +kernel
theorem dL_law_519 : decode cL_law 519 = .ok (.iadd, 1) := by decide +kernel
theorem dL_law_520 : decode cL_law 520 = .ok (.iaload, 1) := by decide +kernel
theorem dL_law_521 : decode cL_law 521 = .ok (.aload_n 0, 1) := by decide +kernel
theorem dL_law_522 : decode cL_law 522 = .ok (.iload 4, 2) := by decide +kernel
theorem dL_law_524 : decode cL_law 524 = .ok (.iconst 2, 1) := by decide +kernel
theorem dL_law_525 : decode cL_law 525 = .ok (.iadd, 1) := by decide +kernel
theorem dL_law_526 : decode cL_law 526 = .ok (.iaload, 1) := by decide +kernel
theorem dL_law_527 : decode cL_law 527 = .ok (.aload_n 0, 1) := by decide +kernel
theorem dL_law_528 : decode cL_law 528 = .ok (.iload 4, 2) := by decide +kernel
theorem dL_law_530 : decode cL_law 530 = .ok (.iconst 3, 1) := by decide +kernel
theorem dL_law_531 : decode cL_law 531 = .ok (.iadd, 1) := by decide +kernel
theorem dL_law_532 : decode cL_law 532 = .ok (.iaload, 1) := by decide +kernel
theorem dL_law_533 : decode cL_law 533 = .ok (.invokevirtual 54, 3) := by decide +kernel
theorem dL_law_536 : decode cL_law 536 = .ok (.if_icmp .eq 919, 3) := by decide +kernel
theorem dL_law_539 : decode cL_law 539 = .ok (.iconst 0, 1) := by decide +kernel
theorem dL_law_540 : decode cL_law 540 = .ok (.ireturn, 1) := by decide +kernel
theorem dL_law_541 : decode cL_law 541 = .ok (.aload_n 1, 1) := by decide +kernel
theorem dL_law_542 : decode cL_law 542 = .ok (.aload_n 0, 1) := by decide +kernel
theorem dL_law_543 : decode cL_law 543 = .ok (.iload 4, 2) := by decide +kernel
theorem dL_law_545 : decode cL_law 545 = .ok (.iconst 1, 1) := by decide +kernel
theorem dL_law_546 : decode cL_law 546 = .ok (.iadd, 1) := by decide +kernel
theorem dL_law_547 : decode cL_law 547 = .ok (.iaload, 1) := by decide +kernel
theorem dL_law_548 : decode cL_law 548 = .ok (.invokevirtual 55, 3) := by decide +kernel
theorem dL_law_551 : decode cL_law 551 = .ok (.aload_n 2, 1) := by decide +kernel
theorem dL_law_552 : decode cL_law 552 = .ok (.aload_n 0, 1) := by decide +kernel
theorem dL_law_553 : decode cL_law 553 = .ok (.iload 4, 2) := by decide +kernel
theorem dL_law_555 : decode cL_law 555 = .ok (.iconst 1, 1) := by decide +kernel
theorem dL_law_556 : decode cL_law 556 = .ok (.iadd, 1) := by decide +kernel
theorem dL_law_557 : decode cL_law 557 = .ok (.iaload, 1) := by decide +kernel
theorem dL_law_558 : decode cL_law 558 = .ok (.invokevirtual 59, 3) := by decide +kernel
theorem dL_law_561 : decode cL_law 561 = .ok (.if_icmp .eq 894, 3) := by decide +kernel
theorem dL_law_564 : decode cL_law 564 = .ok (.iconst 0, 1) := by decide +kernel
theorem dL_law_565 : decode cL_law 565 = .ok (.ireturn, 1) := by decide +kernel
theorem dL_law_566 : decode cL_law 566 = .ok (.aload_n 1, 1) := by decide +kernel
theorem dL_law_567 : decode cL_law 567 = .ok (.aload_n 0, 1) := by decide +kernel
theorem dL_law_568 : decode cL_law 568 = .ok (.iload 4, 2) := by decide +kernel
theorem dL_law_570 : decode cL_law 570 = .ok (.iconst 1, 1) := by decide +kernel
theorem dL_law_571 : decode cL_law 571 = .ok (.iadd, 1) := by decide +kernel
theorem dL_law_572 : decode cL_law 572 = .ok (.iaload, 1) := by decide +kernel
theorem dL_law_573 : decode cL_law 573 = .ok (.aload_n 0, 1) := by decide +kernel
theorem dL_law_574 : decode cL_law 574 = .ok (.iload 4, 2) := by decide +kernel
theorem dL_law_576 : decode cL_law 576 = .ok (.iconst 2, 1) := by decide +kernel
theorem dL_law_577 : decode cL_law 577 = .ok (.iadd, 1) := by decide +kernel
theorem dL_law_578 : decode cL_law 578 = .ok (.iaload, 1) := by decide +kernel
theorem dL_law_579 : decode cL_law 579 = .ok (.invokevirtual 60, 3) := by decide +kernel
theorem dL_law_582 : decode cL_law 582 = .ok (.aload_n 2, 1) := by decide +kernel
theorem dL_law_583 : decode cL_law 583 = .ok (.aload_n 0, 1) := by decide +kernel
theorem dL_law_584 : decode cL_law 584 = .ok (.iload 4, 2) := by decide +kernel
theorem dL_law_586 : decode cL_law 586 = .ok (.iconst 1, 1) := by decide +kernel
theorem dL_law_587 : decode cL_law 587 = .ok (.iadd, 1) := by decide +kernel
theorem dL_law_588 : decode cL_law 588 = .ok (.iaload, 1) := by decide +kernel
theorem dL_law_589 : decode cL_law 589 = .ok (.aload_n 0, 1) := by decide +kernel
theorem dL_law_590 : decode cL_law 590 = .ok (.iload 4, 2) := by decide +kernel
theorem dL_law_592 : decode cL_law 592 = .ok (.iconst 2, 1) := by decide +kernel
theorem dL_law_593 : decode cL_law 593 = .ok (.iadd, 1) := by decide +kernel
theorem dL_law_594 : decode cL_law 594 = .ok (.iaload, 1) := by decide +kernel
theorem dL_law_595 : decode cL_law 595 = .ok (.invokevirtual 64, 3) := by decide +kernel
theorem dL_law_598 : decode cL_law 598 = .ok (.if_icmp .eq 857, 3) := by decide +kernel
theorem dL_law_601 : decode cL_law 601 = .ok (.iconst 0, 1) := by decide +kernel
theorem dL_law_602 : decode cL_law 602 = .ok (.ireturn, 1) := by decide +kernel
theorem dL_law_603 : decode cL_law 603 = .ok (.aload_n 1, 1) := by decide +kernel
theorem dL_law_604 : decode cL_law 604 = .ok (.aload_n 0, 1) := by decide +kernel
theorem dL_law_605 : decode cL_law 605 = .ok (.iload 4, 2) := by decide +kernel
theorem dL_law_607 : decode cL_law 607 = .ok (.iconst 1, 1) := by decide +kernel
theorem dL_law_608 : decode cL_law 608 = .ok (.iadd, 1) := by decide +kernel
theorem dL_law_609 : decode cL_law 609 = .ok (.iaload, 1) := by decide +kernel
theorem dL_law_610 : decode cL_law 610 = .ok (.invokevirtual 65, 3) := by decide +kernel
theorem dL_law_613 : decode cL_law 613 = .ok (.aload_n 2, 1) := by decide +kernel
theorem dL_law_614 : decode cL_law 614 = .ok (.aload_n 0, 1) := by decide +kernel
theorem dL_law_615 : decode cL_law 615 = .ok (.iload 4, 2) := by decide +kernel
theorem dL_law_617 : decode cL_law 617 = .ok (.iconst 1, 1) := by decide +kernel
theorem dL_law_618 : decode cL_law 618 = .ok (.iadd, 1) := by decide +kernel
theorem dL_law_619 : decode cL_law 619 = .ok (.iaload, 1) := by decide +kernel
theorem dL_law_620 : decode cL_law 620 = .ok (.invokevirtual 68, 3) := by decide +kernel
theorem dL_law_623 : decode cL_law 623 = .ok (.if_icmp .eq 832, 3) := by decide +kernel
theorem dL_law_626 : decode cL_law 626 = .ok (.iconst 0, 1) := by decide +kernel
theorem dL_law_627 : decode cL_law 627 = .ok (.ireturn, 1) := by decide +kernel
theorem dL_law_628 : decode cL_law 628 = .ok (.aload_n 1, 1) := by decide +kernel
theorem dL_law_629 : decode cL_law 629 = .ok (.aload_n 0, 1) := by decide +kernel
theorem dL_law_630 : decode cL_law 630 = .ok (.iload 4, 2) := by decide +kernel
theorem dL_law_632 : decode cL_law 632 = .ok (.iconst 1, 1) := by decide +kernel
theorem dL_law_633 : decode cL_law 633 = .ok (.iadd, 1) := by decide +kernel
theorem dL_law_634 : decode cL_law 634 = .ok (.iaload, 1) := by decide +kernel
theorem dL_law_635 : decode cL_law 635 = .ok (.aload_n 0, 1) := by decide +kernel
theorem dL_law_636 : decode cL_law 636 = .ok (.iload 4, 2) := by decide +kernel
theorem dL_law_638 : decode cL_law 638 = .ok (.iconst 2, 1) := by decide +kernel
theorem dL_law_639 : decode cL_law 639 = .ok (.iadd, 1) := by decide +kernel
theorem dL_law_640 : decode cL_law 640 = .ok (.iaload, 1) := by decide +kernel
theorem dL_law_641 : decode cL_law 641 = .ok (.invokevirtual 69, 3) := by decide +kernel
theorem dL_law_644 : decode cL_law 644 = .ok (.aload_n 2, 1) := by decide +kernel
theorem dL_law_645 : decode cL_law 645 = .ok (.aload_n 0, 1) := by decide +kernel
theorem dL_law_646 : decode cL_law 646 = .ok (.iload 4, 2) := by decide +kernel
theorem dL_law_648 : decode cL_law 648 = .ok (.iconst 1, 1) := by decide +kernel
theorem dL_law_649 : decode cL_law 649 = .ok (.iadd, 1) := by decide +kernel
theorem dL_law_650 : decode cL_law 650 = .ok (.iaload, 1) := by decide +kernel
theorem dL_law_651 : decode cL_law 651 = .ok (.aload_n 0, 1) := by decide +kernel
theorem dL_law_652 : decode cL_law 652 = .ok (.iload 4, 2) := by decide +kernel
theorem dL_law_654 : decode cL_law 654 = .ok (.iconst 2, 1) := by decide +kernel
theorem dL_law_655 : decode cL_law 655 = .ok (.iadd, 1) := by decide +kernel
theorem dL_law_656 : decode cL_law 656 = .ok (.iaload, 1) := by decide +kernel
theorem dL_law_657 : decode cL_law 657 = .ok (.invokevirtual 72, 3) := by decide +kernel
theorem dL_law_660 : decode cL_law 660 = .ok (.if_icmp .eq 795, 3) := by decide +kernel
theorem dL_law_663 : decode cL_law 663 = .ok (.iconst 0, 1) := by decide +kernel
theorem dL_law_664 : decode cL_law 664 = .ok (.ireturn, 1) := by decide +kernel
theorem dL_law_665 : decode cL_law 665 = .ok (.aload_n 1, 1) := by decide +kernel
theorem dL_law_666 : decode cL_law 666 = .ok (.aload_n 0, 1) := by decide +kernel
theorem dL_law_667 : decode cL_law 667 = .ok (.iload 4, 2) := by decide +kernel
theorem dL_law_669 : decode cL_law 669 = .ok (.iconst 1, 1) := by decide +kernel
theorem dL_law_670 : decode cL_law 670 = .ok (.iadd, 1) := by decide +kernel
theorem dL_law_671 : decode cL_law 671 = .ok (.iaload, 1) := by decide +kernel
theorem dL_law_672 : decode cL_law 672 = .ok (.aload_n 0, 1) := by decide +kernel
theorem dL_law_673 : decode cL_law 673 = .ok (.iload 4, 2) := by decide +kernel
theorem dL_law_675 : decode cL_law 675 = .ok (.iconst 2, 1) := by decide +kernel
theorem dL_law_676 : decode cL_law 676 = .ok (.iadd, 1) := by decide +kernel
theorem dL_law_677 : decode cL_law 677 = .ok (.iaload, 1) := by decide +kernel
theorem dL_law_678 : decode cL_law 678 = .ok (.invokevirtual 73, 3) := by decide +kernel
theorem dL_law_681 : decode cL_law 681 = .ok (.aload_n 2, 1) := by decide +kernel
theorem dL_law_682 : decode cL_law 682 = .ok (.aload_n 0, 1) := by decide +kernel
theorem dL_law_683 : decode cL_law 683 = .ok (.iload 4, 2) := by decide +kernel
theorem dL_law_685 : decode cL_law 685 = .ok (.iconst 1, 1) := by decide +kernel
theorem dL_law_686 : decode cL_law 686 = .ok (.iadd, 1) := by decide +kernel
theorem dL_law_687 : decode cL_law 687 = .ok (.iaload, 1) := by decide +kernel
theorem dL_law_688 : decode cL_law 688 = .ok (.aload_n 0, 1) := by decide +kernel
theorem dL_law_689 : decode cL_law 689 = .ok (.iload 4, 2) := by decide +kernel
theorem dL_law_691 : decode cL_law 691 = .ok (.iconst 2, 1) := by decide +kernel
theorem dL_law_692 : decode cL_law 692 = .ok (.iadd, 1) := by decide +kernel
theorem dL_law_693 : decode cL_law 693 = .ok (.iaload, 1) := by decide +kernel
theorem dL_law_694 : decode cL_law 694 = .ok (.invokevirtual 76, 3) := by decide +kernel
theorem dL_law_697 : decode cL_law 697 = .ok (.if_icmp .eq 758, 3) := by decide +kernel
theorem dL_law_700 : decode cL_law 700 = .ok (.iconst 0, 1) := by decide +kernel
theorem dL_law_701 : decode cL_law 701 = .ok (.ireturn, 1) := by decide +kernel
theorem dL_law_702 : decode cL_law 702 = .ok (.aload_n 1, 1) := by decide +kernel
theorem dL_law_703 : decode cL_law 703 = .ok (.invokevirtual 77, 3) := by decide +kernel
theorem dL_law_706 : decode cL_law 706 = .ok (.aload_n 2, 1) := by decide +kernel
theorem dL_law_707 : decode cL_law 707 = .ok (.invokevirtual 81, 3) := by decide +kernel
theorem dL_law_710 : decode cL_law 710 = .ok (.if_icmp .eq 745, 3) := by decide +kernel
theorem dL_law_713 : decode cL_law 713 = .ok (.iconst 0, 1) := by decide +kernel
theorem dL_law_714 : decode cL_law 714 = .ok (.ireturn, 1) := by decide +kernel
theorem dL_law_715 : decode cL_law 715 = .ok (.aload_n 1, 1) := by decide +kernel
theorem dL_law_716 : decode cL_law 716 = .ok (.aload_n 0, 1) := by decide +kernel
theorem dL_law_717 : decode cL_law 717 = .ok (.iload 4, 2) := by decide +kernel
theorem dL_law_719 : decode cL_law 719 = .ok (.iconst 1, 1) := by decide +kernel
theorem dL_law_720 : decode cL_law 720 = .ok (.iadd, 1) := by decide +kernel
theorem dL_law_721 : decode cL_law 721 = .ok (.iaload, 1) := by decide +kernel
theorem dL_law_722 : decode cL_law 722 = .ok (.invokevirtual 82, 3) := by decide +kernel
theorem dL_law_725 : decode cL_law 725 = .ok (.aload_n 2, 1) := by decide +kernel
theorem dL_law_726 : decode cL_law 726 = .ok (.aload_n 0, 1) := by decide +kernel
theorem dL_law_727 : decode cL_law 727 = .ok (.iload 4, 2) := by decide +kernel
theorem dL_law_729 : decode cL_law 729 = .ok (.iconst 1, 1) := by decide +kernel
theorem dL_law_730 : decode cL_law 730 = .ok (.iadd, 1) := by decide +kernel
theorem dL_law_731 : decode cL_law 731 = .ok (.iaload, 1) := by decide +kernel
theorem dL_law_732 : decode cL_law 732 = .ok (.invokevirtual 85, 3) := by decide +kernel
theorem dL_law_735 : decode cL_law 735 = .ok (.if_icmp .eq 720, 3) := by decide +kernel
theorem dL_law_738 : decode cL_law 738 = .ok (.iconst 0, 1) := by decide +kernel
theorem dL_law_739 : decode cL_law 739 = .ok (.ireturn, 1) := by decide +kernel
theorem dL_law_740 : decode cL_law 740 = .ok (.aload_n 1, 1) := by decide +kernel
theorem dL_law_741 : decode cL_law 741 = .ok (.aload_n 0, 1) := by decide +kernel
theorem dL_law_742 : decode cL_law 742 = .ok (.iload 4, 2) := by decide +kernel
theorem dL_law_744 : decode cL_law 744 = .ok (.iconst 1, 1) := by decide +kernel
theorem dL_law_745 : decode cL_law 745 = .ok (.iadd, 1) := by decide +kernel
theorem dL_law_746 : decode cL_law 746 = .ok (.iaload, 1) := by decide +kernel
theorem dL_law_747 : decode cL_law 747 = .ok (.invokevirtual 86, 3) := by decide +kernel
theorem dL_law_750 : decode cL_law 750 = .ok (.aload_n 2, 1) := by decide +kernel
theorem dL_law_751 : decode cL_law 751 = .ok (.aload_n 0, 1) := by decide +kernel
theorem dL_law_752 : decode cL_law 752 = .ok (.iload 4, 2) := by decide +kernel
theorem dL_law_754 : decode cL_law 754 = .ok (.iconst 1, 1) := by decide +kernel
theorem dL_law_755 : decode cL_law 755 = .ok (.iadd, 1) := by decide +kernel
theorem dL_law_756 : decode cL_law 756 = .ok (.iaload, 1) := by decide +kernel
theorem dL_law_757 : decode cL_law 757 = .ok (.invokevirtual 89, 3) := by decide +kernel
theorem dL_law_760 : decode cL_law 760 = .ok (.if_icmp .eq 695, 3) := by decide +kernel
theorem dL_law_763 : decode cL_law 763 = .ok (.iconst 0, 1) := by decide +kernel
theorem dL_law_764 : decode cL_law 764 = .ok (.ireturn, 1) := by decide +kernel
theorem dL_law_765 : decode cL_law 765 = .ok (.aload_n 1, 1) := by decide +kernel
theorem dL_law_766 : decode cL_law 766 = .ok (.aload_n 0, 1) := by decide +kernel
theorem dL_law_767 : decode cL_law 767 = .ok (.iload 4, 2) := by decide +kernel
theorem dL_law_769 : decode cL_law 769 = .ok (.iconst 1, 1) := by decide +kernel
theorem dL_law_770 : decode cL_law 770 = .ok (.iadd, 1) := by decide +kernel
theorem dL_law_771 : decode cL_law 771 = .ok (.iaload, 1) := by decide +kernel
theorem dL_law_772 : decode cL_law 772 = .ok (.aload_n 0, 1) := by decide +kernel
theorem dL_law_773 : decode cL_law 773 = .ok (.iload 4, 2) := by decide +kernel
theorem dL_law_775 : decode cL_law 775 = .ok (.iconst 2, 1) := by decide +kernel
theorem dL_law_776 : decode cL_law 776 = .ok (.iadd, 1) := by decide +kernel
theorem dL_law_777 : decode cL_law 777 = .ok (.iaload, 1) := by decide +kernel
theorem dL_law_778 : decode cL_law 778 = .ok (.aload_n 3, 1) := by decide +kernel
theorem dL_law_779 : decode cL_law 779 = .ok (.invokestatic 90, 3) := by decide +kernel
theorem dL_law_782 : decode cL_law 782 = .ok (.istore 5, 2) := by decide +kernel
theorem dL_law_784 : decode cL_law 784 = .ok (.aload_n 2, 1) := by decide +kernel
theorem dL_law_785 : decode cL_law 785 = .ok (.aload_n 0, 1) := by decide +kernel
theorem dL_law_786 : decode cL_law 786 = .ok (.iload 4, 2) := by decide +kernel
theorem dL_law_788 : decode cL_law 788 = .ok (.iconst 1, 1) := by decide +kernel
theorem dL_law_789 : decode cL_law 789 = .ok (.iadd, 1) := by decide +kernel
theorem dL_law_790 : decode cL_law 790 = .ok (.iaload, 1) := by decide +kernel
theorem dL_law_791 : decode cL_law 791 = .ok (.aload_n 0, 1) := by decide +kernel
theorem dL_law_792 : decode cL_law 792 = .ok (.iload 4, 2) := by decide +kernel
theorem dL_law_794 : decode cL_law 794 = .ok (.iconst 2, 1) := by decide +kernel
theorem dL_law_795 : decode cL_law 795 = .ok (.iadd, 1) := by decide +kernel
theorem dL_law_796 : decode cL_law 796 = .ok (.iaload, 1) := by decide +kernel
theorem dL_law_797 : decode cL_law 797 = .ok (.invokevirtual 95, 3) := by decide +kernel
theorem dL_law_800 : decode cL_law 800 = .ok (.istore 6, 2) := by decide +kernel
theorem dL_law_802 : decode cL_law 802 = .ok (.aload_n 2, 1) := by decide +kernel
theorem dL_law_803 : decode cL_law 803 = .ok (.invokevirtual 96, 3) := by decide +kernel
theorem dL_law_806 : decode cL_law 806 = .ok (.iload 5, 2) := by decide +kernel
theorem dL_law_808 : decode cL_law 808 = .ok (.if_icmp .eq 5, 3) := by decide +kernel
theorem dL_law_811 : decode cL_law 811 = .ok (.iconst 0, 1) := by decide +kernel
theorem dL_law_812 : decode cL_law 812 = .ok (.ireturn, 1) := by decide +kernel
theorem dL_law_813 : decode cL_law 813 = .ok (.iload 5, 2) := by decide +kernel
theorem dL_law_815 : decode cL_law 815 = .ok (.ifCond .ne 15, 3) := by decide +kernel
theorem dL_law_818 : decode cL_law 818 = .ok (.aload_n 3, 1) := by decide +kernel
theorem dL_law_819 : decode cL_law 819 = .ok (.iconst 0, 1) := by decide +kernel
theorem dL_law_820 : decode cL_law 820 = .ok (.laload, 1) := by decide +kernel
theorem dL_law_821 : decode cL_law 821 = .ok (.iload 6, 2) := by decide +kernel
theorem dL_law_823 : decode cL_law 823 = .ok (.i2l, 1) := by decide +kernel
theorem dL_law_824 : decode cL_law 824 = .ok (.lcmp, 1) := by decide +kernel
theorem dL_law_825 : decode cL_law 825 = .ok (.ifCond .eq 5, 3) := by decide +kernel
theorem dL_law_828 : decode cL_law 828 = .ok (.iconst 0, 1) := by decide +kernel
theorem dL_law_829 : decode cL_law 829 = .ok (.ireturn, 1) := by decide +kernel
theorem dL_law_830 : decode cL_law 830 = .ok (.goto 625, 3) := by decide +kernel
theorem dL_law_833 : decode cL_law 833 = .ok (.aload_n 1, 1) := by decide +kernel
theorem dL_law_834 : decode cL_law 834 = .ok (.aload_n 0, 1) := by decide +kernel
theorem dL_law_835 : decode cL_law 835 = .ok (.iload 4, 2) := by decide +kernel
theorem dL_law_837 : decode cL_law 837 = .ok (.iconst 1, 1) := by decide +kernel
theorem dL_law_838 : decode cL_law 838 = .ok (.iadd, 1) := by decide +kernel
theorem dL_law_839 : decode cL_law 839 = .ok (.iaload, 1) := by decide +kernel
theorem dL_law_840 : decode cL_law 840 = .ok (.aload_n 0, 1) := by decide +kernel
theorem dL_law_841 : decode cL_law 841 = .ok (.iload 4, 2) := by decide +kernel
theorem dL_law_843 : decode cL_law 843 = .ok (.iconst 2, 1) := by decide +kernel
theorem dL_law_844 : decode cL_law 844 = .ok (.iadd, 1) := by decide +kernel
theorem dL_law_845 : decode cL_law 845 = .ok (.iaload, 1) := by decide +kernel
theorem dL_law_846 : decode cL_law 846 = .ok (.aload_n 3, 1) := by decide +kernel
theorem dL_law_847 : decode cL_law 847 = .ok (.invokestatic 99, 3) := by decide +kernel
theorem dL_law_850 : decode cL_law 850 = .ok (.istore 5, 2) := by decide +kernel
theorem dL_law_852 : decode cL_law 852 = .ok (.aload_n 2, 1) := by decide +kernel
theorem dL_law_853 : decode cL_law 853 = .ok (.aload_n 0, 1) := by decide +kernel
theorem dL_law_854 : decode cL_law 854 = .ok (.iload 4, 2) := by decide +kernel
theorem dL_law_856 : decode cL_law 856 = .ok (.iconst 1, 1) := by decide +kernel
theorem dL_law_857 : decode cL_law 857 = .ok (.iadd, 1) := by decide +kernel
theorem dL_law_858 : decode cL_law 858 = .ok (.iaload, 1) := by decide +kernel
theorem dL_law_859 : decode cL_law 859 = .ok (.aload_n 0, 1) := by decide +kernel
theorem dL_law_860 : decode cL_law 860 = .ok (.iload 4, 2) := by decide +kernel
theorem dL_law_862 : decode cL_law 862 = .ok (.iconst 2, 1) := by decide +kernel
theorem dL_law_863 : decode cL_law 863 = .ok (.iadd, 1) := by decide +kernel
theorem dL_law_864 : decode cL_law 864 = .ok (.iaload, 1) := by decide +kernel
theorem dL_law_865 : decode cL_law 865 = .ok (.invokevirtual 101, 3) := by decide +kernel
theorem dL_law_868 : decode cL_law 868 = .ok (.istore 6, 2) := by decide +kernel
theorem dL_law_870 : decode cL_law 870 = .ok (.aload_n 2, 1) := by decide +kernel
theorem dL_law_871 : decode cL_law 871 = .ok (.invokevirtual 96, 3) := by decide +kernel
theorem dL_law_874 : decode cL_law 874 = .ok (.iload 5, 2) := by decide +kernel
theorem dL_law_876 : decode cL_law 876 = .ok (.if_icmp .eq 5, 3) := by decide +kernel
theorem dL_law_879 : decode cL_law 879 = .ok (.iconst 0, 1) := by decide +kernel
theorem dL_law_880 : decode cL_law 880 = .ok (.ireturn, 1) := by decide +kernel
theorem dL_law_881 : decode cL_law 881 = .ok (.iload 5, 2) := by decide +kernel
theorem dL_law_883 : decode cL_law 883 = .ok (.ifCond .ne 15, 3) := by decide +kernel
theorem dL_law_886 : decode cL_law 886 = .ok (.aload_n 3, 1) := by decide +kernel
theorem dL_law_887 : decode cL_law 887 = .ok (.iconst 0, 1) := by decide +kernel
theorem dL_law_888 : decode cL_law 888 = .ok (.laload, 1) := by decide +kernel
theorem dL_law_889 : decode cL_law 889 = .ok (.iload 6, 2) := by decide +kernel
theorem dL_law_891 : decode cL_law 891 = .ok (.i2l, 1) := by decide +kernel
theorem dL_law_892 : decode cL_law 892 = .ok (.lcmp, 1) := by decide +kernel
theorem dL_law_893 : decode cL_law 893 = .ok (.ifCond .eq 5, 3) := by decide +kernel
theorem dL_law_896 : decode cL_law 896 = .ok (.iconst 0, 1) := by decide +kernel
theorem dL_law_897 : decode cL_law 897 = .ok (.ireturn, 1) := by decide +kernel
theorem dL_law_898 : decode cL_law 898 = .ok (.goto 557, 3) := by decide +kernel
theorem dL_law_901 : decode cL_law 901 = .ok (.aload_n 1, 1) := by decide +kernel
theorem dL_law_902 : decode cL_law 902 = .ok (.aload_n 0, 1) := by decide +kernel
theorem dL_law_903 : decode cL_law 903 = .ok (.iload 4, 2) := by decide +kernel
theorem dL_law_905 : decode cL_law 905 = .ok (.iconst 1, 1) := by decide +kernel
theorem dL_law_906 : decode cL_law 906 = .ok (.iadd, 1) := by decide +kernel
theorem dL_law_907 : decode cL_law 907 = .ok (.iaload, 1) := by decide +kernel
theorem dL_law_908 : decode cL_law 908 = .ok (.invokevirtual 102, 3) := by decide +kernel
theorem dL_law_911 : decode cL_law 911 = .ok (.aload_n 2, 1) := by decide +kernel
theorem dL_law_912 : decode cL_law 912 = .ok (.aload_n 0, 1) := by decide +kernel
theorem dL_law_913 : decode cL_law 913 = .ok (.iload 4, 2) := by decide +kernel
theorem dL_law_915 : decode cL_law 915 = .ok (.iconst 1, 1) := by decide +kernel
theorem dL_law_916 : decode cL_law 916 = .ok (.iadd, 1) := by decide +kernel
theorem dL_law_917 : decode cL_law 917 = .ok (.iaload, 1) := by decide +kernel
theorem dL_law_918 : decode cL_law 918 = .ok (.invokevirtual 105, 3) := by decide +kernel
theorem dL_law_921 : decode cL_law 921 = .ok (.if_icmp .eq 534, 3) := by decide +kernel
theorem dL_law_924 : decode cL_law 924 = .ok (.iconst 0, 1) := by decide +kernel
theorem dL_law_925 : decode cL_law 925 = .ok (.ireturn, 1) := by decide +kernel
theorem dL_law_926 : decode cL_law 926 = .ok (.aload_n 1, 1) := by decide +kernel
theorem dL_law_927 : decode cL_law 927 = .ok (.aload_n 0, 1) := by decide +kernel
theorem dL_law_928 : decode cL_law 928 = .ok (.iload 4, 2) := by decide +kernel
theorem dL_law_930 : decode cL_law 930 = .ok (.iconst 1, 1) := by decide +kernel
theorem dL_law_931 : decode cL_law 931 = .ok (.iadd, 1) := by decide +kernel
theorem dL_law_932 : decode cL_law 932 = .ok (.iaload, 1) := by decide +kernel
theorem dL_law_933 : decode cL_law 933 = .ok (.invokevirtual 106, 3) := by decide +kernel
theorem dL_law_936 : decode cL_law 936 = .ok (.aload_n 2, 1) := by decide +kernel
theorem dL_law_937 : decode cL_law 937 = .ok (.aload_n 0, 1) := by decide +kernel
theorem dL_law_938 : decode cL_law 938 = .ok (.iload 4, 2) := by decide +kernel
theorem dL_law_940 : decode cL_law 940 = .ok (.iconst 1, 1) := by decide +kernel
theorem dL_law_941 : decode cL_law 941 = .ok (.iadd, 1) := by decide +kernel
theorem dL_law_942 : decode cL_law 942 = .ok (.iaload, 1) := by decide +kernel
theorem dL_law_943 : decode cL_law 943 = .ok (.invokevirtual 109, 3) := by decide +kernel
theorem dL_law_946 : decode cL_law 946 = .ok (.if_icmp .eq 509, 3) := by decide +kernel
theorem dL_law_949 : decode cL_law 949 = .ok (.iconst 0, 1) := by decide +kernel
theorem dL_law_950 : decode cL_law 950 = .ok (.ireturn, 1) := by decide +kernel
theorem dL_law_951 : decode cL_law 951 = .ok (.aload_n 1, 1) := by decide +kernel
theorem dL_law_952 : decode cL_law 952 = .ok (.aload_n 0, 1) := by decide +kernel
theorem dL_law_953 : decode cL_law 953 = .ok (.iload 4, 2) := by decide +kernel
theorem dL_law_955 : decode cL_law 955 = .ok (.iconst 1, 1) := by decide +kernel
theorem dL_law_956 : decode cL_law 956 = .ok (.iadd, 1) := by decide +kernel
theorem dL_law_957 : decode cL_law 957 = .ok (.iaload, 1) := by decide +kernel
theorem dL_law_958 : decode cL_law 958 = .ok (.aload_n 0, 1) := by decide +kernel
theorem dL_law_959 : decode cL_law 959 = .ok (.iload 4, 2) := by decide +kernel
theorem dL_law_961 : decode cL_law 961 = .ok (.iconst 2, 1) := by decide +kernel
theorem dL_law_962 : decode cL_law 962 = .ok (.iadd, 1) := by decide +kernel
theorem dL_law_963 : decode cL_law 963 = .ok (.iaload, 1) := by decide +kernel
theorem dL_law_964 : decode cL_law 964 = .ok (.invokevirtual 110, 3) := by decide +kernel
theorem dL_law_967 : decode cL_law 967 = .ok (.aload_n 2, 1) := by decide +kernel
theorem dL_law_968 : decode cL_law 968 = .ok (.aload_n 0, 1) := by decide +kernel
theorem dL_law_969 : decode cL_law 969 = .ok (.iload 4, 2) := by decide +kernel
theorem dL_law_971 : decode cL_law 971 = .ok (.iconst 1, 1) := by decide +kernel
theorem dL_law_972 : decode cL_law 972 = .ok (.iadd, 1) := by decide +kernel
theorem dL_law_973 : decode cL_law 973 = .ok (.iaload, 1) := by decide +kernel
theorem dL_law_974 : decode cL_law 974 = .ok (.aload_n 0, 1) := by decide +kernel
theorem dL_law_975 : decode cL_law 975 = .ok (.iload 4, 2) := by decide +kernel
theorem dL_law_977 : decode cL_law 977 = .ok (.iconst 2, 1) := by decide +kernel
theorem dL_law_978 : decode cL_law 978 = .ok (.iadd, 1) := by decide +kernel
theorem dL_law_979 : decode cL_law 979 = .ok (.iaload, 1) := by decide +kernel
theorem dL_law_980 : decode cL_law 980 = .ok (.invokevirtual 113, 3) := by decide +kernel
theorem dL_law_983 : decode cL_law 983 = .ok (.if_icmp .eq 472, 3) := by decide +kernel
theorem dL_law_986 : decode cL_law 986 = .ok (.iconst 0, 1) := by decide +kernel
theorem dL_law_987 : decode cL_law 987 = .ok (.ireturn, 1) := by decide +kernel
theorem dL_law_988 : decode cL_law 988 = .ok (.aload_n 1, 1) := by decide +kernel
theorem dL_law_989 : decode cL_law 989 = .ok (.aload_n 0, 1) := by decide +kernel
theorem dL_law_990 : decode cL_law 990 = .ok (.iload 4, 2) := by decide +kernel
theorem dL_law_992 : decode cL_law 992 = .ok (.iconst 1, 1) := by decide +kernel
theorem dL_law_993 : decode cL_law 993 = .ok (.iadd, 1) := by decide +kernel
theorem dL_law_994 : decode cL_law 994 = .ok (.iaload, 1) := by decide +kernel
theorem dL_law_995 : decode cL_law 995 = .ok (.aload_n 0, 1) := by decide +kernel
theorem dL_law_996 : decode cL_law 996 = .ok (.iload 4, 2) := by decide +kernel
theorem dL_law_998 : decode cL_law 998 = .ok (.iconst 2, 1) := by decide +kernel
theorem dL_law_999 : decode cL_law 999 = .ok (.iadd, 1) := by decide +kernel
theorem dL_law_1000 : decode cL_law 1000 = .ok (.iaload, 1) := by decide +kernel
theorem dL_law_1001 : decode cL_law 1001 = .ok (.invokevirtual 114, 3) := by decide +kernel
theorem dL_law_1004 : decode cL_law 1004 = .ok (.aload_n 2, 1) := by decide +kernel
theorem dL_law_1005 : decode cL_law 1005 = .ok (.aload_n 0, 1) := by decide +kernel
theorem dL_law_1006 : decode cL_law 1006 = .ok (.iload 4, 2) := by decide +kernel
theorem dL_law_1008 : decode cL_law 1008 = .ok (.iconst 1, 1) := by decide +kernel
theorem dL_law_1009 : decode cL_law 1009 = .ok (.iadd, 1) := by decide +kernel
theorem dL_law_1010 : decode cL_law 1010 = .ok (.iaload, 1) := by decide +kernel
theorem dL_law_1011 : decode cL_law 1011 = .ok (.aload_n 0, 1) := by decide +kernel
theorem dL_law_1012 : decode cL_law 1012 = .ok (.iload 4, 2) := by decide +kernel
theorem dL_law_1014 : decode cL_law 1014 = .ok (.iconst 2, 1) := by decide +kernel
theorem dL_law_1015 : decode cL_law 1015 = .ok (.iadd, 1) := by decide +kernel
theorem dL_law_1016 : decode cL_law 1016 = .ok (.iaload, 1) := by decide +kernel
theorem dL_law_1017 : decode cL_law 1017 = .ok (.invokevirtual 117, 3) := by decide +kernel
theorem dL_law_1020 : decode cL_law 1020 = .ok (.if_icmp .eq 435, 3) := by decide +kernel
theorem dL_law_1023 : decode cL_law 1023 = .ok (.iconst 0, 1) := by decide +kernel
theorem dL_law_1024 : decode cL_law 1024 = .ok (.ireturn, 1) := by decide +kernel
theorem dL_law_1025 : decode cL_law 1025 = .ok (.aload_n 1, 1) := by decide +kernel
theorem dL_law_1026 : decode cL_law 1026 = .ok (.aload_n 0, 1) := by decide +kernel
theorem dL_law_1027 : decode cL_law 1027 = .ok (.iload 4, 2) := by decide +kernel
theorem dL_law_1029 : decode cL_law 1029 = .ok (.iconst 1, 1) := by decide +kernel
theorem dL_law_1030 : decode cL_law 1030 = .ok (.iadd, 1) := by decide +kernel
theorem dL_law_1031 : decode cL_law 1031 = .ok (.iaload, 1) := by decide +kernel
theorem dL_law_1032 : decode cL_law 1032 = .ok (.aload_n 0, 1) := by decide +kernel
theorem dL_law_1033 : decode cL_law 1033 = .ok (.iload 4, 2) := by decide +kernel
theorem dL_law_1035 : decode cL_law 1035 = .ok (.iconst 2, 1) := by decide +kernel
theorem dL_law_1036 : decode cL_law 1036 = .ok (.iadd, 1) := by decide +kernel
theorem dL_law_1037 : decode cL_law 1037 = .ok (.iaload, 1) := by decide +kernel
theorem dL_law_1038 : decode cL_law 1038 = .ok (.invokevirtual 118, 3) := by decide +kernel
theorem dL_law_1041 : decode cL_law 1041 = .ok (.aload_n 2, 1) := by decide +kernel
theorem dL_law_1042 : decode cL_law 1042 = .ok (.aload_n 0, 1) := by decide +kernel
theorem dL_law_1043 : decode cL_law 1043 = .ok (.iload 4, 2) := by decide +kernel
theorem dL_law_1045 : decode cL_law 1045 = .ok (.iconst 1, 1) := by decide +kernel
theorem dL_law_1046 : decode cL_law 1046 = .ok (.iadd, 1) := by decide +kernel
theorem dL_law_1047 : decode cL_law 1047 = .ok (.iaload, 1) := by decide +kernel
theorem dL_law_1048 : decode cL_law 1048 = .ok (.aload_n 0, 1) := by decide +kernel
theorem dL_law_1049 : decode cL_law 1049 = .ok (.iload 4, 2) := by decide +kernel
theorem dL_law_1051 : decode cL_law 1051 = .ok (.iconst 2, 1) := by decide +kernel
theorem dL_law_1052 : decode cL_law 1052 = .ok (.iadd, 1) := by decide +kernel
theorem dL_law_1053 : decode cL_law 1053 = .ok (.iaload, 1) := by decide +kernel
theorem dL_law_1054 : decode cL_law 1054 = .ok (.invokevirtual 121, 3) := by decide +kernel
theorem dL_law_1057 : decode cL_law 1057 = .ok (.if_icmp .eq 398, 3) := by decide +kernel
theorem dL_law_1060 : decode cL_law 1060 = .ok (.iconst 0, 1) := by decide +kernel
theorem dL_law_1061 : decode cL_law 1061 = .ok (.ireturn, 1) := by decide +kernel
theorem dL_law_1062 : decode cL_law 1062 = .ok (.aload_n 1, 1) := by decide +kernel
theorem dL_law_1063 : decode cL_law 1063 = .ok (.aload_n 0, 1) := by decide +kernel
theorem dL_law_1064 : decode cL_law 1064 = .ok (.iload 4, 2) := by decide +kernel
theorem dL_law_1066 : decode cL_law 1066 = .ok (.iconst 1, 1) := by decide +kernel
theorem dL_law_1067 : decode cL_law 1067 = .ok (.iadd, 1) := by decide +kernel
theorem dL_law_1068 : decode cL_law 1068 = .ok (.iaload, 1) := by decide +kernel
theorem dL_law_1069 : decode cL_law 1069 = .ok (.invokevirtual 122, 3) := by decide +kernel
theorem dL_law_1072 : decode cL_law 1072 = .ok (.aload_n 2, 1) := by decide +kernel
theorem dL_law_1073 : decode cL_law 1073 = .ok (.aload_n 0, 1) := by decide +kernel
theorem dL_law_1074 : decode cL_law 1074 = .ok (.iload 4, 2) := by decide +kernel
theorem dL_law_1076 : decode cL_law 1076 = .ok (.iconst 1, 1) := by decide +kernel
theorem dL_law_1077 : decode cL_law 1077 = .ok (.iadd, 1) := by decide +kernel
theorem dL_law_1078 : decode cL_law 1078 = .ok (.iaload, 1) := by decide +kernel
theorem dL_law_1079 : decode cL_law 1079 = .ok (.invokevirtual 125, 3) := by decide +kernel
theorem dL_law_1082 : decode cL_law 1082 = .ok (.if_icmp .eq 373, 3) := by decide +kernel
theorem dL_law_1085 : decode cL_law 1085 = .ok (.iconst 0, 1) := by decide +kernel
theorem dL_law_1086 : decode cL_law 1086 = .ok (.ireturn, 1) := by decide +kernel
theorem dL_law_1087 : decode cL_law 1087 = .ok (.aload_n 1, 1) := by decide +kernel
theorem dL_law_1088 : decode cL_law 1088 = .ok (.aload_n 0, 1) := by decide +kernel
theorem dL_law_1089 : decode cL_law 1089 = .ok (.iload 4, 2) := by decide +kernel
theorem dL_law_1091 : decode cL_law 1091 = .ok (.iconst 1, 1) := by decide +kernel
theorem dL_law_1092 : decode cL_law 1092 = .ok (.iadd, 1) := by decide +kernel
theorem dL_law_1093 : decode cL_law 1093 = .ok (.iaload, 1) := by decide +kernel
theorem dL_law_1094 : decode cL_law 1094 = .ok (.invokevirtual 126, 3) := by decide +kernel
theorem dL_law_1097 : decode cL_law 1097 = .ok (.aload_n 2, 1) := by decide +kernel
theorem dL_law_1098 : decode cL_law 1098 = .ok (.aload_n 0, 1) := by decide +kernel
theorem dL_law_1099 : decode cL_law 1099 = .ok (.iload 4, 2) := by decide +kernel
theorem dL_law_1101 : decode cL_law 1101 = .ok (.iconst 1, 1) := by decide +kernel
theorem dL_law_1102 : decode cL_law 1102 = .ok (.iadd, 1) := by decide +kernel
theorem dL_law_1103 : decode cL_law 1103 = .ok (.iaload, 1) := by decide +kernel
theorem dL_law_1104 : decode cL_law 1104 = .ok (.invokevirtual 129, 3) := by decide +kernel
theorem dL_law_1107 : decode cL_law 1107 = .ok (.if_icmp .eq 348, 3) := by decide +kernel
theorem dL_law_1110 : decode cL_law 1110 = .ok (.iconst 0, 1) := by decide +kernel
theorem dL_law_1111 : decode cL_law 1111 = .ok (.ireturn, 1) := by decide +kernel
theorem dL_law_1112 : decode cL_law 1112 = .ok (.aload_n 1, 1) := by decide +kernel
theorem dL_law_1113 : decode cL_law 1113 = .ok (.aload_n 0, 1) := by decide +kernel
theorem dL_law_1114 : decode cL_law 1114 = .ok (.iload 4, 2) := by decide +kernel
theorem dL_law_1116 : decode cL_law 1116 = .ok (.iconst 1, 1) := by decide +kernel
theorem dL_law_1117 : decode cL_law 1117 = .ok (.iadd, 1) := by decide +kernel
theorem dL_law_1118 : decode cL_law 1118 = .ok (.iaload, 1) := by decide +kernel
theorem dL_law_1119 : decode cL_law 1119 = .ok (.invokevirtual 130, 3) := by decide +kernel
theorem dL_law_1122 : decode cL_law 1122 = .ok (.aload_n 2, 1) := by decide +kernel
theorem dL_law_1123 : decode cL_law 1123 = .ok (.aload_n 0, 1) := by decide +kernel
theorem dL_law_1124 : decode cL_law 1124 = .ok (.iload 4, 2) := by decide +kernel
theorem dL_law_1126 : decode cL_law 1126 = .ok (.iconst 1, 1) := by decide +kernel
theorem dL_law_1127 : decode cL_law 1127 = .ok (.iadd, 1) := by decide +kernel
theorem dL_law_1128 : decode cL_law 1128 = .ok (.iaload, 1) := by decide +kernel
theorem dL_law_1129 : decode cL_law 1129 = .ok (.invokevirtual 133, 3) := by decide +kernel
theorem dL_law_1132 : decode cL_law 1132 = .ok (.if_icmp .eq 323, 3) := by decide +kernel
theorem dL_law_1135 : decode cL_law 1135 = .ok (.iconst 0, 1) := by decide +kernel
theorem dL_law_1136 : decode cL_law 1136 = .ok (.ireturn, 1) := by decide +kernel
theorem dL_law_1137 : decode cL_law 1137 = .ok (.aload_n 1, 1) := by decide +kernel
theorem dL_law_1138 : decode cL_law 1138 = .ok (.aload_n 0, 1) := by decide +kernel
theorem dL_law_1139 : decode cL_law 1139 = .ok (.iload 4, 2) := by decide +kernel
theorem dL_law_1141 : decode cL_law 1141 = .ok (.iconst 1, 1) := by decide +kernel
theorem dL_law_1142 : decode cL_law 1142 = .ok (.iadd, 1) := by decide +kernel
theorem dL_law_1143 : decode cL_law 1143 = .ok (.iaload, 1) := by decide +kernel
theorem dL_law_1144 : decode cL_law 1144 = .ok (.invokevirtual 134, 3) := by decide +kernel
theorem dL_law_1147 : decode cL_law 1147 = .ok (.aload_n 2, 1) := by decide +kernel
theorem dL_law_1148 : decode cL_law 1148 = .ok (.aload_n 0, 1) := by decide +kernel
theorem dL_law_1149 : decode cL_law 1149 = .ok (.iload 4, 2) := by decide +kernel
theorem dL_law_1151 : decode cL_law 1151 = .ok (.iconst 1, 1) := by decide +kernel
theorem dL_law_1152 : decode cL_law 1152 = .ok (.iadd, 1) := by decide +kernel
theorem dL_law_1153 : decode cL_law 1153 = .ok (.iaload, 1) := by decide +kernel
theorem dL_law_1154 : decode cL_law 1154 = .ok (.invokevirtual 137, 3) := by decide +kernel
theorem dL_law_1157 : decode cL_law 1157 = .ok (.if_icmp .eq 298, 3) := by decide +kernel
theorem dL_law_1160 : decode cL_law 1160 = .ok (.iconst 0, 1) := by decide +kernel
theorem dL_law_1161 : decode cL_law 1161 = .ok (.ireturn, 1) := by decide +kernel
theorem dL_law_1162 : decode cL_law 1162 = .ok (.aload_n 1, 1) := by decide +kernel
theorem dL_law_1163 : decode cL_law 1163 = .ok (.aload_n 0, 1) := by decide +kernel
theorem dL_law_1164 : decode cL_law 1164 = .ok (.iload 4, 2) := by decide +kernel
theorem dL_law_1166 : decode cL_law 1166 = .ok (.iconst 1, 1) := by decide +kernel
theorem dL_law_1167 : decode cL_law 1167 = .ok (.iadd, 1) := by decide +kernel
theorem dL_law_1168 : decode cL_law 1168 = .ok (.iaload, 1) := by decide +kernel
theorem dL_law_1169 : decode cL_law 1169 = .ok (.invokevirtual 138, 3) := by decide +kernel
theorem dL_law_1172 : decode cL_law 1172 = .ok (.aload_n 2, 1) := by decide +kernel
theorem dL_law_1173 : decode cL_law 1173 = .ok (.aload_n 0, 1) := by decide +kernel
theorem dL_law_1174 : decode cL_law 1174 = .ok (.iload 4, 2) := by decide +kernel
theorem dL_law_1176 : decode cL_law 1176 = .ok (.iconst 1, 1) := by decide +kernel
theorem dL_law_1177 : decode cL_law 1177 = .ok (.iadd, 1) := by decide +kernel
theorem dL_law_1178 : decode cL_law 1178 = .ok (.iaload, 1) := by decide +kernel
theorem dL_law_1179 : decode cL_law 1179 = .ok (.invokevirtual 141, 3) := by decide +kernel
theorem dL_law_1182 : decode cL_law 1182 = .ok (.if_icmp .eq 273, 3) := by decide +kernel
theorem dL_law_1185 : decode cL_law 1185 = .ok (.iconst 0, 1) := by decide +kernel
theorem dL_law_1186 : decode cL_law 1186 = .ok (.ireturn, 1) := by decide +kernel
theorem dL_law_1187 : decode cL_law 1187 = .ok (.aload_n 1, 1) := by decide +kernel
theorem dL_law_1188 : decode cL_law 1188 = .ok (.aload_n 0, 1) := by decide +kernel
theorem dL_law_1189 : decode cL_law 1189 = .ok (.iload 4, 2) := by decide +kernel
theorem dL_law_1191 : decode cL_law 1191 = .ok (.iconst 1, 1) := by decide +kernel
theorem dL_law_1192 : decode cL_law 1192 = .ok (.iadd, 1) := by decide +kernel
theorem dL_law_1193 : decode cL_law 1193 = .ok (.iaload, 1) := by decide +kernel
theorem dL_law_1194 : decode cL_law 1194 = .ok (.invokevirtual 142, 3) := by decide +kernel
theorem dL_law_1197 : decode cL_law 1197 = .ok (.aload_n 2, 1) := by decide +kernel
theorem dL_law_1198 : decode cL_law 1198 = .ok (.aload_n 0, 1) := by decide +kernel
theorem dL_law_1199 : decode cL_law 1199 = .ok (.iload 4, 2) := by decide +kernel
theorem dL_law_1201 : decode cL_law 1201 = .ok (.iconst 1, 1) := by decide +kernel
theorem dL_law_1202 : decode cL_law 1202 = .ok (.iadd, 1) := by decide +kernel
theorem dL_law_1203 : decode cL_law 1203 = .ok (.iaload, 1) := by decide +kernel
theorem dL_law_1204 : decode cL_law 1204 = .ok (.invokevirtual 146, 3) := by decide +kernel
theorem dL_law_1207 : decode cL_law 1207 = .ok (.if_icmp .eq 248, 3) := by decide +kernel
theorem dL_law_1210 : decode cL_law 1210 = .ok (.iconst 0, 1) := by decide +kernel
theorem dL_law_1211 : decode cL_law 1211 = .ok (.ireturn, 1) := by decide +kernel
theorem dL_law_1212 : decode cL_law 1212 = .ok (.aload_n 1, 1) := by decide +kernel
theorem dL_law_1213 : decode cL_law 1213 = .ok (.aload_n 0, 1) := by decide +kernel
theorem dL_law_1214 : decode cL_law 1214 = .ok (.iload 4, 2) := by decide +kernel
theorem dL_law_1216 : decode cL_law 1216 = .ok (.iconst 1, 1) := by decide +kernel
theorem dL_law_1217 : decode cL_law 1217 = .ok (.iadd, 1) := by decide +kernel
theorem dL_law_1218 : decode cL_law 1218 = .ok (.iaload, 1) := by decide +kernel
theorem dL_law_1219 : decode cL_law 1219 = .ok (.invokevirtual 147, 3) := by decide +kernel
theorem dL_law_1222 : decode cL_law 1222 = .ok (.aload_n 2, 1) := by decide +kernel
theorem dL_law_1223 : decode cL_law 1223 = .ok (.aload_n 0, 1) := by decide +kernel
theorem dL_law_1224 : decode cL_law 1224 = .ok (.iload 4, 2) := by decide +kernel
theorem dL_law_1226 : decode cL_law 1226 = .ok (.iconst 1, 1) := by decide +kernel
theorem dL_law_1227 : decode cL_law 1227 = .ok (.iadd, 1) := by decide +kernel
theorem dL_law_1228 : decode cL_law 1228 = .ok (.iaload, 1) := by decide +kernel
theorem dL_law_1229 : decode cL_law 1229 = .ok (.invokevirtual 150, 3) := by decide +kernel
theorem dL_law_1232 : decode cL_law 1232 = .ok (.if_icmp .eq 223, 3) := by decide +kernel
theorem dL_law_1235 : decode cL_law 1235 = .ok (.iconst 0, 1) := by decide +kernel
theorem dL_law_1236 : decode cL_law 1236 = .ok (.ireturn, 1) := by decide +kernel
theorem dL_law_1237 : decode cL_law 1237 = .ok (.aload_n 1, 1) := by decide +kernel
theorem dL_law_1238 : decode cL_law 1238 = .ok (.aload_n 0, 1) := by decide +kernel
theorem dL_law_1239 : decode cL_law 1239 = .ok (.iload 4, 2) := by decide +kernel
theorem dL_law_1241 : decode cL_law 1241 = .ok (.iconst 1, 1) := by decide +kernel
theorem dL_law_1242 : decode cL_law 1242 = .ok (.iadd, 1) := by decide +kernel
theorem dL_law_1243 : decode cL_law 1243 = .ok (.iaload, 1) := by decide +kernel
theorem dL_law_1244 : decode cL_law 1244 = .ok (.aload_n 0, 1) := by decide +kernel
theorem dL_law_1245 : decode cL_law 1245 = .ok (.iload 4, 2) := by decide +kernel
theorem dL_law_1247 : decode cL_law 1247 = .ok (.iconst 2, 1) := by decide +kernel
theorem dL_law_1248 : decode cL_law 1248 = .ok (.iadd, 1) := by decide +kernel
theorem dL_law_1249 : decode cL_law 1249 = .ok (.iaload, 1) := by decide +kernel
theorem dL_law_1250 : decode cL_law 1250 = .ok (.aload_n 0, 1) := by decide +kernel
theorem dL_law_1251 : decode cL_law 1251 = .ok (.iload 4, 2) := by decide +kernel
theorem dL_law_1253 : decode cL_law 1253 = .ok (.iconst 3, 1) := by decide +kernel
theorem dL_law_1254 : decode cL_law 1254 = .ok (.iadd, 1) := by decide +kernel
theorem dL_law_1255 : decode cL_law 1255 = .ok (.iaload, 1) := by decide +kernel
theorem dL_law_1256 : decode cL_law 1256 = .ok (.ifCond .eq 7, 3) := by decide +kernel
theorem dL_law_1259 : decode cL_law 1259 = .ok (.iconst 1, 1) := by decide +kernel
theorem dL_law_1260 : decode cL_law 1260 = .ok (.goto 4, 3) := by decide +kernel
theorem dL_law_1263 : decode cL_law 1263 = .ok (.iconst 0, 1) := by decide +kernel
theorem dL_law_1264 : decode cL_law 1264 = .ok (.invokevirtual 151, 3) := by decide +kernel
theorem dL_law_1267 : decode cL_law 1267 = .ok (.aload_n 2, 1) := by decide +kernel
theorem dL_law_1268 : decode cL_law 1268 = .ok (.aload_n 0, 1) := by decide +kernel
theorem dL_law_1269 : decode cL_law 1269 = .ok (.iload 4, 2) := by decide +kernel
theorem dL_law_1271 : decode cL_law 1271 = .ok (.iconst 1, 1) := by decide +kernel
theorem dL_law_1272 : decode cL_law 1272 = .ok (.iadd, 1) := by decide +kernel
theorem dL_law_1273 : decode cL_law 1273 = .ok (.iaload, 1) := by decide +kernel
theorem dL_law_1274 : decode cL_law 1274 = .ok (.aload_n 0, 1) := by decide +kernel
theorem dL_law_1275 : decode cL_law 1275 = .ok (.iload 4, 2) := by decide +kernel
theorem dL_law_1277 : decode cL_law 1277 = .ok (.iconst 2, 1) := by decide +kernel
theorem dL_law_1278 : decode cL_law 1278 = .ok (.iadd, 1) := by decide +kernel
theorem dL_law_1279 : decode cL_law 1279 = .ok (.iaload, 1) := by decide +kernel
theorem dL_law_1280 : decode cL_law 1280 = .ok (.aload_n 0, 1) := by decide +kernel
theorem dL_law_1281 : decode cL_law 1281 = .ok (.iload 4, 2) := by decide +kernel
theorem dL_law_1283 : decode cL_law 1283 = .ok (.iconst 3, 1) := by decide +kernel
theorem dL_law_1284 : decode cL_law 1284 = .ok (.iadd, 1) := by decide +kernel
theorem dL_law_1285 : decode cL_law 1285 = .ok (.iaload, 1) := by decide +kernel
theorem dL_law_1286 : decode cL_law 1286 = .ok (.ifCond .eq 7, 3) := by decide +kernel
theorem dL_law_1289 : decode cL_law 1289 = .ok (.iconst 1, 1) := by decide +kernel
theorem dL_law_1290 : decode cL_law 1290 = .ok (.goto 4, 3) := by decide +kernel
theorem dL_law_1293 : decode cL_law 1293 = .ok (.iconst 0, 1) := by decide +kernel
theorem dL_law_1294 : decode cL_law 1294 = .ok (.invokevirtual 155, 3) := by decide +kernel
theorem dL_law_1297 : decode cL_law 1297 = .ok (.if_icmp .eq 158, 3) := by decide +kernel
theorem dL_law_1300 : decode cL_law 1300 = .ok (.iconst 0, 1) := by decide +kernel
theorem dL_law_1301 : decode cL_law 1301 = .ok (.ireturn, 1) := by decide +kernel
theorem dL_law_1302 : decode cL_law 1302 = .ok (.aload_n 1, 1) := by decide +kernel
theorem dL_law_1303 : decode cL_law 1303 = .ok (.invokevirtual 156, 3) := by decide +kernel
theorem dL_law_1306 : decode cL_law 1306 = .ok (.aload_n 2, 1) := by decide +kernel
theorem dL_law_1307 : decode cL_law 1307 = .ok (.invokevirtual 159, 3) := by decide +kernel
theorem dL_law_1310 : decode cL_law 1310 = .ok (.if_icmp .eq 145, 3) := by decide +kernel
theorem dL_law_1313 : decode cL_law 1313 = .ok (.iconst 0, 1) := by decide +kernel
theorem dL_law_1314 : decode cL_law 1314 = .ok (.ireturn, 1) := by decide +kernel
theorem dL_law_1315 : decode cL_law 1315 = .ok (.aload_n 1, 1) := by decide +kernel
theorem dL_law_1316 : decode cL_law 1316 = .ok (.invokevirtual 160, 3) := by decide +kernel
theorem dL_law_1319 : decode cL_law 1319 = .ok (.aload_n 2, 1) := by decide +kernel
theorem dL_law_1320 : decode cL_law 1320 = .ok (.invokevirtual 163, 3) := by decide +kernel
theorem dL_law_1323 : decode cL_law 1323 = .ok (.if_icmp .eq 132, 3) := by decide +kernel
theorem dL_law_1326 : decode cL_law 1326 = .ok (.iconst 0, 1) := by decide +kernel
theorem dL_law_1327 : decode cL_law 1327 = .ok (.ireturn, 1) := by decide +kernel
theorem dL_law_1328 : decode cL_law 1328 = .ok (.aload_n 1, 1) := by decide +kernel
theorem dL_law_1329 : decode cL_law 1329 = .ok (.aload_n 0, 1) := by decide +kernel
theorem dL_law_1330 : decode cL_law 1330 = .ok (.iload 4, 2) := by decide +kernel
theorem dL_law_1332 : decode cL_law 1332 = .ok (.iconst 1, 1) := by decide +kernel
theorem dL_law_1333 : decode cL_law 1333 = .ok (.iadd, 1) := by decide +kernel
theorem dL_law_1334 : decode cL_law 1334 = .ok (.iaload, 1) := by decide +kernel
theorem dL_law_1335 : decode cL_law 1335 = .ok (.aload_n 0, 1) := by decide +kernel
theorem dL_law_1336 : decode cL_law 1336 = .ok (.iload 4, 2) := by decide +kernel
theorem dL_law_1338 : decode cL_law 1338 = .ok (.iconst 2, 1) := by decide +kernel
theorem dL_law_1339 : decode cL_law 1339 = .ok (.iadd, 1) := by decide +kernel
theorem dL_law_1340 : decode cL_law 1340 = .ok (.iaload, 1) := by decide +kernel
theorem dL_law_1341 : decode cL_law 1341 = .ok (.aload_n 0, 1) := by decide +kernel
theorem dL_law_1342 : decode cL_law 1342 = .ok (.iload 4, 2) := by decide +kernel
theorem dL_law_1344 : decode cL_law 1344 = .ok (.iconst 3, 1) := by decide +kernel
theorem dL_law_1345 : decode cL_law 1345 = .ok (.iadd, 1) := by decide +kernel
theorem dL_law_1346 : decode cL_law 1346 = .ok (.iaload, 1) := by decide +kernel
theorem dL_law_1347 : decode cL_law 1347 = .ok (.invokevirtual 164, 3) := by decide +kernel
theorem dL_law_1350 : decode cL_law 1350 = .ok (.aload_n 2, 1) := by decide +kernel
theorem dL_law_1351 : decode cL_law 1351 = .ok (.aload_n 0, 1) := by decide +kernel
theorem dL_law_1352 : decode cL_law 1352 = .ok (.iload 4, 2) := by decide +kernel
theorem dL_law_1354 : decode cL_law 1354 = .ok (.iconst 1, 1) := by decide +kernel
theorem dL_law_1355 : decode cL_law 1355 = .ok (.iadd, 1) := by decide +kernel
theorem dL_law_1356 : decode cL_law 1356 = .ok (.iaload, 1) := by decide +kernel
theorem dL_law_1357 : decode cL_law 1357 = .ok (.aload_n 0, 1) := by decide +kernel
theorem dL_law_1358 : decode cL_law 1358 = .ok (.iload 4, 2) := by decide +kernel
theorem dL_law_1360 : decode cL_law 1360 = .ok (.iconst 2, 1) := by decide +kernel
theorem dL_law_1361 : decode cL_law 1361 = .ok (.iadd, 1) := by decide +kernel
theorem dL_law_1362 : decode cL_law 1362 = .ok (.iaload, 1) := by decide +kernel
theorem dL_law_1363 : decode cL_law 1363 = .ok (.aload_n 0, 1) := by decide +kernel
theorem dL_law_1364 : decode cL_law 1364 = .ok (.iload 4, 2) := by decide +kernel
theorem dL_law_1366 : decode cL_law 1366 = .ok (.iconst 3, 1) := by decide +kernel
theorem dL_law_1367 : decode cL_law 1367 = .ok (.iadd, 1) := by decide +kernel
theorem dL_law_1368 : decode cL_law 1368 = .ok (.iaload, 1) := by decide +kernel
theorem dL_law_1369 : decode cL_law 1369 = .ok (.invokevirtual 167, 3) := by decide +kernel
theorem dL_law_1372 : decode cL_law 1372 = .ok (.if_icmp .eq 83, 3) := by decide +kernel
theorem dL_law_1375 : decode cL_law 1375 = .ok (.iconst 0, 1) := by decide +kernel
theorem dL_law_1376 : decode cL_law 1376 = .ok (.ireturn, 1) := by decide +kernel
theorem dL_law_1377 : decode cL_law 1377 = .ok (.aload_n 1, 1) := by decide +kernel
theorem dL_law_1378 : decode cL_law 1378 = .ok (.aload_n 0, 1) := by decide +kernel
theorem dL_law_1379 : decode cL_law 1379 = .ok (.iload 4, 2) := by decide +kernel
theorem dL_law_1381 : decode cL_law 1381 = .ok (.iconst 1, 1) := by decide +kernel
theorem dL_law_1382 : decode cL_law 1382 = .ok (.iadd, 1) := by decide +kernel
theorem dL_law_1383 : decode cL_law 1383 = .ok (.iaload, 1) := by decide +kernel
theorem dL_law_1384 : decode cL_law 1384 = .ok (.aload_n 0, 1) := by decide +kernel
theorem dL_law_1385 : decode cL_law 1385 = .ok (.iload 4, 2) := by decide +kernel
theorem dL_law_1387 : decode cL_law 1387 = .ok (.iconst 2, 1) := by decide +kernel
theorem dL_law_1388 : decode cL_law 1388 = .ok (.iadd, 1) := by decide +kernel
theorem dL_law_1389 : decode cL_law 1389 = .ok (.iaload, 1) := by decide +kernel
theorem dL_law_1390 : decode cL_law 1390 = .ok (.ifCond .eq 7, 3) := by decide +kernel
theorem dL_law_1393 : decode cL_law 1393 = .ok (.iconst 1, 1) := by decide +kernel
theorem dL_law_1394 : decode cL_law 1394 = .ok (.goto 4, 3) := by decide +kernel
theorem dL_law_1397 : decode cL_law 1397 = .ok (.iconst 0, 1) := by decide +kernel
theorem dL_law_1398 : decode cL_law 1398 = .ok (.invokevirtual 168, 3) := by decide +kernel
theorem dL_law_1401 : decode cL_law 1401 = .ok (.aload_n 2, 1) := by decide +kernel
theorem dL_law_1402 : decode cL_law 1402 = .ok (.aload_n 0, 1) := by decide +kernel
theorem dL_law_1403 : decode cL_law 1403 = .ok (.iload 4, 2) := by decide +kernel
theorem dL_law_1405 : decode cL_law 1405 = .ok (.iconst 1, 1) := by decide +kernel
theorem dL_law_1406 : decode cL_law 1406 = .ok (.iadd, 1) := by decide +kernel
theorem dL_law_1407 : decode cL_law 1407 = .ok (.iaload, 1) := by decide +kernel
theorem dL_law_1408 : decode cL_law 1408 = .ok (.aload_n 0, 1) := by decide +kernel
theorem dL_law_1409 : decode cL_law 1409 = .ok (.iload 4, 2) := by decide +kernel
theorem dL_law_1411 : decode cL_law 1411 = .ok (.iconst 2, 1) := by decide +kernel
theorem dL_law_1412 : decode cL_law 1412 = .ok (.iadd, 1) := by decide +kernel
theorem dL_law_1413 : decode cL_law 1413 = .ok (.iaload, 1) := by decide +kernel
theorem dL_law_1414 : decode cL_law 1414 = .ok (.ifCond .eq 7, 3) := by decide +kernel
theorem dL_law_1417 : decode cL_law 1417 = .ok (.iconst 1, 1) := by decide +kernel
theorem dL_law_1418 : decode cL_law 1418 = .ok (.goto 4, 3) := by decide +kernel
theorem dL_law_1421 : decode cL_law 1421 = .ok (.iconst 0, 1) := by decide +kernel
theorem dL_law_1422 : decode cL_law 1422 = .ok (.invokevirtual 172, 3) := by decide +kernel
theorem dL_law_1425 : decode cL_law 1425 = .ok (.if_icmp .eq 30, 3) := by decide +kernel
theorem dL_law_1428 : decode cL_law 1428 = .ok (.iconst 0, 1) := by decide +kernel
theorem dL_law_1429 : decode cL_law 1429 = .ok (.ireturn, 1) := by decide +kernel
theorem dL_law_1430 : decode cL_law 1430 = .ok (.aload_n 1, 1) := by decide +kernel
theorem dL_law_1431 : decode cL_law 1431 = .ok (.aload_n 0, 1) := by decide +kernel
theorem dL_law_1432 : decode cL_law 1432 = .ok (.iload 4, 2) := by decide +kernel
theorem dL_law_1434 : decode cL_law 1434 = .ok (.iconst 1, 1) := by decide +kernel
theorem dL_law_1435 : decode cL_law 1435 = .ok (.iadd, 1) := by decide +kernel
theorem dL_law_1436 : decode cL_law 1436 = .ok (.iaload, 1) := by decide +kernel
theorem dL_law_1437 : decode cL_law 1437 = .ok (.invokevirtual 173, 3) := by decide +kernel
theorem dL_law_1440 : decode cL_law 1440 = .ok (.aload_n 2, 1) := by decide +kernel
theorem dL_law_1441 : decode cL_law 1441 = .ok (.aload_n 0, 1) := by decide +kernel
theorem dL_law_1442 : decode cL_law 1442 = .ok (.iload 4, 2) := by decide +kernel
theorem dL_law_1444 : decode cL_law 1444 = .ok (.iconst 1, 1) := by decide +kernel
theorem dL_law_1445 : decode cL_law 1445 = .ok (.iadd, 1) := by decide +kernel
theorem dL_law_1446 : decode cL_law 1446 = .ok (.iaload, 1) := by decide +kernel
theorem dL_law_1447 : decode cL_law 1447 = .ok (.invokevirtual 176, 3) := by decide +kernel
theorem dL_law_1450 : decode cL_law 1450 = .ok (.if_icmp .eq 5, 3) := by decide +kernel
theorem dL_law_1453 : decode cL_law 1453 = .ok (.iconst 0, 1) := by decide +kernel
theorem dL_law_1454 : decode cL_law 1454 = .ok (.ireturn, 1) := by decide +kernel
theorem dL_law_1455 : decode cL_law 1455 = .ok (.iinc 4 7, 3) := by decide +kernel
theorem dL_law_1458 : decode cL_law 1458 = .ok (.goto (-1435), 3) := by decide +kernel
theorem dL_law_1461 : decode cL_law 1461 = .ok (.iconst 1, 1) := by decide +kernel
theorem dL_law_1462 : decode cL_law 1462 = .ok (.ireturn, 1) := by decide +kernel
