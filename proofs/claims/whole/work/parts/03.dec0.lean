theorem dX0_init_0 : decode cX0_init 0 = .ok (.aload_n 0, 1) := by decide +kernel
theorem dX0_init_1 : decode cX0_init 1 = .ok (.invokespecial 3, 3) := by decide +kernel
theorem dX0_init_4 : decode cX0_init 4 = .ok (.aload_n 0, 1) := by decide +kernel
theorem dX0_init_5 : decode cX0_init 5 = .ok (.new 9, 3) := by decide +kernel
theorem dX0_init_8 : decode cX0_init 8 = .ok (.dup, 1) := by decide +kernel
theorem dX0_init_9 : decode cX0_init 9 = .ok (.bipush 24, 2) := by decide +kernel
theorem dX0_init_11 : decode cX0_init 11 = .ok (.invokespecial 13, 3) := by decide +kernel
theorem dX0_init_14 : decode cX0_init 14 = .ok (.putfield 16, 3) := by decide +kernel
theorem dX0_init_17 : decode cX0_init 17 = .ok (.aload_n 0, 1) := by decide +kernel
theorem dX0_init_18 : decode cX0_init 18 = .ok (.new 9, 3) := by decide +kernel
theorem dX0_init_21 : decode cX0_init 21 = .ok (.dup, 1) := by decide +kernel
theorem dX0_init_22 : decode cX0_init 22 = .ok (.bipush 24, 2) := by decide +kernel
theorem dX0_init_24 : decode cX0_init 24 = .ok (.invokespecial 13, 3) := by decide +kernel
theorem dX0_init_27 : decode cX0_init 27 = .ok (.putfield 20, 3) := by decide +kernel
theorem dX0_init_30 : decode cX0_init 30 = .ok (.aload_n 0, 1) := by decide +kernel
theorem dX0_init_31 : decode cX0_init 31 = .ok (.new 9, 3) := by decide +kernel
theorem dX0_init_34 : decode cX0_init 34 = .ok (.dup, 1) := by decide +kernel
theorem dX0_init_35 : decode cX0_init 35 = .ok (.bipush 24, 2) := by decide +kernel
theorem dX0_init_37 : decode cX0_init 37 = .ok (.invokespecial 13, 3) := by decide +kernel
theorem dX0_init_40 : decode cX0_init 40 = .ok (.putfield 23, 3) := by decide +kernel
theorem dX0_init_43 : decode cX0_init 43 = .ok (.aload_n 0, 1) := by decide +kernel
theorem dX0_init_44 : decode cX0_init 44 = .ok (.new 9, 3) := by decide +kernel
theorem dX0_init_47 : decode cX0_init 47 = .ok (.dup, 1) := by decide +kernel
theorem dX0_init_48 : decode cX0_init 48 = .ok (.bipush 24, 2) := by decide +kernel
theorem dX0_init_50 : decode cX0_init 50 = .ok (.invokespecial 13, 3) := by decide +kernel
theorem dX0_init_53 : decode cX0_init 53 = .ok (.putfield 26, 3) := by decide +kernel
theorem dX0_init_56 : decode cX0_init 56 = .ok (.aload_n 0, 1) := by decide +kernel
theorem dX0_init_57 : decode cX0_init 57 = .ok (.new 9, 3) := by decide +kernel
theorem dX0_init_60 : decode cX0_init 60 = .ok (.dup, 1) := by decide +kernel
theorem dX0_init_61 : decode cX0_init 61 = .ok (.bipush 24, 2) := by decide +kernel
theorem dX0_init_63 : decode cX0_init 63 = .ok (.invokespecial 13, 3) := by decide +kernel
theorem dX0_init_66 : decode cX0_init 66 = .ok (.putfield 29, 3) := by decide +kernel
theorem dX0_init_69 : decode cX0_init 69 = .ok (.aload_n 0, 1) := by decide +kernel
theorem dX0_init_70 : decode cX0_init 70 = .ok (.new 9, 3) := by decide +kernel
theorem dX0_init_73 : decode cX0_init 73 = .ok (.dup, 1) := by decide +kernel
theorem dX0_init_74 : decode cX0_init 74 = .ok (.bipush 24, 2) := by decide +kernel
theorem dX0_init_76 : decode cX0_init 76 = .ok (.invokespecial 13, 3) := by decide +kernel
theorem dX0_init_79 : decode cX0_init 79 = .ok (.putfield 32, 3) := by decide +kernel
theorem dX0_init_82 : decode cX0_init 82 = .ok (.aload_n 0, 1) := by decide +kernel
theorem dX0_init_83 : decode cX0_init 83 = .ok (.new 9, 3) := by decide +kernel
theorem dX0_init_86 : decode cX0_init 86 = .ok (.dup, 1) := by decide +kernel
theorem dX0_init_87 : decode cX0_init 87 = .ok (.bipush 24, 2) := by decide +kernel
theorem dX0_init_89 : decode cX0_init 89 = .ok (.invokespecial 13, 3) := by decide +kernel
theorem dX0_init_92 : decode cX0_init 92 = .ok (.putfield 35, 3) := by decide +kernel
theorem dX0_init_95 : decode cX0_init 95 = .ok (.aload_n 0, 1) := by decide +kernel
theorem dX0_init_96 : decode cX0_init 96 = .ok (.new 9, 3) := by decide +kernel
theorem dX0_init_99 : decode cX0_init 99 = .ok (.dup, 1) := by decide +kernel
theorem dX0_init_100 : decode cX0_init 100 = .ok (.bipush 24, 2) := by decide +kernel
theorem dX0_init_102 : decode cX0_init 102 = .ok (.invokespecial 13, 3) := by decide +kernel
theorem dX0_init_105 : decode cX0_init 105 = .ok (.putfield 38, 3) := by decide +kernel
theorem dX0_init_108 : decode cX0_init 108 = .ok (.aload_n 0, 1) := by decide +kernel
theorem dX0_init_109 : decode cX0_init 109 = .ok (.new 9, 3) := by decide +kernel
theorem dX0_init_112 : decode cX0_init 112 = .ok (.dup, 1) := by decide +kernel
theorem dX0_init_113 : decode cX0_init 113 = .ok (.bipush 24, 2) := by decide +kernel
theorem dX0_init_115 : decode cX0_init 115 = .ok (.invokespecial 13, 3) := by decide +kernel
theorem dX0_init_118 : decode cX0_init 118 = .ok (.putfield 41, 3) := by decide +kernel
theorem dX0_init_121 : decode cX0_init 121 = .ok (.aload_n 0, 1) := by decide +kernel
theorem dX0_init_122 : decode cX0_init 122 = .ok (.new 9, 3) := by decide +kernel
theorem dX0_init_125 : decode cX0_init 125 = .ok (.dup, 1) := by decide +kernel
theorem dX0_init_126 : decode cX0_init 126 = .ok (.bipush 72, 2) := by decide +kernel
theorem dX0_init_128 : decode cX0_init 128 = .ok (.invokespecial 13, 3) := by decide +kernel
theorem dX0_init_131 : decode cX0_init 131 = .ok (.putfield 44, 3) := by decide +kernel
theorem dX0_init_134 : decode cX0_init 134 = .ok (.aload_n 0, 1) := by decide +kernel
theorem dX0_init_135 : decode cX0_init 135 = .ok (.new 9, 3) := by decide +kernel
theorem dX0_init_138 : decode cX0_init 138 = .ok (.dup, 1) := by decide +kernel
theorem dX0_init_139 : decode cX0_init 139 = .ok (.bipush 20, 2) := by decide +kernel
theorem dX0_init_141 : decode cX0_init 141 = .ok (.invokespecial 13, 3) := by decide +kernel
theorem dX0_init_144 : decode cX0_init 144 = .ok (.putfield 47, 3) := by decide +kernel
theorem dX0_init_147 : decode cX0_init 147 = .ok (.aload_n 0, 1) := by decide +kernel
theorem dX0_init_148 : decode cX0_init 148 = .ok (.new 9, 3) := by decide +kernel
theorem dX0_init_151 : decode cX0_init 151 = .ok (.dup, 1) := by decide +kernel
theorem dX0_init_152 : decode cX0_init 152 = .ok (.bipush 20, 2) := by decide +kernel
theorem dX0_init_154 : decode cX0_init 154 = .ok (.invokespecial 13, 3) := by decide +kernel
theorem dX0_init_157 : decode cX0_init 157 = .ok (.putfield 50, 3) := by decide +kernel
theorem dX0_init_160 : decode cX0_init 160 = .ok (.aload_n 0, 1) := by decide +kernel
theorem dX0_init_161 : decode cX0_init 161 = .ok (.new 9, 3) := by decide +kernel
theorem dX0_init_164 : decode cX0_init 164 = .ok (.dup, 1) := by decide +kernel
theorem dX0_init_165 : decode cX0_init 165 = .ok (.bipush 20, 2) := by decide +kernel
theorem dX0_init_167 : decode cX0_init 167 = .ok (.invokespecial 13, 3) := by decide +kernel
theorem dX0_init_170 : decode cX0_init 170 = .ok (.putfield 53, 3) := by decide +kernel
theorem dX0_init_173 : decode cX0_init 173 = .ok (.aload_n 0, 1) := by decide +kernel
theorem dX0_init_174 : decode cX0_init 174 = .ok (.new 9, 3) := by decide +kernel
theorem dX0_init_177 : decode cX0_init 177 = .ok (.dup, 1) := by decide +kernel
theorem dX0_init_178 : decode cX0_init 178 = .ok (.bipush 20, 2) := by decide +kernel
theorem dX0_init_180 : decode cX0_init 180 = .ok (.invokespecial 13, 3) := by decide +kernel
theorem dX0_init_183 : decode cX0_init 183 = .ok (.putfield 56, 3) := by decide +kernel
theorem dX0_init_186 : decode cX0_init 186 = .ok (.aload_n 0, 1) := by decide +kernel
theorem dX0_init_187 : decode cX0_init 187 = .ok (.new 9, 3) := by decide +kernel
theorem dX0_init_190 : decode cX0_init 190 = .ok (.dup, 1) := by decide +kernel
theorem dX0_init_191 : decode cX0_init 191 = .ok (.bipush 20, 2) := by decide +kernel
theorem dX0_init_193 : decode cX0_init 193 = .ok (.invokespecial 13, 3) := by decide +kernel
theorem dX0_init_196 : decode cX0_init 196 = .ok (.putfield 59, 3) := by decide +kernel
theorem dX0_init_199 : decode cX0_init 199 = .ok (.aload_n 0, 1) := by decide +kernel
theorem dX0_init_200 : decode cX0_init 200 = .ok (.aload_n 1, 1) := by decide +kernel
theorem dX0_init_201 : decode cX0_init 201 = .ok (.putfield 62, 3) := by decide +kernel
theorem dX0_init_204 : decode cX0_init 204 = .ok (.return_, 1) := by decide +kernel
theorem dX0_copyFrom_0 : decode cX0_copyFrom 0 = .ok (.aload_n 0, 1) := by decide +kernel
theorem dX0_copyFrom_1 : decode cX0_copyFrom 1 = .ok (.getfield 16, 3) := by decide +kernel
theorem dX0_copyFrom_4 : decode cX0_copyFrom 4 = .ok (.aload_n 1, 1) := by decide +kernel
theorem dX0_copyFrom_5 : decode cX0_copyFrom 5 = .ok (.getfield 16, 3) := by decide +kernel
theorem dX0_copyFrom_8 : decode cX0_copyFrom 8 = .ok (.invokevirtual 66, 3) := by decide +kernel
theorem dX0_copyFrom_11 : decode cX0_copyFrom 11 = .ok (.aload_n 0, 1) := by decide +kernel
theorem dX0_copyFrom_12 : decode cX0_copyFrom 12 = .ok (.getfield 20, 3) := by decide +kernel
theorem dX0_copyFrom_15 : decode cX0_copyFrom 15 = .ok (.aload_n 1, 1) := by decide +kernel
theorem dX0_copyFrom_16 : decode cX0_copyFrom 16 = .ok (.getfield 20, 3) := by decide +kernel
theorem dX0_copyFrom_19 : decode cX0_copyFrom 19 = .ok (.invokevirtual 66, 3) := by decide +kernel
theorem dX0_copyFrom_22 : decode cX0_copyFrom 22 = .ok (.aload_n 0, 1) := by decide +kernel
theorem dX0_copyFrom_23 : decode cX0_copyFrom 23 = .ok (.getfield 23, 3) := by decide +kernel
theorem dX0_copyFrom_26 : decode cX0_copyFrom 26 = .ok (.aload_n 1, 1) := by decide +kernel
theorem dX0_copyFrom_27 : decode cX0_copyFrom 27 = .ok (.getfield 23, 3) := by decide +kernel
theorem dX0_copyFrom_30 : decode cX0_copyFrom 30 = .ok (.invokevirtual 66, 3) := by decide +kernel
theorem dX0_copyFrom_33 : decode cX0_copyFrom 33 = .ok (.aload_n 0, 1) := by decide +kernel
theorem dX0_copyFrom_34 : decode cX0_copyFrom 34 = .ok (.getfield 26, 3) := by decide +kernel
theorem dX0_copyFrom_37 : decode cX0_copyFrom 37 = .ok (.aload_n 1, 1) := by decide +kernel
theorem dX0_copyFrom_38 : decode cX0_copyFrom 38 = .ok (.getfield 26, 3) := by decide +kernel
theorem dX0_copyFrom_41 : decode cX0_copyFrom 41 = .ok (.invokevirtual 66, 3) := by decide +kernel
theorem dX0_copyFrom_44 : decode cX0_copyFrom 44 = .ok (.aload_n 0, 1) := by decide +kernel
theorem dX0_copyFrom_45 : decode cX0_copyFrom 45 = .ok (.getfield 29, 3) := by decide +kernel
theorem dX0_copyFrom_48 : decode cX0_copyFrom 48 = .ok (.aload_n 1, 1) := by decide +kernel
theorem dX0_copyFrom_49 : decode cX0_copyFrom 49 = .ok (.getfield 29, 3) := by decide +kernel
theorem dX0_copyFrom_52 : decode cX0_copyFrom 52 = .ok (.invokevirtual 66, 3) := by decide +kernel
theorem dX0_copyFrom_55 : decode cX0_copyFrom 55 = .ok (.aload_n 0, 1) := by decide +kernel
theorem dX0_copyFrom_56 : decode cX0_copyFrom 56 = .ok (.getfield 32, 3) := by decide +kernel
theorem dX0_copyFrom_59 : decode cX0_copyFrom 59 = .ok (.aload_n 1, 1) := by decide +kernel
theorem dX0_copyFrom_60 : decode cX0_copyFrom 60 = .ok (.getfield 32, 3) := by decide +kernel
theorem dX0_copyFrom_63 : decode cX0_copyFrom 63 = .ok (.invokevirtual 66, 3) := by decide +kernel
theorem dX0_copyFrom_66 : decode cX0_copyFrom 66 = .ok (.aload_n 0, 1) := by decide +kernel
theorem dX0_copyFrom_67 : decode cX0_copyFrom 67 = .ok (.getfield 35, 3) := by decide +kernel
theorem dX0_copyFrom_70 : decode cX0_copyFrom 70 = .ok (.aload_n 1, 1) := by decide +kernel
theorem dX0_copyFrom_71 : decode cX0_copyFrom 71 = .ok (.getfield 35, 3) := by decide +kernel
theorem dX0_copyFrom_74 : decode cX0_copyFrom 74 = .ok (.invokevirtual 66, 3) := by decide +kernel
theorem dX0_copyFrom_77 : decode cX0_copyFrom 77 = .ok (.aload_n 0, 1) := by decide +kernel
theorem dX0_copyFrom_78 : decode cX0_copyFrom 78 = .ok (.getfield 38, 3) := by decide +kernel
theorem dX0_copyFrom_81 : decode cX0_copyFrom 81 = .ok (.aload_n 1, 1) := by decide +kernel
theorem dX0_copyFrom_82 : decode cX0_copyFrom 82 = .ok (.getfield 38, 3) := by decide +kernel
theorem dX0_copyFrom_85 : decode cX0_copyFrom 85 = .ok (.invokevirtual 66, 3) := by decide +kernel
theorem dX0_copyFrom_88 : decode cX0_copyFrom 88 = .ok (.aload_n 0, 1) := by decide +kernel
theorem dX0_copyFrom_89 : decode cX0_copyFrom 89 = .ok (.getfield 41, 3) := by decide +kernel
theorem dX0_copyFrom_92 : decode cX0_copyFrom 92 = .ok (.aload_n 1, 1) := by decide +kernel
theorem dX0_copyFrom_93 : decode cX0_copyFrom 93 = .ok (.getfield 41, 3) := by decide +kernel
theorem dX0_copyFrom_96 : decode cX0_copyFrom 96 = .ok (.invokevirtual 66, 3) := by decide +kernel
theorem dX0_copyFrom_99 : decode cX0_copyFrom 99 = .ok (.aload_n 0, 1) := by decide +kernel
theorem dX0_copyFrom_100 : decode cX0_copyFrom 100 = .ok (.getfield 44, 3) := by decide +kernel
theorem dX0_copyFrom_103 : decode cX0_copyFrom 103 = .ok (.aload_n 1, 1) := by decide +kernel
theorem dX0_copyFrom_104 : decode cX0_copyFrom 104 = .ok (.getfield 44, 3) := by decide +kernel
theorem dX0_copyFrom_107 : decode cX0_copyFrom 107 = .ok (.invokevirtual 66, 3) := by decide +kernel
theorem dX0_copyFrom_110 : decode cX0_copyFrom 110 = .ok (.aload_n 0, 1) := by decide +kernel
theorem dX0_copyFrom_111 : decode cX0_copyFrom 111 = .ok (.getfield 47, 3) := by decide +kernel
theorem dX0_copyFrom_114 : decode cX0_copyFrom 114 = .ok (.aload_n 1, 1) := by decide +kernel
theorem dX0_copyFrom_115 : decode cX0_copyFrom 115 = .ok (.getfield 47, 3) := by decide +kernel
theorem dX0_copyFrom_118 : decode cX0_copyFrom 118 = .ok (.invokevirtual 66, 3) := by decide +kernel
theorem dX0_copyFrom_121 : decode cX0_copyFrom 121 = .ok (.aload_n 0, 1) := by decide +kernel
theorem dX0_copyFrom_122 : decode cX0_copyFrom 122 = .ok (.getfield 50, 3) := by decide +kernel
theorem dX0_copyFrom_125 : decode cX0_copyFrom 125 = .ok (.aload_n 1, 1) := by decide +kernel
theorem dX0_copyFrom_126 : decode cX0_copyFrom 126 = .ok (.getfield 50, 3) := by decide +kernel
theorem dX0_copyFrom_129 : decode cX0_copyFrom 129 = .ok (.invokevirtual 66, 3) := by decide +kernel
theorem dX0_copyFrom_132 : decode cX0_copyFrom 132 = .ok (.aload_n 0, 1) := by decide +kernel
theorem dX0_copyFrom_133 : decode cX0_copyFrom 133 = .ok (.getfield 53, 3) := by decide +kernel
theorem dX0_copyFrom_136 : decode cX0_copyFrom 136 = .ok (.aload_n 1, 1) := by decide +kernel
theorem dX0_copyFrom_137 : decode cX0_copyFrom 137 = .ok (.getfield 53, 3) := by decide +kernel
theorem dX0_copyFrom_140 : decode cX0_copyFrom 140 = .ok (.invokevirtual 66, 3) := by decide +kernel
theorem dX0_copyFrom_143 : decode cX0_copyFrom 143 = .ok (.aload_n 0, 1) := by decide +kernel
theorem dX0_copyFrom_144 : decode cX0_copyFrom 144 = .ok (.getfield 56, 3) := by decide +kernel
theorem dX0_copyFrom_147 : decode cX0_copyFrom 147 = .ok (.aload_n 1, 1) := by decide +kernel
theorem dX0_copyFrom_148 : decode cX0_copyFrom 148 = .ok (.getfield 56, 3) := by decide +kernel
theorem dX0_copyFrom_151 : decode cX0_copyFrom 151 = .ok (.invokevirtual 66, 3) := by decide +kernel
theorem dX0_copyFrom_154 : decode cX0_copyFrom 154 = .ok (.aload_n 0, 1) := by decide +kernel
theorem dX0_copyFrom_155 : decode cX0_copyFrom 155 = .ok (.getfield 59, 3) := by decide +kernel
theorem dX0_copyFrom_158 : decode cX0_copyFrom 158 = .ok (.aload_n 1, 1) := by decide +kernel
theorem dX0_copyFrom_159 : decode cX0_copyFrom 159 = .ok (.getfield 59, 3) := by decide +kernel
theorem dX0_copyFrom_162 : decode cX0_copyFrom 162 = .ok (.invokevirtual 66, 3) := by decide +kernel
theorem dX0_copyFrom_165 : decode cX0_copyFrom 165 = .ok (.return_, 1) := by decide +kernel
theorem dX0_clear_0 : decode cX0_clear 0 = .ok (.aload_n 0, 1) := by decide +kernel
theorem dX0_clear_1 : decode cX0_clear 1 = .ok (.getfield 16, 3) := by decide +kernel
theorem dX0_clear_4 : decode cX0_clear 4 = .ok (.iconst (-1), 1) := by decide +kernel
theorem dX0_clear_5 : decode cX0_clear 5 = .ok (.invokevirtual 70, 3) := by decide +kernel
theorem dX0_clear_8 : decode cX0_clear 8 = .ok (.aload_n 0, 1) := by decide +kernel
theorem dX0_clear_9 : decode cX0_clear 9 = .ok (.getfield 44, 3) := by decide +kernel
theorem dX0_clear_12 : decode cX0_clear 12 = .ok (.iconst (-1), 1) := by decide +kernel
theorem dX0_clear_13 : decode cX0_clear 13 = .ok (.invokevirtual 70, 3) := by decide +kernel
theorem dX0_clear_16 : decode cX0_clear 16 = .ok (.aload_n 0, 1) := by decide +kernel
theorem dX0_clear_17 : decode cX0_clear 17 = .ok (.getfield 50, 3) := by decide +kernel
theorem dX0_clear_20 : decode cX0_clear 20 = .ok (.iconst (-1), 1) := by decide +kernel
theorem dX0_clear_21 : decode cX0_clear 21 = .ok (.invokevirtual 70, 3) := by decide +kernel
theorem dX0_clear_24 : decode cX0_clear 24 = .ok (.aload_n 0, 1) := by decide +kernel
theorem dX0_clear_25 : decode cX0_clear 25 = .ok (.getfield 53, 3) := by decide +kernel
theorem dX0_clear_28 : decode cX0_clear 28 = .ok (.iconst (-1), 1) := by decide +kernel
theorem dX0_clear_29 : decode cX0_clear 29 = .ok (.invokevirtual 70, 3) := by decide +kernel
theorem dX0_clear_32 : decode cX0_clear 32 = .ok (.aload_n 0, 1) := by decide +kernel
theorem dX0_clear_33 : decode cX0_clear 33 = .ok (.getfield 56, 3) := by decide +kernel
theorem dX0_clear_36 : decode cX0_clear 36 = .ok (.iconst (-1), 1) := by decide +kernel
theorem dX0_clear_37 : decode cX0_clear 37 = .ok (.invokevirtual 70, 3) := by decide +kernel
theorem dX0_clear_40 : decode cX0_clear 40 = .ok (.aload_n 0, 1) := by decide +kernel
theorem dX0_clear_41 : decode cX0_clear 41 = .ok (.getfield 59, 3) := by decide +kernel
theorem dX0_clear_44 : decode cX0_clear 44 = .ok (.iconst (-1), 1) := by decide +kernel
theorem dX0_clear_45 : decode cX0_clear 45 = .ok (.invokevirtual 70, 3) := by decide +kernel
theorem dX0_clear_48 : decode cX0_clear 48 = .ok (.return_, 1) := by decide +kernel
theorem dX0_tell_0 : decode cX0_tell 0 = .ok (.aload_n 0, 1) := by decide +kernel
theorem dX0_tell_1 : decode cX0_tell 1 = .ok (.invokevirtual 73, 3) := by decide +kernel
theorem dX0_tell_4 : decode cX0_tell 4 = .ok (.iconst 0, 1) := by decide +kernel
theorem dX0_tell_5 : decode cX0_tell 5 = .ok (.istore_n 1, 1) := by decide +kernel
theorem dX0_tell_6 : decode cX0_tell 6 = .ok (.iload_n 1, 1) := by decide +kernel
theorem dX0_tell_7 : decode cX0_tell 7 = .ok (.aload_n 0, 1) := by decide +kernel
theorem dX0_tell_8 : decode cX0_tell 8 = .ok (.getfield 62, 3) := by decide +kernel
theorem dX0_tell_11 : decode cX0_tell 11 = .ok (.getfield 76, 3) := by decide +kernel
theorem dX0_tell_14 : decode cX0_tell 14 = .ok (.getfield 82, 3) := by decide +kernel
theorem dX0_tell_17 : decode cX0_tell 17 = .ok (.if_icmp .ge 26, 3) := by decide +kernel
theorem dX0_tell_20 : decode cX0_tell 20 = .ok (.aload_n 0, 1) := by decide +kernel
theorem dX0_tell_21 : decode cX0_tell 21 = .ok (.iload_n 1, 1) := by decide +kernel
theorem dX0_tell_22 : decode cX0_tell 22 = .ok (.aload_n 0, 1) := by decide +kernel
theorem dX0_tell_23 : decode cX0_tell 23 = .ok (.getfield 62, 3) := by decide +kernel
theorem dX0_tell_26 : decode cX0_tell 26 = .ok (.getfield 88, 3) := by decide +kernel
theorem dX0_tell_29 : decode cX0_tell 29 = .ok (.iload_n 1, 1) := by decide +kernel
theorem dX0_tell_30 : decode cX0_tell 30 = .ok (.invokevirtual 91, 3) := by decide +kernel
theorem dX0_tell_33 : decode cX0_tell 33 = .ok (.invokevirtual 95, 3) := by decide +kernel
theorem dX0_tell_36 : decode cX0_tell 36 = .ok (.pop, 1) := by decide +kernel
theorem dX0_tell_37 : decode cX0_tell 37 = .ok (.iinc 1 1, 3) := by decide +kernel
theorem dX0_tell_40 : decode cX0_tell 40 = .ok (.goto (-34), 3) := by decide +kernel
theorem dX0_tell_43 : decode cX0_tell 43 = .ok (.return_, 1) := by decide +kernel
theorem dX0_putIn_0 : decode cX0_putIn 0 = .ok (.aload_n 0, 1) := by decide +kernel
theorem dX0_putIn_1 : decode cX0_putIn 1 = .ok (.getfield 53, 3) := by decide +kernel
theorem dX0_putIn_4 : decode cX0_putIn 4 = .ok (.iload_n 1, 1) := by decide +kernel
theorem dX0_putIn_5 : decode cX0_putIn 5 = .ok (.invokevirtual 91, 3) := by decide +kernel
theorem dX0_putIn_8 : decode cX0_putIn 8 = .ok (.iconst (-1), 1) := by decide +kernel
theorem dX0_putIn_9 : decode cX0_putIn 9 = .ok (.if_icmp .eq 5, 3) := by decide +kernel
theorem dX0_putIn_12 : decode cX0_putIn 12 = .ok (.iconst 0, 1) := by decide +kernel
theorem dX0_putIn_13 : decode cX0_putIn 13 = .ok (.ireturn, 1) := by decide +kernel
theorem dX0_putIn_14 : decode cX0_putIn 14 = .ok (.aload_n 0, 1) := by decide +kernel
theorem dX0_putIn_15 : decode cX0_putIn 15 = .ok (.getfield 56, 3) := by decide +kernel
theorem dX0_putIn_18 : decode cX0_putIn 18 = .ok (.iload_n 1, 1) := by decide +kernel
theorem dX0_putIn_19 : decode cX0_putIn 19 = .ok (.iconst (-1), 1) := by decide +kernel
theorem dX0_putIn_20 : decode cX0_putIn 20 = .ok (.invokevirtual 99, 3) := by decide +kernel
theorem dX0_putIn_23 : decode cX0_putIn 23 = .ok (.aload_n 0, 1) := by decide +kernel
theorem dX0_putIn_24 : decode cX0_putIn 24 = .ok (.getfield 59, 3) := by decide +kernel
theorem dX0_putIn_27 : decode cX0_putIn 27 = .ok (.iload_n 1, 1) := by decide +kernel
theorem dX0_putIn_28 : decode cX0_putIn 28 = .ok (.iconst (-1), 1) := by decide +kernel
theorem dX0_putIn_29 : decode cX0_putIn 29 = .ok (.invokevirtual 99, 3) := by decide +kernel
theorem dX0_putIn_32 : decode cX0_putIn 32 = .ok (.aload_n 0, 1) := by decide +kernel
theorem dX0_putIn_33 : decode cX0_putIn 33 = .ok (.getfield 53, 3) := by decide +kernel
theorem dX0_putIn_36 : decode cX0_putIn 36 = .ok (.iload_n 1, 1) := by decide +kernel
theorem dX0_putIn_37 : decode cX0_putIn 37 = .ok (.iload_n 2, 1) := by decide +kernel
theorem dX0_putIn_38 : decode cX0_putIn 38 = .ok (.invokevirtual 99, 3) := by decide +kernel
theorem dX0_putIn_41 : decode cX0_putIn 41 = .ok (.aload_n 0, 1) := by decide +kernel
theorem dX0_putIn_42 : decode cX0_putIn 42 = .ok (.iconst 0, 1) := by decide +kernel
theorem dX0_putIn_43 : decode cX0_putIn 43 = .ok (.iconst 1, 1) := by decide +kernel
theorem dX0_putIn_44 : decode cX0_putIn 44 = .ok (.invokevirtual 103, 3) := by decide +kernel
theorem dX0_putIn_47 : decode cX0_putIn 47 = .ok (.istore_n 3, 1) := by decide +kernel
theorem dX0_putIn_48 : decode cX0_putIn 48 = .ok (.aload_n 0, 1) := by decide +kernel
theorem dX0_putIn_49 : decode cX0_putIn 49 = .ok (.getfield 23, 3) := by decide +kernel
theorem dX0_putIn_52 : decode cX0_putIn 52 = .ok (.iload_n 3, 1) := by decide +kernel
theorem dX0_putIn_53 : decode cX0_putIn 53 = .ok (.iload_n 1, 1) := by decide +kernel
theorem dX0_putIn_54 : decode cX0_putIn 54 = .ok (.invokevirtual 99, 3) := by decide +kernel
theorem dX0_putIn_57 : decode cX0_putIn 57 = .ok (.aload_n 0, 1) := by decide +kernel
theorem dX0_putIn_58 : decode cX0_putIn 58 = .ok (.getfield 26, 3) := by decide +kernel
theorem dX0_putIn_61 : decode cX0_putIn 61 = .ok (.iload_n 3, 1) := by decide +kernel
theorem dX0_putIn_62 : decode cX0_putIn 62 = .ok (.iload_n 1, 1) := by decide +kernel
theorem dX0_putIn_63 : decode cX0_putIn 63 = .ok (.invokevirtual 99, 3) := by decide +kernel
theorem dX0_putIn_66 : decode cX0_putIn 66 = .ok (.aload_n 0, 1) := by decide +kernel
theorem dX0_putIn_67 : decode cX0_putIn 67 = .ok (.getfield 29, 3) := by decide +kernel
theorem dX0_putIn_70 : decode cX0_putIn 70 = .ok (.iload_n 3, 1) := by decide +kernel
theorem dX0_putIn_71 : decode cX0_putIn 71 = .ok (.iload_n 1, 1) := by decide +kernel
theorem dX0_putIn_72 : decode cX0_putIn 72 = .ok (.invokevirtual 99, 3) := by decide +kernel
theorem dX0_putIn_75 : decode cX0_putIn 75 = .ok (.aload_n 0, 1) := by decide +kernel
theorem dX0_putIn_76 : decode cX0_putIn 76 = .ok (.getfield 32, 3) := by decide +kernel
theorem dX0_putIn_79 : decode cX0_putIn 79 = .ok (.iload_n 3, 1) := by decide +kernel
theorem dX0_putIn_80 : decode cX0_putIn 80 = .ok (.iconst 1, 1) := by decide +kernel
theorem dX0_putIn_81 : decode cX0_putIn 81 = .ok (.invokevirtual 99, 3) := by decide +kernel
theorem dX0_putIn_84 : decode cX0_putIn 84 = .ok (.aload_n 0, 1) := by decide +kernel
theorem dX0_putIn_85 : decode cX0_putIn 85 = .ok (.getfield 47, 3) := by decide +kernel
theorem dX0_putIn_88 : decode cX0_putIn 88 = .ok (.iload_n 1, 1) := by decide +kernel
theorem dX0_putIn_89 : decode cX0_putIn 89 = .ok (.iconst (-1), 1) := by decide +kernel
theorem dX0_putIn_90 : decode cX0_putIn 90 = .ok (.invokevirtual 99, 3) := by decide +kernel
theorem dX0_putIn_93 : decode cX0_putIn 93 = .ok (.aload_n 0, 1) := by decide +kernel
theorem dX0_putIn_94 : decode cX0_putIn 94 = .ok (.getfield 50, 3) := by decide +kernel
theorem dX0_putIn_97 : decode cX0_putIn 97 = .ok (.iload_n 1, 1) := by decide +kernel
theorem dX0_putIn_98 : decode cX0_putIn 98 = .ok (.iload_n 3, 1) := by decide +kernel
theorem dX0_putIn_99 : decode cX0_putIn 99 = .ok (.invokevirtual 99, 3) := by decide +kernel
theorem dX0_putIn_102 : decode cX0_putIn 102 = .ok (.aload_n 0, 1) := by decide +kernel
theorem dX0_putIn_103 : decode cX0_putIn 103 = .ok (.iload_n 3, 1) := by decide +kernel
theorem dX0_putIn_104 : decode cX0_putIn 104 = .ok (.iload_n 2, 1) := by decide +kernel
theorem dX0_putIn_105 : decode cX0_putIn 105 = .ok (.invokevirtual 107, 3) := by decide +kernel
theorem dX0_putIn_108 : decode cX0_putIn 108 = .ok (.iconst 1, 1) := by decide +kernel
theorem dX0_putIn_109 : decode cX0_putIn 109 = .ok (.ireturn, 1) := by decide +kernel
theorem dX0_takeFrom_0 : decode cX0_takeFrom 0 = .ok (.aload_n 0, 1) := by decide +kernel
theorem dX0_takeFrom_1 : decode cX0_takeFrom 1 = .ok (.iload_n 1, 1) := by decide +kernel
theorem dX0_takeFrom_2 : decode cX0_takeFrom 2 = .ok (.invokevirtual 110, 3) := by decide +kernel
theorem dX0_takeFrom_5 : decode cX0_takeFrom 5 = .ok (.istore_n 2, 1) := by decide +kernel
theorem dX0_takeFrom_6 : decode cX0_takeFrom 6 = .ok (.iload_n 2, 1) := by decide +kernel
theorem dX0_takeFrom_7 : decode cX0_takeFrom 7 = .ok (.iconst (-1), 1) := by decide +kernel
theorem dX0_takeFrom_8 : decode cX0_takeFrom 8 = .ok (.if_icmp .ne 5, 3) := by decide +kernel
theorem dX0_takeFrom_11 : decode cX0_takeFrom 11 = .ok (.iconst (-1), 1) := by decide +kernel
theorem dX0_takeFrom_12 : decode cX0_takeFrom 12 = .ok (.ireturn, 1) := by decide +kernel
theorem dX0_takeFrom_13 : decode cX0_takeFrom 13 = .ok (.aload_n 0, 1) := by decide +kernel
theorem dX0_takeFrom_14 : decode cX0_takeFrom 14 = .ok (.getfield 26, 3) := by decide +kernel
theorem dX0_takeFrom_17 : decode cX0_takeFrom 17 = .ok (.iload_n 2, 1) := by decide +kernel
theorem dX0_takeFrom_18 : decode cX0_takeFrom 18 = .ok (.invokevirtual 91, 3) := by decide +kernel
theorem dX0_takeFrom_21 : decode cX0_takeFrom 21 = .ok (.istore_n 3, 1) := by decide +kernel
theorem dX0_takeFrom_22 : decode cX0_takeFrom 22 = .ok (.aload_n 0, 1) := by decide +kernel
theorem dX0_takeFrom_23 : decode cX0_takeFrom 23 = .ok (.getfield 26, 3) := by decide +kernel
theorem dX0_takeFrom_26 : decode cX0_takeFrom 26 = .ok (.iload_n 2, 1) := by decide +kernel
theorem dX0_takeFrom_27 : decode cX0_takeFrom 27 = .ok (.aload_n 0, 1) := by decide +kernel
theorem dX0_takeFrom_28 : decode cX0_takeFrom 28 = .ok (.getfield 47, 3) := by decide +kernel
theorem dX0_takeFrom_31 : decode cX0_takeFrom 31 = .ok (.iload_n 3, 1) := by decide +kernel
theorem dX0_takeFrom_32 : decode cX0_takeFrom 32 = .ok (.invokevirtual 91, 3) := by decide +kernel
theorem dX0_takeFrom_35 : decode cX0_takeFrom 35 = .ok (.invokevirtual 99, 3) := by decide +kernel
theorem dX0_takeFrom_38 : decode cX0_takeFrom 38 = .ok (.aload_n 0, 1) := by decide +kernel
theorem dX0_takeFrom_39 : decode cX0_takeFrom 39 = .ok (.getfield 32, 3) := by decide +kernel
theorem dX0_takeFrom_42 : decode cX0_takeFrom 42 = .ok (.iload_n 2, 1) := by decide +kernel
theorem dX0_takeFrom_43 : decode cX0_takeFrom 43 = .ok (.aload_n 0, 1) := by decide +kernel
theorem dX0_takeFrom_44 : decode cX0_takeFrom 44 = .ok (.getfield 32, 3) := by decide +kernel
theorem dX0_takeFrom_47 : decode cX0_takeFrom 47 = .ok (.iload_n 2, 1) := by decide +kernel
theorem dX0_takeFrom_48 : decode cX0_takeFrom 48 = .ok (.invokevirtual 91, 3) := by decide +kernel
theorem dX0_takeFrom_51 : decode cX0_takeFrom 51 = .ok (.iconst 1, 1) := by decide +kernel
theorem dX0_takeFrom_52 : decode cX0_takeFrom 52 = .ok (.isub, 1) := by decide +kernel
theorem dX0_takeFrom_53 : decode cX0_takeFrom 53 = .ok (.invokevirtual 99, 3) := by decide +kernel
theorem dX0_takeFrom_56 : decode cX0_takeFrom 56 = .ok (.aload_n 0, 1) := by decide +kernel
theorem dX0_takeFrom_57 : decode cX0_takeFrom 57 = .ok (.getfield 47, 3) := by decide +kernel
theorem dX0_takeFrom_60 : decode cX0_takeFrom 60 = .ok (.iload_n 3, 1) := by decide +kernel
theorem dX0_takeFrom_61 : decode cX0_takeFrom 61 = .ok (.iconst (-1), 1) := by decide +kernel
theorem dX0_takeFrom_62 : decode cX0_takeFrom 62 = .ok (.invokevirtual 99, 3) := by decide +kernel
theorem dX0_takeFrom_65 : decode cX0_takeFrom 65 = .ok (.aload_n 0, 1) := by decide +kernel
theorem dX0_takeFrom_66 : decode cX0_takeFrom 66 = .ok (.getfield 50, 3) := by decide +kernel
theorem dX0_takeFrom_69 : decode cX0_takeFrom 69 = .ok (.iload_n 3, 1) := by decide +kernel
theorem dX0_takeFrom_70 : decode cX0_takeFrom 70 = .ok (.iconst (-1), 1) := by decide +kernel
theorem dX0_takeFrom_71 : decode cX0_takeFrom 71 = .ok (.invokevirtual 99, 3) := by decide +kernel
theorem dX0_takeFrom_74 : decode cX0_takeFrom 74 = .ok (.aload_n 0, 1) := by decide +kernel
theorem dX0_takeFrom_75 : decode cX0_takeFrom 75 = .ok (.getfield 53, 3) := by decide +kernel
theorem dX0_takeFrom_78 : decode cX0_takeFrom 78 = .ok (.iload_n 3, 1) := by decide +kernel
theorem dX0_takeFrom_79 : decode cX0_takeFrom 79 = .ok (.iconst (-1), 1) := by decide +kernel
theorem dX0_takeFrom_80 : decode cX0_takeFrom 80 = .ok (.invokevirtual 99, 3) := by decide +kernel
theorem dX0_takeFrom_83 : decode cX0_takeFrom 83 = .ok (.aload_n 0, 1) := by decide +kernel
theorem dX0_takeFrom_84 : decode cX0_takeFrom 84 = .ok (.getfield 32, 3) := by decide +kernel
theorem dX0_takeFrom_87 : decode cX0_takeFrom 87 = .ok (.iload_n 2, 1) := by decide +kernel
theorem dX0_takeFrom_88 : decode cX0_takeFrom 88 = .ok (.invokevirtual 91, 3) := by decide +kernel
theorem dX0_takeFrom_91 : decode cX0_takeFrom 91 = .ok (.aload_n 0, 1) := by decide +kernel
theorem dX0_takeFrom_92 : decode cX0_takeFrom 92 = .ok (.getfield 20, 3) := by decide +kernel
theorem dX0_takeFrom_95 : decode cX0_takeFrom 95 = .ok (.iload_n 2, 1) := by decide +kernel
theorem dX0_takeFrom_96 : decode cX0_takeFrom 96 = .ok (.invokevirtual 91, 3) := by decide +kernel
theorem dX0_takeFrom_99 : decode cX0_takeFrom 99 = .ok (.iconst 2, 1) := by decide +kernel
theorem dX0_takeFrom_100 : decode cX0_takeFrom 100 = .ok (.idiv, 1) := by decide +kernel
theorem dX0_takeFrom_101 : decode cX0_takeFrom 101 = .ok (.if_icmp .gt 59, 3) := by decide +kernel
theorem dX0_takeFrom_104 : decode cX0_takeFrom 104 = .ok (.aload_n 0, 1) := by decide +kernel
theorem dX0_takeFrom_105 : decode cX0_takeFrom 105 = .ok (.iload_n 2, 1) := by decide +kernel
theorem dX0_takeFrom_106 : decode cX0_takeFrom 106 = .ok (.invokevirtual 113, 3) := by decide +kernel
theorem dX0_takeFrom_109 : decode cX0_takeFrom 109 = .ok (.ifCond .ne 11, 3) := by decide +kernel
theorem dX0_takeFrom_112 : decode cX0_takeFrom 112 = .ok (.aload_n 0, 1) := by decide +kernel
theorem dX0_takeFrom_113 : decode cX0_takeFrom 113 = .ok (.iload_n 2, 1) := by decide +kernel
theorem dX0_takeFrom_114 : decode cX0_takeFrom 114 = .ok (.invokevirtual 117, 3) := by decide +kernel
theorem dX0_takeFrom_117 : decode cX0_takeFrom 117 = .ok (.goto 43, 3) := by decide +kernel
theorem dX0_takeFrom_120 : decode cX0_takeFrom 120 = .ok (.aload_n 0, 1) := by decide +kernel
theorem dX0_takeFrom_121 : decode cX0_takeFrom 121 = .ok (.getfield 32, 3) := by decide +kernel
theorem dX0_takeFrom_124 : decode cX0_takeFrom 124 = .ok (.iload_n 2, 1) := by decide +kernel
theorem dX0_takeFrom_125 : decode cX0_takeFrom 125 = .ok (.invokevirtual 91, 3) := by decide +kernel
theorem dX0_takeFrom_128 : decode cX0_takeFrom 128 = .ok (.ifCond .ne 32, 3) := by decide +kernel
theorem dX0_takeFrom_131 : decode cX0_takeFrom 131 = .ok (.aload_n 0, 1) := by decide +kernel
theorem dX0_takeFrom_132 : decode cX0_takeFrom 132 = .ok (.getfield 44, 3) := by decide +kernel
theorem dX0_takeFrom_135 : decode cX0_takeFrom 135 = .ok (.iload_n 1, 1) := by decide +kernel
theorem dX0_takeFrom_136 : decode cX0_takeFrom 136 = .ok (.aload_n 0, 1) := by decide +kernel
theorem dX0_takeFrom_137 : decode cX0_takeFrom 137 = .ok (.getfield 16, 3) := by decide +kernel
theorem dX0_takeFrom_140 : decode cX0_takeFrom 140 = .ok (.iload_n 2, 1) := by decide +kernel
theorem dX0_takeFrom_141 : decode cX0_takeFrom 141 = .ok (.invokevirtual 91, 3) := by decide +kernel
theorem dX0_takeFrom_144 : decode cX0_takeFrom 144 = .ok (.invokestatic 120, 3) := by decide +kernel
theorem dX0_takeFrom_147 : decode cX0_takeFrom 147 = .ok (.iconst (-1), 1) := by decide +kernel
theorem dX0_takeFrom_148 : decode cX0_takeFrom 148 = .ok (.invokevirtual 99, 3) := by decide +kernel
theorem dX0_takeFrom_151 : decode cX0_takeFrom 151 = .ok (.aload_n 0, 1) := by decide +kernel
theorem dX0_takeFrom_152 : decode cX0_takeFrom 152 = .ok (.getfield 16, 3) := by decide +kernel
theorem dX0_takeFrom_155 : decode cX0_takeFrom 155 = .ok (.iload_n 2, 1) := by decide +kernel
theorem dX0_takeFrom_156 : decode cX0_takeFrom 156 = .ok (.iconst (-1), 1) := by decide +kernel
theorem dX0_takeFrom_157 : decode cX0_takeFrom 157 = .ok (.invokevirtual 99, 3) := by decide +kernel
theorem dX0_takeFrom_160 : decode cX0_takeFrom 160 = .ok (.iload_n 3, 1) := by decide +kernel
theorem dX0_takeFrom_161 : decode cX0_takeFrom 161 = .ok (.ireturn, 1) := by decide +kernel
theorem dX0_meldInto_0 : decode cX0_meldInto 0 = .ok (.iload_n 1, 1) := by decide +kernel
theorem dX0_meldInto_1 : decode cX0_meldInto 1 = .ok (.iload_n 2, 1) := by decide +kernel
theorem dX0_meldInto_2 : decode cX0_meldInto 2 = .ok (.if_icmp .ne 5, 3) := by decide +kernel
theorem dX0_meldInto_5 : decode cX0_meldInto 5 = .ok (.iconst 0, 1) := by decide +kernel
theorem dX0_meldInto_6 : decode cX0_meldInto 6 = .ok (.ireturn, 1) := by decide +kernel
theorem dX0_meldInto_7 : decode cX0_meldInto 7 = .ok (.iconst 0, 1) := by decide +kernel
theorem dX0_meldInto_8 : decode cX0_meldInto 8 = .ok (.istore_n 3, 1) := by decide +kernel
theorem dX0_meldInto_9 : decode cX0_meldInto 9 = .ok (.iload_n 3, 1) := by decide +kernel
theorem dX0_meldInto_10 : decode cX0_meldInto 10 = .ok (.bipush 24, 2) := by decide +kernel
theorem dX0_meldInto_12 : decode cX0_meldInto 12 = .ok (.if_icmp .ge 93, 3) := by decide +kernel
theorem dX0_meldInto_15 : decode cX0_meldInto 15 = .ok (.aload_n 0, 1) := by decide +kernel
theorem dX0_meldInto_16 : decode cX0_meldInto 16 = .ok (.getfield 44, 3) := by decide +kernel
theorem dX0_meldInto_19 : decode cX0_meldInto 19 = .ok (.iload_n 1, 1) := by decide +kernel
theorem dX0_meldInto_20 : decode cX0_meldInto 20 = .ok (.iload_n 3, 1) := by decide +kernel
theorem dX0_meldInto_21 : decode cX0_meldInto 21 = .ok (.invokestatic 120, 3) := by decide +kernel
theorem dX0_meldInto_24 : decode cX0_meldInto 24 = .ok (.invokevirtual 91, 3) := by decide +kernel
theorem dX0_meldInto_27 : decode cX0_meldInto 27 = .ok (.istore 4, 2) := by decide +kernel
theorem dX0_meldInto_29 : decode cX0_meldInto 29 = .ok (.iload 4, 2) := by decide +kernel
theorem dX0_meldInto_31 : decode cX0_meldInto 31 = .ok (.iconst (-1), 1) := by decide +kernel
theorem dX0_meldInto_32 : decode cX0_meldInto 32 = .ok (.if_icmp .eq 67, 3) := by decide +kernel
theorem dX0_meldInto_35 : decode cX0_meldInto 35 = .ok (.aload_n 0, 1) := by decide +kernel
theorem dX0_meldInto_36 : decode cX0_meldInto 36 = .ok (.getfield 44, 3) := by decide +kernel
theorem dX0_meldInto_39 : decode cX0_meldInto 39 = .ok (.iload_n 1, 1) := by decide +kernel
theorem dX0_meldInto_40 : decode cX0_meldInto 40 = .ok (.iload_n 3, 1) := by decide +kernel
theorem dX0_meldInto_41 : decode cX0_meldInto 41 = .ok (.invokestatic 120, 3) := by decide +kernel
theorem dX0_meldInto_44 : decode cX0_meldInto 44 = .ok (.iconst (-1), 1) := by decide +kernel
theorem dX0_meldInto_45 : decode cX0_meldInto 45 = .ok (.invokevirtual 99, 3) := by decide +kernel
theorem dX0_meldInto_48 : decode cX0_meldInto 48 = .ok (.iconst 0, 1) := by decide +kernel
theorem dX0_meldInto_49 : decode cX0_meldInto 49 = .ok (.istore 5, 2) := by decide +kernel
theorem dX0_meldInto_51 : decode cX0_meldInto 51 = .ok (.iload 5, 2) := by decide +kernel
theorem dX0_meldInto_53 : decode cX0_meldInto 53 = .ok (.bipush 20, 2) := by decide +kernel
theorem dX0_meldInto_55 : decode cX0_meldInto 55 = .ok (.if_icmp .ge 37, 3) := by decide +kernel
theorem dX0_meldInto_58 : decode cX0_meldInto 58 = .ok (.aload_n 0, 1) := by decide +kernel
theorem dX0_meldInto_59 : decode cX0_meldInto 59 = .ok (.aload_n 0, 1) := by decide +kernel
theorem dX0_meldInto_60 : decode cX0_meldInto 60 = .ok (.getfield 50, 3) := by decide +kernel
theorem dX0_meldInto_63 : decode cX0_meldInto 63 = .ok (.iload 5, 2) := by decide +kernel
theorem dX0_meldInto_65 : decode cX0_meldInto 65 = .ok (.invokevirtual 91, 3) := by decide +kernel
theorem dX0_meldInto_68 : decode cX0_meldInto 68 = .ok (.invokevirtual 123, 3) := by decide +kernel
theorem dX0_meldInto_71 : decode cX0_meldInto 71 = .ok (.iload 4, 2) := by decide +kernel
theorem dX0_meldInto_73 : decode cX0_meldInto 73 = .ok (.if_icmp .ne 13, 3) := by decide +kernel
theorem dX0_meldInto_76 : decode cX0_meldInto 76 = .ok (.aload_n 0, 1) := by decide +kernel
theorem dX0_meldInto_77 : decode cX0_meldInto 77 = .ok (.getfield 53, 3) := by decide +kernel
theorem dX0_meldInto_80 : decode cX0_meldInto 80 = .ok (.iload 5, 2) := by decide +kernel
theorem dX0_meldInto_82 : decode cX0_meldInto 82 = .ok (.iload_n 2, 1) := by decide +kernel
theorem dX0_meldInto_83 : decode cX0_meldInto 83 = .ok (.invokevirtual 99, 3) := by decide +kernel
theorem dX0_meldInto_86 : decode cX0_meldInto 86 = .ok (.iinc 5 1, 3) := by decide +kernel
theorem dX0_meldInto_89 : decode cX0_meldInto 89 = .ok (.goto (-38), 3) := by decide +kernel
theorem dX0_meldInto_92 : decode cX0_meldInto 92 = .ok (.aload_n 0, 1) := by decide +kernel
theorem dX0_meldInto_93 : decode cX0_meldInto 93 = .ok (.iload 4, 2) := by decide +kernel
theorem dX0_meldInto_95 : decode cX0_meldInto 95 = .ok (.iload_n 2, 1) := by decide +kernel
theorem dX0_meldInto_96 : decode cX0_meldInto 96 = .ok (.invokevirtual 107, 3) := by decide +kernel
theorem dX0_meldInto_99 : decode cX0_meldInto 99 = .ok (.iinc 3 1, 3) := by decide +kernel
theorem dX0_meldInto_102 : decode cX0_meldInto 102 = .ok (.goto (-93), 3) := by decide +kernel
theorem dX0_meldInto_105 : decode cX0_meldInto 105 = .ok (.iconst 1, 1) := by decide +kernel
theorem dX0_meldInto_106 : decode cX0_meldInto 106 = .ok (.ireturn, 1) := by decide +kernel
theorem dX0_shelveFrom_0 : decode cX0_shelveFrom 0 = .ok (.aload_n 0, 1) := by decide +kernel
theorem dX0_shelveFrom_1 : decode cX0_shelveFrom 1 = .ok (.iload_n 1, 1) := by decide +kernel
theorem dX0_shelveFrom_2 : decode cX0_shelveFrom 2 = .ok (.invokevirtual 126, 3) := by decide +kernel
theorem dX0_shelveFrom_5 : decode cX0_shelveFrom 5 = .ok (.istore_n 3, 1) := by decide +kernel
theorem dX0_shelveFrom_6 : decode cX0_shelveFrom 6 = .ok (.iload_n 3, 1) := by decide +kernel
theorem dX0_shelveFrom_7 : decode cX0_shelveFrom 7 = .ok (.iconst (-1), 1) := by decide +kernel
theorem dX0_shelveFrom_8 : decode cX0_shelveFrom 8 = .ok (.if_icmp .ne 5, 3) := by decide +kernel
theorem dX0_shelveFrom_11 : decode cX0_shelveFrom 11 = .ok (.iconst (-1), 1) := by decide +kernel
theorem dX0_shelveFrom_12 : decode cX0_shelveFrom 12 = .ok (.ireturn, 1) := by decide +kernel
theorem dX0_shelveFrom_13 : decode cX0_shelveFrom 13 = .ok (.aload_n 0, 1) := by decide +kernel
theorem dX0_shelveFrom_14 : decode cX0_shelveFrom 14 = .ok (.iload_n 2, 1) := by decide +kernel
theorem dX0_shelveFrom_15 : decode cX0_shelveFrom 15 = .ok (.invokevirtual 129, 3) := by decide +kernel
theorem dX0_shelveFrom_18 : decode cX0_shelveFrom 18 = .ok (.istore 4, 2) := by decide +kernel
theorem dX0_shelveFrom_20 : decode cX0_shelveFrom 20 = .ok (.iload 4, 2) := by decide +kernel
theorem dX0_shelveFrom_22 : decode cX0_shelveFrom 22 = .ok (.iconst (-1), 1) := by decide +kernel
theorem dX0_shelveFrom_23 : decode cX0_shelveFrom 23 = .ok (.if_icmp .eq 28, 3) := by decide +kernel
theorem dX0_shelveFrom_26 : decode cX0_shelveFrom 26 = .ok (.aload_n 0, 1) := by decide +kernel
theorem dX0_shelveFrom_27 : decode cX0_shelveFrom 27 = .ok (.getfield 62, 3) := by decide +kernel
theorem dX0_shelveFrom_30 : decode cX0_shelveFrom 30 = .ok (.getfield 132, 3) := by decide +kernel
theorem dX0_shelveFrom_33 : decode cX0_shelveFrom 33 = .ok (.iload_n 3, 1) := by decide +kernel
theorem dX0_shelveFrom_34 : decode cX0_shelveFrom 34 = .ok (.invokevirtual 91, 3) := by decide +kernel
theorem dX0_shelveFrom_37 : decode cX0_shelveFrom 37 = .ok (.aload_n 0, 1) := by decide +kernel
theorem dX0_shelveFrom_38 : decode cX0_shelveFrom 38 = .ok (.getfield 62, 3) := by decide +kernel
theorem dX0_shelveFrom_41 : decode cX0_shelveFrom 41 = .ok (.getfield 135, 3) := by decide +kernel
theorem dX0_shelveFrom_44 : decode cX0_shelveFrom 44 = .ok (.iload_n 2, 1) := by decide +kernel
theorem dX0_shelveFrom_45 : decode cX0_shelveFrom 45 = .ok (.invokevirtual 91, 3) := by decide +kernel
theorem dX0_shelveFrom_48 : decode cX0_shelveFrom 48 = .ok (.if_icmp .eq 5, 3) := by decide +kernel
theorem dX0_shelveFrom_51 : decode cX0_shelveFrom 51 = .ok (.iconst 0, 1) := by decide +kernel
theorem dX0_shelveFrom_52 : decode cX0_shelveFrom 52 = .ok (.ireturn, 1) := by decide +kernel
theorem dX0_shelveFrom_53 : decode cX0_shelveFrom 53 = .ok (.aload_n 0, 1) := by decide +kernel
theorem dX0_shelveFrom_54 : decode cX0_shelveFrom 54 = .ok (.getfield 56, 3) := by decide +kernel
theorem dX0_shelveFrom_57 : decode cX0_shelveFrom 57 = .ok (.iload_n 3, 1) := by decide +kernel
theorem dX0_shelveFrom_58 : decode cX0_shelveFrom 58 = .ok (.iload_n 2, 1) := by decide +kernel
theorem dX0_shelveFrom_59 : decode cX0_shelveFrom 59 = .ok (.invokevirtual 99, 3) := by decide +kernel
theorem dX0_shelveFrom_62 : decode cX0_shelveFrom 62 = .ok (.aload_n 0, 1) := by decide +kernel
theorem dX0_shelveFrom_63 : decode cX0_shelveFrom 63 = .ok (.getfield 59, 3) := by decide +kernel
theorem dX0_shelveFrom_66 : decode cX0_shelveFrom 66 = .ok (.iload_n 3, 1) := by decide +kernel
theorem dX0_shelveFrom_67 : decode cX0_shelveFrom 67 = .ok (.iload 4, 2) := by decide +kernel
theorem dX0_shelveFrom_69 : decode cX0_shelveFrom 69 = .ok (.invokevirtual 99, 3) := by decide +kernel
theorem dX0_shelveFrom_72 : decode cX0_shelveFrom 72 = .ok (.iconst 1, 1) := by decide +kernel
theorem dX0_shelveFrom_73 : decode cX0_shelveFrom 73 = .ok (.ireturn, 1) := by decide +kernel
theorem dX0_freePlace_0 : decode cX0_freePlace 0 = .ok (.iconst 0, 1) := by decide +kernel
theorem dX0_freePlace_1 : decode cX0_freePlace 1 = .ok (.istore_n 2, 1) := by decide +kernel
theorem dX0_freePlace_2 : decode cX0_freePlace 2 = .ok (.iload_n 2, 1) := by decide +kernel
theorem dX0_freePlace_3 : decode cX0_freePlace 3 = .ok (.iconst 4, 1) := by decide +kernel
theorem dX0_freePlace_4 : decode cX0_freePlace 4 = .ok (.if_icmp .ge 69, 3) := by decide +kernel
theorem dX0_freePlace_7 : decode cX0_freePlace 7 = .ok (.iconst 1, 1) := by decide +kernel
theorem dX0_freePlace_8 : decode cX0_freePlace 8 = .ok (.istore_n 3, 1) := by decide +kernel
theorem dX0_freePlace_9 : decode cX0_freePlace 9 = .ok (.iconst 0, 1) := by decide +kernel
theorem dX0_freePlace_10 : decode cX0_freePlace 10 = .ok (.istore 4, 2) := by decide +kernel
theorem dX0_freePlace_12 : decode cX0_freePlace 12 = .ok (.iload 4, 2) := by decide +kernel
theorem dX0_freePlace_14 : decode cX0_freePlace 14 = .ok (.bipush 20, 2) := by decide +kernel
theorem dX0_freePlace_16 : decode cX0_freePlace 16 = .ok (.if_icmp .ge 45, 3) := by decide +kernel
theorem dX0_freePlace_19 : decode cX0_freePlace 19 = .ok (.iload_n 3, 1) := by decide +kernel
theorem dX0_freePlace_20 : decode cX0_freePlace 20 = .ok (.ifCond .eq 33, 3) := by decide +kernel
theorem dX0_freePlace_23 : decode cX0_freePlace 23 = .ok (.aload_n 0, 1) := by decide +kernel
theorem dX0_freePlace_24 : decode cX0_freePlace 24 = .ok (.getfield 56, 3) := by decide +kernel
theorem dX0_freePlace_27 : decode cX0_freePlace 27 = .ok (.iload 4, 2) := by decide +kernel
theorem dX0_freePlace_29 : decode cX0_freePlace 29 = .ok (.invokevirtual 91, 3) := by decide +kernel
theorem dX0_freePlace_32 : decode cX0_freePlace 32 = .ok (.iload_n 1, 1) := by decide +kernel
theorem dX0_freePlace_33 : decode cX0_freePlace 33 = .ok (.if_icmp .ne 16, 3) := by decide +kernel
theorem dX0_freePlace_36 : decode cX0_freePlace 36 = .ok (.aload_n 0, 1) := by decide +kernel
theorem dX0_freePlace_37 : decode cX0_freePlace 37 = .ok (.getfield 59, 3) := by decide +kernel
theorem dX0_freePlace_40 : decode cX0_freePlace 40 = .ok (.iload 4, 2) := by decide +kernel
theorem dX0_freePlace_42 : decode cX0_freePlace 42 = .ok (.invokevirtual 91, 3) := by decide +kernel
theorem dX0_freePlace_45 : decode cX0_freePlace 45 = .ok (.iload_n 2, 1) := by decide +kernel
theorem dX0_freePlace_46 : decode cX0_freePlace 46 = .ok (.if_icmp .eq 7, 3) := by decide +kernel
theorem dX0_freePlace_49 : decode cX0_freePlace 49 = .ok (.iconst 1, 1) := by decide +kernel
theorem dX0_freePlace_50 : decode cX0_freePlace 50 = .ok (.goto 4, 3) := by decide +kernel
theorem dX0_freePlace_53 : decode cX0_freePlace 53 = .ok (.iconst 0, 1) := by decide +kernel
theorem dX0_freePlace_54 : decode cX0_freePlace 54 = .ok (.istore_n 3, 1) := by decide +kernel
theorem dX0_freePlace_55 : decode cX0_freePlace 55 = .ok (.iinc 4 1, 3) := by decide +kernel
theorem dX0_freePlace_58 : decode cX0_freePlace 58 = .ok (.goto (-46), 3) := by decide +kernel
theorem dX0_freePlace_61 : decode cX0_freePlace 61 = .ok (.iload_n 3, 1) := by decide +kernel
theorem dX0_freePlace_62 : decode cX0_freePlace 62 = .ok (.ifCond .eq 5, 3) := by decide +kernel
theorem dX0_freePlace_65 : decode cX0_freePlace 65 = .ok (.iload_n 2, 1) := by decide +kernel
theorem dX0_freePlace_66 : decode cX0_freePlace 66 = .ok (.ireturn, 1) := by decide +kernel
theorem dX0_freePlace_67 : decode cX0_freePlace 67 = .ok (.iinc 2 1, 3) := by decide +kernel
theorem dX0_freePlace_70 : decode cX0_freePlace 70 = .ok (.goto (-68), 3) := by decide +kernel
theorem dX0_freePlace_73 : decode cX0_freePlace 73 = .ok (.iconst (-1), 1) := by decide +kernel
theorem dX0_freePlace_74 : decode cX0_freePlace 74 = .ok (.ireturn, 1) := by decide +kernel
theorem dX0_slot_0 : decode cX0_slot 0 = .ok (.iload_n 0, 1) := by decide +kernel
theorem dX0_slot_1 : decode cX0_slot 1 = .ok (.ifCond .lt 13, 3) := by decide +kernel
theorem dX0_slot_4 : decode cX0_slot 4 = .ok (.iload_n 1, 1) := by decide +kernel
theorem dX0_slot_5 : decode cX0_slot 5 = .ok (.ifCond .lt 9, 3) := by decide +kernel
theorem dX0_slot_8 : decode cX0_slot 8 = .ok (.iload_n 1, 1) := by decide +kernel
theorem dX0_slot_9 : decode cX0_slot 9 = .ok (.bipush 24, 2) := by decide +kernel
theorem dX0_slot_11 : decode cX0_slot 11 = .ok (.if_icmp .lt 7, 3) := by decide +kernel
theorem dX0_slot_14 : decode cX0_slot 14 = .ok (.iconst (-1), 1) := by decide +kernel
theorem dX0_slot_15 : decode cX0_slot 15 = .ok (.goto 9, 3) := by decide +kernel
theorem dX0_slot_18 : decode cX0_slot 18 = .ok (.iload_n 0, 1) := by decide +kernel
theorem dX0_slot_19 : decode cX0_slot 19 = .ok (.bipush 24, 2) := by decide +kernel
theorem dX0_slot_21 : decode cX0_slot 21 = .ok (.imul, 1) := by decide +kernel
theorem dX0_slot_22 : decode cX0_slot 22 = .ok (.iload_n 1, 1) := by decide +kernel
theorem dX0_slot_23 : decode cX0_slot 23 = .ok (.iadd, 1) := by decide +kernel
theorem dX0_slot_24 : decode cX0_slot 24 = .ok (.ireturn, 1) := by decide +kernel
theorem dX0_newNode_0 : decode cX0_newNode 0 = .ok (.iconst 0, 1) := by decide +kernel
theorem dX0_newNode_1 : decode cX0_newNode 1 = .ok (.istore_n 3, 1) := by decide +kernel
theorem dX0_newNode_2 : decode cX0_newNode 2 = .ok (.iload_n 3, 1) := by decide +kernel
theorem dX0_newNode_3 : decode cX0_newNode 3 = .ok (.bipush 24, 2) := by decide +kernel
theorem dX0_newNode_5 : decode cX0_newNode 5 = .ok (.if_icmp .ge 104, 3) := by decide +kernel
theorem dX0_newNode_8 : decode cX0_newNode 8 = .ok (.aload_n 0, 1) := by decide +kernel
theorem dX0_newNode_9 : decode cX0_newNode 9 = .ok (.getfield 16, 3) := by decide +kernel
theorem dX0_newNode_12 : decode cX0_newNode 12 = .ok (.iload_n 3, 1) := by decide +kernel
theorem dX0_newNode_13 : decode cX0_newNode 13 = .ok (.invokevirtual 91, 3) := by decide +kernel
theorem dX0_newNode_16 : decode cX0_newNode 16 = .ok (.iconst (-1), 1) := by decide +kernel
theorem dX0_newNode_17 : decode cX0_newNode 17 = .ok (.if_icmp .ne 86, 3) := by decide +kernel
theorem dX0_newNode_20 : decode cX0_newNode 20 = .ok (.aload_n 0, 1) := by decide +kernel
theorem dX0_newNode_21 : decode cX0_newNode 21 = .ok (.getfield 16, 3) := by decide +kernel
theorem dX0_newNode_24 : decode cX0_newNode 24 = .ok (.iload_n 3, 1) := by decide +kernel
theorem dX0_newNode_25 : decode cX0_newNode 25 = .ok (.iload_n 1, 1) := by decide +kernel
theorem dX0_newNode_26 : decode cX0_newNode 26 = .ok (.invokevirtual 99, 3) := by decide +kernel
theorem dX0_newNode_29 : decode cX0_newNode 29 = .ok (.aload_n 0, 1) := by decide +kernel
theorem dX0_newNode_30 : decode cX0_newNode 30 = .ok (.getfield 20, 3) := by decide +kernel
theorem dX0_newNode_33 : decode cX0_newNode 33 = .ok (.iload_n 3, 1) := by decide +kernel
theorem dX0_newNode_34 : decode cX0_newNode 34 = .ok (.iload_n 2, 1) := by decide +kernel
theorem dX0_newNode_35 : decode cX0_newNode 35 = .ok (.invokevirtual 99, 3) := by decide +kernel
theorem dX0_newNode_38 : decode cX0_newNode 38 = .ok (.aload_n 0, 1) := by decide +kernel
theorem dX0_newNode_39 : decode cX0_newNode 39 = .ok (.getfield 23, 3) := by decide +kernel
theorem dX0_newNode_42 : decode cX0_newNode 42 = .ok (.iload_n 3, 1) := by decide +kernel
theorem dX0_newNode_43 : decode cX0_newNode 43 = .ok (.iconst (-1), 1) := by decide +kernel
theorem dX0_newNode_44 : decode cX0_newNode 44 = .ok (.invokevirtual 99, 3) := by decide +kernel
theorem dX0_newNode_47 : decode cX0_newNode 47 = .ok (.aload_n 0, 1) := by decide +kernel
theorem dX0_newNode_48 : decode cX0_newNode 48 = .ok (.getfield 26, 3) := by decide +kernel
theorem dX0_newNode_51 : decode cX0_newNode 51 = .ok (.iload_n 3, 1) := by decide +kernel
theorem dX0_newNode_52 : decode cX0_newNode 52 = .ok (.iconst (-1), 1) := by decide +kernel
theorem dX0_newNode_53 : decode cX0_newNode 53 = .ok (.invokevirtual 99, 3) := by decide +kernel
theorem dX0_newNode_56 : decode cX0_newNode 56 = .ok (.aload_n 0, 1) := by decide +kernel
theorem dX0_newNode_57 : decode cX0_newNode 57 = .ok (.getfield 29, 3) := by decide +kernel
theorem dX0_newNode_60 : decode cX0_newNode 60 = .ok (.iload_n 3, 1) := by decide +kernel
theorem dX0_newNode_61 : decode cX0_newNode 61 = .ok (.iconst (-1), 1) := by decide +kernel
theorem dX0_newNode_62 : decode cX0_newNode 62 = .ok (.invokevirtual 99, 3) := by decide +kernel
theorem dX0_newNode_65 : decode cX0_newNode 65 = .ok (.aload_n 0, 1) := by decide +kernel
theorem dX0_newNode_66 : decode cX0_newNode 66 = .ok (.getfield 32, 3) := by decide +kernel
theorem dX0_newNode_69 : decode cX0_newNode 69 = .ok (.iload_n 3, 1) := by decide +kernel
theorem dX0_newNode_70 : decode cX0_newNode 70 = .ok (.iconst 0, 1) := by decide +kernel
theorem dX0_newNode_71 : decode cX0_newNode 71 = .ok (.invokevirtual 99, 3) := by decide +kernel
theorem dX0_newNode_74 : decode cX0_newNode 74 = .ok (.aload_n 0, 1) := by decide +kernel
theorem dX0_newNode_75 : decode cX0_newNode 75 = .ok (.getfield 35, 3) := by decide +kernel
theorem dX0_newNode_78 : decode cX0_newNode 78 = .ok (.iload_n 3, 1) := by decide +kernel
theorem dX0_newNode_79 : decode cX0_newNode 79 = .ok (.iconst (-1), 1) := by decide +kernel
theorem dX0_newNode_80 : decode cX0_newNode 80 = .ok (.invokevirtual 99, 3) := by decide +kernel
theorem dX0_newNode_83 : decode cX0_newNode 83 = .ok (.aload_n 0, 1) := by decide +kernel
theorem dX0_newNode_84 : decode cX0_newNode 84 = .ok (.getfield 38, 3) := by decide +kernel
theorem dX0_newNode_87 : decode cX0_newNode 87 = .ok (.iload_n 3, 1) := by decide +kernel
theorem dX0_newNode_88 : decode cX0_newNode 88 = .ok (.iconst (-1), 1) := by decide +kernel
theorem dX0_newNode_89 : decode cX0_newNode 89 = .ok (.invokevirtual 99, 3) := by decide +kernel
theorem dX0_newNode_92 : decode cX0_newNode 92 = .ok (.aload_n 0, 1) := by decide +kernel
theorem dX0_newNode_93 : decode cX0_newNode 93 = .ok (.getfield 41, 3) := by decide +kernel
theorem dX0_newNode_96 : decode cX0_newNode 96 = .ok (.iload_n 3, 1) := by decide +kernel
theorem dX0_newNode_97 : decode cX0_newNode 97 = .ok (.iconst (-1), 1) := by decide +kernel
theorem dX0_newNode_98 : decode cX0_newNode 98 = .ok (.invokevirtual 99, 3) := by decide +kernel
theorem dX0_newNode_101 : decode cX0_newNode 101 = .ok (.iload_n 3, 1) := by decide +kernel
theorem dX0_newNode_102 : decode cX0_newNode 102 = .ok (.ireturn, 1) := by decide +kernel
theorem dX0_newNode_103 : decode cX0_newNode 103 = .ok (.iinc 3 1, 3) := by decide +kernel
theorem dX0_newNode_106 : decode cX0_newNode 106 = .ok (.goto (-104), 3) := by decide +kernel
theorem dX0_newNode_109 : decode cX0_newNode 109 = .ok (.iconst (-1), 1) := by decide +kernel
theorem dX0_newNode_110 : decode cX0_newNode 110 = .ok (.ireturn, 1) := by decide +kernel
theorem dX0_join_0 : decode cX0_join 0 = .ok (.iload_n 1, 1) := by decide +kernel
theorem dX0_join_1 : decode cX0_join 1 = .ok (.istore_n 3, 1) := by decide +kernel
theorem dX0_join_2 : decode cX0_join 2 = .ok (.aload_n 0, 1) := by decide +kernel
theorem dX0_join_3 : decode cX0_join 3 = .ok (.iload_n 2, 1) := by decide +kernel
theorem dX0_join_4 : decode cX0_join 4 = .ok (.invokevirtual 138, 3) := by decide +kernel
theorem dX0_join_7 : decode cX0_join 7 = .ok (.istore 4, 2) := by decide +kernel
theorem dX0_join_9 : decode cX0_join 9 = .ok (.aload_n 0, 1) := by decide +kernel
theorem dX0_join_10 : decode cX0_join 10 = .ok (.getfield 16, 3) := by decide +kernel
theorem dX0_join_13 : decode cX0_join 13 = .ok (.iload_n 1, 1) := by decide +kernel
theorem dX0_join_14 : decode cX0_join 14 = .ok (.invokevirtual 91, 3) := by decide +kernel
theorem dX0_join_17 : decode cX0_join 17 = .ok (.istore 5, 2) := by decide +kernel
theorem dX0_join_19 : decode cX0_join 19 = .ok (.iload 5, 2) := by decide +kernel
theorem dX0_join_21 : decode cX0_join 21 = .ok (.bipush 24, 2) := by decide +kernel
theorem dX0_join_23 : decode cX0_join 23 = .ok (.if_icmp .ge 167, 3) := by decide +kernel
theorem dX0_join_26 : decode cX0_join 26 = .ok (.aload_n 0, 1) := by decide +kernel
theorem dX0_join_27 : decode cX0_join 27 = .ok (.getfield 44, 3) := by decide +kernel
theorem dX0_join_30 : decode cX0_join 30 = .ok (.iload_n 2, 1) := by decide +kernel
theorem dX0_join_31 : decode cX0_join 31 = .ok (.iload 5, 2) := by decide +kernel
theorem dX0_join_33 : decode cX0_join 33 = .ok (.invokestatic 120, 3) := by decide +kernel
theorem dX0_join_36 : decode cX0_join 36 = .ok (.invokevirtual 91, 3) := by decide +kernel
theorem dX0_join_39 : decode cX0_join 39 = .ok (.istore 6, 2) := by decide +kernel
theorem dX0_join_41 : decode cX0_join 41 = .ok (.iload 6, 2) := by decide +kernel
theorem dX0_join_43 : decode cX0_join 43 = .ok (.iconst (-1), 1) := by decide +kernel
theorem dX0_join_44 : decode cX0_join 44 = .ok (.if_icmp .ne 18, 3) := by decide +kernel
theorem dX0_join_47 : decode cX0_join 47 = .ok (.aload_n 0, 1) := by decide +kernel
theorem dX0_join_48 : decode cX0_join 48 = .ok (.getfield 44, 3) := by decide +kernel
theorem dX0_join_51 : decode cX0_join 51 = .ok (.iload_n 2, 1) := by decide +kernel
theorem dX0_join_52 : decode cX0_join 52 = .ok (.iload 5, 2) := by decide +kernel
theorem dX0_join_54 : decode cX0_join 54 = .ok (.invokestatic 120, 3) := by decide +kernel
theorem dX0_join_57 : decode cX0_join 57 = .ok (.iload_n 3, 1) := by decide +kernel
theorem dX0_join_58 : decode cX0_join 58 = .ok (.invokevirtual 99, 3) := by decide +kernel
theorem dX0_join_61 : decode cX0_join 61 = .ok (.return_, 1) := by decide +kernel
theorem dX0_join_62 : decode cX0_join 62 = .ok (.aload_n 0, 1) := by decide +kernel
theorem dX0_join_63 : decode cX0_join 63 = .ok (.getfield 44, 3) := by decide +kernel
theorem dX0_join_66 : decode cX0_join 66 = .ok (.iload_n 2, 1) := by decide +kernel
theorem dX0_join_67 : decode cX0_join 67 = .ok (.iload 5, 2) := by decide +kernel
theorem dX0_join_69 : decode cX0_join 69 = .ok (.invokestatic 120, 3) := by decide +kernel
theorem dX0_join_72 : decode cX0_join 72 = .ok (.iconst (-1), 1) := by decide +kernel
theorem dX0_join_73 : decode cX0_join 73 = .ok (.invokevirtual 99, 3) := by decide +kernel
theorem dX0_join_76 : decode cX0_join 76 = .ok (.aload_n 0, 1) := by decide +kernel
theorem dX0_join_77 : decode cX0_join 77 = .ok (.getfield 20, 3) := by decide +kernel
theorem dX0_join_80 : decode cX0_join 80 = .ok (.iload 6, 2) := by decide +kernel
theorem dX0_join_82 : decode cX0_join 82 = .ok (.invokevirtual 91, 3) := by decide +kernel
theorem dX0_join_85 : decode cX0_join 85 = .ok (.aload_n 0, 1) := by decide +kernel
theorem dX0_join_86 : decode cX0_join 86 = .ok (.getfield 20, 3) := by decide +kernel
theorem dX0_join_89 : decode cX0_join 89 = .ok (.iload_n 3, 1) := by decide +kernel
theorem dX0_join_90 : decode cX0_join 90 = .ok (.invokevirtual 91, 3) := by decide +kernel
theorem dX0_join_93 : decode cX0_join 93 = .ok (.invokestatic 141, 3) := by decide +kernel
theorem dX0_join_96 : decode cX0_join 96 = .ok (.istore 7, 2) := by decide +kernel
theorem dX0_join_98 : decode cX0_join 98 = .ok (.aload_n 0, 1) := by decide +kernel
theorem dX0_join_99 : decode cX0_join 99 = .ok (.iload 5, 2) := by decide +kernel
theorem dX0_join_101 : decode cX0_join 101 = .ok (.iconst 1, 1) := by decide +kernel
theorem dX0_join_102 : decode cX0_join 102 = .ok (.iadd, 1) := by decide +kernel
theorem dX0_join_103 : decode cX0_join 103 = .ok (.aload_n 0, 1) := by decide +kernel
theorem dX0_join_104 : decode cX0_join 104 = .ok (.getfield 62, 3) := by decide +kernel
theorem dX0_join_107 : decode cX0_join 107 = .ok (.getfield 146, 3) := by decide +kernel
theorem dX0_join_110 : decode cX0_join 110 = .ok (.iload 5, 2) := by decide +kernel
theorem dX0_join_112 : decode cX0_join 112 = .ok (.iconst 1, 1) := by decide +kernel
theorem dX0_join_113 : decode cX0_join 113 = .ok (.iadd, 1) := by decide +kernel
theorem dX0_join_114 : decode cX0_join 114 = .ok (.iload 7, 2) := by decide +kernel
theorem dX0_join_116 : decode cX0_join 116 = .ok (.aload_n 0, 1) := by decide +kernel
theorem dX0_join_117 : decode cX0_join 117 = .ok (.getfield 62, 3) := by decide +kernel
theorem dX0_join_120 : decode cX0_join 120 = .ok (.getfield 150, 3) := by decide +kernel
theorem dX0_join_123 : decode cX0_join 123 = .ok (.iload 4, 2) := by decide +kernel
theorem dX0_join_125 : decode cX0_join 125 = .ok (.invokevirtual 153, 3) := by decide +kernel
theorem dX0_join_128 : decode cX0_join 128 = .ok (.invokevirtual 103, 3) := by decide +kernel
theorem dX0_join_131 : decode cX0_join 131 = .ok (.istore 8, 2) := by decide +kernel
theorem dX0_join_133 : decode cX0_join 133 = .ok (.aload_n 0, 1) := by decide +kernel
theorem dX0_join_134 : decode cX0_join 134 = .ok (.getfield 35, 3) := by decide +kernel
theorem dX0_join_137 : decode cX0_join 137 = .ok (.iload 8, 2) := by decide +kernel
theorem dX0_join_139 : decode cX0_join 139 = .ok (.iload 6, 2) := by decide +kernel
theorem dX0_join_141 : decode cX0_join 141 = .ok (.invokevirtual 99, 3) := by decide +kernel
theorem dX0_join_144 : decode cX0_join 144 = .ok (.aload_n 0, 1) := by decide +kernel
theorem dX0_join_145 : decode cX0_join 145 = .ok (.getfield 38, 3) := by decide +kernel
theorem dX0_join_148 : decode cX0_join 148 = .ok (.iload 8, 2) := by decide +kernel
theorem dX0_join_150 : decode cX0_join 150 = .ok (.iload_n 3, 1) := by decide +kernel
theorem dX0_join_151 : decode cX0_join 151 = .ok (.invokevirtual 99, 3) := by decide +kernel
theorem dX0_join_154 : decode cX0_join 154 = .ok (.aload_n 0, 1) := by decide +kernel
theorem dX0_join_155 : decode cX0_join 155 = .ok (.getfield 41, 3) := by decide +kernel
theorem dX0_join_158 : decode cX0_join 158 = .ok (.iload 6, 2) := by decide +kernel
theorem dX0_join_160 : decode cX0_join 160 = .ok (.iload 8, 2) := by decide +kernel
theorem dX0_join_162 : decode cX0_join 162 = .ok (.invokevirtual 99, 3) := by decide +kernel
theorem dX0_join_165 : decode cX0_join 165 = .ok (.aload_n 0, 1) := by decide +kernel
theorem dX0_join_166 : decode cX0_join 166 = .ok (.getfield 41, 3) := by decide +kernel
theorem dX0_join_169 : decode cX0_join 169 = .ok (.iload_n 3, 1) := by decide +kernel
theorem dX0_join_170 : decode cX0_join 170 = .ok (.iload 8, 2) := by decide +kernel
theorem dX0_join_172 : decode cX0_join 172 = .ok (.invokevirtual 99, 3) := by decide +kernel
theorem dX0_join_175 : decode cX0_join 175 = .ok (.aload_n 0, 1) := by decide +kernel
theorem dX0_join_176 : decode cX0_join 176 = .ok (.iload 8, 2) := by decide +kernel
theorem dX0_join_178 : decode cX0_join 178 = .ok (.invokevirtual 117, 3) := by decide +kernel
theorem dX0_join_181 : decode cX0_join 181 = .ok (.iload 8, 2) := by decide +kernel
theorem dX0_join_183 : decode cX0_join 183 = .ok (.istore_n 3, 1) := by decide +kernel
theorem dX0_join_184 : decode cX0_join 184 = .ok (.iinc 5 1, 3) := by decide +kernel
theorem dX0_join_187 : decode cX0_join 187 = .ok (.goto (-168), 3) := by decide +kernel
theorem dX0_join_190 : decode cX0_join 190 = .ok (.return_, 1) := by decide +kernel
theorem dX0_sift_0 : decode cX0_sift 0 = .ok (.iload_n 1, 1) := by decide +kernel
theorem dX0_sift_1 : decode cX0_sift 1 = .ok (.istore_n 2, 1) := by decide +kernel
theorem dX0_sift_2 : decode cX0_sift 2 = .ok (.iconst 0, 1) := by decide +kernel
theorem dX0_sift_3 : decode cX0_sift 3 = .ok (.istore_n 3, 1) := by decide +kernel
theorem dX0_sift_4 : decode cX0_sift 4 = .ok (.iload_n 3, 1) := by decide +kernel
theorem dX0_sift_5 : decode cX0_sift 5 = .ok (.ldc 159, 2) := by decide +kernel
theorem dX0_sift_7 : decode cX0_sift 7 = .ok (.if_icmp .ge 110, 3) := by decide +kernel
theorem dX0_sift_10 : decode cX0_sift 10 = .ok (.iload_n 2, 1) := by decide +kernel
theorem dX0_sift_11 : decode cX0_sift 11 = .ok (.iconst (-1), 1) := by decide +kernel
theorem dX0_sift_12 : decode cX0_sift 12 = .ok (.if_icmp .eq 105, 3) := by decide +kernel
theorem dX0_sift_15 : decode cX0_sift 15 = .ok (.aload_n 0, 1) := by decide +kernel
theorem dX0_sift_16 : decode cX0_sift 16 = .ok (.getfield 32, 3) := by decide +kernel
theorem dX0_sift_19 : decode cX0_sift 19 = .ok (.iload_n 2, 1) := by decide +kernel
theorem dX0_sift_20 : decode cX0_sift 20 = .ok (.invokevirtual 91, 3) := by decide +kernel
theorem dX0_sift_23 : decode cX0_sift 23 = .ok (.aload_n 0, 1) := by decide +kernel
theorem dX0_sift_24 : decode cX0_sift 24 = .ok (.getfield 20, 3) := by decide +kernel
theorem dX0_sift_27 : decode cX0_sift 27 = .ok (.iload_n 2, 1) := by decide +kernel
theorem dX0_sift_28 : decode cX0_sift 28 = .ok (.invokevirtual 91, 3) := by decide +kernel
theorem dX0_sift_31 : decode cX0_sift 31 = .ok (.if_icmp .ge 11, 3) := by decide +kernel
theorem dX0_sift_34 : decode cX0_sift 34 = .ok (.aload_n 0, 1) := by decide +kernel
theorem dX0_sift_35 : decode cX0_sift 35 = .ok (.iload_n 2, 1) := by decide +kernel
theorem dX0_sift_36 : decode cX0_sift 36 = .ok (.invokevirtual 113, 3) := by decide +kernel
theorem dX0_sift_39 : decode cX0_sift 39 = .ok (.ifCond .eq 24, 3) := by decide +kernel
theorem dX0_sift_42 : decode cX0_sift 42 = .ok (.iload_n 2, 1) := by decide +kernel
theorem dX0_sift_43 : decode cX0_sift 43 = .ok (.iload_n 1, 1) := by decide +kernel
theorem dX0_sift_44 : decode cX0_sift 44 = .ok (.if_icmp .ne 7, 3) := by decide +kernel
theorem dX0_sift_47 : decode cX0_sift 47 = .ok (.iconst (-1), 1) := by decide +kernel
theorem dX0_sift_48 : decode cX0_sift 48 = .ok (.goto 11, 3) := by decide +kernel
theorem dX0_sift_51 : decode cX0_sift 51 = .ok (.aload_n 0, 1) := by decide +kernel
theorem dX0_sift_52 : decode cX0_sift 52 = .ok (.getfield 41, 3) := by decide +kernel
theorem dX0_sift_55 : decode cX0_sift 55 = .ok (.iload_n 2, 1) := by decide +kernel
theorem dX0_sift_56 : decode cX0_sift 56 = .ok (.invokevirtual 91, 3) := by decide +kernel
theorem dX0_sift_59 : decode cX0_sift 59 = .ok (.istore_n 2, 1) := by decide +kernel
theorem dX0_sift_60 : decode cX0_sift 60 = .ok (.goto 51, 3) := by decide +kernel
theorem dX0_sift_63 : decode cX0_sift 63 = .ok (.aload_n 0, 1) := by decide +kernel
theorem dX0_sift_64 : decode cX0_sift 64 = .ok (.iload_n 2, 1) := by decide +kernel
theorem dX0_sift_65 : decode cX0_sift 65 = .ok (.invokevirtual 160, 3) := by decide +kernel
theorem dX0_sift_68 : decode cX0_sift 68 = .ok (.istore 4, 2) := by decide +kernel
theorem dX0_sift_70 : decode cX0_sift 70 = .ok (.aload_n 0, 1) := by decide +kernel
theorem dX0_sift_71 : decode cX0_sift 71 = .ok (.iload 4, 2) := by decide +kernel
theorem dX0_sift_73 : decode cX0_sift 73 = .ok (.iload_n 2, 1) := by decide +kernel
theorem dX0_sift_74 : decode cX0_sift 74 = .ok (.invokevirtual 163, 3) := by decide +kernel
theorem dX0_sift_77 : decode cX0_sift 77 = .ok (.aload_n 0, 1) := by decide +kernel
theorem dX0_sift_78 : decode cX0_sift 78 = .ok (.iload 4, 2) := by decide +kernel
theorem dX0_sift_80 : decode cX0_sift 80 = .ok (.invokevirtual 113, 3) := by decide +kernel
theorem dX0_sift_83 : decode cX0_sift 83 = .ok (.ifCond .eq 25, 3) := by decide +kernel
theorem dX0_sift_86 : decode cX0_sift 86 = .ok (.aload_n 0, 1) := by decide +kernel
theorem dX0_sift_87 : decode cX0_sift 87 = .ok (.getfield 16, 3) := by decide +kernel
theorem dX0_sift_90 : decode cX0_sift 90 = .ok (.iload 4, 2) := by decide +kernel
theorem dX0_sift_92 : decode cX0_sift 92 = .ok (.iconst (-1), 1) := by decide +kernel
theorem dX0_sift_93 : decode cX0_sift 93 = .ok (.invokevirtual 99, 3) := by decide +kernel
theorem dX0_sift_96 : decode cX0_sift 96 = .ok (.aload_n 0, 1) := by decide +kernel
theorem dX0_sift_97 : decode cX0_sift 97 = .ok (.getfield 35, 3) := by decide +kernel
theorem dX0_sift_100 : decode cX0_sift 100 = .ok (.iload_n 2, 1) := by decide +kernel
theorem dX0_sift_101 : decode cX0_sift 101 = .ok (.iconst (-1), 1) := by decide +kernel
theorem dX0_sift_102 : decode cX0_sift 102 = .ok (.invokevirtual 99, 3) := by decide +kernel
theorem dX0_sift_105 : decode cX0_sift 105 = .ok (.goto 6, 3) := by decide +kernel
theorem dX0_sift_108 : decode cX0_sift 108 = .ok (.iload 4, 2) := by decide +kernel
theorem dX0_sift_110 : decode cX0_sift 110 = .ok (.istore_n 2, 1) := by decide +kernel
theorem dX0_sift_111 : decode cX0_sift 111 = .ok (.iinc 3 1, 3) := by decide +kernel
theorem dX0_sift_114 : decode cX0_sift 114 = .ok (.goto (-110), 3) := by decide +kernel
theorem dX0_sift_117 : decode cX0_sift 117 = .ok (.return_, 1) := by decide +kernel
theorem dX0_lesserChild_0 : decode cX0_lesserChild 0 = .ok (.aload_n 0, 1) := by decide +kernel
theorem dX0_lesserChild_1 : decode cX0_lesserChild 1 = .ok (.getfield 35, 3) := by decide +kernel
theorem dX0_lesserChild_4 : decode cX0_lesserChild 4 = .ok (.iload_n 1, 1) := by decide +kernel
theorem dX0_lesserChild_5 : decode cX0_lesserChild 5 = .ok (.invokevirtual 91, 3) := by decide +kernel
theorem dX0_lesserChild_8 : decode cX0_lesserChild 8 = .ok (.istore_n 2, 1) := by decide +kernel
theorem dX0_lesserChild_9 : decode cX0_lesserChild 9 = .ok (.aload_n 0, 1) := by decide +kernel
theorem dX0_lesserChild_10 : decode cX0_lesserChild 10 = .ok (.getfield 38, 3) := by decide +kernel
theorem dX0_lesserChild_13 : decode cX0_lesserChild 13 = .ok (.iload_n 1, 1) := by decide +kernel
theorem dX0_lesserChild_14 : decode cX0_lesserChild 14 = .ok (.invokevirtual 91, 3) := by decide +kernel
theorem dX0_lesserChild_17 : decode cX0_lesserChild 17 = .ok (.istore_n 3, 1) := by decide +kernel
theorem dX0_lesserChild_18 : decode cX0_lesserChild 18 = .ok (.iload_n 3, 1) := by decide +kernel
theorem dX0_lesserChild_19 : decode cX0_lesserChild 19 = .ok (.iconst (-1), 1) := by decide +kernel
theorem dX0_lesserChild_20 : decode cX0_lesserChild 20 = .ok (.if_icmp .eq 41, 3) := by decide +kernel
theorem dX0_lesserChild_23 : decode cX0_lesserChild 23 = .ok (.aload_n 0, 1) := by decide +kernel
theorem dX0_lesserChild_24 : decode cX0_lesserChild 24 = .ok (.getfield 62, 3) := by decide +kernel
theorem dX0_lesserChild_27 : decode cX0_lesserChild 27 = .ok (.aload_n 0, 1) := by decide +kernel
theorem dX0_lesserChild_28 : decode cX0_lesserChild 28 = .ok (.getfield 23, 3) := by decide +kernel
theorem dX0_lesserChild_31 : decode cX0_lesserChild 31 = .ok (.iload_n 3, 1) := by decide +kernel
theorem dX0_lesserChild_32 : decode cX0_lesserChild 32 = .ok (.invokevirtual 91, 3) := by decide +kernel
theorem dX0_lesserChild_35 : decode cX0_lesserChild 35 = .ok (.invokevirtual 166, 3) := by decide +kernel
theorem dX0_lesserChild_38 : decode cX0_lesserChild 38 = .ok (.aload_n 0, 1) := by decide +kernel
theorem dX0_lesserChild_39 : decode cX0_lesserChild 39 = .ok (.getfield 62, 3) := by decide +kernel
theorem dX0_lesserChild_42 : decode cX0_lesserChild 42 = .ok (.aload_n 0, 1) := by decide +kernel
theorem dX0_lesserChild_43 : decode cX0_lesserChild 43 = .ok (.getfield 23, 3) := by decide +kernel
theorem dX0_lesserChild_46 : decode cX0_lesserChild 46 = .ok (.iload_n 2, 1) := by decide +kernel
theorem dX0_lesserChild_47 : decode cX0_lesserChild 47 = .ok (.invokevirtual 91, 3) := by decide +kernel
theorem dX0_lesserChild_50 : decode cX0_lesserChild 50 = .ok (.invokevirtual 166, 3) := by decide +kernel
theorem dX0_lesserChild_53 : decode cX0_lesserChild 53 = .ok (.fcmp .g, 1) := by decide +kernel
theorem dX0_lesserChild_54 : decode cX0_lesserChild 54 = .ok (.ifCond .ge 7, 3) := by decide +kernel
theorem dX0_lesserChild_57 : decode cX0_lesserChild 57 = .ok (.iconst 1, 1) := by decide +kernel
theorem dX0_lesserChild_58 : decode cX0_lesserChild 58 = .ok (.goto 4, 3) := by decide +kernel
theorem dX0_lesserChild_61 : decode cX0_lesserChild 61 = .ok (.iconst 0, 1) := by decide +kernel
theorem dX0_lesserChild_62 : decode cX0_lesserChild 62 = .ok (.istore 4, 2) := by decide +kernel
theorem dX0_lesserChild_64 : decode cX0_lesserChild 64 = .ok (.iload_n 2, 1) := by decide +kernel
theorem dX0_lesserChild_65 : decode cX0_lesserChild 65 = .ok (.iconst (-1), 1) := by decide +kernel
theorem dX0_lesserChild_66 : decode cX0_lesserChild 66 = .ok (.if_icmp .eq 10, 3) := by decide +kernel
theorem dX0_lesserChild_69 : decode cX0_lesserChild 69 = .ok (.iload 4, 2) := by decide +kernel
theorem dX0_lesserChild_71 : decode cX0_lesserChild 71 = .ok (.ifCond .ne 5, 3) := by decide +kernel
theorem dX0_lesserChild_74 : decode cX0_lesserChild 74 = .ok (.iload_n 2, 1) := by decide +kernel
theorem dX0_lesserChild_75 : decode cX0_lesserChild 75 = .ok (.ireturn, 1) := by decide +kernel
theorem dX0_lesserChild_76 : decode cX0_lesserChild 76 = .ok (.aload_n 0, 1) := by decide +kernel
theorem dX0_lesserChild_77 : decode cX0_lesserChild 77 = .ok (.getfield 35, 3) := by decide +kernel
theorem dX0_lesserChild_80 : decode cX0_lesserChild 80 = .ok (.iload_n 1, 1) := by decide +kernel
theorem dX0_lesserChild_81 : decode cX0_lesserChild 81 = .ok (.iload_n 3, 1) := by decide +kernel
theorem dX0_lesserChild_82 : decode cX0_lesserChild 82 = .ok (.invokevirtual 99, 3) := by decide +kernel
theorem dX0_lesserChild_85 : decode cX0_lesserChild 85 = .ok (.aload_n 0, 1) := by decide +kernel
theorem dX0_lesserChild_86 : decode cX0_lesserChild 86 = .ok (.getfield 38, 3) := by decide +kernel
theorem dX0_lesserChild_89 : decode cX0_lesserChild 89 = .ok (.iload_n 1, 1) := by decide +kernel
theorem dX0_lesserChild_90 : decode cX0_lesserChild 90 = .ok (.iload_n 2, 1) := by decide +kernel
theorem dX0_lesserChild_91 : decode cX0_lesserChild 91 = .ok (.invokevirtual 99, 3) := by decide +kernel
theorem dX0_lesserChild_94 : decode cX0_lesserChild 94 = .ok (.iload_n 3, 1) := by decide +kernel
theorem dX0_lesserChild_95 : decode cX0_lesserChild 95 = .ok (.ireturn, 1) := by decide +kernel
theorem dX0_drawUp_0 : decode cX0_drawUp 0 = .ok (.aload_n 0, 1) := by decide +kernel
theorem dX0_drawUp_1 : decode cX0_drawUp 1 = .ok (.getfield 26, 3) := by decide +kernel
theorem dX0_drawUp_4 : decode cX0_drawUp 4 = .ok (.iload_n 1, 1) := by decide +kernel
theorem dX0_drawUp_5 : decode cX0_drawUp 5 = .ok (.invokevirtual 91, 3) := by decide +kernel
theorem dX0_drawUp_8 : decode cX0_drawUp 8 = .ok (.istore_n 3, 1) := by decide +kernel
theorem dX0_drawUp_9 : decode cX0_drawUp 9 = .ok (.aload_n 0, 1) := by decide +kernel
theorem dX0_drawUp_10 : decode cX0_drawUp 10 = .ok (.getfield 32, 3) := by decide +kernel
theorem dX0_drawUp_13 : decode cX0_drawUp 13 = .ok (.iload_n 2, 1) := by decide +kernel
theorem dX0_drawUp_14 : decode cX0_drawUp 14 = .ok (.invokevirtual 91, 3) := by decide +kernel
theorem dX0_drawUp_17 : decode cX0_drawUp 17 = .ok (.ifCond .ne 15, 3) := by decide +kernel
theorem dX0_drawUp_20 : decode cX0_drawUp 20 = .ok (.aload_n 0, 1) := by decide +kernel
theorem dX0_drawUp_21 : decode cX0_drawUp 21 = .ok (.getfield 26, 3) := by decide +kernel
theorem dX0_drawUp_24 : decode cX0_drawUp 24 = .ok (.iload_n 2, 1) := by decide +kernel
theorem dX0_drawUp_25 : decode cX0_drawUp 25 = .ok (.iload_n 3, 1) := by decide +kernel
theorem dX0_drawUp_26 : decode cX0_drawUp 26 = .ok (.invokevirtual 99, 3) := by decide +kernel
theorem dX0_drawUp_29 : decode cX0_drawUp 29 = .ok (.goto 19, 3) := by decide +kernel
theorem dX0_drawUp_32 : decode cX0_drawUp 32 = .ok (.aload_n 0, 1) := by decide +kernel
theorem dX0_drawUp_33 : decode cX0_drawUp 33 = .ok (.getfield 47, 3) := by decide +kernel
theorem dX0_drawUp_36 : decode cX0_drawUp 36 = .ok (.aload_n 0, 1) := by decide +kernel
theorem dX0_drawUp_37 : decode cX0_drawUp 37 = .ok (.getfield 29, 3) := by decide +kernel
theorem dX0_drawUp_40 : decode cX0_drawUp 40 = .ok (.iload_n 2, 1) := by decide +kernel
theorem dX0_drawUp_41 : decode cX0_drawUp 41 = .ok (.invokevirtual 91, 3) := by decide +kernel
theorem dX0_drawUp_44 : decode cX0_drawUp 44 = .ok (.iload_n 3, 1) := by decide +kernel
theorem dX0_drawUp_45 : decode cX0_drawUp 45 = .ok (.invokevirtual 99, 3) := by decide +kernel
theorem dX0_drawUp_48 : decode cX0_drawUp 48 = .ok (.iconst 0, 1) := by decide +kernel
theorem dX0_drawUp_49 : decode cX0_drawUp 49 = .ok (.istore 4, 2) := by decide +kernel
theorem dX0_drawUp_51 : decode cX0_drawUp 51 = .ok (.iload 4, 2) := by decide +kernel
theorem dX0_drawUp_53 : decode cX0_drawUp 53 = .ok (.bipush 20, 2) := by decide +kernel
theorem dX0_drawUp_55 : decode cX0_drawUp 55 = .ok (.if_icmp .ge 32, 3) := by decide +kernel
theorem dX0_drawUp_58 : decode cX0_drawUp 58 = .ok (.iload_n 3, 1) := by decide +kernel
theorem dX0_drawUp_59 : decode cX0_drawUp 59 = .ok (.iconst (-1), 1) := by decide +kernel
theorem dX0_drawUp_60 : decode cX0_drawUp 60 = .ok (.if_icmp .eq 27, 3) := by decide +kernel
theorem dX0_drawUp_63 : decode cX0_drawUp 63 = .ok (.aload_n 0, 1) := by decide +kernel
theorem dX0_drawUp_64 : decode cX0_drawUp 64 = .ok (.getfield 50, 3) := by decide +kernel
theorem dX0_drawUp_67 : decode cX0_drawUp 67 = .ok (.iload_n 3, 1) := by decide +kernel
theorem dX0_drawUp_68 : decode cX0_drawUp 68 = .ok (.iload_n 2, 1) := by decide +kernel
theorem dX0_drawUp_69 : decode cX0_drawUp 69 = .ok (.invokevirtual 99, 3) := by decide +kernel
theorem dX0_drawUp_72 : decode cX0_drawUp 72 = .ok (.aload_n 0, 1) := by decide +kernel
theorem dX0_drawUp_73 : decode cX0_drawUp 73 = .ok (.getfield 47, 3) := by decide +kernel
theorem dX0_drawUp_76 : decode cX0_drawUp 76 = .ok (.iload_n 3, 1) := by decide +kernel
theorem dX0_drawUp_77 : decode cX0_drawUp 77 = .ok (.invokevirtual 91, 3) := by decide +kernel
theorem dX0_drawUp_80 : decode cX0_drawUp 80 = .ok (.istore_n 3, 1) := by decide +kernel
theorem dX0_drawUp_81 : decode cX0_drawUp 81 = .ok (.iinc 4 1, 3) := by decide +kernel
theorem dX0_drawUp_84 : decode cX0_drawUp 84 = .ok (.goto (-33), 3) := by decide +kernel
theorem dX0_drawUp_87 : decode cX0_drawUp 87 = .ok (.aload_n 0, 1) := by decide +kernel
theorem dX0_drawUp_88 : decode cX0_drawUp 88 = .ok (.getfield 29, 3) := by decide +kernel
theorem dX0_drawUp_91 : decode cX0_drawUp 91 = .ok (.iload_n 2, 1) := by decide +kernel
theorem dX0_drawUp_92 : decode cX0_drawUp 92 = .ok (.aload_n 0, 1) := by decide +kernel
theorem dX0_drawUp_93 : decode cX0_drawUp 93 = .ok (.getfield 29, 3) := by decide +kernel
theorem dX0_drawUp_96 : decode cX0_drawUp 96 = .ok (.iload_n 1, 1) := by decide +kernel
theorem dX0_drawUp_97 : decode cX0_drawUp 97 = .ok (.invokevirtual 91, 3) := by decide +kernel
theorem dX0_drawUp_100 : decode cX0_drawUp 100 = .ok (.invokevirtual 99, 3) := by decide +kernel
theorem dX0_drawUp_103 : decode cX0_drawUp 103 = .ok (.aload_n 0, 1) := by decide +kernel
theorem dX0_drawUp_104 : decode cX0_drawUp 104 = .ok (.getfield 32, 3) := by decide +kernel
theorem dX0_drawUp_107 : decode cX0_drawUp 107 = .ok (.iload_n 2, 1) := by decide +kernel
theorem dX0_drawUp_108 : decode cX0_drawUp 108 = .ok (.aload_n 0, 1) := by decide +kernel
theorem dX0_drawUp_109 : decode cX0_drawUp 109 = .ok (.getfield 32, 3) := by decide +kernel
theorem dX0_drawUp_112 : decode cX0_drawUp 112 = .ok (.iload_n 2, 1) := by decide +kernel
theorem dX0_drawUp_113 : decode cX0_drawUp 113 = .ok (.invokevirtual 91, 3) := by decide +kernel
theorem dX0_drawUp_116 : decode cX0_drawUp 116 = .ok (.aload_n 0, 1) := by decide +kernel
theorem dX0_drawUp_117 : decode cX0_drawUp 117 = .ok (.getfield 32, 3) := by decide +kernel
theorem dX0_drawUp_120 : decode cX0_drawUp 120 = .ok (.iload_n 1, 1) := by decide +kernel
theorem dX0_drawUp_121 : decode cX0_drawUp 121 = .ok (.invokevirtual 91, 3) := by decide +kernel
theorem dX0_drawUp_124 : decode cX0_drawUp 124 = .ok (.iadd, 1) := by decide +kernel
theorem dX0_drawUp_125 : decode cX0_drawUp 125 = .ok (.invokevirtual 99, 3) := by decide +kernel
theorem dX0_drawUp_128 : decode cX0_drawUp 128 = .ok (.aload_n 0, 1) := by decide +kernel
theorem dX0_drawUp_129 : decode cX0_drawUp 129 = .ok (.getfield 23, 3) := by decide +kernel
theorem dX0_drawUp_132 : decode cX0_drawUp 132 = .ok (.iload_n 2, 1) := by decide +kernel
theorem dX0_drawUp_133 : decode cX0_drawUp 133 = .ok (.aload_n 0, 1) := by decide +kernel
theorem dX0_drawUp_134 : decode cX0_drawUp 134 = .ok (.getfield 23, 3) := by decide +kernel
theorem dX0_drawUp_137 : decode cX0_drawUp 137 = .ok (.iload_n 1, 1) := by decide +kernel
theorem dX0_drawUp_138 : decode cX0_drawUp 138 = .ok (.invokevirtual 91, 3) := by decide +kernel
theorem dX0_drawUp_141 : decode cX0_drawUp 141 = .ok (.invokevirtual 99, 3) := by decide +kernel
theorem dX0_drawUp_144 : decode cX0_drawUp 144 = .ok (.aload_n 0, 1) := by decide +kernel
theorem dX0_drawUp_145 : decode cX0_drawUp 145 = .ok (.getfield 26, 3) := by decide +kernel
theorem dX0_drawUp_148 : decode cX0_drawUp 148 = .ok (.iload_n 1, 1) := by decide +kernel
theorem dX0_drawUp_149 : decode cX0_drawUp 149 = .ok (.iconst (-1), 1) := by decide +kernel
theorem dX0_drawUp_150 : decode cX0_drawUp 150 = .ok (.invokevirtual 99, 3) := by decide +kernel
theorem dX0_drawUp_153 : decode cX0_drawUp 153 = .ok (.aload_n 0, 1) := by decide +kernel
theorem dX0_drawUp_154 : decode cX0_drawUp 154 = .ok (.getfield 32, 3) := by decide +kernel
theorem dX0_drawUp_157 : decode cX0_drawUp 157 = .ok (.iload_n 1, 1) := by decide +kernel
theorem dX0_drawUp_158 : decode cX0_drawUp 158 = .ok (.iconst 0, 1) := by decide +kernel
theorem dX0_drawUp_159 : decode cX0_drawUp 159 = .ok (.invokevirtual 99, 3) := by decide +kernel
theorem dX0_drawUp_162 : decode cX0_drawUp 162 = .ok (.return_, 1) := by decide +kernel
theorem dX0_isLeaf_0 : decode cX0_isLeaf 0 = .ok (.aload_n 0, 1) := by decide +kernel
theorem dX0_isLeaf_1 : decode cX0_isLeaf 1 = .ok (.getfield 35, 3) := by decide +kernel
theorem dX0_isLeaf_4 : decode cX0_isLeaf 4 = .ok (.iload_n 1, 1) := by decide +kernel
theorem dX0_isLeaf_5 : decode cX0_isLeaf 5 = .ok (.invokevirtual 91, 3) := by decide +kernel
theorem dX0_isLeaf_8 : decode cX0_isLeaf 8 = .ok (.iconst (-1), 1) := by decide +kernel
theorem dX0_isLeaf_9 : decode cX0_isLeaf 9 = .ok (.if_icmp .ne 19, 3) := by decide +kernel
theorem dX0_isLeaf_12 : decode cX0_isLeaf 12 = .ok (.aload_n 0, 1) := by decide +kernel
theorem dX0_isLeaf_13 : decode cX0_isLeaf 13 = .ok (.getfield 38, 3) := by decide +kernel
theorem dX0_isLeaf_16 : decode cX0_isLeaf 16 = .ok (.iload_n 1, 1) := by decide +kernel
theorem dX0_isLeaf_17 : decode cX0_isLeaf 17 = .ok (.invokevirtual 91, 3) := by decide +kernel
theorem dX0_isLeaf_20 : decode cX0_isLeaf 20 = .ok (.iconst (-1), 1) := by decide +kernel
theorem dX0_isLeaf_21 : decode cX0_isLeaf 21 = .ok (.if_icmp .ne 7, 3) := by decide +kernel
theorem dX0_isLeaf_24 : decode cX0_isLeaf 24 = .ok (.iconst 1, 1) := by decide +kernel
theorem dX0_isLeaf_25 : decode cX0_isLeaf 25 = .ok (.goto 4, 3) := by decide +kernel
theorem dX0_isLeaf_28 : decode cX0_isLeaf 28 = .ok (.iconst 0, 1) := by decide +kernel
theorem dX0_isLeaf_29 : decode cX0_isLeaf 29 = .ok (.ireturn, 1) := by decide +kernel
theorem dX0_leastRoot_0 : decode cX0_leastRoot 0 = .ok (.iconst (-1), 1) := by decide +kernel
theorem dX0_leastRoot_1 : decode cX0_leastRoot 1 = .ok (.istore_n 2, 1) := by decide +kernel
theorem dX0_leastRoot_2 : decode cX0_leastRoot 2 = .ok (.iconst 0, 1) := by decide +kernel
theorem dX0_leastRoot_3 : decode cX0_leastRoot 3 = .ok (.istore_n 3, 1) := by decide +kernel
theorem dX0_leastRoot_4 : decode cX0_leastRoot 4 = .ok (.iload_n 3, 1) := by decide +kernel
theorem dX0_leastRoot_5 : decode cX0_leastRoot 5 = .ok (.bipush 24, 2) := by decide +kernel
theorem dX0_leastRoot_7 : decode cX0_leastRoot 7 = .ok (.if_icmp .ge 72, 3) := by decide +kernel
theorem dX0_leastRoot_10 : decode cX0_leastRoot 10 = .ok (.aload_n 0, 1) := by decide +kernel
theorem dX0_leastRoot_11 : decode cX0_leastRoot 11 = .ok (.getfield 44, 3) := by decide +kernel
theorem dX0_leastRoot_14 : decode cX0_leastRoot 14 = .ok (.iload_n 1, 1) := by decide +kernel
theorem dX0_leastRoot_15 : decode cX0_leastRoot 15 = .ok (.iload_n 3, 1) := by decide +kernel
theorem dX0_leastRoot_16 : decode cX0_leastRoot 16 = .ok (.invokestatic 120, 3) := by decide +kernel
theorem dX0_leastRoot_19 : decode cX0_leastRoot 19 = .ok (.invokevirtual 91, 3) := by decide +kernel
theorem dX0_leastRoot_22 : decode cX0_leastRoot 22 = .ok (.istore 4, 2) := by decide +kernel
theorem dX0_leastRoot_24 : decode cX0_leastRoot 24 = .ok (.iload 4, 2) := by decide +kernel
theorem dX0_leastRoot_26 : decode cX0_leastRoot 26 = .ok (.iconst (-1), 1) := by decide +kernel
theorem dX0_leastRoot_27 : decode cX0_leastRoot 27 = .ok (.if_icmp .eq 46, 3) := by decide +kernel
theorem dX0_leastRoot_30 : decode cX0_leastRoot 30 = .ok (.iload_n 2, 1) := by decide +kernel
theorem dX0_leastRoot_31 : decode cX0_leastRoot 31 = .ok (.iconst (-1), 1) := by decide +kernel
theorem dX0_leastRoot_32 : decode cX0_leastRoot 32 = .ok (.if_icmp .eq 38, 3) := by decide +kernel
theorem dX0_leastRoot_35 : decode cX0_leastRoot 35 = .ok (.aload_n 0, 1) := by decide +kernel
theorem dX0_leastRoot_36 : decode cX0_leastRoot 36 = .ok (.getfield 62, 3) := by decide +kernel
theorem dX0_leastRoot_39 : decode cX0_leastRoot 39 = .ok (.aload_n 0, 1) := by decide +kernel
theorem dX0_leastRoot_40 : decode cX0_leastRoot 40 = .ok (.getfield 23, 3) := by decide +kernel
theorem dX0_leastRoot_43 : decode cX0_leastRoot 43 = .ok (.iload 4, 2) := by decide +kernel
theorem dX0_leastRoot_45 : decode cX0_leastRoot 45 = .ok (.invokevirtual 91, 3) := by decide +kernel
theorem dX0_leastRoot_48 : decode cX0_leastRoot 48 = .ok (.invokevirtual 166, 3) := by decide +kernel
theorem dX0_leastRoot_51 : decode cX0_leastRoot 51 = .ok (.aload_n 0, 1) := by decide +kernel
theorem dX0_leastRoot_52 : decode cX0_leastRoot 52 = .ok (.getfield 62, 3) := by decide +kernel
theorem dX0_leastRoot_55 : decode cX0_leastRoot 55 = .ok (.aload_n 0, 1) := by decide +kernel
theorem dX0_leastRoot_56 : decode cX0_leastRoot 56 = .ok (.getfield 23, 3) := by decide +kernel
theorem dX0_leastRoot_59 : decode cX0_leastRoot 59 = .ok (.iload_n 2, 1) := by decide +kernel
theorem dX0_leastRoot_60 : decode cX0_leastRoot 60 = .ok (.invokevirtual 91, 3) := by decide +kernel
theorem dX0_leastRoot_63 : decode cX0_leastRoot 63 = .ok (.invokevirtual 166, 3) := by decide +kernel
theorem dX0_leastRoot_66 : decode cX0_leastRoot 66 = .ok (.fcmp .g, 1) := by decide +kernel
theorem dX0_leastRoot_67 : decode cX0_leastRoot 67 = .ok (.ifCond .ge 6, 3) := by decide +kernel
theorem dX0_leastRoot_70 : decode cX0_leastRoot 70 = .ok (.iload 4, 2) := by decide +kernel
theorem dX0_leastRoot_72 : decode cX0_leastRoot 72 = .ok (.istore_n 2, 1) := by decide +kernel
theorem dX0_leastRoot_73 : decode cX0_leastRoot 73 = .ok (.iinc 3 1, 3) := by decide +kernel
theorem dX0_leastRoot_76 : decode cX0_leastRoot 76 = .ok (.goto (-72), 3) := by decide +kernel
theorem dX0_leastRoot_79 : decode cX0_leastRoot 79 = .ok (.iload_n 2, 1) := by decide +kernel
theorem dX0_leastRoot_80 : decode cX0_leastRoot 80 = .ok (.ireturn, 1) := by decide +kernel
theorem dX0_rootOver_0 : decode cX0_rootOver 0 = .ok (.iload_n 1, 1) := by decide +kernel
theorem dX0_rootOver_1 : decode cX0_rootOver 1 = .ok (.istore_n 2, 1) := by decide +kernel
theorem dX0_rootOver_2 : decode cX0_rootOver 2 = .ok (.iconst 0, 1) := by decide +kernel
theorem dX0_rootOver_3 : decode cX0_rootOver 3 = .ok (.istore_n 3, 1) := by decide +kernel
theorem dX0_rootOver_4 : decode cX0_rootOver 4 = .ok (.iload_n 3, 1) := by decide +kernel
theorem dX0_rootOver_5 : decode cX0_rootOver 5 = .ok (.bipush 24, 2) := by decide +kernel
theorem dX0_rootOver_7 : decode cX0_rootOver 7 = .ok (.if_icmp .ge 30, 3) := by decide +kernel
theorem dX0_rootOver_10 : decode cX0_rootOver 10 = .ok (.aload_n 0, 1) := by decide +kernel
theorem dX0_rootOver_11 : decode cX0_rootOver 11 = .ok (.getfield 41, 3) := by decide +kernel
theorem dX0_rootOver_14 : decode cX0_rootOver 14 = .ok (.iload_n 2, 1) := by decide +kernel
theorem dX0_rootOver_15 : decode cX0_rootOver 15 = .ok (.invokevirtual 91, 3) := by decide +kernel
theorem dX0_rootOver_18 : decode cX0_rootOver 18 = .ok (.iconst (-1), 1) := by decide +kernel
theorem dX0_rootOver_19 : decode cX0_rootOver 19 = .ok (.if_icmp .eq 18, 3) := by decide +kernel
theorem dX0_rootOver_22 : decode cX0_rootOver 22 = .ok (.aload_n 0, 1) := by decide +kernel
theorem dX0_rootOver_23 : decode cX0_rootOver 23 = .ok (.getfield 41, 3) := by decide +kernel
theorem dX0_rootOver_26 : decode cX0_rootOver 26 = .ok (.iload_n 2, 1) := by decide +kernel
theorem dX0_rootOver_27 : decode cX0_rootOver 27 = .ok (.invokevirtual 91, 3) := by decide +kernel
theorem dX0_rootOver_30 : decode cX0_rootOver 30 = .ok (.istore_n 2, 1) := by decide +kernel
theorem dX0_rootOver_31 : decode cX0_rootOver 31 = .ok (.iinc 3 1, 3) := by decide +kernel
theorem dX0_rootOver_34 : decode cX0_rootOver 34 = .ok (.goto (-30), 3) := by decide +kernel
theorem dX0_rootOver_37 : decode cX0_rootOver 37 = .ok (.iload_n 2, 1) := by decide +kernel
theorem dX0_rootOver_38 : decode cX0_rootOver 38 = .ok (.ireturn, 1) := by decide +kernel
theorem dX0_depthOf_0 : decode cX0_depthOf 0 = .ok (.iconst 0, 1) := by decide +kernel
theorem dX0_depthOf_1 : decode cX0_depthOf 1 = .ok (.istore_n 2, 1) := by decide +kernel
theorem dX0_depthOf_2 : decode cX0_depthOf 2 = .ok (.aload_n 0, 1) := by decide +kernel
theorem dX0_depthOf_3 : decode cX0_depthOf 3 = .ok (.getfield 41, 3) := by decide +kernel
theorem dX0_depthOf_6 : decode cX0_depthOf 6 = .ok (.iload_n 1, 1) := by decide +kernel
theorem dX0_depthOf_7 : decode cX0_depthOf 7 = .ok (.invokevirtual 91, 3) := by decide +kernel
theorem dX0_depthOf_10 : decode cX0_depthOf 10 = .ok (.istore_n 3, 1) := by decide +kernel
theorem dX0_depthOf_11 : decode cX0_depthOf 11 = .ok (.iload_n 2, 1) := by decide +kernel
theorem dX0_depthOf_12 : decode cX0_depthOf 12 = .ok (.bipush 24, 2) := by decide +kernel
theorem dX0_depthOf_14 : decode cX0_depthOf 14 = .ok (.if_icmp .ge 23, 3) := by decide +kernel
theorem dX0_depthOf_17 : decode cX0_depthOf 17 = .ok (.iload_n 3, 1) := by decide +kernel
theorem dX0_depthOf_18 : decode cX0_depthOf 18 = .ok (.iconst (-1), 1) := by decide +kernel
theorem dX0_depthOf_19 : decode cX0_depthOf 19 = .ok (.if_icmp .eq 18, 3) := by decide +kernel
theorem dX0_depthOf_22 : decode cX0_depthOf 22 = .ok (.iinc 2 1, 3) := by decide +kernel
theorem dX0_depthOf_25 : decode cX0_depthOf 25 = .ok (.aload_n 0, 1) := by decide +kernel
theorem dX0_depthOf_26 : decode cX0_depthOf 26 = .ok (.getfield 41, 3) := by decide +kernel
theorem dX0_depthOf_29 : decode cX0_depthOf 29 = .ok (.iload_n 3, 1) := by decide +kernel
theorem dX0_depthOf_30 : decode cX0_depthOf 30 = .ok (.invokevirtual 91, 3) := by decide +kernel
theorem dX0_depthOf_33 : decode cX0_depthOf 33 = .ok (.istore_n 3, 1) := by decide +kernel
theorem dX0_depthOf_34 : decode cX0_depthOf 34 = .ok (.goto (-23), 3) := by decide +kernel
theorem dX0_depthOf_37 : decode cX0_depthOf 37 = .ok (.iload_n 2, 1) := by decide +kernel
theorem dX0_depthOf_38 : decode cX0_depthOf 38 = .ok (.ireturn, 1) := by decide +kernel
theorem dX0_treeAt_0 : decode cX0_treeAt 0 = .ok (.iload_n 2, 1) := by decide +kernel
theorem dX0_treeAt_1 : decode cX0_treeAt 1 = .ok (.istore_n 3, 1) := by decide +kernel
theorem dX0_treeAt_2 : decode cX0_treeAt 2 = .ok (.iconst 0, 1) := by decide +kernel
theorem dX0_treeAt_3 : decode cX0_treeAt 3 = .ok (.istore 4, 2) := by decide +kernel
theorem dX0_treeAt_5 : decode cX0_treeAt 5 = .ok (.iload 4, 2) := by decide +kernel
theorem dX0_treeAt_7 : decode cX0_treeAt 7 = .ok (.bipush 24, 2) := by decide +kernel
theorem dX0_treeAt_9 : decode cX0_treeAt 9 = .ok (.if_icmp .ge 51, 3) := by decide +kernel
theorem dX0_treeAt_12 : decode cX0_treeAt 12 = .ok (.aload_n 0, 1) := by decide +kernel
theorem dX0_treeAt_13 : decode cX0_treeAt 13 = .ok (.getfield 44, 3) := by decide +kernel
theorem dX0_treeAt_16 : decode cX0_treeAt 16 = .ok (.iload_n 1, 1) := by decide +kernel
theorem dX0_treeAt_17 : decode cX0_treeAt 17 = .ok (.iload 4, 2) := by decide +kernel
theorem dX0_treeAt_19 : decode cX0_treeAt 19 = .ok (.invokestatic 120, 3) := by decide +kernel
theorem dX0_treeAt_22 : decode cX0_treeAt 22 = .ok (.invokevirtual 91, 3) := by decide +kernel
theorem dX0_treeAt_25 : decode cX0_treeAt 25 = .ok (.istore 5, 2) := by decide +kernel
theorem dX0_treeAt_27 : decode cX0_treeAt 27 = .ok (.iload 5, 2) := by decide +kernel
theorem dX0_treeAt_29 : decode cX0_treeAt 29 = .ok (.iconst (-1), 1) := by decide +kernel
theorem dX0_treeAt_30 : decode cX0_treeAt 30 = .ok (.if_icmp .eq 10, 3) := by decide +kernel
theorem dX0_treeAt_33 : decode cX0_treeAt 33 = .ok (.iload_n 3, 1) := by decide +kernel
theorem dX0_treeAt_34 : decode cX0_treeAt 34 = .ok (.ifCond .ne 6, 3) := by decide +kernel
theorem dX0_treeAt_37 : decode cX0_treeAt 37 = .ok (.iload 5, 2) := by decide +kernel
theorem dX0_treeAt_39 : decode cX0_treeAt 39 = .ok (.ireturn, 1) := by decide +kernel
theorem dX0_treeAt_40 : decode cX0_treeAt 40 = .ok (.iload_n 3, 1) := by decide +kernel
theorem dX0_treeAt_41 : decode cX0_treeAt 41 = .ok (.iload 5, 2) := by decide +kernel
theorem dX0_treeAt_43 : decode cX0_treeAt 43 = .ok (.iconst (-1), 1) := by decide +kernel
theorem dX0_treeAt_44 : decode cX0_treeAt 44 = .ok (.if_icmp .eq 7, 3) := by decide +kernel
theorem dX0_treeAt_47 : decode cX0_treeAt 47 = .ok (.iconst 1, 1) := by decide +kernel
theorem dX0_treeAt_48 : decode cX0_treeAt 48 = .ok (.goto 4, 3) := by decide +kernel
theorem dX0_treeAt_51 : decode cX0_treeAt 51 = .ok (.iconst 0, 1) := by decide +kernel
theorem dX0_treeAt_52 : decode cX0_treeAt 52 = .ok (.isub, 1) := by decide +kernel
theorem dX0_treeAt_53 : decode cX0_treeAt 53 = .ok (.istore_n 3, 1) := by decide +kernel
theorem dX0_treeAt_54 : decode cX0_treeAt 54 = .ok (.iinc 4 1, 3) := by decide +kernel
theorem dX0_treeAt_57 : decode cX0_treeAt 57 = .ok (.goto (-52), 3) := by decide +kernel
theorem dX0_treeAt_60 : decode cX0_treeAt 60 = .ok (.iconst (-1), 1) := by decide +kernel
theorem dX0_treeAt_61 : decode cX0_treeAt 61 = .ok (.ireturn, 1) := by decide +kernel
theorem dX0_treesIn_0 : decode cX0_treesIn 0 = .ok (.iconst 0, 1) := by decide +kernel
theorem dX0_treesIn_1 : decode cX0_treesIn 1 = .ok (.istore_n 2, 1) := by decide +kernel
theorem dX0_treesIn_2 : decode cX0_treesIn 2 = .ok (.iconst 0, 1) := by decide +kernel
theorem dX0_treesIn_3 : decode cX0_treesIn 3 = .ok (.istore_n 3, 1) := by decide +kernel
theorem dX0_treesIn_4 : decode cX0_treesIn 4 = .ok (.iload_n 3, 1) := by decide +kernel
theorem dX0_treesIn_5 : decode cX0_treesIn 5 = .ok (.bipush 24, 2) := by decide +kernel
theorem dX0_treesIn_7 : decode cX0_treesIn 7 = .ok (.if_icmp .ge 33, 3) := by decide +kernel
theorem dX0_treesIn_10 : decode cX0_treesIn 10 = .ok (.iload_n 2, 1) := by decide +kernel
theorem dX0_treesIn_11 : decode cX0_treesIn 11 = .ok (.aload_n 0, 1) := by decide +kernel
theorem dX0_treesIn_12 : decode cX0_treesIn 12 = .ok (.getfield 44, 3) := by decide +kernel
theorem dX0_treesIn_15 : decode cX0_treesIn 15 = .ok (.iload_n 1, 1) := by decide +kernel
theorem dX0_treesIn_16 : decode cX0_treesIn 16 = .ok (.iload_n 3, 1) := by decide +kernel
theorem dX0_treesIn_17 : decode cX0_treesIn 17 = .ok (.invokestatic 120, 3) := by decide +kernel
theorem dX0_treesIn_20 : decode cX0_treesIn 20 = .ok (.invokevirtual 91, 3) := by decide +kernel
theorem dX0_treesIn_23 : decode cX0_treesIn 23 = .ok (.iconst (-1), 1) := by decide +kernel
theorem dX0_treesIn_24 : decode cX0_treesIn 24 = .ok (.if_icmp .eq 7, 3) := by decide +kernel
theorem dX0_treesIn_27 : decode cX0_treesIn 27 = .ok (.iconst 1, 1) := by decide +kernel
theorem dX0_treesIn_28 : decode cX0_treesIn 28 = .ok (.goto 4, 3) := by decide +kernel
theorem dX0_treesIn_31 : decode cX0_treesIn 31 = .ok (.iconst 0, 1) := by decide +kernel
theorem dX0_treesIn_32 : decode cX0_treesIn 32 = .ok (.iadd, 1) := by decide +kernel
theorem dX0_treesIn_33 : decode cX0_treesIn 33 = .ok (.istore_n 2, 1) := by decide +kernel
theorem dX0_treesIn_34 : decode cX0_treesIn 34 = .ok (.iinc 3 1, 3) := by decide +kernel
theorem dX0_treesIn_37 : decode cX0_treesIn 37 = .ok (.goto (-33), 3) := by decide +kernel
theorem dX0_treesIn_40 : decode cX0_treesIn 40 = .ok (.iload_n 2, 1) := by decide +kernel
theorem dX0_treesIn_41 : decode cX0_treesIn 41 = .ok (.ireturn, 1) := by decide +kernel
theorem dX0_greatestRank_0 : decode cX0_greatestRank 0 = .ok (.iconst (-1), 1) := by decide +kernel
theorem dX0_greatestRank_1 : decode cX0_greatestRank 1 = .ok (.istore_n 2, 1) := by decide +kernel
theorem dX0_greatestRank_2 : decode cX0_greatestRank 2 = .ok (.iconst 0, 1) := by decide +kernel
theorem dX0_greatestRank_3 : decode cX0_greatestRank 3 = .ok (.istore_n 3, 1) := by decide +kernel
theorem dX0_greatestRank_4 : decode cX0_greatestRank 4 = .ok (.iload_n 3, 1) := by decide +kernel
theorem dX0_greatestRank_5 : decode cX0_greatestRank 5 = .ok (.bipush 24, 2) := by decide +kernel
theorem dX0_greatestRank_7 : decode cX0_greatestRank 7 = .ok (.if_icmp .ge 31, 3) := by decide +kernel
theorem dX0_greatestRank_10 : decode cX0_greatestRank 10 = .ok (.aload_n 0, 1) := by decide +kernel
theorem dX0_greatestRank_11 : decode cX0_greatestRank 11 = .ok (.getfield 44, 3) := by decide +kernel
theorem dX0_greatestRank_14 : decode cX0_greatestRank 14 = .ok (.iload_n 1, 1) := by decide +kernel
theorem dX0_greatestRank_15 : decode cX0_greatestRank 15 = .ok (.iload_n 3, 1) := by decide +kernel
theorem dX0_greatestRank_16 : decode cX0_greatestRank 16 = .ok (.invokestatic 120, 3) := by decide +kernel
theorem dX0_greatestRank_19 : decode cX0_greatestRank 19 = .ok (.invokevirtual 91, 3) := by decide +kernel
theorem dX0_greatestRank_22 : decode cX0_greatestRank 22 = .ok (.iconst (-1), 1) := by decide +kernel
theorem dX0_greatestRank_23 : decode cX0_greatestRank 23 = .ok (.if_icmp .eq 7, 3) := by decide +kernel
theorem dX0_greatestRank_26 : decode cX0_greatestRank 26 = .ok (.iload_n 3, 1) := by decide +kernel
theorem dX0_greatestRank_27 : decode cX0_greatestRank 27 = .ok (.goto 4, 3) := by decide +kernel
theorem dX0_greatestRank_30 : decode cX0_greatestRank 30 = .ok (.iload_n 2, 1) := by decide +kernel
theorem dX0_greatestRank_31 : decode cX0_greatestRank 31 = .ok (.istore_n 2, 1) := by decide +kernel
theorem dX0_greatestRank_32 : decode cX0_greatestRank 32 = .ok (.iinc 3 1, 3) := by decide +kernel
theorem dX0_greatestRank_35 : decode cX0_greatestRank 35 = .ok (.goto (-31), 3) := by decide +kernel
theorem dX0_greatestRank_38 : decode cX0_greatestRank 38 = .ok (.iload_n 2, 1) := by decide +kernel
theorem dX0_greatestRank_39 : decode cX0_greatestRank 39 = .ok (.ireturn, 1) := by decide +kernel
theorem dX0_nodesUnder_0 : decode cX0_nodesUnder 0 = .ok (.iconst 0, 1) := by decide +kernel
theorem dX0_nodesUnder_1 : decode cX0_nodesUnder 1 = .ok (.istore_n 2, 1) := by decide +kernel
theorem dX0_nodesUnder_2 : decode cX0_nodesUnder 2 = .ok (.iconst 0, 1) := by decide +kernel
theorem dX0_nodesUnder_3 : decode cX0_nodesUnder 3 = .ok (.istore_n 3, 1) := by decide +kernel
theorem dX0_nodesUnder_4 : decode cX0_nodesUnder 4 = .ok (.iload_n 3, 1) := by decide +kernel
theorem dX0_nodesUnder_5 : decode cX0_nodesUnder 5 = .ok (.bipush 24, 2) := by decide +kernel
theorem dX0_nodesUnder_7 : decode cX0_nodesUnder 7 = .ok (.if_icmp .ge 38, 3) := by decide +kernel
theorem dX0_nodesUnder_10 : decode cX0_nodesUnder 10 = .ok (.iload_n 2, 1) := by decide +kernel
theorem dX0_nodesUnder_11 : decode cX0_nodesUnder 11 = .ok (.aload_n 0, 1) := by decide +kernel
theorem dX0_nodesUnder_12 : decode cX0_nodesUnder 12 = .ok (.getfield 16, 3) := by decide +kernel
theorem dX0_nodesUnder_15 : decode cX0_nodesUnder 15 = .ok (.iload_n 3, 1) := by decide +kernel
theorem dX0_nodesUnder_16 : decode cX0_nodesUnder 16 = .ok (.invokevirtual 91, 3) := by decide +kernel
theorem dX0_nodesUnder_19 : decode cX0_nodesUnder 19 = .ok (.iconst (-1), 1) := by decide +kernel
theorem dX0_nodesUnder_20 : decode cX0_nodesUnder 20 = .ok (.if_icmp .eq 16, 3) := by decide +kernel
theorem dX0_nodesUnder_23 : decode cX0_nodesUnder 23 = .ok (.aload_n 0, 1) := by decide +kernel
theorem dX0_nodesUnder_24 : decode cX0_nodesUnder 24 = .ok (.iload_n 3, 1) := by decide +kernel
theorem dX0_nodesUnder_25 : decode cX0_nodesUnder 25 = .ok (.invokevirtual 123, 3) := by decide +kernel
theorem dX0_nodesUnder_28 : decode cX0_nodesUnder 28 = .ok (.iload_n 1, 1) := by decide +kernel
theorem dX0_nodesUnder_29 : decode cX0_nodesUnder 29 = .ok (.if_icmp .ne 7, 3) := by decide +kernel
theorem dX0_nodesUnder_32 : decode cX0_nodesUnder 32 = .ok (.iconst 1, 1) := by decide +kernel
theorem dX0_nodesUnder_33 : decode cX0_nodesUnder 33 = .ok (.goto 4, 3) := by decide +kernel
theorem dX0_nodesUnder_36 : decode cX0_nodesUnder 36 = .ok (.iconst 0, 1) := by decide +kernel
theorem dX0_nodesUnder_37 : decode cX0_nodesUnder 37 = .ok (.iadd, 1) := by decide +kernel
theorem dX0_nodesUnder_38 : decode cX0_nodesUnder 38 = .ok (.istore_n 2, 1) := by decide +kernel
theorem dX0_nodesUnder_39 : decode cX0_nodesUnder 39 = .ok (.iinc 3 1, 3) := by decide +kernel
theorem dX0_nodesUnder_42 : decode cX0_nodesUnder 42 = .ok (.goto (-38), 3) := by decide +kernel
theorem dX0_nodesUnder_45 : decode cX0_nodesUnder 45 = .ok (.iload_n 2, 1) := by decide +kernel
theorem dX0_nodesUnder_46 : decode cX0_nodesUnder 46 = .ok (.ireturn, 1) := by decide +kernel
theorem dX0_listedAt_0 : decode cX0_listedAt 0 = .ok (.iload_n 2, 1) := by decide +kernel
theorem dX0_listedAt_1 : decode cX0_listedAt 1 = .ok (.ifCond .lt 15, 3) := by decide +kernel
theorem dX0_listedAt_4 : decode cX0_listedAt 4 = .ok (.iload_n 2, 1) := by decide +kernel
theorem dX0_listedAt_5 : decode cX0_listedAt 5 = .ok (.aload_n 0, 1) := by decide +kernel
theorem dX0_listedAt_6 : decode cX0_listedAt 6 = .ok (.getfield 32, 3) := by decide +kernel
theorem dX0_listedAt_9 : decode cX0_listedAt 9 = .ok (.iload_n 1, 1) := by decide +kernel
theorem dX0_listedAt_10 : decode cX0_listedAt 10 = .ok (.invokevirtual 91, 3) := by decide +kernel
theorem dX0_listedAt_13 : decode cX0_listedAt 13 = .ok (.if_icmp .lt 5, 3) := by decide +kernel
theorem dX0_listedAt_16 : decode cX0_listedAt 16 = .ok (.iconst (-1), 1) := by decide +kernel
theorem dX0_listedAt_17 : decode cX0_listedAt 17 = .ok (.ireturn, 1) := by decide +kernel
theorem dX0_listedAt_18 : decode cX0_listedAt 18 = .ok (.aload_n 0, 1) := by decide +kernel
theorem dX0_listedAt_19 : decode cX0_listedAt 19 = .ok (.getfield 26, 3) := by decide +kernel
theorem dX0_listedAt_22 : decode cX0_listedAt 22 = .ok (.iload_n 1, 1) := by decide +kernel
theorem dX0_listedAt_23 : decode cX0_listedAt 23 = .ok (.invokevirtual 91, 3) := by decide +kernel
theorem dX0_listedAt_26 : decode cX0_listedAt 26 = .ok (.istore_n 3, 1) := by decide +kernel
theorem dX0_listedAt_27 : decode cX0_listedAt 27 = .ok (.iload_n 2, 1) := by decide +kernel
theorem dX0_listedAt_28 : decode cX0_listedAt 28 = .ok (.istore 4, 2) := by decide +kernel
theorem dX0_listedAt_30 : decode cX0_listedAt 30 = .ok (.iload 4, 2) := by decide +kernel
theorem dX0_listedAt_32 : decode cX0_listedAt 32 = .ok (.ifCond .le 18, 3) := by decide +kernel
theorem dX0_listedAt_35 : decode cX0_listedAt 35 = .ok (.aload_n 0, 1) := by decide +kernel
theorem dX0_listedAt_36 : decode cX0_listedAt 36 = .ok (.getfield 47, 3) := by decide +kernel
theorem dX0_listedAt_39 : decode cX0_listedAt 39 = .ok (.iload_n 3, 1) := by decide +kernel
theorem dX0_listedAt_40 : decode cX0_listedAt 40 = .ok (.invokevirtual 91, 3) := by decide +kernel
theorem dX0_listedAt_43 : decode cX0_listedAt 43 = .ok (.istore_n 3, 1) := by decide +kernel
theorem dX0_listedAt_44 : decode cX0_listedAt 44 = .ok (.iinc 4 (-1), 3) := by decide +kernel
theorem dX0_listedAt_47 : decode cX0_listedAt 47 = .ok (.goto (-17), 3) := by decide +kernel
theorem dX0_listedAt_50 : decode cX0_listedAt 50 = .ok (.iload_n 3, 1) := by decide +kernel
theorem dX0_listedAt_51 : decode cX0_listedAt 51 = .ok (.ireturn, 1) := by decide +kernel
theorem dX0_itemsIn_0 : decode cX0_itemsIn 0 = .ok (.iconst 0, 1) := by decide +kernel
theorem dX0_itemsIn_1 : decode cX0_itemsIn 1 = .ok (.istore_n 2, 1) := by decide +kernel
theorem dX0_itemsIn_2 : decode cX0_itemsIn 2 = .ok (.iconst 0, 1) := by decide +kernel
theorem dX0_itemsIn_3 : decode cX0_itemsIn 3 = .ok (.istore_n 3, 1) := by decide +kernel
theorem dX0_itemsIn_4 : decode cX0_itemsIn 4 = .ok (.iload_n 3, 1) := by decide +kernel
theorem dX0_itemsIn_5 : decode cX0_itemsIn 5 = .ok (.bipush 20, 2) := by decide +kernel
theorem dX0_itemsIn_7 : decode cX0_itemsIn 7 = .ok (.if_icmp .ge 29, 3) := by decide +kernel
theorem dX0_itemsIn_10 : decode cX0_itemsIn 10 = .ok (.iload_n 2, 1) := by decide +kernel
theorem dX0_itemsIn_11 : decode cX0_itemsIn 11 = .ok (.aload_n 0, 1) := by decide +kernel
theorem dX0_itemsIn_12 : decode cX0_itemsIn 12 = .ok (.getfield 53, 3) := by decide +kernel
theorem dX0_itemsIn_15 : decode cX0_itemsIn 15 = .ok (.iload_n 3, 1) := by decide +kernel
theorem dX0_itemsIn_16 : decode cX0_itemsIn 16 = .ok (.invokevirtual 91, 3) := by decide +kernel
theorem dX0_itemsIn_19 : decode cX0_itemsIn 19 = .ok (.iload_n 1, 1) := by decide +kernel
theorem dX0_itemsIn_20 : decode cX0_itemsIn 20 = .ok (.if_icmp .ne 7, 3) := by decide +kernel
theorem dX0_itemsIn_23 : decode cX0_itemsIn 23 = .ok (.iconst 1, 1) := by decide +kernel
theorem dX0_itemsIn_24 : decode cX0_itemsIn 24 = .ok (.goto 4, 3) := by decide +kernel
theorem dX0_itemsIn_27 : decode cX0_itemsIn 27 = .ok (.iconst 0, 1) := by decide +kernel
theorem dX0_itemsIn_28 : decode cX0_itemsIn 28 = .ok (.iadd, 1) := by decide +kernel
theorem dX0_itemsIn_29 : decode cX0_itemsIn 29 = .ok (.istore_n 2, 1) := by decide +kernel
theorem dX0_itemsIn_30 : decode cX0_itemsIn 30 = .ok (.iinc 3 1, 3) := by decide +kernel
theorem dX0_itemsIn_33 : decode cX0_itemsIn 33 = .ok (.goto (-29), 3) := by decide +kernel
theorem dX0_itemsIn_36 : decode cX0_itemsIn 36 = .ok (.iload_n 2, 1) := by decide +kernel
theorem dX0_itemsIn_37 : decode cX0_itemsIn 37 = .ok (.ireturn, 1) := by decide +kernel
theorem dX0_itemsOn_0 : decode cX0_itemsOn 0 = .ok (.iconst 0, 1) := by decide +kernel
theorem dX0_itemsOn_1 : decode cX0_itemsOn 1 = .ok (.istore_n 2, 1) := by decide +kernel
theorem dX0_itemsOn_2 : decode cX0_itemsOn 2 = .ok (.iconst 0, 1) := by decide +kernel
theorem dX0_itemsOn_3 : decode cX0_itemsOn 3 = .ok (.istore_n 3, 1) := by decide +kernel
theorem dX0_itemsOn_4 : decode cX0_itemsOn 4 = .ok (.iload_n 3, 1) := by decide +kernel
theorem dX0_itemsOn_5 : decode cX0_itemsOn 5 = .ok (.bipush 20, 2) := by decide +kernel
theorem dX0_itemsOn_7 : decode cX0_itemsOn 7 = .ok (.if_icmp .ge 29, 3) := by decide +kernel
theorem dX0_itemsOn_10 : decode cX0_itemsOn 10 = .ok (.iload_n 2, 1) := by decide +kernel
theorem dX0_itemsOn_11 : decode cX0_itemsOn 11 = .ok (.aload_n 0, 1) := by decide +kernel
theorem dX0_itemsOn_12 : decode cX0_itemsOn 12 = .ok (.getfield 56, 3) := by decide +kernel
theorem dX0_itemsOn_15 : decode cX0_itemsOn 15 = .ok (.iload_n 3, 1) := by decide +kernel
theorem dX0_itemsOn_16 : decode cX0_itemsOn 16 = .ok (.invokevirtual 91, 3) := by decide +kernel
theorem dX0_itemsOn_19 : decode cX0_itemsOn 19 = .ok (.iload_n 1, 1) := by decide +kernel
theorem dX0_itemsOn_20 : decode cX0_itemsOn 20 = .ok (.if_icmp .ne 7, 3) := by decide +kernel
theorem dX0_itemsOn_23 : decode cX0_itemsOn 23 = .ok (.iconst 1, 1) := by decide +kernel
theorem dX0_itemsOn_24 : decode cX0_itemsOn 24 = .ok (.goto 4, 3) := by decide +kernel
theorem dX0_itemsOn_27 : decode cX0_itemsOn 27 = .ok (.iconst 0, 1) := by decide +kernel
theorem dX0_itemsOn_28 : decode cX0_itemsOn 28 = .ok (.iadd, 1) := by decide +kernel
theorem dX0_itemsOn_29 : decode cX0_itemsOn 29 = .ok (.istore_n 2, 1) := by decide +kernel
theorem dX0_itemsOn_30 : decode cX0_itemsOn 30 = .ok (.iinc 3 1, 3) := by decide +kernel
theorem dX0_itemsOn_33 : decode cX0_itemsOn 33 = .ok (.goto (-29), 3) := by decide +kernel
theorem dX0_itemsOn_36 : decode cX0_itemsOn 36 = .ok (.iload_n 2, 1) := by decide +kernel
theorem dX0_itemsOn_37 : decode cX0_itemsOn 37 = .ok (.ireturn, 1) := by decide +kernel
theorem dX0_itemsOnFloor_0 : decode cX0_itemsOnFloor 0 = .ok (.iconst 0, 1) := by decide +kernel
theorem dX0_itemsOnFloor_1 : decode cX0_itemsOnFloor 1 = .ok (.istore_n 1, 1) := by decide +kernel
theorem dX0_itemsOnFloor_2 : decode cX0_itemsOnFloor 2 = .ok (.iconst 0, 1) := by decide +kernel
theorem dX0_itemsOnFloor_3 : decode cX0_itemsOnFloor 3 = .ok (.istore_n 2, 1) := by decide +kernel
theorem dX0_itemsOnFloor_4 : decode cX0_itemsOnFloor 4 = .ok (.iload_n 2, 1) := by decide +kernel
theorem dX0_itemsOnFloor_5 : decode cX0_itemsOnFloor 5 = .ok (.aload_n 0, 1) := by decide +kernel
theorem dX0_itemsOnFloor_6 : decode cX0_itemsOnFloor 6 = .ok (.getfield 62, 3) := by decide +kernel
theorem dX0_itemsOnFloor_9 : decode cX0_itemsOnFloor 9 = .ok (.getfield 76, 3) := by decide +kernel
theorem dX0_itemsOnFloor_12 : decode cX0_itemsOnFloor 12 = .ok (.getfield 82, 3) := by decide +kernel
theorem dX0_itemsOnFloor_15 : decode cX0_itemsOnFloor 15 = .ok (.if_icmp .ge 41, 3) := by decide +kernel
theorem dX0_itemsOnFloor_18 : decode cX0_itemsOnFloor 18 = .ok (.iload_n 1, 1) := by decide +kernel
theorem dX0_itemsOnFloor_19 : decode cX0_itemsOnFloor 19 = .ok (.aload_n 0, 1) := by decide +kernel
theorem dX0_itemsOnFloor_20 : decode cX0_itemsOnFloor 20 = .ok (.getfield 53, 3) := by decide +kernel
theorem dX0_itemsOnFloor_23 : decode cX0_itemsOnFloor 23 = .ok (.iload_n 2, 1) := by decide +kernel
theorem dX0_itemsOnFloor_24 : decode cX0_itemsOnFloor 24 = .ok (.invokevirtual 91, 3) := by decide +kernel
theorem dX0_itemsOnFloor_27 : decode cX0_itemsOnFloor 27 = .ok (.iconst (-1), 1) := by decide +kernel
theorem dX0_itemsOnFloor_28 : decode cX0_itemsOnFloor 28 = .ok (.if_icmp .ne 19, 3) := by decide +kernel
theorem dX0_itemsOnFloor_31 : decode cX0_itemsOnFloor 31 = .ok (.aload_n 0, 1) := by decide +kernel
theorem dX0_itemsOnFloor_32 : decode cX0_itemsOnFloor 32 = .ok (.getfield 56, 3) := by decide +kernel
theorem dX0_itemsOnFloor_35 : decode cX0_itemsOnFloor 35 = .ok (.iload_n 2, 1) := by decide +kernel
theorem dX0_itemsOnFloor_36 : decode cX0_itemsOnFloor 36 = .ok (.invokevirtual 91, 3) := by decide +kernel
theorem dX0_itemsOnFloor_39 : decode cX0_itemsOnFloor 39 = .ok (.iconst (-1), 1) := by decide +kernel
theorem dX0_itemsOnFloor_40 : decode cX0_itemsOnFloor 40 = .ok (.if_icmp .ne 7, 3) := by decide +kernel
theorem dX0_itemsOnFloor_43 : decode cX0_itemsOnFloor 43 = .ok (.iconst 1, 1) := by decide +kernel
theorem dX0_itemsOnFloor_44 : decode cX0_itemsOnFloor 44 = .ok (.goto 4, 3) := by decide +kernel
theorem dX0_itemsOnFloor_47 : decode cX0_itemsOnFloor 47 = .ok (.iconst 0, 1) := by decide +kernel
theorem dX0_itemsOnFloor_48 : decode cX0_itemsOnFloor 48 = .ok (.iadd, 1) := by decide +kernel
theorem dX0_itemsOnFloor_49 : decode cX0_itemsOnFloor 49 = .ok (.istore_n 1, 1) := by decide +kernel
theorem dX0_itemsOnFloor_50 : decode cX0_itemsOnFloor 50 = .ok (.iinc 2 1, 3) := by decide +kernel
theorem dX0_itemsOnFloor_53 : decode cX0_itemsOnFloor 53 = .ok (.goto (-49), 3) := by decide +kernel
theorem dX0_itemsOnFloor_56 : decode cX0_itemsOnFloor 56 = .ok (.iload_n 1, 1) := by decide +kernel
theorem dX0_itemsOnFloor_57 : decode cX0_itemsOnFloor 57 = .ok (.ireturn, 1) := by decide +kernel
theorem dX0_isRaised_0 : decode cX0_isRaised 0 = .ok (.aload_n 0, 1) := by decide +kernel
theorem dX0_isRaised_1 : decode cX0_isRaised 1 = .ok (.getfield 50, 3) := by decide +kernel
theorem dX0_isRaised_4 : decode cX0_isRaised 4 = .ok (.iload_n 1, 1) := by decide +kernel
theorem dX0_isRaised_5 : decode cX0_isRaised 5 = .ok (.invokevirtual 91, 3) := by decide +kernel
theorem dX0_isRaised_8 : decode cX0_isRaised 8 = .ok (.istore_n 2, 1) := by decide +kernel
theorem dX0_isRaised_9 : decode cX0_isRaised 9 = .ok (.iload_n 2, 1) := by decide +kernel
theorem dX0_isRaised_10 : decode cX0_isRaised 10 = .ok (.iconst (-1), 1) := by decide +kernel
theorem dX0_isRaised_11 : decode cX0_isRaised 11 = .ok (.if_icmp .eq 34, 3) := by decide +kernel
theorem dX0_isRaised_14 : decode cX0_isRaised 14 = .ok (.aload_n 0, 1) := by decide +kernel
theorem dX0_isRaised_15 : decode cX0_isRaised 15 = .ok (.getfield 62, 3) := by decide +kernel
theorem dX0_isRaised_18 : decode cX0_isRaised 18 = .ok (.iload_n 1, 1) := by decide +kernel
theorem dX0_isRaised_19 : decode cX0_isRaised 19 = .ok (.invokevirtual 166, 3) := by decide +kernel
theorem dX0_isRaised_22 : decode cX0_isRaised 22 = .ok (.aload_n 0, 1) := by decide +kernel
theorem dX0_isRaised_23 : decode cX0_isRaised 23 = .ok (.getfield 62, 3) := by decide +kernel
theorem dX0_isRaised_26 : decode cX0_isRaised 26 = .ok (.aload_n 0, 1) := by decide +kernel
theorem dX0_isRaised_27 : decode cX0_isRaised 27 = .ok (.getfield 23, 3) := by decide +kernel
theorem dX0_isRaised_30 : decode cX0_isRaised 30 = .ok (.iload_n 2, 1) := by decide +kernel
theorem dX0_isRaised_31 : decode cX0_isRaised 31 = .ok (.invokevirtual 91, 3) := by decide +kernel
theorem dX0_isRaised_34 : decode cX0_isRaised 34 = .ok (.invokevirtual 166, 3) := by decide +kernel
theorem dX0_isRaised_37 : decode cX0_isRaised 37 = .ok (.fcmp .g, 1) := by decide +kernel
theorem dX0_isRaised_38 : decode cX0_isRaised 38 = .ok (.ifCond .ge 7, 3) := by decide +kernel
theorem dX0_isRaised_41 : decode cX0_isRaised 41 = .ok (.iconst 1, 1) := by decide +kernel
theorem dX0_isRaised_42 : decode cX0_isRaised 42 = .ok (.goto 4, 3) := by decide +kernel
theorem dX0_isRaised_45 : decode cX0_isRaised 45 = .ok (.iconst 0, 1) := by decide +kernel
theorem dX0_isRaised_46 : decode cX0_isRaised 46 = .ok (.ireturn, 1) := by decide +kernel
theorem dX0_raisedIn_0 : decode cX0_raisedIn 0 = .ok (.iconst 0, 1) := by decide +kernel
theorem dX0_raisedIn_1 : decode cX0_raisedIn 1 = .ok (.istore_n 2, 1) := by decide +kernel
theorem dX0_raisedIn_2 : decode cX0_raisedIn 2 = .ok (.iconst 0, 1) := by decide +kernel
theorem dX0_raisedIn_3 : decode cX0_raisedIn 3 = .ok (.istore_n 3, 1) := by decide +kernel
theorem dX0_raisedIn_4 : decode cX0_raisedIn 4 = .ok (.iload_n 3, 1) := by decide +kernel
theorem dX0_raisedIn_5 : decode cX0_raisedIn 5 = .ok (.bipush 20, 2) := by decide +kernel
theorem dX0_raisedIn_7 : decode cX0_raisedIn 7 = .ok (.if_icmp .ge 37, 3) := by decide +kernel
theorem dX0_raisedIn_10 : decode cX0_raisedIn 10 = .ok (.iload_n 2, 1) := by decide +kernel
theorem dX0_raisedIn_11 : decode cX0_raisedIn 11 = .ok (.aload_n 0, 1) := by decide +kernel
theorem dX0_raisedIn_12 : decode cX0_raisedIn 12 = .ok (.getfield 53, 3) := by decide +kernel
theorem dX0_raisedIn_15 : decode cX0_raisedIn 15 = .ok (.iload_n 3, 1) := by decide +kernel
theorem dX0_raisedIn_16 : decode cX0_raisedIn 16 = .ok (.invokevirtual 91, 3) := by decide +kernel
theorem dX0_raisedIn_19 : decode cX0_raisedIn 19 = .ok (.iload_n 1, 1) := by decide +kernel
theorem dX0_raisedIn_20 : decode cX0_raisedIn 20 = .ok (.if_icmp .ne 15, 3) := by decide +kernel
theorem dX0_raisedIn_23 : decode cX0_raisedIn 23 = .ok (.aload_n 0, 1) := by decide +kernel
theorem dX0_raisedIn_24 : decode cX0_raisedIn 24 = .ok (.iload_n 3, 1) := by decide +kernel
theorem dX0_raisedIn_25 : decode cX0_raisedIn 25 = .ok (.invokevirtual 170, 3) := by decide +kernel
theorem dX0_raisedIn_28 : decode cX0_raisedIn 28 = .ok (.ifCond .eq 7, 3) := by decide +kernel
theorem dX0_raisedIn_31 : decode cX0_raisedIn 31 = .ok (.iconst 1, 1) := by decide +kernel
theorem dX0_raisedIn_32 : decode cX0_raisedIn 32 = .ok (.goto 4, 3) := by decide +kernel
theorem dX0_raisedIn_35 : decode cX0_raisedIn 35 = .ok (.iconst 0, 1) := by decide +kernel
theorem dX0_raisedIn_36 : decode cX0_raisedIn 36 = .ok (.iadd, 1) := by decide +kernel
theorem dX0_raisedIn_37 : decode cX0_raisedIn 37 = .ok (.istore_n 2, 1) := by decide +kernel
theorem dX0_raisedIn_38 : decode cX0_raisedIn 38 = .ok (.iinc 3 1, 3) := by decide +kernel
theorem dX0_raisedIn_41 : decode cX0_raisedIn 41 = .ok (.goto (-37), 3) := by decide +kernel
theorem dX0_raisedIn_44 : decode cX0_raisedIn 44 = .ok (.iload_n 2, 1) := by decide +kernel
theorem dX0_raisedIn_45 : decode cX0_raisedIn 45 = .ok (.ireturn, 1) := by decide +kernel
theorem dX0_raisedInAll_0 : decode cX0_raisedInAll 0 = .ok (.iconst 0, 1) := by decide +kernel
theorem dX0_raisedInAll_1 : decode cX0_raisedInAll 1 = .ok (.istore_n 1, 1) := by decide +kernel
theorem dX0_raisedInAll_2 : decode cX0_raisedInAll 2 = .ok (.iconst 0, 1) := by decide +kernel
theorem dX0_raisedInAll_3 : decode cX0_raisedInAll 3 = .ok (.istore_n 2, 1) := by decide +kernel
theorem dX0_raisedInAll_4 : decode cX0_raisedInAll 4 = .ok (.iload_n 2, 1) := by decide +kernel
theorem dX0_raisedInAll_5 : decode cX0_raisedInAll 5 = .ok (.bipush 20, 2) := by decide +kernel
theorem dX0_raisedInAll_7 : decode cX0_raisedInAll 7 = .ok (.if_icmp .ge 25, 3) := by decide +kernel
theorem dX0_raisedInAll_10 : decode cX0_raisedInAll 10 = .ok (.iload_n 1, 1) := by decide +kernel
theorem dX0_raisedInAll_11 : decode cX0_raisedInAll 11 = .ok (.aload_n 0, 1) := by decide +kernel
theorem dX0_raisedInAll_12 : decode cX0_raisedInAll 12 = .ok (.iload_n 2, 1) := by decide +kernel
theorem dX0_raisedInAll_13 : decode cX0_raisedInAll 13 = .ok (.invokevirtual 170, 3) := by decide +kernel
theorem dX0_raisedInAll_16 : decode cX0_raisedInAll 16 = .ok (.ifCond .eq 7, 3) := by decide +kernel
theorem dX0_raisedInAll_19 : decode cX0_raisedInAll 19 = .ok (.iconst 1, 1) := by decide +kernel
theorem dX0_raisedInAll_20 : decode cX0_raisedInAll 20 = .ok (.goto 4, 3) := by decide +kernel
theorem dX0_raisedInAll_23 : decode cX0_raisedInAll 23 = .ok (.iconst 0, 1) := by decide +kernel
theorem dX0_raisedInAll_24 : decode cX0_raisedInAll 24 = .ok (.iadd, 1) := by decide +kernel
theorem dX0_raisedInAll_25 : decode cX0_raisedInAll 25 = .ok (.istore_n 1, 1) := by decide +kernel
theorem dX0_raisedInAll_26 : decode cX0_raisedInAll 26 = .ok (.iinc 2 1, 3) := by decide +kernel
theorem dX0_raisedInAll_29 : decode cX0_raisedInAll 29 = .ok (.goto (-25), 3) := by decide +kernel
theorem dX0_raisedInAll_32 : decode cX0_raisedInAll 32 = .ok (.iload_n 1, 1) := by decide +kernel
theorem dX0_raisedInAll_33 : decode cX0_raisedInAll 33 = .ok (.ireturn, 1) := by decide +kernel
theorem dX0_aheadOf_0 : decode cX0_aheadOf 0 = .ok (.iconst 0, 1) := by decide +kernel
theorem dX0_aheadOf_1 : decode cX0_aheadOf 1 = .ok (.istore_n 3, 1) := by decide +kernel
theorem dX0_aheadOf_2 : decode cX0_aheadOf 2 = .ok (.iconst 0, 1) := by decide +kernel
theorem dX0_aheadOf_3 : decode cX0_aheadOf 3 = .ok (.istore 4, 2) := by decide +kernel
theorem dX0_aheadOf_5 : decode cX0_aheadOf 5 = .ok (.iload 4, 2) := by decide +kernel
theorem dX0_aheadOf_7 : decode cX0_aheadOf 7 = .ok (.bipush 20, 2) := by decide +kernel
theorem dX0_aheadOf_9 : decode cX0_aheadOf 9 = .ok (.if_icmp .ge 43, 3) := by decide +kernel
theorem dX0_aheadOf_12 : decode cX0_aheadOf 12 = .ok (.iload_n 3, 1) := by decide +kernel
theorem dX0_aheadOf_13 : decode cX0_aheadOf 13 = .ok (.aload_n 0, 1) := by decide +kernel
theorem dX0_aheadOf_14 : decode cX0_aheadOf 14 = .ok (.getfield 53, 3) := by decide +kernel
theorem dX0_aheadOf_17 : decode cX0_aheadOf 17 = .ok (.iload 4, 2) := by decide +kernel
theorem dX0_aheadOf_19 : decode cX0_aheadOf 19 = .ok (.invokevirtual 91, 3) := by decide +kernel
theorem dX0_aheadOf_22 : decode cX0_aheadOf 22 = .ok (.iload_n 1, 1) := by decide +kernel
theorem dX0_aheadOf_23 : decode cX0_aheadOf 23 = .ok (.if_icmp .ne 20, 3) := by decide +kernel
theorem dX0_aheadOf_26 : decode cX0_aheadOf 26 = .ok (.aload_n 0, 1) := by decide +kernel
theorem dX0_aheadOf_27 : decode cX0_aheadOf 27 = .ok (.getfield 62, 3) := by decide +kernel
theorem dX0_aheadOf_30 : decode cX0_aheadOf 30 = .ok (.iload 4, 2) := by decide +kernel
theorem dX0_aheadOf_32 : decode cX0_aheadOf 32 = .ok (.iload_n 2, 1) := by decide +kernel
theorem dX0_aheadOf_33 : decode cX0_aheadOf 33 = .ok (.invokevirtual 173, 3) := by decide +kernel
theorem dX0_aheadOf_36 : decode cX0_aheadOf 36 = .ok (.ifCond .eq 7, 3) := by decide +kernel
theorem dX0_aheadOf_39 : decode cX0_aheadOf 39 = .ok (.iconst 1, 1) := by decide +kernel
theorem dX0_aheadOf_40 : decode cX0_aheadOf 40 = .ok (.goto 4, 3) := by decide +kernel
theorem dX0_aheadOf_43 : decode cX0_aheadOf 43 = .ok (.iconst 0, 1) := by decide +kernel
theorem dX0_aheadOf_44 : decode cX0_aheadOf 44 = .ok (.iadd, 1) := by decide +kernel
theorem dX0_aheadOf_45 : decode cX0_aheadOf 45 = .ok (.istore_n 3, 1) := by decide +kernel
theorem dX0_aheadOf_46 : decode cX0_aheadOf 46 = .ok (.iinc 4 1, 3) := by decide +kernel
theorem dX0_aheadOf_49 : decode cX0_aheadOf 49 = .ok (.goto (-44), 3) := by decide +kernel
theorem dX0_aheadOf_52 : decode cX0_aheadOf 52 = .ok (.iload_n 3, 1) := by decide +kernel
theorem dX0_aheadOf_53 : decode cX0_aheadOf 53 = .ok (.ireturn, 1) := by decide +kernel
theorem dX0_selected_0 : decode cX0_selected 0 = .ok (.iconst 0, 1) := by decide +kernel
theorem dX0_selected_1 : decode cX0_selected 1 = .ok (.istore_n 3, 1) := by decide +kernel
theorem dX0_selected_2 : decode cX0_selected 2 = .ok (.iload_n 3, 1) := by decide +kernel
theorem dX0_selected_3 : decode cX0_selected 3 = .ok (.bipush 20, 2) := by decide +kernel
theorem dX0_selected_5 : decode cX0_selected 5 = .ok (.if_icmp .ge 33, 3) := by decide +kernel
theorem dX0_selected_8 : decode cX0_selected 8 = .ok (.aload_n 0, 1) := by decide +kernel
theorem dX0_selected_9 : decode cX0_selected 9 = .ok (.getfield 53, 3) := by decide +kernel
theorem dX0_selected_12 : decode cX0_selected 12 = .ok (.iload_n 3, 1) := by decide +kernel
theorem dX0_selected_13 : decode cX0_selected 13 = .ok (.invokevirtual 91, 3) := by decide +kernel
theorem dX0_selected_16 : decode cX0_selected 16 = .ok (.iload_n 1, 1) := by decide +kernel
theorem dX0_selected_17 : decode cX0_selected 17 = .ok (.if_icmp .ne 15, 3) := by decide +kernel
theorem dX0_selected_20 : decode cX0_selected 20 = .ok (.aload_n 0, 1) := by decide +kernel
theorem dX0_selected_21 : decode cX0_selected 21 = .ok (.iload_n 1, 1) := by decide +kernel
theorem dX0_selected_22 : decode cX0_selected 22 = .ok (.iload_n 3, 1) := by decide +kernel
theorem dX0_selected_23 : decode cX0_selected 23 = .ok (.invokevirtual 176, 3) := by decide +kernel
theorem dX0_selected_26 : decode cX0_selected 26 = .ok (.iload_n 2, 1) := by decide +kernel
theorem dX0_selected_27 : decode cX0_selected 27 = .ok (.if_icmp .ne 5, 3) := by decide +kernel
theorem dX0_selected_30 : decode cX0_selected 30 = .ok (.iload_n 3, 1) := by decide +kernel
theorem dX0_selected_31 : decode cX0_selected 31 = .ok (.ireturn, 1) := by decide +kernel
theorem dX0_selected_32 : decode cX0_selected 32 = .ok (.iinc 3 1, 3) := by decide +kernel
theorem dX0_selected_35 : decode cX0_selected 35 = .ok (.goto (-33), 3) := by decide +kernel
theorem dX0_selected_38 : decode cX0_selected 38 = .ok (.iconst (-1), 1) := by decide +kernel
theorem dX0_selected_39 : decode cX0_selected 39 = .ok (.ireturn, 1) := by decide +kernel
theorem dX1_init_0 : decode cX1_init 0 = .ok (.aload_n 0, 1) := by decide +kernel
theorem dX1_init_1 : decode cX1_init 1 = .ok (.invokespecial 1, 3) := by decide +kernel
theorem dX1_init_4 : decode cX1_init 4 = .ok (.aload_n 0, 1) := by decide +kernel
theorem dX1_init_5 : decode cX1_init 5 = .ok (.new 7, 3) := by decide +kernel
theorem dX1_init_8 : decode cX1_init 8 = .ok (.dup, 1) := by decide +kernel
theorem dX1_init_9 : decode cX1_init 9 = .ok (.sipush 1000, 3) := by decide +kernel
theorem dX1_init_12 : decode cX1_init 12 = .ok (.invokespecial 11, 3) := by decide +kernel
theorem dX1_init_15 : decode cX1_init 15 = .ok (.putfield 14, 3) := by decide +kernel
theorem dX1_init_18 : decode cX1_init 18 = .ok (.aload_n 0, 1) := by decide +kernel
theorem dX1_init_19 : decode cX1_init 19 = .ok (.iconst 0, 1) := by decide +kernel
theorem dX1_init_20 : decode cX1_init 20 = .ok (.putfield 18, 3) := by decide +kernel
theorem dX1_init_23 : decode cX1_init 23 = .ok (.aload_n 0, 1) := by decide +kernel
theorem dX1_init_24 : decode cX1_init 24 = .ok (.new 7, 3) := by decide +kernel
theorem dX1_init_27 : decode cX1_init 27 = .ok (.dup, 1) := by decide +kernel
theorem dX1_init_28 : decode cX1_init 28 = .ok (.bipush 64, 2) := by decide +kernel
theorem dX1_init_30 : decode cX1_init 30 = .ok (.invokespecial 11, 3) := by decide +kernel
theorem dX1_init_33 : decode cX1_init 33 = .ok (.putfield 22, 3) := by decide +kernel
theorem dX1_init_36 : decode cX1_init 36 = .ok (.return_, 1) := by decide +kernel
theorem dX1_add_0 : decode cX1_add 0 = .ok (.aload_n 0, 1) := by decide +kernel
theorem dX1_add_1 : decode cX1_add 1 = .ok (.getfield 14, 3) := by decide +kernel
theorem dX1_add_4 : decode cX1_add 4 = .ok (.aload_n 0, 1) := by decide +kernel
theorem dX1_add_5 : decode cX1_add 5 = .ok (.getfield 18, 3) := by decide +kernel
theorem dX1_add_8 : decode cX1_add 8 = .ok (.iload_n 1, 1) := by decide +kernel
theorem dX1_add_9 : decode cX1_add 9 = .ok (.invokevirtual 25, 3) := by decide +kernel
theorem dX1_add_12 : decode cX1_add 12 = .ok (.aload_n 0, 1) := by decide +kernel
theorem dX1_add_13 : decode cX1_add 13 = .ok (.aload_n 0, 1) := by decide +kernel
theorem dX1_add_14 : decode cX1_add 14 = .ok (.getfield 18, 3) := by decide +kernel
theorem dX1_add_17 : decode cX1_add 17 = .ok (.iconst 1, 1) := by decide +kernel
theorem dX1_add_18 : decode cX1_add 18 = .ok (.iadd, 1) := by decide +kernel
theorem dX1_add_19 : decode cX1_add 19 = .ok (.sipush 1000, 3) := by decide +kernel
theorem dX1_add_22 : decode cX1_add 22 = .ok (.invokestatic 29, 3) := by decide +kernel
theorem dX1_add_25 : decode cX1_add 25 = .ok (.putfield 18, 3) := by decide +kernel
theorem dX1_add_28 : decode cX1_add 28 = .ok (.return_, 1) := by decide +kernel
theorem dX1_copyFrom_0 : decode cX1_copyFrom 0 = .ok (.aload_n 0, 1) := by decide +kernel
theorem dX1_copyFrom_1 : decode cX1_copyFrom 1 = .ok (.getfield 14, 3) := by decide +kernel
theorem dX1_copyFrom_4 : decode cX1_copyFrom 4 = .ok (.aload_n 1, 1) := by decide +kernel
theorem dX1_copyFrom_5 : decode cX1_copyFrom 5 = .ok (.getfield 14, 3) := by decide +kernel
theorem dX1_copyFrom_8 : decode cX1_copyFrom 8 = .ok (.invokevirtual 35, 3) := by decide +kernel
theorem dX1_copyFrom_11 : decode cX1_copyFrom 11 = .ok (.aload_n 0, 1) := by decide +kernel
theorem dX1_copyFrom_12 : decode cX1_copyFrom 12 = .ok (.aload_n 1, 1) := by decide +kernel
theorem dX1_copyFrom_13 : decode cX1_copyFrom 13 = .ok (.getfield 18, 3) := by decide +kernel
theorem dX1_copyFrom_16 : decode cX1_copyFrom 16 = .ok (.putfield 18, 3) := by decide +kernel
theorem dX1_copyFrom_19 : decode cX1_copyFrom 19 = .ok (.return_, 1) := by decide +kernel
theorem dX1_targetFor_0 : decode cX1_targetFor 0 = .ok (.aload_n 0, 1) := by decide +kernel
theorem dX1_targetFor_1 : decode cX1_targetFor 1 = .ok (.getfield 18, 3) := by decide +kernel
theorem dX1_targetFor_4 : decode cX1_targetFor 4 = .ok (.ifCond .ne 24, 3) := by decide +kernel
theorem dX1_targetFor_7 : decode cX1_targetFor 7 = .ok (.iload_n 1, 1) := by decide +kernel
theorem dX1_targetFor_8 : decode cX1_targetFor 8 = .ok (.iload_n 3, 1) := by decide +kernel
theorem dX1_targetFor_9 : decode cX1_targetFor 9 = .ok (.if_icmp .gt 7, 3) := by decide +kernel
theorem dX1_targetFor_12 : decode cX1_targetFor 12 = .ok (.iconst 1, 1) := by decide +kernel
theorem dX1_targetFor_13 : decode cX1_targetFor 13 = .ok (.goto 10, 3) := by decide +kernel
theorem dX1_targetFor_16 : decode cX1_targetFor 16 = .ok (.iconst 3, 1) := by decide +kernel
theorem dX1_targetFor_17 : decode cX1_targetFor 17 = .ok (.iload_n 2, 1) := by decide +kernel
theorem dX1_targetFor_18 : decode cX1_targetFor 18 = .ok (.imul, 1) := by decide +kernel
theorem dX1_targetFor_19 : decode cX1_targetFor 19 = .ok (.iconst 1, 1) := by decide +kernel
theorem dX1_targetFor_20 : decode cX1_targetFor 20 = .ok (.iadd, 1) := by decide +kernel
theorem dX1_targetFor_21 : decode cX1_targetFor 21 = .ok (.iconst 2, 1) := by decide +kernel
theorem dX1_targetFor_22 : decode cX1_targetFor 22 = .ok (.idiv, 1) := by decide +kernel
theorem dX1_targetFor_23 : decode cX1_targetFor 23 = .ok (.istore 5, 2) := by decide +kernel
theorem dX1_targetFor_25 : decode cX1_targetFor 25 = .ok (.goto 14, 3) := by decide +kernel
theorem dX1_targetFor_28 : decode cX1_targetFor 28 = .ok (.aload_n 0, 1) := by decide +kernel
theorem dX1_targetFor_29 : decode cX1_targetFor 29 = .ok (.iload_n 1, 1) := by decide +kernel
theorem dX1_targetFor_30 : decode cX1_targetFor 30 = .ok (.iload_n 2, 1) := by decide +kernel
theorem dX1_targetFor_31 : decode cX1_targetFor 31 = .ok (.iload_n 3, 1) := by decide +kernel
theorem dX1_targetFor_32 : decode cX1_targetFor 32 = .ok (.iload 4, 2) := by decide +kernel
theorem dX1_targetFor_34 : decode cX1_targetFor 34 = .ok (.invokevirtual 39, 3) := by decide +kernel
theorem dX1_targetFor_37 : decode cX1_targetFor 37 = .ok (.istore 5, 2) := by decide +kernel
theorem dX1_targetFor_39 : decode cX1_targetFor 39 = .ok (.iconst 1, 1) := by decide +kernel
theorem dX1_targetFor_40 : decode cX1_targetFor 40 = .ok (.bipush 99, 2) := by decide +kernel
theorem dX1_targetFor_42 : decode cX1_targetFor 42 = .ok (.iload 5, 2) := by decide +kernel
theorem dX1_targetFor_44 : decode cX1_targetFor 44 = .ok (.invokestatic 29, 3) := by decide +kernel
theorem dX1_targetFor_47 : decode cX1_targetFor 47 = .ok (.invokestatic 43, 3) := by decide +kernel
theorem dX1_targetFor_50 : decode cX1_targetFor 50 = .ok (.ireturn, 1) := by decide +kernel
theorem dX1_workedOut_0 : decode cX1_workedOut 0 = .ok (.iconst 0, 1) := by decide +kernel
theorem dX1_workedOut_1 : decode cX1_workedOut 1 = .ok (.istore 5, 2) := by decide +kernel
theorem dX1_workedOut_3 : decode cX1_workedOut 3 = .ok (.iconst 0, 1) := by decide +kernel
theorem dX1_workedOut_4 : decode cX1_workedOut 4 = .ok (.istore 6, 2) := by decide +kernel
theorem dX1_workedOut_6 : decode cX1_workedOut 6 = .ok (.iload 6, 2) := by decide +kernel
theorem dX1_workedOut_8 : decode cX1_workedOut 8 = .ok (.aload_n 0, 1) := by decide +kernel
theorem dX1_workedOut_9 : decode cX1_workedOut 9 = .ok (.getfield 18, 3) := by decide +kernel
theorem dX1_workedOut_12 : decode cX1_workedOut 12 = .ok (.if_icmp .ge 163, 3) := by decide +kernel
theorem dX1_workedOut_15 : decode cX1_workedOut 15 = .ok (.aload_n 0, 1) := by decide +kernel
theorem dX1_workedOut_16 : decode cX1_workedOut 16 = .ok (.getfield 14, 3) := by decide +kernel
theorem dX1_workedOut_19 : decode cX1_workedOut 19 = .ok (.iload 6, 2) := by decide +kernel
theorem dX1_workedOut_21 : decode cX1_workedOut 21 = .ok (.invokevirtual 46, 3) := by decide +kernel
theorem dX1_workedOut_24 : decode cX1_workedOut 24 = .ok (.istore 7, 2) := by decide +kernel
theorem dX1_workedOut_26 : decode cX1_workedOut 26 = .ok (.aload_n 0, 1) := by decide +kernel
theorem dX1_workedOut_27 : decode cX1_workedOut 27 = .ok (.getfield 22, 3) := by decide +kernel
theorem dX1_workedOut_30 : decode cX1_workedOut 30 = .ok (.iload 5, 2) := by decide +kernel
theorem dX1_workedOut_32 : decode cX1_workedOut 32 = .ok (.iconst 1, 1) := by decide +kernel
theorem dX1_workedOut_33 : decode cX1_workedOut 33 = .ok (.isub, 1) := by decide +kernel
theorem dX1_workedOut_34 : decode cX1_workedOut 34 = .ok (.invokevirtual 46, 3) := by decide +kernel
theorem dX1_workedOut_37 : decode cX1_workedOut 37 = .ok (.istore 8, 2) := by decide +kernel
theorem dX1_workedOut_39 : decode cX1_workedOut 39 = .ok (.iload 7, 2) := by decide +kernel
theorem dX1_workedOut_41 : decode cX1_workedOut 41 = .ok (.bipush (-7), 2) := by decide +kernel
theorem dX1_workedOut_43 : decode cX1_workedOut 43 = .ok (.if_icmp .ne 27, 3) := by decide +kernel
theorem dX1_workedOut_46 : decode cX1_workedOut 46 = .ok (.aload_n 0, 1) := by decide +kernel
theorem dX1_workedOut_47 : decode cX1_workedOut 47 = .ok (.getfield 22, 3) := by decide +kernel
theorem dX1_workedOut_50 : decode cX1_workedOut 50 = .ok (.iload 5, 2) := by decide +kernel
theorem dX1_workedOut_52 : decode cX1_workedOut 52 = .ok (.iconst 1, 1) := by decide +kernel
theorem dX1_workedOut_53 : decode cX1_workedOut 53 = .ok (.isub, 1) := by decide +kernel
theorem dX1_workedOut_54 : decode cX1_workedOut 54 = .ok (.iload 8, 2) := by decide +kernel
theorem dX1_workedOut_56 : decode cX1_workedOut 56 = .ok (.ifCond .ne 7, 3) := by decide +kernel
theorem dX1_workedOut_59 : decode cX1_workedOut 59 = .ok (.iconst 1, 1) := by decide +kernel
theorem dX1_workedOut_60 : decode cX1_workedOut 60 = .ok (.goto 4, 3) := by decide +kernel
theorem dX1_workedOut_63 : decode cX1_workedOut 63 = .ok (.iconst 0, 1) := by decide +kernel
theorem dX1_workedOut_64 : decode cX1_workedOut 64 = .ok (.invokevirtual 25, 3) := by decide +kernel
theorem dX1_workedOut_67 : decode cX1_workedOut 67 = .ok (.goto 102, 3) := by decide +kernel
theorem dX1_workedOut_70 : decode cX1_workedOut 70 = .ok (.iload 7, 2) := by decide +kernel
theorem dX1_workedOut_72 : decode cX1_workedOut 72 = .ok (.bipush (-8), 2) := by decide +kernel
theorem dX1_workedOut_74 : decode cX1_workedOut 74 = .ok (.if_icmp .gt 38, 3) := by decide +kernel
theorem dX1_workedOut_77 : decode cX1_workedOut 77 = .ok (.iinc 5 (-1), 3) := by decide +kernel
theorem dX1_workedOut_80 : decode cX1_workedOut 80 = .ok (.aload_n 0, 1) := by decide +kernel
theorem dX1_workedOut_81 : decode cX1_workedOut 81 = .ok (.getfield 22, 3) := by decide +kernel
theorem dX1_workedOut_84 : decode cX1_workedOut 84 = .ok (.iload 5, 2) := by decide +kernel
theorem dX1_workedOut_86 : decode cX1_workedOut 86 = .ok (.iconst 1, 1) := by decide +kernel
theorem dX1_workedOut_87 : decode cX1_workedOut 87 = .ok (.isub, 1) := by decide +kernel
theorem dX1_workedOut_88 : decode cX1_workedOut 88 = .ok (.iload 7, 2) := by decide +kernel
theorem dX1_workedOut_90 : decode cX1_workedOut 90 = .ok (.aload_n 0, 1) := by decide +kernel
theorem dX1_workedOut_91 : decode cX1_workedOut 91 = .ok (.getfield 22, 3) := by decide +kernel
theorem dX1_workedOut_94 : decode cX1_workedOut 94 = .ok (.iload 5, 2) := by decide +kernel
theorem dX1_workedOut_96 : decode cX1_workedOut 96 = .ok (.iconst 1, 1) := by decide +kernel
theorem dX1_workedOut_97 : decode cX1_workedOut 97 = .ok (.isub, 1) := by decide +kernel
theorem dX1_workedOut_98 : decode cX1_workedOut 98 = .ok (.invokevirtual 46, 3) := by decide +kernel
theorem dX1_workedOut_101 : decode cX1_workedOut 101 = .ok (.iload 8, 2) := by decide +kernel
theorem dX1_workedOut_103 : decode cX1_workedOut 103 = .ok (.invokestatic 50, 3) := by decide +kernel
theorem dX1_workedOut_106 : decode cX1_workedOut 106 = .ok (.invokevirtual 25, 3) := by decide +kernel
theorem dX1_workedOut_109 : decode cX1_workedOut 109 = .ok (.goto 60, 3) := by decide +kernel
theorem dX1_workedOut_112 : decode cX1_workedOut 112 = .ok (.aload_n 0, 1) := by decide +kernel
theorem dX1_workedOut_113 : decode cX1_workedOut 113 = .ok (.getfield 22, 3) := by decide +kernel
theorem dX1_workedOut_116 : decode cX1_workedOut 116 = .ok (.iload 5, 2) := by decide +kernel
theorem dX1_workedOut_118 : decode cX1_workedOut 118 = .ok (.iload 7, 2) := by decide +kernel
theorem dX1_workedOut_120 : decode cX1_workedOut 120 = .ok (.ifCond .lt 8, 3) := by decide +kernel
theorem dX1_workedOut_123 : decode cX1_workedOut 123 = .ok (.iload 7, 2) := by decide +kernel
theorem dX1_workedOut_125 : decode cX1_workedOut 125 = .ok (.goto 38, 3) := by decide +kernel
theorem dX1_workedOut_128 : decode cX1_workedOut 128 = .ok (.iload 7, 2) := by decide +kernel
theorem dX1_workedOut_130 : decode cX1_workedOut 130 = .ok (.bipush (-2), 2) := by decide +kernel
theorem dX1_workedOut_132 : decode cX1_workedOut 132 = .ok (.if_icmp .ne 7, 3) := by decide +kernel
theorem dX1_workedOut_135 : decode cX1_workedOut 135 = .ok (.iload_n 1, 1) := by decide +kernel
theorem dX1_workedOut_136 : decode cX1_workedOut 136 = .ok (.goto 27, 3) := by decide +kernel
theorem dX1_workedOut_139 : decode cX1_workedOut 139 = .ok (.iload 7, 2) := by decide +kernel
theorem dX1_workedOut_141 : decode cX1_workedOut 141 = .ok (.bipush (-3), 2) := by decide +kernel
theorem dX1_workedOut_143 : decode cX1_workedOut 143 = .ok (.if_icmp .ne 7, 3) := by decide +kernel
theorem dX1_workedOut_146 : decode cX1_workedOut 146 = .ok (.iload_n 2, 1) := by decide +kernel
theorem dX1_workedOut_147 : decode cX1_workedOut 147 = .ok (.goto 16, 3) := by decide +kernel
theorem dX1_workedOut_150 : decode cX1_workedOut 150 = .ok (.iload 7, 2) := by decide +kernel
theorem dX1_workedOut_152 : decode cX1_workedOut 152 = .ok (.bipush (-4), 2) := by decide +kernel
theorem dX1_workedOut_154 : decode cX1_workedOut 154 = .ok (.if_icmp .ne 7, 3) := by decide +kernel
theorem dX1_workedOut_157 : decode cX1_workedOut 157 = .ok (.iload_n 3, 1) := by decide +kernel
theorem dX1_workedOut_158 : decode cX1_workedOut 158 = .ok (.goto 5, 3) := by decide +kernel
theorem dX1_workedOut_161 : decode cX1_workedOut 161 = .ok (.iload 4, 2) := by decide +kernel
theorem dX1_workedOut_163 : decode cX1_workedOut 163 = .ok (.invokevirtual 25, 3) := by decide +kernel
theorem dX1_workedOut_166 : decode cX1_workedOut 166 = .ok (.iinc 5 1, 3) := by decide +kernel
theorem dX1_workedOut_169 : decode cX1_workedOut 169 = .ok (.iinc 6 1, 3) := by decide +kernel
theorem dX1_workedOut_172 : decode cX1_workedOut 172 = .ok (.goto (-166), 3) := by decide +kernel
theorem dX1_workedOut_175 : decode cX1_workedOut 175 = .ok (.aload_n 0, 1) := by decide +kernel
theorem dX1_workedOut_176 : decode cX1_workedOut 176 = .ok (.getfield 22, 3) := by decide +kernel
theorem dX1_workedOut_179 : decode cX1_workedOut 179 = .ok (.iconst 0, 1) := by decide +kernel
theorem dX1_workedOut_180 : decode cX1_workedOut 180 = .ok (.invokevirtual 46, 3) := by decide +kernel
theorem dX1_workedOut_183 : decode cX1_workedOut 183 = .ok (.ireturn, 1) := by decide +kernel
theorem dX1_joined_0 : decode cX1_joined 0 = .ok (.iload_n 0, 1) := by decide +kernel
theorem dX1_joined_1 : decode cX1_joined 1 = .ok (.tableswitch 97 (-13) (-8) #[93, 89, 78, 67, 53, 39], 39) := by decide +kernel
theorem dX1_joined_40 : decode cX1_joined 40 = .ok (.iload_n 1, 1) := by decide +kernel
theorem dX1_joined_41 : decode cX1_joined 41 = .ok (.ifCond .eq 11, 3) := by decide +kernel
theorem dX1_joined_44 : decode cX1_joined 44 = .ok (.iload_n 2, 1) := by decide +kernel
theorem dX1_joined_45 : decode cX1_joined 45 = .ok (.ifCond .eq 7, 3) := by decide +kernel
theorem dX1_joined_48 : decode cX1_joined 48 = .ok (.iconst 1, 1) := by decide +kernel
theorem dX1_joined_49 : decode cX1_joined 49 = .ok (.goto 4, 3) := by decide +kernel
theorem dX1_joined_52 : decode cX1_joined 52 = .ok (.iconst 0, 1) := by decide +kernel
theorem dX1_joined_53 : decode cX1_joined 53 = .ok (.ireturn, 1) := by decide +kernel
theorem dX1_joined_54 : decode cX1_joined 54 = .ok (.iload_n 1, 1) := by decide +kernel
theorem dX1_joined_55 : decode cX1_joined 55 = .ok (.ifCond .ne 7, 3) := by decide +kernel
theorem dX1_joined_58 : decode cX1_joined 58 = .ok (.iload_n 2, 1) := by decide +kernel
theorem dX1_joined_59 : decode cX1_joined 59 = .ok (.ifCond .eq 7, 3) := by decide +kernel
theorem dX1_joined_62 : decode cX1_joined 62 = .ok (.iconst 1, 1) := by decide +kernel
theorem dX1_joined_63 : decode cX1_joined 63 = .ok (.goto 4, 3) := by decide +kernel
theorem dX1_joined_66 : decode cX1_joined 66 = .ok (.iconst 0, 1) := by decide +kernel
theorem dX1_joined_67 : decode cX1_joined 67 = .ok (.ireturn, 1) := by decide +kernel
theorem dX1_joined_68 : decode cX1_joined 68 = .ok (.iload_n 1, 1) := by decide +kernel
theorem dX1_joined_69 : decode cX1_joined 69 = .ok (.iload_n 2, 1) := by decide +kernel
theorem dX1_joined_70 : decode cX1_joined 70 = .ok (.if_icmp .ge 7, 3) := by decide +kernel
theorem dX1_joined_73 : decode cX1_joined 73 = .ok (.iconst 1, 1) := by decide +kernel
theorem dX1_joined_74 : decode cX1_joined 74 = .ok (.goto 4, 3) := by decide +kernel
theorem dX1_joined_77 : decode cX1_joined 77 = .ok (.iconst 0, 1) := by decide +kernel
theorem dX1_joined_78 : decode cX1_joined 78 = .ok (.ireturn, 1) := by decide +kernel
theorem dX1_joined_79 : decode cX1_joined 79 = .ok (.iload_n 1, 1) := by decide +kernel
theorem dX1_joined_80 : decode cX1_joined 80 = .ok (.iload_n 2, 1) := by decide +kernel
theorem dX1_joined_81 : decode cX1_joined 81 = .ok (.if_icmp .ne 7, 3) := by decide +kernel
theorem dX1_joined_84 : decode cX1_joined 84 = .ok (.iconst 1, 1) := by decide +kernel
theorem dX1_joined_85 : decode cX1_joined 85 = .ok (.goto 4, 3) := by decide +kernel
theorem dX1_joined_88 : decode cX1_joined 88 = .ok (.iconst 0, 1) := by decide +kernel
theorem dX1_joined_89 : decode cX1_joined 89 = .ok (.ireturn, 1) := by decide +kernel
theorem dX1_joined_90 : decode cX1_joined 90 = .ok (.iload_n 1, 1) := by decide +kernel
theorem dX1_joined_91 : decode cX1_joined 91 = .ok (.iload_n 2, 1) := by decide +kernel
theorem dX1_joined_92 : decode cX1_joined 92 = .ok (.iadd, 1) := by decide +kernel
theorem dX1_joined_93 : decode cX1_joined 93 = .ok (.ireturn, 1) := by decide +kernel
theorem dX1_joined_94 : decode cX1_joined 94 = .ok (.iload_n 1, 1) := by decide +kernel
theorem dX1_joined_95 : decode cX1_joined 95 = .ok (.iload_n 2, 1) := by decide +kernel
theorem dX1_joined_96 : decode cX1_joined 96 = .ok (.isub, 1) := by decide +kernel
theorem dX1_joined_97 : decode cX1_joined 97 = .ok (.ireturn, 1) := by decide +kernel
theorem dX1_joined_98 : decode cX1_joined 98 = .ok (.iload_n 1, 1) := by decide +kernel
theorem dX1_joined_99 : decode cX1_joined 99 = .ok (.iload_n 2, 1) := by decide +kernel
theorem dX1_joined_100 : decode cX1_joined 100 = .ok (.imul, 1) := by decide +kernel
theorem dX1_joined_101 : decode cX1_joined 101 = .ok (.ireturn, 1) := by decide +kernel
theorem dX2_init_0 : decode cX2_init 0 = .ok (.aload_n 0, 1) := by decide +kernel
theorem dX2_init_1 : decode cX2_init 1 = .ok (.invokespecial 1, 3) := by decide +kernel
theorem dX2_init_4 : decode cX2_init 4 = .ok (.aload_n 0, 1) := by decide +kernel
theorem dX2_init_5 : decode cX2_init 5 = .ok (.new 7, 3) := by decide +kernel
theorem dX2_init_8 : decode cX2_init 8 = .ok (.dup, 1) := by decide +kernel
theorem dX2_init_9 : decode cX2_init 9 = .ok (.bipush 64, 2) := by decide +kernel
theorem dX2_init_11 : decode cX2_init 11 = .ok (.invokespecial 11, 3) := by decide +kernel
theorem dX2_init_14 : decode cX2_init 14 = .ok (.putfield 14, 3) := by decide +kernel
theorem dX2_init_17 : decode cX2_init 17 = .ok (.aload_n 0, 1) := by decide +kernel
theorem dX2_init_18 : decode cX2_init 18 = .ok (.iconst 0, 1) := by decide +kernel
theorem dX2_init_19 : decode cX2_init 19 = .ok (.putfield 18, 3) := by decide +kernel
theorem dX2_init_22 : decode cX2_init 22 = .ok (.aload_n 0, 1) := by decide +kernel
theorem dX2_init_23 : decode cX2_init 23 = .ok (.iconst 0, 1) := by decide +kernel
theorem dX2_init_24 : decode cX2_init 24 = .ok (.putfield 22, 3) := by decide +kernel
theorem dX2_init_27 : decode cX2_init 27 = .ok (.aload_n 0, 1) := by decide +kernel
theorem dX2_init_28 : decode cX2_init 28 = .ok (.iconst 0, 1) := by decide +kernel
theorem dX2_init_29 : decode cX2_init 29 = .ok (.putfield 25, 3) := by decide +kernel
theorem dX2_init_32 : decode cX2_init 32 = .ok (.aload_n 0, 1) := by decide +kernel
theorem dX2_init_33 : decode cX2_init 33 = .ok (.iconst 1, 1) := by decide +kernel
theorem dX2_init_34 : decode cX2_init 34 = .ok (.putfield 28, 3) := by decide +kernel
theorem dX2_init_37 : decode cX2_init 37 = .ok (.aload_n 0, 1) := by decide +kernel
theorem dX2_init_38 : decode cX2_init 38 = .ok (.aload_n 1, 1) := by decide +kernel
theorem dX2_init_39 : decode cX2_init 39 = .ok (.putfield 32, 3) := by decide +kernel
theorem dX2_init_42 : decode cX2_init 42 = .ok (.return_, 1) := by decide +kernel
theorem dX2_readLaw_0 : decode cX2_readLaw 0 = .ok (.aload_n 0, 1) := by decide +kernel
theorem dX2_readLaw_1 : decode cX2_readLaw 1 = .ok (.iconst 0, 1) := by decide +kernel
theorem dX2_readLaw_2 : decode cX2_readLaw 2 = .ok (.putfield 18, 3) := by decide +kernel
theorem dX2_readLaw_5 : decode cX2_readLaw 5 = .ok (.aload_n 0, 1) := by decide +kernel
theorem dX2_readLaw_6 : decode cX2_readLaw 6 = .ok (.iconst 0, 1) := by decide +kernel
theorem dX2_readLaw_7 : decode cX2_readLaw 7 = .ok (.putfield 22, 3) := by decide +kernel
theorem dX2_readLaw_10 : decode cX2_readLaw 10 = .ok (.aload_n 0, 1) := by decide +kernel
theorem dX2_readLaw_11 : decode cX2_readLaw 11 = .ok (.iconst 0, 1) := by decide +kernel
theorem dX2_readLaw_12 : decode cX2_readLaw 12 = .ok (.putfield 25, 3) := by decide +kernel
theorem dX2_readLaw_15 : decode cX2_readLaw 15 = .ok (.aload_n 0, 1) := by decide +kernel
theorem dX2_readLaw_16 : decode cX2_readLaw 16 = .ok (.iconst 1, 1) := by decide +kernel
theorem dX2_readLaw_17 : decode cX2_readLaw 17 = .ok (.putfield 28, 3) := by decide +kernel
theorem dX2_readLaw_20 : decode cX2_readLaw 20 = .ok (.iconst 0, 1) := by decide +kernel
theorem dX2_readLaw_21 : decode cX2_readLaw 21 = .ok (.istore_n 2, 1) := by decide +kernel
theorem dX2_readLaw_22 : decode cX2_readLaw 22 = .ok (.iload_n 2, 1) := by decide +kernel
theorem dX2_readLaw_23 : decode cX2_readLaw 23 = .ok (.sipush 1000, 3) := by decide +kernel
theorem dX2_readLaw_26 : decode cX2_readLaw 26 = .ok (.if_icmp .gt 77, 3) := by decide +kernel
theorem dX2_readLaw_29 : decode cX2_readLaw 29 = .ok (.aload_n 0, 1) := by decide +kernel
theorem dX2_readLaw_30 : decode cX2_readLaw 30 = .ok (.getfield 28, 3) := by decide +kernel
theorem dX2_readLaw_33 : decode cX2_readLaw 33 = .ok (.ifCond .ne 30, 3) := by decide +kernel
theorem dX2_readLaw_36 : decode cX2_readLaw 36 = .ok (.aload_n 0, 1) := by decide +kernel
theorem dX2_readLaw_37 : decode cX2_readLaw 37 = .ok (.getfield 25, 3) := by decide +kernel
theorem dX2_readLaw_40 : decode cX2_readLaw 40 = .ok (.ifCond .ne 23, 3) := by decide +kernel
theorem dX2_readLaw_43 : decode cX2_readLaw 43 = .ok (.aload_n 0, 1) := by decide +kernel
theorem dX2_readLaw_44 : decode cX2_readLaw 44 = .ok (.getfield 32, 3) := by decide +kernel
theorem dX2_readLaw_47 : decode cX2_readLaw 47 = .ok (.getfield 38, 3) := by decide +kernel
theorem dX2_readLaw_50 : decode cX2_readLaw 50 = .ok (.bipush 59, 2) := by decide +kernel
theorem dX2_readLaw_52 : decode cX2_readLaw 52 = .ok (.if_icmp .ne 11, 3) := by decide +kernel
theorem dX2_readLaw_55 : decode cX2_readLaw 55 = .ok (.aload_n 0, 1) := by decide +kernel
theorem dX2_readLaw_56 : decode cX2_readLaw 56 = .ok (.aload_n 1, 1) := by decide +kernel
theorem dX2_readLaw_57 : decode cX2_readLaw 57 = .ok (.iconst 1, 1) := by decide +kernel
theorem dX2_readLaw_58 : decode cX2_readLaw 58 = .ok (.invokevirtual 41, 3) := by decide +kernel
theorem dX2_readLaw_61 : decode cX2_readLaw 61 = .ok (.iconst 0, 1) := by decide +kernel
theorem dX2_readLaw_62 : decode cX2_readLaw 62 = .ok (.ireturn, 1) := by decide +kernel
theorem dX2_readLaw_63 : decode cX2_readLaw 63 = .ok (.aload_n 0, 1) := by decide +kernel
theorem dX2_readLaw_64 : decode cX2_readLaw 64 = .ok (.getfield 28, 3) := by decide +kernel
theorem dX2_readLaw_67 : decode cX2_readLaw 67 = .ok (.ifCond .eq 11, 3) := by decide +kernel
theorem dX2_readLaw_70 : decode cX2_readLaw 70 = .ok (.aload_n 0, 1) := by decide +kernel
theorem dX2_readLaw_71 : decode cX2_readLaw 71 = .ok (.aload_n 1, 1) := by decide +kernel
theorem dX2_readLaw_72 : decode cX2_readLaw 72 = .ok (.invokevirtual 45, 3) := by decide +kernel
theorem dX2_readLaw_75 : decode cX2_readLaw 75 = .ok (.goto 8, 3) := by decide +kernel
theorem dX2_readLaw_78 : decode cX2_readLaw 78 = .ok (.aload_n 0, 1) := by decide +kernel
theorem dX2_readLaw_79 : decode cX2_readLaw 79 = .ok (.aload_n 1, 1) := by decide +kernel
theorem dX2_readLaw_80 : decode cX2_readLaw 80 = .ok (.invokevirtual 49, 3) := by decide +kernel
theorem dX2_readLaw_83 : decode cX2_readLaw 83 = .ok (.istore_n 3, 1) := by decide +kernel
theorem dX2_readLaw_84 : decode cX2_readLaw 84 = .ok (.iload_n 3, 1) := by decide +kernel
theorem dX2_readLaw_85 : decode cX2_readLaw 85 = .ok (.ifCond .eq 5, 3) := by decide +kernel
theorem dX2_readLaw_88 : decode cX2_readLaw 88 = .ok (.iload_n 3, 1) := by decide +kernel
theorem dX2_readLaw_89 : decode cX2_readLaw 89 = .ok (.ireturn, 1) := by decide +kernel
theorem dX2_readLaw_90 : decode cX2_readLaw 90 = .ok (.aload_n 0, 1) := by decide +kernel
theorem dX2_readLaw_91 : decode cX2_readLaw 91 = .ok (.getfield 32, 3) := by decide +kernel
theorem dX2_readLaw_94 : decode cX2_readLaw 94 = .ok (.invokevirtual 52, 3) := by decide +kernel
theorem dX2_readLaw_97 : decode cX2_readLaw 97 = .ok (.iinc 2 1, 3) := by decide +kernel
theorem dX2_readLaw_100 : decode cX2_readLaw 100 = .ok (.goto (-78), 3) := by decide +kernel
theorem dX2_readLaw_103 : decode cX2_readLaw 103 = .ok (.iconst 1, 1) := by decide +kernel
theorem dX2_readLaw_104 : decode cX2_readLaw 104 = .ok (.ireturn, 1) := by decide +kernel
theorem dX2_readPart_0 : decode cX2_readPart 0 = .ok (.aload_n 0, 1) := by decide +kernel
theorem dX2_readPart_1 : decode cX2_readPart 1 = .ok (.getfield 32, 3) := by decide +kernel
theorem dX2_readPart_4 : decode cX2_readPart 4 = .ok (.getfield 38, 3) := by decide +kernel
theorem dX2_readPart_7 : decode cX2_readPart 7 = .ok (.bipush 40, 2) := by decide +kernel
theorem dX2_readPart_9 : decode cX2_readPart 9 = .ok (.if_icmp .ne 7, 3) := by decide +kernel
theorem dX2_readPart_12 : decode cX2_readPart 12 = .ok (.iconst 1, 1) := by decide +kernel
theorem dX2_readPart_13 : decode cX2_readPart 13 = .ok (.goto 4, 3) := by decide +kernel
theorem dX2_readPart_16 : decode cX2_readPart 16 = .ok (.iconst 0, 1) := by decide +kernel
theorem dX2_readPart_17 : decode cX2_readPart 17 = .ok (.istore_n 2, 1) := by decide +kernel
theorem dX2_readPart_18 : decode cX2_readPart 18 = .ok (.aload_n 0, 1) := by decide +kernel
theorem dX2_readPart_19 : decode cX2_readPart 19 = .ok (.getfield 32, 3) := by decide +kernel
theorem dX2_readPart_22 : decode cX2_readPart 22 = .ok (.getfield 57, 3) := by decide +kernel
theorem dX2_readPart_25 : decode cX2_readPart 25 = .ok (.getstatic 61, 3) := by decide +kernel
theorem dX2_readPart_28 : decode cX2_readPart 28 = .ok (.if_acmp .ne 7, 3) := by decide +kernel
theorem dX2_readPart_31 : decode cX2_readPart 31 = .ok (.iconst 1, 1) := by decide +kernel
theorem dX2_readPart_32 : decode cX2_readPart 32 = .ok (.goto 4, 3) := by decide +kernel
theorem dX2_readPart_35 : decode cX2_readPart 35 = .ok (.iconst 0, 1) := by decide +kernel
theorem dX2_readPart_36 : decode cX2_readPart 36 = .ok (.istore_n 3, 1) := by decide +kernel
theorem dX2_readPart_37 : decode cX2_readPart 37 = .ok (.aload_n 0, 1) := by decide +kernel
theorem dX2_readPart_38 : decode cX2_readPart 38 = .ok (.getfield 32, 3) := by decide +kernel
theorem dX2_readPart_41 : decode cX2_readPart 41 = .ok (.getfield 66, 3) := by decide +kernel
theorem dX2_readPart_44 : decode cX2_readPart 44 = .ok (.iconst 2, 1) := by decide +kernel
theorem dX2_readPart_45 : decode cX2_readPart 45 = .ok (.if_icmp .ne 7, 3) := by decide +kernel
theorem dX2_readPart_48 : decode cX2_readPart 48 = .ok (.iconst 1, 1) := by decide +kernel
theorem dX2_readPart_49 : decode cX2_readPart 49 = .ok (.goto 4, 3) := by decide +kernel
theorem dX2_readPart_52 : decode cX2_readPart 52 = .ok (.iconst 0, 1) := by decide +kernel
theorem dX2_readPart_53 : decode cX2_readPart 53 = .ok (.istore 4, 2) := by decide +kernel
theorem dX2_readPart_55 : decode cX2_readPart 55 = .ok (.aload_n 0, 1) := by decide +kernel
theorem dX2_readPart_56 : decode cX2_readPart 56 = .ok (.getfield 32, 3) := by decide +kernel
theorem dX2_readPart_59 : decode cX2_readPart 59 = .ok (.getfield 57, 3) := by decide +kernel
theorem dX2_readPart_62 : decode cX2_readPart 62 = .ok (.getfield 69, 3) := by decide +kernel
theorem dX2_readPart_65 : decode cX2_readPart 65 = .ok (.istore 5, 2) := by decide +kernel
theorem dX2_readPart_67 : decode cX2_readPart 67 = .ok (.iload_n 2, 1) := by decide +kernel
theorem dX2_readPart_68 : decode cX2_readPart 68 = .ok (.ifCond .ne 19, 3) := by decide +kernel
theorem dX2_readPart_71 : decode cX2_readPart 71 = .ok (.iload_n 3, 1) := by decide +kernel
theorem dX2_readPart_72 : decode cX2_readPart 72 = .ok (.ifCond .ne 15, 3) := by decide +kernel
theorem dX2_readPart_75 : decode cX2_readPart 75 = .ok (.iload 4, 2) := by decide +kernel
theorem dX2_readPart_77 : decode cX2_readPart 77 = .ok (.ifCond .ne 10, 3) := by decide +kernel
theorem dX2_readPart_80 : decode cX2_readPart 80 = .ok (.iload 5, 2) := by decide +kernel
theorem dX2_readPart_82 : decode cX2_readPart 82 = .ok (.ifCond .ne 5, 3) := by decide +kernel
theorem dX2_readPart_85 : decode cX2_readPart 85 = .ok (.iconst 1, 1) := by decide +kernel
theorem dX2_readPart_86 : decode cX2_readPart 86 = .ok (.ireturn, 1) := by decide +kernel
theorem dX2_readPart_87 : decode cX2_readPart 87 = .ok (.aload_n 0, 1) := by decide +kernel
theorem dX2_readPart_88 : decode cX2_readPart 88 = .ok (.getfield 22, 3) := by decide +kernel
theorem dX2_readPart_91 : decode cX2_readPart 91 = .ok (.iconst 5, 1) := by decide +kernel
theorem dX2_readPart_92 : decode cX2_readPart 92 = .ok (.if_icmp .lt 5, 3) := by decide +kernel
theorem dX2_readPart_95 : decode cX2_readPart 95 = .ok (.iconst 5, 1) := by decide +kernel
theorem dX2_readPart_96 : decode cX2_readPart 96 = .ok (.ireturn, 1) := by decide +kernel
theorem dX2_readPart_97 : decode cX2_readPart 97 = .ok (.iload_n 2, 1) := by decide +kernel
theorem dX2_readPart_98 : decode cX2_readPart 98 = .ok (.ifCond .ne 7, 3) := by decide +kernel
theorem dX2_readPart_101 : decode cX2_readPart 101 = .ok (.iload_n 3, 1) := by decide +kernel
theorem dX2_readPart_102 : decode cX2_readPart 102 = .ok (.ifCond .eq 49, 3) := by decide +kernel
theorem dX2_readPart_105 : decode cX2_readPart 105 = .ok (.aload_n 0, 1) := by decide +kernel
theorem dX2_readPart_106 : decode cX2_readPart 106 = .ok (.iload_n 2, 1) := by decide +kernel
theorem dX2_readPart_107 : decode cX2_readPart 107 = .ok (.ifCond .eq 8, 3) := by decide +kernel
theorem dX2_readPart_110 : decode cX2_readPart 110 = .ok (.bipush (-6), 2) := by decide +kernel
theorem dX2_readPart_112 : decode cX2_readPart 112 = .ok (.goto 5, 3) := by decide +kernel
theorem dX2_readPart_115 : decode cX2_readPart 115 = .ok (.bipush (-7), 2) := by decide +kernel
theorem dX2_readPart_117 : decode cX2_readPart 117 = .ok (.invokevirtual 74, 3) := by decide +kernel
theorem dX2_readPart_120 : decode cX2_readPart 120 = .ok (.aload_n 0, 1) := by decide +kernel
theorem dX2_readPart_121 : decode cX2_readPart 121 = .ok (.dup, 1) := by decide +kernel
theorem dX2_readPart_122 : decode cX2_readPart 122 = .ok (.getfield 22, 3) := by decide +kernel
theorem dX2_readPart_125 : decode cX2_readPart 125 = .ok (.iconst 1, 1) := by decide +kernel
theorem dX2_readPart_126 : decode cX2_readPart 126 = .ok (.iadd, 1) := by decide +kernel
theorem dX2_readPart_127 : decode cX2_readPart 127 = .ok (.putfield 22, 3) := by decide +kernel
theorem dX2_readPart_130 : decode cX2_readPart 130 = .ok (.aload_n 0, 1) := by decide +kernel
theorem dX2_readPart_131 : decode cX2_readPart 131 = .ok (.dup, 1) := by decide +kernel
theorem dX2_readPart_132 : decode cX2_readPart 132 = .ok (.getfield 25, 3) := by decide +kernel
theorem dX2_readPart_135 : decode cX2_readPart 135 = .ok (.iload_n 2, 1) := by decide +kernel
theorem dX2_readPart_136 : decode cX2_readPart 136 = .ok (.ifCond .eq 7, 3) := by decide +kernel
theorem dX2_readPart_139 : decode cX2_readPart 139 = .ok (.iconst 1, 1) := by decide +kernel
theorem dX2_readPart_140 : decode cX2_readPart 140 = .ok (.goto 4, 3) := by decide +kernel
theorem dX2_readPart_143 : decode cX2_readPart 143 = .ok (.iconst 0, 1) := by decide +kernel
theorem dX2_readPart_144 : decode cX2_readPart 144 = .ok (.iadd, 1) := by decide +kernel
theorem dX2_readPart_145 : decode cX2_readPart 145 = .ok (.putfield 25, 3) := by decide +kernel
theorem dX2_readPart_148 : decode cX2_readPart 148 = .ok (.goto 29, 3) := by decide +kernel
theorem dX2_readPart_151 : decode cX2_readPart 151 = .ok (.aload_n 1, 1) := by decide +kernel
theorem dX2_readPart_152 : decode cX2_readPart 152 = .ok (.iload 4, 2) := by decide +kernel
theorem dX2_readPart_154 : decode cX2_readPart 154 = .ok (.ifCond .eq 13, 3) := by decide +kernel
theorem dX2_readPart_157 : decode cX2_readPart 157 = .ok (.aload_n 0, 1) := by decide +kernel
theorem dX2_readPart_158 : decode cX2_readPart 158 = .ok (.getfield 32, 3) := by decide +kernel
theorem dX2_readPart_161 : decode cX2_readPart 161 = .ok (.getfield 77, 3) := by decide +kernel
theorem dX2_readPart_164 : decode cX2_readPart 164 = .ok (.goto 5, 3) := by decide +kernel
theorem dX2_readPart_167 : decode cX2_readPart 167 = .ok (.iload 5, 2) := by decide +kernel
theorem dX2_readPart_169 : decode cX2_readPart 169 = .ok (.invokevirtual 80, 3) := by decide +kernel
theorem dX2_readPart_172 : decode cX2_readPart 172 = .ok (.aload_n 0, 1) := by decide +kernel
theorem dX2_readPart_173 : decode cX2_readPart 173 = .ok (.aload_n 1, 1) := by decide +kernel
theorem dX2_readPart_174 : decode cX2_readPart 174 = .ok (.invokevirtual 83, 3) := by decide +kernel
theorem dX2_readPart_177 : decode cX2_readPart 177 = .ok (.iconst 0, 1) := by decide +kernel
theorem dX2_readPart_178 : decode cX2_readPart 178 = .ok (.ireturn, 1) := by decide +kernel
theorem dX2_readJoin_0 : decode cX2_readJoin 0 = .ok (.aload_n 0, 1) := by decide +kernel
theorem dX2_readJoin_1 : decode cX2_readJoin 1 = .ok (.getfield 32, 3) := by decide +kernel
theorem dX2_readJoin_4 : decode cX2_readJoin 4 = .ok (.getfield 38, 3) := by decide +kernel
theorem dX2_readJoin_7 : decode cX2_readJoin 7 = .ok (.bipush 41, 2) := by decide +kernel
theorem dX2_readJoin_9 : decode cX2_readJoin 9 = .ok (.if_icmp .ne 53, 3) := by decide +kernel
theorem dX2_readJoin_12 : decode cX2_readJoin 12 = .ok (.aload_n 0, 1) := by decide +kernel
theorem dX2_readJoin_13 : decode cX2_readJoin 13 = .ok (.getfield 25, 3) := by decide +kernel
theorem dX2_readJoin_16 : decode cX2_readJoin 16 = .ok (.ifCond .le 46, 3) := by decide +kernel
theorem dX2_readJoin_19 : decode cX2_readJoin 19 = .ok (.aload_n 0, 1) := by decide +kernel
theorem dX2_readJoin_20 : decode cX2_readJoin 20 = .ok (.aload_n 1, 1) := by decide +kernel
theorem dX2_readJoin_21 : decode cX2_readJoin 21 = .ok (.iconst 1, 1) := by decide +kernel
theorem dX2_readJoin_22 : decode cX2_readJoin 22 = .ok (.invokevirtual 41, 3) := by decide +kernel
theorem dX2_readJoin_25 : decode cX2_readJoin 25 = .ok (.aload_n 0, 1) := by decide +kernel
theorem dX2_readJoin_26 : decode cX2_readJoin 26 = .ok (.dup, 1) := by decide +kernel
theorem dX2_readJoin_27 : decode cX2_readJoin 27 = .ok (.getfield 18, 3) := by decide +kernel
theorem dX2_readJoin_30 : decode cX2_readJoin 30 = .ok (.iconst 1, 1) := by decide +kernel
theorem dX2_readJoin_31 : decode cX2_readJoin 31 = .ok (.isub, 1) := by decide +kernel
theorem dX2_readJoin_32 : decode cX2_readJoin 32 = .ok (.putfield 18, 3) := by decide +kernel
theorem dX2_readJoin_35 : decode cX2_readJoin 35 = .ok (.aload_n 0, 1) := by decide +kernel
theorem dX2_readJoin_36 : decode cX2_readJoin 36 = .ok (.dup, 1) := by decide +kernel
theorem dX2_readJoin_37 : decode cX2_readJoin 37 = .ok (.getfield 25, 3) := by decide +kernel
theorem dX2_readJoin_40 : decode cX2_readJoin 40 = .ok (.iconst 1, 1) := by decide +kernel
theorem dX2_readJoin_41 : decode cX2_readJoin 41 = .ok (.isub, 1) := by decide +kernel
theorem dX2_readJoin_42 : decode cX2_readJoin 42 = .ok (.putfield 25, 3) := by decide +kernel
theorem dX2_readJoin_45 : decode cX2_readJoin 45 = .ok (.aload_n 0, 1) := by decide +kernel
theorem dX2_readJoin_46 : decode cX2_readJoin 46 = .ok (.dup, 1) := by decide +kernel
theorem dX2_readJoin_47 : decode cX2_readJoin 47 = .ok (.getfield 22, 3) := by decide +kernel
theorem dX2_readJoin_50 : decode cX2_readJoin 50 = .ok (.iconst 1, 1) := by decide +kernel
theorem dX2_readJoin_51 : decode cX2_readJoin 51 = .ok (.isub, 1) := by decide +kernel
theorem dX2_readJoin_52 : decode cX2_readJoin 52 = .ok (.putfield 22, 3) := by decide +kernel
theorem dX2_readJoin_55 : decode cX2_readJoin 55 = .ok (.aload_n 0, 1) := by decide +kernel
theorem dX2_readJoin_56 : decode cX2_readJoin 56 = .ok (.aload_n 1, 1) := by decide +kernel
theorem dX2_readJoin_57 : decode cX2_readJoin 57 = .ok (.invokevirtual 83, 3) := by decide +kernel
theorem dX2_readJoin_60 : decode cX2_readJoin 60 = .ok (.iconst 0, 1) := by decide +kernel
theorem dX2_readJoin_61 : decode cX2_readJoin 61 = .ok (.ireturn, 1) := by decide +kernel
theorem dX2_readJoin_62 : decode cX2_readJoin 62 = .ok (.aload_n 0, 1) := by decide +kernel
theorem dX2_readJoin_63 : decode cX2_readJoin 63 = .ok (.invokevirtual 87, 3) := by decide +kernel
theorem dX2_readJoin_66 : decode cX2_readJoin 66 = .ok (.istore_n 2, 1) := by decide +kernel
theorem dX2_readJoin_67 : decode cX2_readJoin 67 = .ok (.iload_n 2, 1) := by decide +kernel
theorem dX2_readJoin_68 : decode cX2_readJoin 68 = .ok (.ifCond .ne 5, 3) := by decide +kernel
theorem dX2_readJoin_71 : decode cX2_readJoin 71 = .ok (.iconst 1, 1) := by decide +kernel
theorem dX2_readJoin_72 : decode cX2_readJoin 72 = .ok (.ireturn, 1) := by decide +kernel
theorem dX2_readJoin_73 : decode cX2_readJoin 73 = .ok (.iload_n 2, 1) := by decide +kernel
theorem dX2_readJoin_74 : decode cX2_readJoin 74 = .ok (.invokestatic 91, 3) := by decide +kernel
theorem dX2_readJoin_77 : decode cX2_readJoin 77 = .ok (.istore_n 3, 1) := by decide +kernel
theorem dX2_readJoin_78 : decode cX2_readJoin 78 = .ok (.iload_n 3, 1) := by decide +kernel
theorem dX2_readJoin_79 : decode cX2_readJoin 79 = .ok (.iconst 2, 1) := by decide +kernel
theorem dX2_readJoin_80 : decode cX2_readJoin 80 = .ok (.if_icmp .ne 31, 3) := by decide +kernel
theorem dX2_readJoin_83 : decode cX2_readJoin 83 = .ok (.aload_n 0, 1) := by decide +kernel
theorem dX2_readJoin_84 : decode cX2_readJoin 84 = .ok (.aload_n 1, 1) := by decide +kernel
theorem dX2_readJoin_85 : decode cX2_readJoin 85 = .ok (.iconst 3, 1) := by decide +kernel
theorem dX2_readJoin_86 : decode cX2_readJoin 86 = .ok (.invokevirtual 41, 3) := by decide +kernel
theorem dX2_readJoin_89 : decode cX2_readJoin 89 = .ok (.aload_n 0, 1) := by decide +kernel
theorem dX2_readJoin_90 : decode cX2_readJoin 90 = .ok (.getfield 14, 3) := by decide +kernel
theorem dX2_readJoin_93 : decode cX2_readJoin 93 = .ok (.aload_n 0, 1) := by decide +kernel
theorem dX2_readJoin_94 : decode cX2_readJoin 94 = .ok (.getfield 18, 3) := by decide +kernel
theorem dX2_readJoin_97 : decode cX2_readJoin 97 = .ok (.iconst 1, 1) := by decide +kernel
theorem dX2_readJoin_98 : decode cX2_readJoin 98 = .ok (.isub, 1) := by decide +kernel
theorem dX2_readJoin_99 : decode cX2_readJoin 99 = .ok (.invokevirtual 95, 3) := by decide +kernel
theorem dX2_readJoin_102 : decode cX2_readJoin 102 = .ok (.invokestatic 91, 3) := by decide +kernel
theorem dX2_readJoin_105 : decode cX2_readJoin 105 = .ok (.iconst 2, 1) := by decide +kernel
theorem dX2_readJoin_106 : decode cX2_readJoin 106 = .ok (.if_icmp .ne 5, 3) := by decide +kernel
theorem dX2_readJoin_109 : decode cX2_readJoin 109 = .ok (.iconst 1, 1) := by decide +kernel
theorem dX2_readJoin_110 : decode cX2_readJoin 110 = .ok (.ireturn, 1) := by decide +kernel
theorem dX2_readJoin_111 : decode cX2_readJoin 111 = .ok (.aload_n 0, 1) := by decide +kernel
theorem dX2_readJoin_112 : decode cX2_readJoin 112 = .ok (.aload_n 1, 1) := by decide +kernel
theorem dX2_readJoin_113 : decode cX2_readJoin 113 = .ok (.iload_n 3, 1) := by decide +kernel
theorem dX2_readJoin_114 : decode cX2_readJoin 114 = .ok (.invokevirtual 41, 3) := by decide +kernel
theorem dX2_readJoin_117 : decode cX2_readJoin 117 = .ok (.aload_n 0, 1) := by decide +kernel
theorem dX2_readJoin_118 : decode cX2_readJoin 118 = .ok (.iload_n 2, 1) := by decide +kernel
theorem dX2_readJoin_119 : decode cX2_readJoin 119 = .ok (.invokevirtual 74, 3) := by decide +kernel
theorem dX2_readJoin_122 : decode cX2_readJoin 122 = .ok (.aload_n 0, 1) := by decide +kernel
theorem dX2_readJoin_123 : decode cX2_readJoin 123 = .ok (.iconst 1, 1) := by decide +kernel
theorem dX2_readJoin_124 : decode cX2_readJoin 124 = .ok (.putfield 28, 3) := by decide +kernel
theorem dX2_readJoin_127 : decode cX2_readJoin 127 = .ok (.iconst 0, 1) := by decide +kernel
theorem dX2_readJoin_128 : decode cX2_readJoin 128 = .ok (.ireturn, 1) := by decide +kernel
theorem dX2_endPart_0 : decode cX2_endPart 0 = .ok (.aload_n 0, 1) := by decide +kernel
theorem dX2_endPart_1 : decode cX2_endPart 1 = .ok (.getfield 18, 3) := by decide +kernel
theorem dX2_endPart_4 : decode cX2_endPart 4 = .ok (.ifCond .le 50, 3) := by decide +kernel
theorem dX2_endPart_7 : decode cX2_endPart 7 = .ok (.aload_n 0, 1) := by decide +kernel
theorem dX2_endPart_8 : decode cX2_endPart 8 = .ok (.getfield 14, 3) := by decide +kernel
theorem dX2_endPart_11 : decode cX2_endPart 11 = .ok (.aload_n 0, 1) := by decide +kernel
theorem dX2_endPart_12 : decode cX2_endPart 12 = .ok (.getfield 18, 3) := by decide +kernel
theorem dX2_endPart_15 : decode cX2_endPart 15 = .ok (.iconst 1, 1) := by decide +kernel
theorem dX2_endPart_16 : decode cX2_endPart 16 = .ok (.isub, 1) := by decide +kernel
theorem dX2_endPart_17 : decode cX2_endPart 17 = .ok (.invokevirtual 95, 3) := by decide +kernel
theorem dX2_endPart_20 : decode cX2_endPart 20 = .ok (.bipush (-7), 2) := by decide +kernel
theorem dX2_endPart_22 : decode cX2_endPart 22 = .ok (.if_icmp .ne 32, 3) := by decide +kernel
theorem dX2_endPart_25 : decode cX2_endPart 25 = .ok (.aload_n 0, 1) := by decide +kernel
theorem dX2_endPart_26 : decode cX2_endPart 26 = .ok (.dup, 1) := by decide +kernel
theorem dX2_endPart_27 : decode cX2_endPart 27 = .ok (.getfield 18, 3) := by decide +kernel
theorem dX2_endPart_30 : decode cX2_endPart 30 = .ok (.iconst 1, 1) := by decide +kernel
theorem dX2_endPart_31 : decode cX2_endPart 31 = .ok (.isub, 1) := by decide +kernel
theorem dX2_endPart_32 : decode cX2_endPart 32 = .ok (.putfield 18, 3) := by decide +kernel
theorem dX2_endPart_35 : decode cX2_endPart 35 = .ok (.aload_n 0, 1) := by decide +kernel
theorem dX2_endPart_36 : decode cX2_endPart 36 = .ok (.dup, 1) := by decide +kernel
theorem dX2_endPart_37 : decode cX2_endPart 37 = .ok (.getfield 22, 3) := by decide +kernel
theorem dX2_endPart_40 : decode cX2_endPart 40 = .ok (.iconst 1, 1) := by decide +kernel
theorem dX2_endPart_41 : decode cX2_endPart 41 = .ok (.isub, 1) := by decide +kernel
theorem dX2_endPart_42 : decode cX2_endPart 42 = .ok (.putfield 22, 3) := by decide +kernel
theorem dX2_endPart_45 : decode cX2_endPart 45 = .ok (.aload_n 1, 1) := by decide +kernel
theorem dX2_endPart_46 : decode cX2_endPart 46 = .ok (.bipush (-7), 2) := by decide +kernel
theorem dX2_endPart_48 : decode cX2_endPart 48 = .ok (.invokevirtual 80, 3) := by decide +kernel
theorem dX2_endPart_51 : decode cX2_endPart 51 = .ok (.goto (-51), 3) := by decide +kernel
theorem dX2_endPart_54 : decode cX2_endPart 54 = .ok (.aload_n 0, 1) := by decide +kernel
theorem dX2_endPart_55 : decode cX2_endPart 55 = .ok (.iconst 0, 1) := by decide +kernel
theorem dX2_endPart_56 : decode cX2_endPart 56 = .ok (.putfield 28, 3) := by decide +kernel
theorem dX2_endPart_59 : decode cX2_endPart 59 = .ok (.return_, 1) := by decide +kernel
theorem dX2_settle_0 : decode cX2_settle 0 = .ok (.aload_n 0, 1) := by decide +kernel
theorem dX2_settle_1 : decode cX2_settle 1 = .ok (.getfield 18, 3) := by decide +kernel
theorem dX2_settle_4 : decode cX2_settle 4 = .ok (.ifCond .le 51, 3) := by decide +kernel
theorem dX2_settle_7 : decode cX2_settle 7 = .ok (.aload_n 0, 1) := by decide +kernel
theorem dX2_settle_8 : decode cX2_settle 8 = .ok (.getfield 14, 3) := by decide +kernel
theorem dX2_settle_11 : decode cX2_settle 11 = .ok (.aload_n 0, 1) := by decide +kernel
theorem dX2_settle_12 : decode cX2_settle 12 = .ok (.getfield 18, 3) := by decide +kernel
theorem dX2_settle_15 : decode cX2_settle 15 = .ok (.iconst 1, 1) := by decide +kernel
theorem dX2_settle_16 : decode cX2_settle 16 = .ok (.isub, 1) := by decide +kernel
theorem dX2_settle_17 : decode cX2_settle 17 = .ok (.invokevirtual 95, 3) := by decide +kernel
theorem dX2_settle_20 : decode cX2_settle 20 = .ok (.invokestatic 91, 3) := by decide +kernel
theorem dX2_settle_23 : decode cX2_settle 23 = .ok (.iload_n 2, 1) := by decide +kernel
theorem dX2_settle_24 : decode cX2_settle 24 = .ok (.if_icmp .lt 31, 3) := by decide +kernel
theorem dX2_settle_27 : decode cX2_settle 27 = .ok (.aload_n 0, 1) := by decide +kernel
theorem dX2_settle_28 : decode cX2_settle 28 = .ok (.dup, 1) := by decide +kernel
theorem dX2_settle_29 : decode cX2_settle 29 = .ok (.getfield 18, 3) := by decide +kernel
theorem dX2_settle_32 : decode cX2_settle 32 = .ok (.iconst 1, 1) := by decide +kernel
theorem dX2_settle_33 : decode cX2_settle 33 = .ok (.isub, 1) := by decide +kernel
theorem dX2_settle_34 : decode cX2_settle 34 = .ok (.putfield 18, 3) := by decide +kernel
theorem dX2_settle_37 : decode cX2_settle 37 = .ok (.aload_n 1, 1) := by decide +kernel
theorem dX2_settle_38 : decode cX2_settle 38 = .ok (.aload_n 0, 1) := by decide +kernel
theorem dX2_settle_39 : decode cX2_settle 39 = .ok (.getfield 14, 3) := by decide +kernel
theorem dX2_settle_42 : decode cX2_settle 42 = .ok (.aload_n 0, 1) := by decide +kernel
theorem dX2_settle_43 : decode cX2_settle 43 = .ok (.getfield 18, 3) := by decide +kernel
theorem dX2_settle_46 : decode cX2_settle 46 = .ok (.invokevirtual 95, 3) := by decide +kernel
theorem dX2_settle_49 : decode cX2_settle 49 = .ok (.invokevirtual 80, 3) := by decide +kernel
theorem dX2_settle_52 : decode cX2_settle 52 = .ok (.goto (-52), 3) := by decide +kernel
theorem dX2_settle_55 : decode cX2_settle 55 = .ok (.return_, 1) := by decide +kernel
theorem dX2_hold_0 : decode cX2_hold 0 = .ok (.aload_n 0, 1) := by decide +kernel
theorem dX2_hold_1 : decode cX2_hold 1 = .ok (.getfield 14, 3) := by decide +kernel
theorem dX2_hold_4 : decode cX2_hold 4 = .ok (.aload_n 0, 1) := by decide +kernel
theorem dX2_hold_5 : decode cX2_hold 5 = .ok (.getfield 18, 3) := by decide +kernel
theorem dX2_hold_8 : decode cX2_hold 8 = .ok (.iload_n 1, 1) := by decide +kernel
theorem dX2_hold_9 : decode cX2_hold 9 = .ok (.invokevirtual 98, 3) := by decide +kernel
theorem dX2_hold_12 : decode cX2_hold 12 = .ok (.aload_n 0, 1) := by decide +kernel
theorem dX2_hold_13 : decode cX2_hold 13 = .ok (.dup, 1) := by decide +kernel
theorem dX2_hold_14 : decode cX2_hold 14 = .ok (.getfield 18, 3) := by decide +kernel
theorem dX2_hold_17 : decode cX2_hold 17 = .ok (.iconst 1, 1) := by decide +kernel
theorem dX2_hold_18 : decode cX2_hold 18 = .ok (.iadd, 1) := by decide +kernel
theorem dX2_hold_19 : decode cX2_hold 19 = .ok (.putfield 18, 3) := by decide +kernel
theorem dX2_hold_22 : decode cX2_hold 22 = .ok (.return_, 1) := by decide +kernel
theorem dX2_joiningSign_0 : decode cX2_joiningSign 0 = .ok (.aload_n 0, 1) := by decide +kernel
theorem dX2_joiningSign_1 : decode cX2_joiningSign 1 = .ok (.getfield 32, 3) := by decide +kernel
theorem dX2_joiningSign_4 : decode cX2_joiningSign 4 = .ok (.getfield 57, 3) := by decide +kernel
theorem dX2_joiningSign_7 : decode cX2_joiningSign 7 = .ok (.getstatic 102, 3) := by decide +kernel
theorem dX2_joiningSign_10 : decode cX2_joiningSign 10 = .ok (.if_acmp .ne 6, 3) := by decide +kernel
theorem dX2_joiningSign_13 : decode cX2_joiningSign 13 = .ok (.bipush (-8), 2) := by decide +kernel
theorem dX2_joiningSign_15 : decode cX2_joiningSign 15 = .ok (.ireturn, 1) := by decide +kernel
theorem dX2_joiningSign_16 : decode cX2_joiningSign 16 = .ok (.aload_n 0, 1) := by decide +kernel
theorem dX2_joiningSign_17 : decode cX2_joiningSign 17 = .ok (.getfield 32, 3) := by decide +kernel
theorem dX2_joiningSign_20 : decode cX2_joiningSign 20 = .ok (.getfield 57, 3) := by decide +kernel
theorem dX2_joiningSign_23 : decode cX2_joiningSign 23 = .ok (.getstatic 105, 3) := by decide +kernel
theorem dX2_joiningSign_26 : decode cX2_joiningSign 26 = .ok (.if_acmp .ne 6, 3) := by decide +kernel
theorem dX2_joiningSign_29 : decode cX2_joiningSign 29 = .ok (.bipush (-9), 2) := by decide +kernel
theorem dX2_joiningSign_31 : decode cX2_joiningSign 31 = .ok (.ireturn, 1) := by decide +kernel
theorem dX2_joiningSign_32 : decode cX2_joiningSign 32 = .ok (.aload_n 0, 1) := by decide +kernel
theorem dX2_joiningSign_33 : decode cX2_joiningSign 33 = .ok (.getfield 32, 3) := by decide +kernel
theorem dX2_joiningSign_36 : decode cX2_joiningSign 36 = .ok (.getfield 38, 3) := by decide +kernel
theorem dX2_joiningSign_39 : decode cX2_joiningSign 39 = .ok (.lookupswitch 64 #[(42, 61), (43, 55), (45, 58), (60, 49), (61, 52)], 49) := by decide +kernel
theorem dX2_joiningSign_88 : decode cX2_joiningSign 88 = .ok (.bipush (-10), 2) := by decide +kernel
theorem dX2_joiningSign_90 : decode cX2_joiningSign 90 = .ok (.ireturn, 1) := by decide +kernel
theorem dX2_joiningSign_91 : decode cX2_joiningSign 91 = .ok (.bipush (-11), 2) := by decide +kernel
theorem dX2_joiningSign_93 : decode cX2_joiningSign 93 = .ok (.ireturn, 1) := by decide +kernel
theorem dX2_joiningSign_94 : decode cX2_joiningSign 94 = .ok (.bipush (-12), 2) := by decide +kernel
theorem dX2_joiningSign_96 : decode cX2_joiningSign 96 = .ok (.ireturn, 1) := by decide +kernel
theorem dX2_joiningSign_97 : decode cX2_joiningSign 97 = .ok (.bipush (-13), 2) := by decide +kernel
theorem dX2_joiningSign_99 : decode cX2_joiningSign 99 = .ok (.ireturn, 1) := by decide +kernel
theorem dX2_joiningSign_100 : decode cX2_joiningSign 100 = .ok (.bipush (-14), 2) := by decide +kernel
theorem dX2_joiningSign_102 : decode cX2_joiningSign 102 = .ok (.ireturn, 1) := by decide +kernel
theorem dX2_joiningSign_103 : decode cX2_joiningSign 103 = .ok (.iconst 0, 1) := by decide +kernel
theorem dX2_joiningSign_104 : decode cX2_joiningSign 104 = .ok (.ireturn, 1) := by decide +kernel
theorem dX2_levelOf_0 : decode cX2_levelOf 0 = .ok (.iload_n 0, 1) := by decide +kernel
theorem dX2_levelOf_1 : decode cX2_levelOf 1 = .ok (.tableswitch 51 (-14) (-8) #[49, 47, 47, 45, 45, 43, 43], 43) := by decide +kernel
theorem dX2_levelOf_44 : decode cX2_levelOf 44 = .ok (.iconst 1, 1) := by decide +kernel
theorem dX2_levelOf_45 : decode cX2_levelOf 45 = .ok (.ireturn, 1) := by decide +kernel
theorem dX2_levelOf_46 : decode cX2_levelOf 46 = .ok (.iconst 2, 1) := by decide +kernel
theorem dX2_levelOf_47 : decode cX2_levelOf 47 = .ok (.ireturn, 1) := by decide +kernel
theorem dX2_levelOf_48 : decode cX2_levelOf 48 = .ok (.iconst 3, 1) := by decide +kernel
theorem dX2_levelOf_49 : decode cX2_levelOf 49 = .ok (.ireturn, 1) := by decide +kernel
theorem dX2_levelOf_50 : decode cX2_levelOf 50 = .ok (.iconst 4, 1) := by decide +kernel
theorem dX2_levelOf_51 : decode cX2_levelOf 51 = .ok (.ireturn, 1) := by decide +kernel
theorem dX2_levelOf_52 : decode cX2_levelOf 52 = .ok (.iconst 0, 1) := by decide +kernel
theorem dX2_levelOf_53 : decode cX2_levelOf 53 = .ok (.ireturn, 1) := by decide +kernel
theorem dX3_init_0 : decode cX3_init 0 = .ok (.aload_n 0, 1) := by decide +kernel
theorem dX3_init_1 : decode cX3_init 1 = .ok (.invokespecial 3, 3) := by decide +kernel
theorem dX3_init_4 : decode cX3_init 4 = .ok (.aload_n 0, 1) := by decide +kernel
theorem dX3_init_5 : decode cX3_init 5 = .ok (.iconst 0, 1) := by decide +kernel
theorem dX3_init_6 : decode cX3_init 6 = .ok (.putfield 9, 3) := by decide +kernel
theorem dX3_init_9 : decode cX3_init 9 = .ok (.aload_n 0, 1) := by decide +kernel
theorem dX3_init_10 : decode cX3_init 10 = .ok (.iload_n 1, 1) := by decide +kernel
theorem dX3_init_11 : decode cX3_init 11 = .ok (.ifCond .ge 7, 3) := by decide +kernel
theorem dX3_init_14 : decode cX3_init 14 = .ok (.iconst 0, 1) := by decide +kernel
theorem dX3_init_15 : decode cX3_init 15 = .ok (.goto 4, 3) := by decide +kernel
theorem dX3_init_18 : decode cX3_init 18 = .ok (.iload_n 1, 1) := by decide +kernel
theorem dX3_init_19 : decode cX3_init 19 = .ok (.newarray .long, 2) := by decide +kernel
theorem dX3_init_21 : decode cX3_init 21 = .ok (.putfield 15, 3) := by decide +kernel
theorem dX3_init_24 : decode cX3_init 24 = .ok (.return_, 1) := by decide +kernel
theorem dX3_add_0 : decode cX3_add 0 = .ok (.aload_n 0, 1) := by decide +kernel
theorem dX3_add_1 : decode cX3_add 1 = .ok (.getfield 9, 3) := by decide +kernel
theorem dX3_add_4 : decode cX3_add 4 = .ok (.ifCond .lt 35, 3) := by decide +kernel
theorem dX3_add_7 : decode cX3_add 7 = .ok (.aload_n 0, 1) := by decide +kernel
theorem dX3_add_8 : decode cX3_add 8 = .ok (.getfield 9, 3) := by decide +kernel
theorem dX3_add_11 : decode cX3_add 11 = .ok (.aload_n 0, 1) := by decide +kernel
theorem dX3_add_12 : decode cX3_add 12 = .ok (.getfield 15, 3) := by decide +kernel
theorem dX3_add_15 : decode cX3_add 15 = .ok (.arraylength, 1) := by decide +kernel
theorem dX3_add_16 : decode cX3_add 16 = .ok (.if_icmp .ge 23, 3) := by decide +kernel
theorem dX3_add_19 : decode cX3_add 19 = .ok (.aload_n 0, 1) := by decide +kernel
theorem dX3_add_20 : decode cX3_add 20 = .ok (.getfield 15, 3) := by decide +kernel
theorem dX3_add_23 : decode cX3_add 23 = .ok (.aload_n 0, 1) := by decide +kernel
theorem dX3_add_24 : decode cX3_add 24 = .ok (.getfield 9, 3) := by decide +kernel
theorem dX3_add_27 : decode cX3_add 27 = .ok (.lload_n 1, 1) := by decide +kernel
theorem dX3_add_28 : decode cX3_add 28 = .ok (.lastore, 1) := by decide +kernel
theorem dX3_add_29 : decode cX3_add 29 = .ok (.aload_n 0, 1) := by decide +kernel
theorem dX3_add_30 : decode cX3_add 30 = .ok (.dup, 1) := by decide +kernel
theorem dX3_add_31 : decode cX3_add 31 = .ok (.getfield 9, 3) := by decide +kernel
theorem dX3_add_34 : decode cX3_add 34 = .ok (.iconst 1, 1) := by decide +kernel
theorem dX3_add_35 : decode cX3_add 35 = .ok (.iadd, 1) := by decide +kernel
theorem dX3_add_36 : decode cX3_add 36 = .ok (.putfield 9, 3) := by decide +kernel
theorem dX3_add_39 : decode cX3_add 39 = .ok (.return_, 1) := by decide +kernel
theorem dX3_find_0 : decode cX3_find 0 = .ok (.iconst 0, 1) := by decide +kernel
theorem dX3_find_1 : decode cX3_find 1 = .ok (.istore_n 3, 1) := by decide +kernel
theorem dX3_find_2 : decode cX3_find 2 = .ok (.iload_n 3, 1) := by decide +kernel
theorem dX3_find_3 : decode cX3_find 3 = .ok (.aload_n 0, 1) := by decide +kernel
theorem dX3_find_4 : decode cX3_find 4 = .ok (.getfield 9, 3) := by decide +kernel
theorem dX3_find_7 : decode cX3_find 7 = .ok (.if_icmp .ge 31, 3) := by decide +kernel
theorem dX3_find_10 : decode cX3_find 10 = .ok (.iload_n 3, 1) := by decide +kernel
theorem dX3_find_11 : decode cX3_find 11 = .ok (.aload_n 0, 1) := by decide +kernel
theorem dX3_find_12 : decode cX3_find 12 = .ok (.getfield 15, 3) := by decide +kernel
theorem dX3_find_15 : decode cX3_find 15 = .ok (.arraylength, 1) := by decide +kernel
theorem dX3_find_16 : decode cX3_find 16 = .ok (.if_icmp .ge 22, 3) := by decide +kernel
theorem dX3_find_19 : decode cX3_find 19 = .ok (.aload_n 0, 1) := by decide +kernel
theorem dX3_find_20 : decode cX3_find 20 = .ok (.getfield 15, 3) := by decide +kernel
theorem dX3_find_23 : decode cX3_find 23 = .ok (.iload_n 3, 1) := by decide +kernel
theorem dX3_find_24 : decode cX3_find 24 = .ok (.laload, 1) := by decide +kernel
theorem dX3_find_25 : decode cX3_find 25 = .ok (.lload_n 1, 1) := by decide +kernel
theorem dX3_find_26 : decode cX3_find 26 = .ok (.lcmp, 1) := by decide +kernel
theorem dX3_find_27 : decode cX3_find 27 = .ok (.ifCond .ne 5, 3) := by decide +kernel
theorem dX3_find_30 : decode cX3_find 30 = .ok (.iload_n 3, 1) := by decide +kernel
theorem dX3_find_31 : decode cX3_find 31 = .ok (.ireturn, 1) := by decide +kernel
theorem dX3_find_32 : decode cX3_find 32 = .ok (.iinc 3 1, 3) := by decide +kernel
theorem dX3_find_35 : decode cX3_find 35 = .ok (.goto (-33), 3) := by decide +kernel
theorem dX3_find_38 : decode cX3_find 38 = .ok (.iconst (-1), 1) := by decide +kernel
theorem dX3_find_39 : decode cX3_find 39 = .ok (.ireturn, 1) := by decide +kernel
theorem dX3_copyFrom_0 : decode cX3_copyFrom 0 = .ok (.aload_n 0, 1) := by decide +kernel
theorem dX3_copyFrom_1 : decode cX3_copyFrom 1 = .ok (.iconst 0, 1) := by decide +kernel
theorem dX3_copyFrom_2 : decode cX3_copyFrom 2 = .ok (.putfield 9, 3) := by decide +kernel
theorem dX3_copyFrom_5 : decode cX3_copyFrom 5 = .ok (.iconst 0, 1) := by decide +kernel
theorem dX3_copyFrom_6 : decode cX3_copyFrom 6 = .ok (.istore_n 2, 1) := by decide +kernel
theorem dX3_copyFrom_7 : decode cX3_copyFrom 7 = .ok (.iload_n 2, 1) := by decide +kernel
theorem dX3_copyFrom_8 : decode cX3_copyFrom 8 = .ok (.aload_n 1, 1) := by decide +kernel
theorem dX3_copyFrom_9 : decode cX3_copyFrom 9 = .ok (.getfield 9, 3) := by decide +kernel
theorem dX3_copyFrom_12 : decode cX3_copyFrom 12 = .ok (.if_icmp .ge 28, 3) := by decide +kernel
theorem dX3_copyFrom_15 : decode cX3_copyFrom 15 = .ok (.iload_n 2, 1) := by decide +kernel
theorem dX3_copyFrom_16 : decode cX3_copyFrom 16 = .ok (.aload_n 1, 1) := by decide +kernel
theorem dX3_copyFrom_17 : decode cX3_copyFrom 17 = .ok (.getfield 15, 3) := by decide +kernel
theorem dX3_copyFrom_20 : decode cX3_copyFrom 20 = .ok (.arraylength, 1) := by decide +kernel
theorem dX3_copyFrom_21 : decode cX3_copyFrom 21 = .ok (.if_icmp .ge 19, 3) := by decide +kernel
theorem dX3_copyFrom_24 : decode cX3_copyFrom 24 = .ok (.aload_n 0, 1) := by decide +kernel
theorem dX3_copyFrom_25 : decode cX3_copyFrom 25 = .ok (.aload_n 1, 1) := by decide +kernel
theorem dX3_copyFrom_26 : decode cX3_copyFrom 26 = .ok (.getfield 15, 3) := by decide +kernel
theorem dX3_copyFrom_29 : decode cX3_copyFrom 29 = .ok (.iload_n 2, 1) := by decide +kernel
theorem dX3_copyFrom_30 : decode cX3_copyFrom 30 = .ok (.laload, 1) := by decide +kernel
theorem dX3_copyFrom_31 : decode cX3_copyFrom 31 = .ok (.invokevirtual 19, 3) := by decide +kernel
theorem dX3_copyFrom_34 : decode cX3_copyFrom 34 = .ok (.iinc 2 1, 3) := by decide +kernel
theorem dX3_copyFrom_37 : decode cX3_copyFrom 37 = .ok (.goto (-30), 3) := by decide +kernel
theorem dX3_copyFrom_40 : decode cX3_copyFrom 40 = .ok (.return_, 1) := by decide +kernel
theorem dX4_init_0 : decode cX4_init 0 = .ok (.aload_n 0, 1) := by decide +kernel
theorem dX4_init_1 : decode cX4_init 1 = .ok (.invokespecial 3, 3) := by decide +kernel
theorem dX4_init_4 : decode cX4_init 4 = .ok (.aload_n 0, 1) := by decide +kernel
theorem dX4_init_5 : decode cX4_init 5 = .ok (.new 9, 3) := by decide +kernel
theorem dX4_init_8 : decode cX4_init 8 = .ok (.dup, 1) := by decide +kernel
theorem dX4_init_9 : decode cX4_init 9 = .ok (.iconst 3, 1) := by decide +kernel
theorem dX4_init_10 : decode cX4_init 10 = .ok (.invokespecial 11, 3) := by decide +kernel
theorem dX4_init_13 : decode cX4_init 13 = .ok (.putfield 14, 3) := by decide +kernel
theorem dX4_init_16 : decode cX4_init 16 = .ok (.aload_n 0, 1) := by decide +kernel
theorem dX4_init_17 : decode cX4_init 17 = .ok (.new 9, 3) := by decide +kernel
theorem dX4_init_20 : decode cX4_init 20 = .ok (.dup, 1) := by decide +kernel
theorem dX4_init_21 : decode cX4_init 21 = .ok (.iconst 2, 1) := by decide +kernel
theorem dX4_init_22 : decode cX4_init 22 = .ok (.invokespecial 11, 3) := by decide +kernel
theorem dX4_init_25 : decode cX4_init 25 = .ok (.putfield 20, 3) := by decide +kernel
theorem dX4_init_28 : decode cX4_init 28 = .ok (.aload_n 0, 1) := by decide +kernel
theorem dX4_init_29 : decode cX4_init 29 = .ok (.new 9, 3) := by decide +kernel
theorem dX4_init_32 : decode cX4_init 32 = .ok (.dup, 1) := by decide +kernel
theorem dX4_init_33 : decode cX4_init 33 = .ok (.bipush 20, 2) := by decide +kernel
theorem dX4_init_35 : decode cX4_init 35 = .ok (.invokespecial 11, 3) := by decide +kernel
theorem dX4_init_38 : decode cX4_init 38 = .ok (.putfield 23, 3) := by decide +kernel
theorem dX4_init_41 : decode cX4_init 41 = .ok (.aload_n 0, 1) := by decide +kernel
theorem dX4_init_42 : decode cX4_init 42 = .ok (.new 26, 3) := by decide +kernel
theorem dX4_init_45 : decode cX4_init 45 = .ok (.dup, 1) := by decide +kernel
theorem dX4_init_46 : decode cX4_init 46 = .ok (.iconst 2, 1) := by decide +kernel
theorem dX4_init_47 : decode cX4_init 47 = .ok (.invokespecial 28, 3) := by decide +kernel
theorem dX4_init_50 : decode cX4_init 50 = .ok (.putfield 29, 3) := by decide +kernel
theorem dX4_init_53 : decode cX4_init 53 = .ok (.aload_n 0, 1) := by decide +kernel
theorem dX4_init_54 : decode cX4_init 54 = .ok (.new 26, 3) := by decide +kernel
theorem dX4_init_57 : decode cX4_init 57 = .ok (.dup, 1) := by decide +kernel
theorem dX4_init_58 : decode cX4_init 58 = .ok (.bipush 20, 2) := by decide +kernel
theorem dX4_init_60 : decode cX4_init 60 = .ok (.invokespecial 28, 3) := by decide +kernel
theorem dX4_init_63 : decode cX4_init 63 = .ok (.putfield 33, 3) := by decide +kernel
theorem dX4_init_66 : decode cX4_init 66 = .ok (.aload_n 0, 1) := by decide +kernel
theorem dX4_init_67 : decode cX4_init 67 = .ok (.new 26, 3) := by decide +kernel
theorem dX4_init_70 : decode cX4_init 70 = .ok (.dup, 1) := by decide +kernel
theorem dX4_init_71 : decode cX4_init 71 = .ok (.bipush 20, 2) := by decide +kernel
theorem dX4_init_73 : decode cX4_init 73 = .ok (.invokespecial 28, 3) := by decide +kernel
theorem dX4_init_76 : decode cX4_init 76 = .ok (.putfield 36, 3) := by decide +kernel
theorem dX4_init_79 : decode cX4_init 79 = .ok (.aload_n 0, 1) := by decide +kernel
theorem dX4_init_80 : decode cX4_init 80 = .ok (.bipush 20, 2) := by decide +kernel
theorem dX4_init_82 : decode cX4_init 82 = .ok (.newarray .float, 2) := by decide +kernel
theorem dX4_init_84 : decode cX4_init 84 = .ok (.putfield 39, 3) := by decide +kernel
theorem dX4_init_87 : decode cX4_init 87 = .ok (.aload_n 0, 1) := by decide +kernel
theorem dX4_init_88 : decode cX4_init 88 = .ok (.new 43, 3) := by decide +kernel
theorem dX4_init_91 : decode cX4_init 91 = .ok (.dup, 1) := by decide +kernel
theorem dX4_init_92 : decode cX4_init 92 = .ok (.invokespecial 45, 3) := by decide +kernel
theorem dX4_init_95 : decode cX4_init 95 = .ok (.putfield 46, 3) := by decide +kernel
theorem dX4_init_98 : decode cX4_init 98 = .ok (.aload_n 0, 1) := by decide +kernel
theorem dX4_init_99 : decode cX4_init 99 = .ok (.iconst 2, 1) := by decide +kernel
theorem dX4_init_100 : decode cX4_init 100 = .ok (.putfield 50, 3) := by decide +kernel
theorem dX4_init_103 : decode cX4_init 103 = .ok (.return_, 1) := by decide +kernel
theorem dX4_clear_0 : decode cX4_clear 0 = .ok (.aload_n 0, 1) := by decide +kernel
theorem dX4_clear_1 : decode cX4_clear 1 = .ok (.getfield 14, 3) := by decide +kernel
theorem dX4_clear_4 : decode cX4_clear 4 = .ok (.iconst 0, 1) := by decide +kernel
theorem dX4_clear_5 : decode cX4_clear 5 = .ok (.putfield 54, 3) := by decide +kernel
theorem dX4_clear_8 : decode cX4_clear 8 = .ok (.aload_n 0, 1) := by decide +kernel
theorem dX4_clear_9 : decode cX4_clear 9 = .ok (.getfield 20, 3) := by decide +kernel
theorem dX4_clear_12 : decode cX4_clear 12 = .ok (.iconst 0, 1) := by decide +kernel
theorem dX4_clear_13 : decode cX4_clear 13 = .ok (.putfield 54, 3) := by decide +kernel
theorem dX4_clear_16 : decode cX4_clear 16 = .ok (.aload_n 0, 1) := by decide +kernel
theorem dX4_clear_17 : decode cX4_clear 17 = .ok (.getfield 23, 3) := by decide +kernel
theorem dX4_clear_20 : decode cX4_clear 20 = .ok (.iconst 0, 1) := by decide +kernel
theorem dX4_clear_21 : decode cX4_clear 21 = .ok (.putfield 54, 3) := by decide +kernel
theorem dX4_clear_24 : decode cX4_clear 24 = .ok (.aload_n 0, 1) := by decide +kernel
theorem dX4_clear_25 : decode cX4_clear 25 = .ok (.getfield 46, 3) := by decide +kernel
theorem dX4_clear_28 : decode cX4_clear 28 = .ok (.iconst 0, 1) := by decide +kernel
theorem dX4_clear_29 : decode cX4_clear 29 = .ok (.putfield 57, 3) := by decide +kernel
theorem dX4_clear_32 : decode cX4_clear 32 = .ok (.aload_n 0, 1) := by decide +kernel
theorem dX4_clear_33 : decode cX4_clear 33 = .ok (.iconst 2, 1) := by decide +kernel
theorem dX4_clear_34 : decode cX4_clear 34 = .ok (.putfield 50, 3) := by decide +kernel
theorem dX4_clear_37 : decode cX4_clear 37 = .ok (.return_, 1) := by decide +kernel
theorem dX4_copyFrom_0 : decode cX4_copyFrom 0 = .ok (.aload_n 0, 1) := by decide +kernel
theorem dX4_copyFrom_1 : decode cX4_copyFrom 1 = .ok (.getfield 14, 3) := by decide +kernel
theorem dX4_copyFrom_4 : decode cX4_copyFrom 4 = .ok (.aload_n 1, 1) := by decide +kernel
theorem dX4_copyFrom_5 : decode cX4_copyFrom 5 = .ok (.getfield 14, 3) := by decide +kernel
theorem dX4_copyFrom_8 : decode cX4_copyFrom 8 = .ok (.invokevirtual 58, 3) := by decide +kernel
theorem dX4_copyFrom_11 : decode cX4_copyFrom 11 = .ok (.aload_n 0, 1) := by decide +kernel
theorem dX4_copyFrom_12 : decode cX4_copyFrom 12 = .ok (.getfield 20, 3) := by decide +kernel
theorem dX4_copyFrom_15 : decode cX4_copyFrom 15 = .ok (.aload_n 1, 1) := by decide +kernel
theorem dX4_copyFrom_16 : decode cX4_copyFrom 16 = .ok (.getfield 20, 3) := by decide +kernel
theorem dX4_copyFrom_19 : decode cX4_copyFrom 19 = .ok (.invokevirtual 58, 3) := by decide +kernel
theorem dX4_copyFrom_22 : decode cX4_copyFrom 22 = .ok (.aload_n 0, 1) := by decide +kernel
theorem dX4_copyFrom_23 : decode cX4_copyFrom 23 = .ok (.getfield 23, 3) := by decide +kernel
theorem dX4_copyFrom_26 : decode cX4_copyFrom 26 = .ok (.aload_n 1, 1) := by decide +kernel
theorem dX4_copyFrom_27 : decode cX4_copyFrom 27 = .ok (.getfield 23, 3) := by decide +kernel
theorem dX4_copyFrom_30 : decode cX4_copyFrom 30 = .ok (.invokevirtual 58, 3) := by decide +kernel
theorem dX4_copyFrom_33 : decode cX4_copyFrom 33 = .ok (.aload_n 0, 1) := by decide +kernel
theorem dX4_copyFrom_34 : decode cX4_copyFrom 34 = .ok (.getfield 29, 3) := by decide +kernel
theorem dX4_copyFrom_37 : decode cX4_copyFrom 37 = .ok (.aload_n 1, 1) := by decide +kernel
theorem dX4_copyFrom_38 : decode cX4_copyFrom 38 = .ok (.getfield 29, 3) := by decide +kernel
theorem dX4_copyFrom_41 : decode cX4_copyFrom 41 = .ok (.invokevirtual 62, 3) := by decide +kernel
theorem dX4_copyFrom_44 : decode cX4_copyFrom 44 = .ok (.aload_n 0, 1) := by decide +kernel
theorem dX4_copyFrom_45 : decode cX4_copyFrom 45 = .ok (.getfield 33, 3) := by decide +kernel
theorem dX4_copyFrom_48 : decode cX4_copyFrom 48 = .ok (.aload_n 1, 1) := by decide +kernel
theorem dX4_copyFrom_49 : decode cX4_copyFrom 49 = .ok (.getfield 33, 3) := by decide +kernel
theorem dX4_copyFrom_52 : decode cX4_copyFrom 52 = .ok (.invokevirtual 62, 3) := by decide +kernel
theorem dX4_copyFrom_55 : decode cX4_copyFrom 55 = .ok (.aload_n 0, 1) := by decide +kernel
theorem dX4_copyFrom_56 : decode cX4_copyFrom 56 = .ok (.getfield 36, 3) := by decide +kernel
theorem dX4_copyFrom_59 : decode cX4_copyFrom 59 = .ok (.aload_n 1, 1) := by decide +kernel
theorem dX4_copyFrom_60 : decode cX4_copyFrom 60 = .ok (.getfield 36, 3) := by decide +kernel
theorem dX4_copyFrom_63 : decode cX4_copyFrom 63 = .ok (.invokevirtual 62, 3) := by decide +kernel
theorem dX4_copyFrom_66 : decode cX4_copyFrom 66 = .ok (.iconst 0, 1) := by decide +kernel
theorem dX4_copyFrom_67 : decode cX4_copyFrom 67 = .ok (.istore_n 2, 1) := by decide +kernel
theorem dX4_copyFrom_68 : decode cX4_copyFrom 68 = .ok (.iload_n 2, 1) := by decide +kernel
theorem dX4_copyFrom_69 : decode cX4_copyFrom 69 = .ok (.aload_n 0, 1) := by decide +kernel
theorem dX4_copyFrom_70 : decode cX4_copyFrom 70 = .ok (.getfield 39, 3) := by decide +kernel
theorem dX4_copyFrom_73 : decode cX4_copyFrom 73 = .ok (.arraylength, 1) := by decide +kernel
theorem dX4_copyFrom_74 : decode cX4_copyFrom 74 = .ok (.if_icmp .ge 20, 3) := by decide +kernel
theorem dX4_copyFrom_77 : decode cX4_copyFrom 77 = .ok (.aload_n 0, 1) := by decide +kernel
theorem dX4_copyFrom_78 : decode cX4_copyFrom 78 = .ok (.getfield 39, 3) := by decide +kernel
theorem dX4_copyFrom_81 : decode cX4_copyFrom 81 = .ok (.iload_n 2, 1) := by decide +kernel
theorem dX4_copyFrom_82 : decode cX4_copyFrom 82 = .ok (.aload_n 1, 1) := by decide +kernel
theorem dX4_copyFrom_83 : decode cX4_copyFrom 83 = .ok (.iload_n 2, 1) := by decide +kernel
theorem dX4_copyFrom_84 : decode cX4_copyFrom 84 = .ok (.invokevirtual 65, 3) := by decide +kernel
theorem dX4_copyFrom_87 : decode cX4_copyFrom 87 = .ok (.fastore, 1) := by decide +kernel
theorem dX4_copyFrom_88 : decode cX4_copyFrom 88 = .ok (.iinc 2 1, 3) := by decide +kernel
theorem dX4_copyFrom_91 : decode cX4_copyFrom 91 = .ok (.goto (-23), 3) := by decide +kernel
theorem dX4_copyFrom_94 : decode cX4_copyFrom 94 = .ok (.aload_n 0, 1) := by decide +kernel
theorem dX4_copyFrom_95 : decode cX4_copyFrom 95 = .ok (.getfield 46, 3) := by decide +kernel
theorem dX4_copyFrom_98 : decode cX4_copyFrom 98 = .ok (.aload_n 1, 1) := by decide +kernel
theorem dX4_copyFrom_99 : decode cX4_copyFrom 99 = .ok (.getfield 46, 3) := by decide +kernel
theorem dX4_copyFrom_102 : decode cX4_copyFrom 102 = .ok (.invokevirtual 69, 3) := by decide +kernel
theorem dX4_copyFrom_105 : decode cX4_copyFrom 105 = .ok (.aload_n 0, 1) := by decide +kernel
theorem dX4_copyFrom_106 : decode cX4_copyFrom 106 = .ok (.aload_n 1, 1) := by decide +kernel
theorem dX4_copyFrom_107 : decode cX4_copyFrom 107 = .ok (.getfield 50, 3) := by decide +kernel
theorem dX4_copyFrom_110 : decode cX4_copyFrom 110 = .ok (.putfield 50, 3) := by decide +kernel
theorem dX4_copyFrom_113 : decode cX4_copyFrom 113 = .ok (.return_, 1) := by decide +kernel
theorem dX4_addShelf_0 : decode cX4_addShelf 0 = .ok (.aload_n 0, 1) := by decide +kernel
theorem dX4_addShelf_1 : decode cX4_addShelf 1 = .ok (.getfield 29, 3) := by decide +kernel
theorem dX4_addShelf_4 : decode cX4_addShelf 4 = .ok (.aload_n 0, 1) := by decide +kernel
theorem dX4_addShelf_5 : decode cX4_addShelf 5 = .ok (.getfield 20, 3) := by decide +kernel
theorem dX4_addShelf_8 : decode cX4_addShelf 8 = .ok (.getfield 54, 3) := by decide +kernel
theorem dX4_addShelf_11 : decode cX4_addShelf 11 = .ok (.iload_n 3, 1) := by decide +kernel
theorem dX4_addShelf_12 : decode cX4_addShelf 12 = .ok (.invokevirtual 72, 3) := by decide +kernel
theorem dX4_addShelf_15 : decode cX4_addShelf 15 = .ok (.aload_n 0, 1) := by decide +kernel
theorem dX4_addShelf_16 : decode cX4_addShelf 16 = .ok (.getfield 20, 3) := by decide +kernel
theorem dX4_addShelf_19 : decode cX4_addShelf 19 = .ok (.lload_n 1, 1) := by decide +kernel
theorem dX4_addShelf_20 : decode cX4_addShelf 20 = .ok (.invokevirtual 76, 3) := by decide +kernel
theorem dX4_addShelf_23 : decode cX4_addShelf 23 = .ok (.return_, 1) := by decide +kernel
theorem dX4_addItem_0 : decode cX4_addItem 0 = .ok (.aload_n 0, 1) := by decide +kernel
theorem dX4_addItem_1 : decode cX4_addItem 1 = .ok (.getfield 23, 3) := by decide +kernel
theorem dX4_addItem_4 : decode cX4_addItem 4 = .ok (.getfield 54, 3) := by decide +kernel
theorem dX4_addItem_7 : decode cX4_addItem 7 = .ok (.istore 6, 2) := by decide +kernel
theorem dX4_addItem_9 : decode cX4_addItem 9 = .ok (.aload_n 0, 1) := by decide +kernel
theorem dX4_addItem_10 : decode cX4_addItem 10 = .ok (.getfield 33, 3) := by decide +kernel
theorem dX4_addItem_13 : decode cX4_addItem 13 = .ok (.iload 6, 2) := by decide +kernel
theorem dX4_addItem_15 : decode cX4_addItem 15 = .ok (.iload_n 3, 1) := by decide +kernel
theorem dX4_addItem_16 : decode cX4_addItem 16 = .ok (.invokevirtual 72, 3) := by decide +kernel
theorem dX4_addItem_19 : decode cX4_addItem 19 = .ok (.aload_n 0, 1) := by decide +kernel
theorem dX4_addItem_20 : decode cX4_addItem 20 = .ok (.getfield 36, 3) := by decide +kernel
theorem dX4_addItem_23 : decode cX4_addItem 23 = .ok (.iload 6, 2) := by decide +kernel
theorem dX4_addItem_25 : decode cX4_addItem 25 = .ok (.iload 5, 2) := by decide +kernel
theorem dX4_addItem_27 : decode cX4_addItem 27 = .ok (.invokevirtual 72, 3) := by decide +kernel
theorem dX4_addItem_30 : decode cX4_addItem 30 = .ok (.iload 6, 2) := by decide +kernel
theorem dX4_addItem_32 : decode cX4_addItem 32 = .ok (.ifCond .lt 26, 3) := by decide +kernel
theorem dX4_addItem_35 : decode cX4_addItem 35 = .ok (.iload 6, 2) := by decide +kernel
theorem dX4_addItem_37 : decode cX4_addItem 37 = .ok (.aload_n 0, 1) := by decide +kernel
theorem dX4_addItem_38 : decode cX4_addItem 38 = .ok (.getfield 39, 3) := by decide +kernel
theorem dX4_addItem_41 : decode cX4_addItem 41 = .ok (.arraylength, 1) := by decide +kernel
theorem dX4_addItem_42 : decode cX4_addItem 42 = .ok (.if_icmp .ge 16, 3) := by decide +kernel
theorem dX4_addItem_45 : decode cX4_addItem 45 = .ok (.aload_n 0, 1) := by decide +kernel
theorem dX4_addItem_46 : decode cX4_addItem 46 = .ok (.getfield 39, 3) := by decide +kernel
theorem dX4_addItem_49 : decode cX4_addItem 49 = .ok (.iload 6, 2) := by decide +kernel
theorem dX4_addItem_51 : decode cX4_addItem 51 = .ok (.iload_n 3, 1) := by decide +kernel
theorem dX4_addItem_52 : decode cX4_addItem 52 = .ok (.fload 4, 2) := by decide +kernel
theorem dX4_addItem_54 : decode cX4_addItem 54 = .ok (.invokestatic 80, 3) := by decide +kernel
theorem dX4_addItem_57 : decode cX4_addItem 57 = .ok (.fastore, 1) := by decide +kernel
theorem dX4_addItem_58 : decode cX4_addItem 58 = .ok (.aload_n 0, 1) := by decide +kernel
theorem dX4_addItem_59 : decode cX4_addItem 59 = .ok (.getfield 23, 3) := by decide +kernel
theorem dX4_addItem_62 : decode cX4_addItem 62 = .ok (.lload_n 1, 1) := by decide +kernel
theorem dX4_addItem_63 : decode cX4_addItem 63 = .ok (.invokevirtual 76, 3) := by decide +kernel
theorem dX4_addItem_66 : decode cX4_addItem 66 = .ok (.return_, 1) := by decide +kernel
theorem dX4_keyFor_0 : decode cX4_keyFor 0 = .ok (.iload_n 0, 1) := by decide +kernel
theorem dX4_keyFor_1 : decode cX4_keyFor 1 = .ok (.tableswitch 43 1 3 #[27, 32, 37], 27) := by decide +kernel
theorem dX4_keyFor_28 : decode cX4_keyFor 28 = .ok (.fload_n 1, 1) := by decide +kernel
theorem dX4_keyFor_29 : decode cX4_keyFor 29 = .ok (.ldc 84, 2) := by decide +kernel
theorem dX4_keyFor_31 : decode cX4_keyFor 31 = .ok (.fmul, 1) := by decide +kernel
theorem dX4_keyFor_32 : decode cX4_keyFor 32 = .ok (.freturn, 1) := by decide +kernel
theorem dX4_keyFor_33 : decode cX4_keyFor 33 = .ok (.fload_n 1, 1) := by decide +kernel
theorem dX4_keyFor_34 : decode cX4_keyFor 34 = .ok (.ldc 85, 2) := by decide +kernel
theorem dX4_keyFor_36 : decode cX4_keyFor 36 = .ok (.fadd, 1) := by decide +kernel
theorem dX4_keyFor_37 : decode cX4_keyFor 37 = .ok (.freturn, 1) := by decide +kernel
theorem dX4_keyFor_38 : decode cX4_keyFor 38 = .ok (.fconst 1, 1) := by decide +kernel
theorem dX4_keyFor_39 : decode cX4_keyFor 39 = .ok (.fload_n 1, 1) := by decide +kernel
theorem dX4_keyFor_40 : decode cX4_keyFor 40 = .ok (.fconst 1, 1) := by decide +kernel
theorem dX4_keyFor_41 : decode cX4_keyFor 41 = .ok (.fadd, 1) := by decide +kernel
theorem dX4_keyFor_42 : decode cX4_keyFor 42 = .ok (.fdiv, 1) := by decide +kernel
theorem dX4_keyFor_43 : decode cX4_keyFor 43 = .ok (.freturn, 1) := by decide +kernel
theorem dX4_keyFor_44 : decode cX4_keyFor 44 = .ok (.fload_n 1, 1) := by decide +kernel
theorem dX4_keyFor_45 : decode cX4_keyFor 45 = .ok (.freturn, 1) := by decide +kernel
theorem dX4_isTold_0 : decode cX4_isTold 0 = .ok (.aload_n 0, 1) := by decide +kernel
theorem dX4_isTold_1 : decode cX4_isTold 1 = .ok (.getfield 14, 3) := by decide +kernel
theorem dX4_isTold_4 : decode cX4_isTold 4 = .ok (.lload_n 1, 1) := by decide +kernel
theorem dX4_isTold_5 : decode cX4_isTold 5 = .ok (.invokevirtual 86, 3) := by decide +kernel
theorem dX4_isTold_8 : decode cX4_isTold 8 = .ok (.iconst (-1), 1) := by decide +kernel
theorem dX4_isTold_9 : decode cX4_isTold 9 = .ok (.if_icmp .ne 27, 3) := by decide +kernel
theorem dX4_isTold_12 : decode cX4_isTold 12 = .ok (.aload_n 0, 1) := by decide +kernel
theorem dX4_isTold_13 : decode cX4_isTold 13 = .ok (.getfield 20, 3) := by decide +kernel
theorem dX4_isTold_16 : decode cX4_isTold 16 = .ok (.lload_n 1, 1) := by decide +kernel
theorem dX4_isTold_17 : decode cX4_isTold 17 = .ok (.invokevirtual 86, 3) := by decide +kernel
theorem dX4_isTold_20 : decode cX4_isTold 20 = .ok (.iconst (-1), 1) := by decide +kernel
theorem dX4_isTold_21 : decode cX4_isTold 21 = .ok (.if_icmp .ne 15, 3) := by decide +kernel
theorem dX4_isTold_24 : decode cX4_isTold 24 = .ok (.aload_n 0, 1) := by decide +kernel
theorem dX4_isTold_25 : decode cX4_isTold 25 = .ok (.getfield 23, 3) := by decide +kernel
theorem dX4_isTold_28 : decode cX4_isTold 28 = .ok (.lload_n 1, 1) := by decide +kernel
theorem dX4_isTold_29 : decode cX4_isTold 29 = .ok (.invokevirtual 86, 3) := by decide +kernel
theorem dX4_isTold_32 : decode cX4_isTold 32 = .ok (.iconst (-1), 1) := by decide +kernel
theorem dX4_isTold_33 : decode cX4_isTold 33 = .ok (.if_icmp .eq 7, 3) := by decide +kernel
theorem dX4_isTold_36 : decode cX4_isTold 36 = .ok (.iconst 1, 1) := by decide +kernel
theorem dX4_isTold_37 : decode cX4_isTold 37 = .ok (.goto 4, 3) := by decide +kernel
theorem dX4_isTold_40 : decode cX4_isTold 40 = .ok (.iconst 0, 1) := by decide +kernel
theorem dX4_isTold_41 : decode cX4_isTold 41 = .ok (.ireturn, 1) := by decide +kernel
theorem dX4_keyOf_0 : decode cX4_keyOf 0 = .ok (.iload_n 1, 1) := by decide +kernel
theorem dX4_keyOf_1 : decode cX4_keyOf 1 = .ok (.ifCond .lt 21, 3) := by decide +kernel
theorem dX4_keyOf_4 : decode cX4_keyOf 4 = .ok (.iload_n 1, 1) := by decide +kernel
theorem dX4_keyOf_5 : decode cX4_keyOf 5 = .ok (.aload_n 0, 1) := by decide +kernel
theorem dX4_keyOf_6 : decode cX4_keyOf 6 = .ok (.getfield 39, 3) := by decide +kernel
theorem dX4_keyOf_9 : decode cX4_keyOf 9 = .ok (.arraylength, 1) := by decide +kernel
theorem dX4_keyOf_10 : decode cX4_keyOf 10 = .ok (.if_icmp .ge 12, 3) := by decide +kernel
theorem dX4_keyOf_13 : decode cX4_keyOf 13 = .ok (.aload_n 0, 1) := by decide +kernel
theorem dX4_keyOf_14 : decode cX4_keyOf 14 = .ok (.getfield 39, 3) := by decide +kernel
theorem dX4_keyOf_17 : decode cX4_keyOf 17 = .ok (.iload_n 1, 1) := by decide +kernel
theorem dX4_keyOf_18 : decode cX4_keyOf 18 = .ok (.faload, 1) := by decide +kernel
theorem dX4_keyOf_19 : decode cX4_keyOf 19 = .ok (.goto 4, 3) := by decide +kernel
theorem dX4_keyOf_22 : decode cX4_keyOf 22 = .ok (.fconst 0, 1) := by decide +kernel
theorem dX4_keyOf_23 : decode cX4_keyOf 23 = .ok (.freturn, 1) := by decide +kernel
theorem dX4_isAhead_0 : decode cX4_isAhead 0 = .ok (.aload_n 0, 1) := by decide +kernel
theorem dX4_isAhead_1 : decode cX4_isAhead 1 = .ok (.iload_n 1, 1) := by decide +kernel
theorem dX4_isAhead_2 : decode cX4_isAhead 2 = .ok (.invokevirtual 65, 3) := by decide +kernel
theorem dX4_isAhead_5 : decode cX4_isAhead 5 = .ok (.fstore_n 3, 1) := by decide +kernel
theorem dX4_isAhead_6 : decode cX4_isAhead 6 = .ok (.aload_n 0, 1) := by decide +kernel
theorem dX4_isAhead_7 : decode cX4_isAhead 7 = .ok (.iload_n 2, 1) := by decide +kernel
theorem dX4_isAhead_8 : decode cX4_isAhead 8 = .ok (.invokevirtual 65, 3) := by decide +kernel
theorem dX4_isAhead_11 : decode cX4_isAhead 11 = .ok (.fstore 4, 2) := by decide +kernel
theorem dX4_isAhead_13 : decode cX4_isAhead 13 = .ok (.fload_n 3, 1) := by decide +kernel
theorem dX4_isAhead_14 : decode cX4_isAhead 14 = .ok (.fload 4, 2) := by decide +kernel
theorem dX4_isAhead_16 : decode cX4_isAhead 16 = .ok (.fcmp .g, 1) := by decide +kernel
theorem dX4_isAhead_17 : decode cX4_isAhead 17 = .ok (.ifCond .lt 15, 3) := by decide +kernel
theorem dX4_isAhead_20 : decode cX4_isAhead 20 = .ok (.fload_n 3, 1) := by decide +kernel
theorem dX4_isAhead_21 : decode cX4_isAhead 21 = .ok (.fload 4, 2) := by decide +kernel
theorem dX4_isAhead_23 : decode cX4_isAhead 23 = .ok (.fcmp .l, 1) := by decide +kernel
theorem dX4_isAhead_24 : decode cX4_isAhead 24 = .ok (.ifCond .ne 12, 3) := by decide +kernel
theorem dX4_isAhead_27 : decode cX4_isAhead 27 = .ok (.iload_n 1, 1) := by decide +kernel
theorem dX4_isAhead_28 : decode cX4_isAhead 28 = .ok (.iload_n 2, 1) := by decide +kernel
theorem dX4_isAhead_29 : decode cX4_isAhead 29 = .ok (.if_icmp .ge 7, 3) := by decide +kernel
theorem dX4_isAhead_32 : decode cX4_isAhead 32 = .ok (.iconst 1, 1) := by decide +kernel
theorem dX4_isAhead_33 : decode cX4_isAhead 33 = .ok (.goto 4, 3) := by decide +kernel
theorem dX4_isAhead_36 : decode cX4_isAhead 36 = .ok (.iconst 0, 1) := by decide +kernel
theorem dX4_isAhead_37 : decode cX4_isAhead 37 = .ok (.ireturn, 1) := by decide +kernel
theorem dX5_init_0 : decode cX5_init 0 = .ok (.aload_n 0, 1) := by decide +kernel
theorem dX5_init_1 : decode cX5_init 1 = .ok (.invokespecial 3, 3) := by decide +kernel
theorem dX5_init_4 : decode cX5_init 4 = .ok (.aload_n 0, 1) := by decide +kernel
theorem dX5_init_5 : decode cX5_init 5 = .ok (.iconst 0, 1) := by decide +kernel
theorem dX5_init_6 : decode cX5_init 6 = .ok (.putfield 9, 3) := by decide +kernel
theorem dX5_init_9 : decode cX5_init 9 = .ok (.aload_n 0, 1) := by decide +kernel
theorem dX5_init_10 : decode cX5_init 10 = .ok (.iconst 0, 1) := by decide +kernel
theorem dX5_init_11 : decode cX5_init 11 = .ok (.putfield 15, 3) := by decide +kernel
theorem dX5_init_14 : decode cX5_init 14 = .ok (.aload_n 0, 1) := by decide +kernel
theorem dX5_init_15 : decode cX5_init 15 = .ok (.iconst 0, 1) := by decide +kernel
theorem dX5_init_16 : decode cX5_init 16 = .ok (.putfield 19, 3) := by decide +kernel
theorem dX5_init_19 : decode cX5_init 19 = .ok (.aload_n 0, 1) := by decide +kernel
theorem dX5_init_20 : decode cX5_init 20 = .ok (.aload_n 1, 1) := by decide +kernel
theorem dX5_init_21 : decode cX5_init 21 = .ok (.putfield 22, 3) := by decide +kernel
theorem dX5_init_24 : decode cX5_init 24 = .ok (.aload_n 0, 1) := by decide +kernel
theorem dX5_init_25 : decode cX5_init 25 = .ok (.new 26, 3) := by decide +kernel
theorem dX5_init_28 : decode cX5_init 28 = .ok (.dup, 1) := by decide +kernel
theorem dX5_init_29 : decode cX5_init 29 = .ok (.aload_n 1, 1) := by decide +kernel
theorem dX5_init_30 : decode cX5_init 30 = .ok (.invokespecial 28, 3) := by decide +kernel
theorem dX5_init_33 : decode cX5_init 33 = .ok (.putfield 31, 3) := by decide +kernel
theorem dX5_init_36 : decode cX5_init 36 = .ok (.return_, 1) := by decide +kernel
theorem dX5_readQueue_0 : decode cX5_readQueue 0 = .ok (.aload_n 0, 1) := by decide +kernel
theorem dX5_readQueue_1 : decode cX5_readQueue 1 = .ok (.iconst 0, 1) := by decide +kernel
theorem dX5_readQueue_2 : decode cX5_readQueue 2 = .ok (.putfield 9, 3) := by decide +kernel
theorem dX5_readQueue_5 : decode cX5_readQueue 5 = .ok (.aload_n 0, 1) := by decide +kernel
theorem dX5_readQueue_6 : decode cX5_readQueue 6 = .ok (.iconst 0, 1) := by decide +kernel
theorem dX5_readQueue_7 : decode cX5_readQueue 7 = .ok (.putfield 15, 3) := by decide +kernel
theorem dX5_readQueue_10 : decode cX5_readQueue 10 = .ok (.aload_n 0, 1) := by decide +kernel
theorem dX5_readQueue_11 : decode cX5_readQueue 11 = .ok (.iconst 0, 1) := by decide +kernel
theorem dX5_readQueue_12 : decode cX5_readQueue 12 = .ok (.putfield 19, 3) := by decide +kernel
theorem dX5_readQueue_15 : decode cX5_readQueue 15 = .ok (.aload_n 1, 1) := by decide +kernel
theorem dX5_readQueue_16 : decode cX5_readQueue 16 = .ok (.invokevirtual 35, 3) := by decide +kernel
theorem dX5_readQueue_19 : decode cX5_readQueue 19 = .ok (.aload_n 0, 1) := by decide +kernel
theorem dX5_readQueue_20 : decode cX5_readQueue 20 = .ok (.getfield 22, 3) := by decide +kernel
theorem dX5_readQueue_23 : decode cX5_readQueue 23 = .ok (.invokevirtual 40, 3) := by decide +kernel
theorem dX5_readQueue_26 : decode cX5_readQueue 26 = .ok (.iconst 0, 1) := by decide +kernel
theorem dX5_readQueue_27 : decode cX5_readQueue 27 = .ok (.istore_n 2, 1) := by decide +kernel
theorem dX5_readQueue_28 : decode cX5_readQueue 28 = .ok (.iload_n 2, 1) := by decide +kernel
theorem dX5_readQueue_29 : decode cX5_readQueue 29 = .ok (.sipush 1000, 3) := by decide +kernel
theorem dX5_readQueue_32 : decode cX5_readQueue 32 = .ok (.if_icmp .gt 114, 3) := by decide +kernel
theorem dX5_readQueue_35 : decode cX5_readQueue 35 = .ok (.aload_n 0, 1) := by decide +kernel
theorem dX5_readQueue_36 : decode cX5_readQueue 36 = .ok (.getfield 9, 3) := by decide +kernel
theorem dX5_readQueue_39 : decode cX5_readQueue 39 = .ok (.ifCond .ne 107, 3) := by decide +kernel
theorem dX5_readQueue_42 : decode cX5_readQueue 42 = .ok (.aload_n 0, 1) := by decide +kernel
theorem dX5_readQueue_43 : decode cX5_readQueue 43 = .ok (.getfield 22, 3) := by decide +kernel
theorem dX5_readQueue_46 : decode cX5_readQueue 46 = .ok (.getfield 45, 3) := by decide +kernel
theorem dX5_readQueue_49 : decode cX5_readQueue 49 = .ok (.ifCond .eq 97, 3) := by decide +kernel
theorem dX5_readQueue_52 : decode cX5_readQueue 52 = .ok (.aload_n 0, 1) := by decide +kernel
theorem dX5_readQueue_53 : decode cX5_readQueue 53 = .ok (.getfield 22, 3) := by decide +kernel
theorem dX5_readQueue_56 : decode cX5_readQueue 56 = .ok (.getfield 48, 3) := by decide +kernel
theorem dX5_readQueue_59 : decode cX5_readQueue 59 = .ok (.astore_n 3, 1) := by decide +kernel
theorem dX5_readQueue_60 : decode cX5_readQueue 60 = .ok (.aload_n 3, 1) := by decide +kernel
theorem dX5_readQueue_61 : decode cX5_readQueue 61 = .ok (.getstatic 52, 3) := by decide +kernel
theorem dX5_readQueue_64 : decode cX5_readQueue 64 = .ok (.if_acmp .ne 11, 3) := by decide +kernel
theorem dX5_readQueue_67 : decode cX5_readQueue 67 = .ok (.aload_n 0, 1) := by decide +kernel
theorem dX5_readQueue_68 : decode cX5_readQueue 68 = .ok (.aload_n 1, 1) := by decide +kernel
theorem dX5_readQueue_69 : decode cX5_readQueue 69 = .ok (.invokevirtual 57, 3) := by decide +kernel
theorem dX5_readQueue_72 : decode cX5_readQueue 72 = .ok (.goto 68, 3) := by decide +kernel
theorem dX5_readQueue_75 : decode cX5_readQueue 75 = .ok (.aload_n 3, 1) := by decide +kernel
theorem dX5_readQueue_76 : decode cX5_readQueue 76 = .ok (.getstatic 61, 3) := by decide +kernel
theorem dX5_readQueue_79 : decode cX5_readQueue 79 = .ok (.if_acmp .ne 11, 3) := by decide +kernel
theorem dX5_readQueue_82 : decode cX5_readQueue 82 = .ok (.aload_n 0, 1) := by decide +kernel
theorem dX5_readQueue_83 : decode cX5_readQueue 83 = .ok (.aload_n 1, 1) := by decide +kernel
theorem dX5_readQueue_84 : decode cX5_readQueue 84 = .ok (.invokevirtual 64, 3) := by decide +kernel
theorem dX5_readQueue_87 : decode cX5_readQueue 87 = .ok (.goto 53, 3) := by decide +kernel
theorem dX5_readQueue_90 : decode cX5_readQueue 90 = .ok (.aload_n 3, 1) := by decide +kernel
theorem dX5_readQueue_91 : decode cX5_readQueue 91 = .ok (.getstatic 67, 3) := by decide +kernel
theorem dX5_readQueue_94 : decode cX5_readQueue 94 = .ok (.if_acmp .ne 11, 3) := by decide +kernel
theorem dX5_readQueue_97 : decode cX5_readQueue 97 = .ok (.aload_n 0, 1) := by decide +kernel
theorem dX5_readQueue_98 : decode cX5_readQueue 98 = .ok (.aload_n 1, 1) := by decide +kernel
theorem dX5_readQueue_99 : decode cX5_readQueue 99 = .ok (.invokevirtual 70, 3) := by decide +kernel
theorem dX5_readQueue_102 : decode cX5_readQueue 102 = .ok (.goto 38, 3) := by decide +kernel
theorem dX5_readQueue_105 : decode cX5_readQueue 105 = .ok (.aload_n 3, 1) := by decide +kernel
theorem dX5_readQueue_106 : decode cX5_readQueue 106 = .ok (.getstatic 73, 3) := by decide +kernel
theorem dX5_readQueue_109 : decode cX5_readQueue 109 = .ok (.if_acmp .ne 11, 3) := by decide +kernel
theorem dX5_readQueue_112 : decode cX5_readQueue 112 = .ok (.aload_n 0, 1) := by decide +kernel
theorem dX5_readQueue_113 : decode cX5_readQueue 113 = .ok (.aload_n 1, 1) := by decide +kernel
theorem dX5_readQueue_114 : decode cX5_readQueue 114 = .ok (.invokevirtual 76, 3) := by decide +kernel
theorem dX5_readQueue_117 : decode cX5_readQueue 117 = .ok (.goto 23, 3) := by decide +kernel
theorem dX5_readQueue_120 : decode cX5_readQueue 120 = .ok (.aload_n 3, 1) := by decide +kernel
theorem dX5_readQueue_121 : decode cX5_readQueue 121 = .ok (.getstatic 79, 3) := by decide +kernel
theorem dX5_readQueue_124 : decode cX5_readQueue 124 = .ok (.if_acmp .ne 11, 3) := by decide +kernel
theorem dX5_readQueue_127 : decode cX5_readQueue 127 = .ok (.aload_n 0, 1) := by decide +kernel
theorem dX5_readQueue_128 : decode cX5_readQueue 128 = .ok (.aload_n 1, 1) := by decide +kernel
theorem dX5_readQueue_129 : decode cX5_readQueue 129 = .ok (.invokevirtual 82, 3) := by decide +kernel
theorem dX5_readQueue_132 : decode cX5_readQueue 132 = .ok (.goto 8, 3) := by decide +kernel
theorem dX5_readQueue_135 : decode cX5_readQueue 135 = .ok (.aload_n 0, 1) := by decide +kernel
theorem dX5_readQueue_136 : decode cX5_readQueue 136 = .ok (.iconst 1, 1) := by decide +kernel
theorem dX5_readQueue_137 : decode cX5_readQueue 137 = .ok (.invokevirtual 85, 3) := by decide +kernel
theorem dX5_readQueue_140 : decode cX5_readQueue 140 = .ok (.iinc 2 1, 3) := by decide +kernel
theorem dX5_readQueue_143 : decode cX5_readQueue 143 = .ok (.goto (-115), 3) := by decide +kernel
theorem dX5_readQueue_146 : decode cX5_readQueue 146 = .ok (.aload_n 0, 1) := by decide +kernel
theorem dX5_readQueue_147 : decode cX5_readQueue 147 = .ok (.getfield 9, 3) := by decide +kernel
theorem dX5_readQueue_150 : decode cX5_readQueue 150 = .ok (.ireturn, 1) := by decide +kernel
theorem dX5_readHeap_0 : decode cX5_readHeap 0 = .ok (.aload_n 0, 1) := by decide +kernel
theorem dX5_readHeap_1 : decode cX5_readHeap 1 = .ok (.aload_n 1, 1) := by decide +kernel
theorem dX5_readHeap_2 : decode cX5_readHeap 2 = .ok (.getfield 89, 3) := by decide +kernel
theorem dX5_readHeap_5 : decode cX5_readHeap 5 = .ok (.getfield 93, 3) := by decide +kernel
theorem dX5_readHeap_8 : decode cX5_readHeap 8 = .ok (.iconst 3, 1) := by decide +kernel
theorem dX5_readHeap_9 : decode cX5_readHeap 9 = .ok (.if_icmp .lt 7, 3) := by decide +kernel
theorem dX5_readHeap_12 : decode cX5_readHeap 12 = .ok (.iconst 5, 1) := by decide +kernel
theorem dX5_readHeap_13 : decode cX5_readHeap 13 = .ok (.goto 4, 3) := by decide +kernel
theorem dX5_readHeap_16 : decode cX5_readHeap 16 = .ok (.iconst 0, 1) := by decide +kernel
theorem dX5_readHeap_17 : decode cX5_readHeap 17 = .ok (.invokevirtual 98, 3) := by decide +kernel
theorem dX5_readHeap_20 : decode cX5_readHeap 20 = .ok (.aload_n 0, 1) := by decide +kernel
theorem dX5_readHeap_21 : decode cX5_readHeap 21 = .ok (.aload_n 1, 1) := by decide +kernel
theorem dX5_readHeap_22 : decode cX5_readHeap 22 = .ok (.invokevirtual 100, 3) := by decide +kernel
theorem dX5_readHeap_25 : decode cX5_readHeap 25 = .ok (.lstore_n 2, 1) := by decide +kernel
theorem dX5_readHeap_26 : decode cX5_readHeap 26 = .ok (.aload_n 0, 1) := by decide +kernel
theorem dX5_readHeap_27 : decode cX5_readHeap 27 = .ok (.invokevirtual 104, 3) := by decide +kernel
theorem dX5_readHeap_30 : decode cX5_readHeap 30 = .ok (.aload_n 0, 1) := by decide +kernel
theorem dX5_readHeap_31 : decode cX5_readHeap 31 = .ok (.getfield 9, 3) := by decide +kernel
theorem dX5_readHeap_34 : decode cX5_readHeap 34 = .ok (.ifCond .ne 11, 3) := by decide +kernel
theorem dX5_readHeap_37 : decode cX5_readHeap 37 = .ok (.aload_n 1, 1) := by decide +kernel
theorem dX5_readHeap_38 : decode cX5_readHeap 38 = .ok (.getfield 89, 3) := by decide +kernel
theorem dX5_readHeap_41 : decode cX5_readHeap 41 = .ok (.lload_n 2, 1) := by decide +kernel
theorem dX5_readHeap_42 : decode cX5_readHeap 42 = .ok (.invokevirtual 107, 3) := by decide +kernel
theorem dX5_readHeap_45 : decode cX5_readHeap 45 = .ok (.return_, 1) := by decide +kernel
theorem dX5_readShelf_0 : decode cX5_readShelf 0 = .ok (.aload_n 0, 1) := by decide +kernel
theorem dX5_readShelf_1 : decode cX5_readShelf 1 = .ok (.aload_n 1, 1) := by decide +kernel
theorem dX5_readShelf_2 : decode cX5_readShelf 2 = .ok (.getfield 111, 3) := by decide +kernel
theorem dX5_readShelf_5 : decode cX5_readShelf 5 = .ok (.getfield 93, 3) := by decide +kernel
theorem dX5_readShelf_8 : decode cX5_readShelf 8 = .ok (.iconst 2, 1) := by decide +kernel
theorem dX5_readShelf_9 : decode cX5_readShelf 9 = .ok (.if_icmp .lt 7, 3) := by decide +kernel
theorem dX5_readShelf_12 : decode cX5_readShelf 12 = .ok (.iconst 5, 1) := by decide +kernel
theorem dX5_readShelf_13 : decode cX5_readShelf 13 = .ok (.goto 4, 3) := by decide +kernel
theorem dX5_readShelf_16 : decode cX5_readShelf 16 = .ok (.iconst 0, 1) := by decide +kernel
theorem dX5_readShelf_17 : decode cX5_readShelf 17 = .ok (.invokevirtual 98, 3) := by decide +kernel
theorem dX5_readShelf_20 : decode cX5_readShelf 20 = .ok (.aload_n 0, 1) := by decide +kernel
theorem dX5_readShelf_21 : decode cX5_readShelf 21 = .ok (.aload_n 1, 1) := by decide +kernel
theorem dX5_readShelf_22 : decode cX5_readShelf 22 = .ok (.invokevirtual 100, 3) := by decide +kernel
theorem dX5_readShelf_25 : decode cX5_readShelf 25 = .ok (.lstore_n 2, 1) := by decide +kernel
theorem dX5_readShelf_26 : decode cX5_readShelf 26 = .ok (.aload_n 0, 1) := by decide +kernel
theorem dX5_readShelf_27 : decode cX5_readShelf 27 = .ok (.invokevirtual 114, 3) := by decide +kernel
theorem dX5_readShelf_30 : decode cX5_readShelf 30 = .ok (.istore 4, 2) := by decide +kernel
theorem dX5_readShelf_32 : decode cX5_readShelf 32 = .ok (.aload_n 0, 1) := by decide +kernel
theorem dX5_readShelf_33 : decode cX5_readShelf 33 = .ok (.invokevirtual 104, 3) := by decide +kernel
theorem dX5_readShelf_36 : decode cX5_readShelf 36 = .ok (.aload_n 0, 1) := by decide +kernel
theorem dX5_readShelf_37 : decode cX5_readShelf 37 = .ok (.getfield 9, 3) := by decide +kernel
theorem dX5_readShelf_40 : decode cX5_readShelf 40 = .ok (.ifCond .ne 10, 3) := by decide +kernel
theorem dX5_readShelf_43 : decode cX5_readShelf 43 = .ok (.aload_n 1, 1) := by decide +kernel
theorem dX5_readShelf_44 : decode cX5_readShelf 44 = .ok (.lload_n 2, 1) := by decide +kernel
theorem dX5_readShelf_45 : decode cX5_readShelf 45 = .ok (.iload 4, 2) := by decide +kernel
theorem dX5_readShelf_47 : decode cX5_readShelf 47 = .ok (.invokevirtual 118, 3) := by decide +kernel
theorem dX5_readShelf_50 : decode cX5_readShelf 50 = .ok (.return_, 1) := by decide +kernel
theorem dX5_readItem_0 : decode cX5_readItem 0 = .ok (.aload_n 0, 1) := by decide +kernel
theorem dX5_readItem_1 : decode cX5_readItem 1 = .ok (.aload_n 1, 1) := by decide +kernel
theorem dX5_readItem_2 : decode cX5_readItem 2 = .ok (.getfield 122, 3) := by decide +kernel
theorem dX5_readItem_5 : decode cX5_readItem 5 = .ok (.getfield 93, 3) := by decide +kernel
theorem dX5_readItem_8 : decode cX5_readItem 8 = .ok (.bipush 20, 2) := by decide +kernel
theorem dX5_readItem_10 : decode cX5_readItem 10 = .ok (.if_icmp .lt 7, 3) := by decide +kernel
theorem dX5_readItem_13 : decode cX5_readItem 13 = .ok (.iconst 5, 1) := by decide +kernel
theorem dX5_readItem_14 : decode cX5_readItem 14 = .ok (.goto 4, 3) := by decide +kernel
theorem dX5_readItem_17 : decode cX5_readItem 17 = .ok (.iconst 0, 1) := by decide +kernel
theorem dX5_readItem_18 : decode cX5_readItem 18 = .ok (.invokevirtual 98, 3) := by decide +kernel
theorem dX5_readItem_21 : decode cX5_readItem 21 = .ok (.aload_n 0, 1) := by decide +kernel
theorem dX5_readItem_22 : decode cX5_readItem 22 = .ok (.aload_n 1, 1) := by decide +kernel
theorem dX5_readItem_23 : decode cX5_readItem 23 = .ok (.invokevirtual 100, 3) := by decide +kernel
theorem dX5_readItem_26 : decode cX5_readItem 26 = .ok (.lstore_n 2, 1) := by decide +kernel
theorem dX5_readItem_27 : decode cX5_readItem 27 = .ok (.aload_n 0, 1) := by decide +kernel
theorem dX5_readItem_28 : decode cX5_readItem 28 = .ok (.invokevirtual 114, 3) := by decide +kernel
theorem dX5_readItem_31 : decode cX5_readItem 31 = .ok (.istore 4, 2) := by decide +kernel
theorem dX5_readItem_33 : decode cX5_readItem 33 = .ok (.aload_n 0, 1) := by decide +kernel
theorem dX5_readItem_34 : decode cX5_readItem 34 = .ok (.iconst 0, 1) := by decide +kernel
theorem dX5_readItem_35 : decode cX5_readItem 35 = .ok (.sipush 999, 3) := by decide +kernel
theorem dX5_readItem_38 : decode cX5_readItem 38 = .ok (.invokevirtual 125, 3) := by decide +kernel
theorem dX5_readItem_41 : decode cX5_readItem 41 = .ok (.istore 5, 2) := by decide +kernel
theorem dX5_readItem_43 : decode cX5_readItem 43 = .ok (.aload_n 0, 1) := by decide +kernel
theorem dX5_readItem_44 : decode cX5_readItem 44 = .ok (.getstatic 129, 3) := by decide +kernel
theorem dX5_readItem_47 : decode cX5_readItem 47 = .ok (.invokevirtual 132, 3) := by decide +kernel
theorem dX5_readItem_50 : decode cX5_readItem 50 = .ok (.aload_n 0, 1) := by decide +kernel
theorem dX5_readItem_51 : decode cX5_readItem 51 = .ok (.iconst 1, 1) := by decide +kernel
theorem dX5_readItem_52 : decode cX5_readItem 52 = .ok (.bipush 99, 2) := by decide +kernel
theorem dX5_readItem_54 : decode cX5_readItem 54 = .ok (.invokevirtual 125, 3) := by decide +kernel
theorem dX5_readItem_57 : decode cX5_readItem 57 = .ok (.istore 6, 2) := by decide +kernel
theorem dX5_readItem_59 : decode cX5_readItem 59 = .ok (.aload_n 0, 1) := by decide +kernel
theorem dX5_readItem_60 : decode cX5_readItem 60 = .ok (.getstatic 136, 3) := by decide +kernel
theorem dX5_readItem_63 : decode cX5_readItem 63 = .ok (.invokevirtual 132, 3) := by decide +kernel
theorem dX5_readItem_66 : decode cX5_readItem 66 = .ok (.aload_n 0, 1) := by decide +kernel
theorem dX5_readItem_67 : decode cX5_readItem 67 = .ok (.aload_n 1, 1) := by decide +kernel
theorem dX5_readItem_68 : decode cX5_readItem 68 = .ok (.getfield 89, 3) := by decide +kernel
theorem dX5_readItem_71 : decode cX5_readItem 71 = .ok (.iconst (-1), 1) := by decide +kernel
theorem dX5_readItem_72 : decode cX5_readItem 72 = .ok (.invokevirtual 139, 3) := by decide +kernel
theorem dX5_readItem_75 : decode cX5_readItem 75 = .ok (.istore 7, 2) := by decide +kernel
theorem dX5_readItem_77 : decode cX5_readItem 77 = .ok (.aload_n 0, 1) := by decide +kernel
theorem dX5_readItem_78 : decode cX5_readItem 78 = .ok (.invokevirtual 104, 3) := by decide +kernel
theorem dX5_readItem_81 : decode cX5_readItem 81 = .ok (.aload_n 0, 1) := by decide +kernel
theorem dX5_readItem_82 : decode cX5_readItem 82 = .ok (.getfield 9, 3) := by decide +kernel
theorem dX5_readItem_85 : decode cX5_readItem 85 = .ok (.ifCond .ne 24, 3) := by decide +kernel
theorem dX5_readItem_88 : decode cX5_readItem 88 = .ok (.iload 6, 2) := by decide +kernel
theorem dX5_readItem_90 : decode cX5_readItem 90 = .ok (.ifCond .le 19, 3) := by decide +kernel
theorem dX5_readItem_93 : decode cX5_readItem 93 = .ok (.aload_n 1, 1) := by decide +kernel
theorem dX5_readItem_94 : decode cX5_readItem 94 = .ok (.lload_n 2, 1) := by decide +kernel
theorem dX5_readItem_95 : decode cX5_readItem 95 = .ok (.iload 4, 2) := by decide +kernel
theorem dX5_readItem_97 : decode cX5_readItem 97 = .ok (.iload 5, 2) := by decide +kernel
theorem dX5_readItem_99 : decode cX5_readItem 99 = .ok (.i2f, 1) := by decide +kernel
theorem dX5_readItem_100 : decode cX5_readItem 100 = .ok (.iload 6, 2) := by decide +kernel
theorem dX5_readItem_102 : decode cX5_readItem 102 = .ok (.i2f, 1) := by decide +kernel
theorem dX5_readItem_103 : decode cX5_readItem 103 = .ok (.fdiv, 1) := by decide +kernel
theorem dX5_readItem_104 : decode cX5_readItem 104 = .ok (.iload 7, 2) := by decide +kernel
theorem dX5_readItem_106 : decode cX5_readItem 106 = .ok (.invokevirtual 143, 3) := by decide +kernel
theorem dX5_readItem_109 : decode cX5_readItem 109 = .ok (.return_, 1) := by decide +kernel
theorem dX5_readShare_0 : decode cX5_readShare 0 = .ok (.aload_n 0, 1) := by decide +kernel
theorem dX5_readShare_1 : decode cX5_readShare 1 = .ok (.aload_n 0, 1) := by decide +kernel
theorem dX5_readShare_2 : decode cX5_readShare 2 = .ok (.getfield 15, 3) := by decide +kernel
theorem dX5_readShare_5 : decode cX5_readShare 5 = .ok (.ifCond .eq 7, 3) := by decide +kernel
theorem dX5_readShare_8 : decode cX5_readShare 8 = .ok (.iconst 3, 1) := by decide +kernel
theorem dX5_readShare_9 : decode cX5_readShare 9 = .ok (.goto 4, 3) := by decide +kernel
theorem dX5_readShare_12 : decode cX5_readShare 12 = .ok (.iconst 0, 1) := by decide +kernel
theorem dX5_readShare_13 : decode cX5_readShare 13 = .ok (.invokevirtual 98, 3) := by decide +kernel
theorem dX5_readShare_16 : decode cX5_readShare 16 = .ok (.aload_n 0, 1) := by decide +kernel
theorem dX5_readShare_17 : decode cX5_readShare 17 = .ok (.iconst 1, 1) := by decide +kernel
theorem dX5_readShare_18 : decode cX5_readShare 18 = .ok (.putfield 15, 3) := by decide +kernel
theorem dX5_readShare_21 : decode cX5_readShare 21 = .ok (.aload_n 0, 1) := by decide +kernel
theorem dX5_readShare_22 : decode cX5_readShare 22 = .ok (.iconst 0, 1) := by decide +kernel
theorem dX5_readShare_23 : decode cX5_readShare 23 = .ok (.bipush 6, 2) := by decide +kernel
theorem dX5_readShare_25 : decode cX5_readShare 25 = .ok (.invokevirtual 125, 3) := by decide +kernel
theorem dX5_readShare_28 : decode cX5_readShare 28 = .ok (.istore_n 2, 1) := by decide +kernel
theorem dX5_readShare_29 : decode cX5_readShare 29 = .ok (.aload_n 0, 1) := by decide +kernel
theorem dX5_readShare_30 : decode cX5_readShare 30 = .ok (.invokevirtual 104, 3) := by decide +kernel
theorem dX5_readShare_33 : decode cX5_readShare 33 = .ok (.aload_n 0, 1) := by decide +kernel
theorem dX5_readShare_34 : decode cX5_readShare 34 = .ok (.getfield 9, 3) := by decide +kernel
theorem dX5_readShare_37 : decode cX5_readShare 37 = .ok (.ifCond .ne 8, 3) := by decide +kernel
theorem dX5_readShare_40 : decode cX5_readShare 40 = .ok (.aload_n 1, 1) := by decide +kernel
theorem dX5_readShare_41 : decode cX5_readShare 41 = .ok (.iload_n 2, 1) := by decide +kernel
theorem dX5_readShare_42 : decode cX5_readShare 42 = .ok (.putfield 147, 3) := by decide +kernel
theorem dX5_readShare_45 : decode cX5_readShare 45 = .ok (.return_, 1) := by decide +kernel
theorem dX5_readGrows_0 : decode cX5_readGrows 0 = .ok (.aload_n 0, 1) := by decide +kernel
theorem dX5_readGrows_1 : decode cX5_readGrows 1 = .ok (.aload_n 0, 1) := by decide +kernel
theorem dX5_readGrows_2 : decode cX5_readGrows 2 = .ok (.getfield 19, 3) := by decide +kernel
theorem dX5_readGrows_5 : decode cX5_readGrows 5 = .ok (.ifCond .eq 7, 3) := by decide +kernel
theorem dX5_readGrows_8 : decode cX5_readGrows 8 = .ok (.iconst 3, 1) := by decide +kernel
theorem dX5_readGrows_9 : decode cX5_readGrows 9 = .ok (.goto 4, 3) := by decide +kernel
theorem dX5_readGrows_12 : decode cX5_readGrows 12 = .ok (.iconst 0, 1) := by decide +kernel
theorem dX5_readGrows_13 : decode cX5_readGrows 13 = .ok (.invokevirtual 98, 3) := by decide +kernel
theorem dX5_readGrows_16 : decode cX5_readGrows 16 = .ok (.aload_n 0, 1) := by decide +kernel
theorem dX5_readGrows_17 : decode cX5_readGrows 17 = .ok (.iconst 1, 1) := by decide +kernel
theorem dX5_readGrows_18 : decode cX5_readGrows 18 = .ok (.putfield 19, 3) := by decide +kernel
theorem dX5_readGrows_21 : decode cX5_readGrows 21 = .ok (.aload_n 0, 1) := by decide +kernel
theorem dX5_readGrows_22 : decode cX5_readGrows 22 = .ok (.getfield 9, 3) := by decide +kernel
theorem dX5_readGrows_25 : decode cX5_readGrows 25 = .ok (.ifCond .ne 18, 3) := by decide +kernel
theorem dX5_readGrows_28 : decode cX5_readGrows 28 = .ok (.aload_n 0, 1) := by decide +kernel
theorem dX5_readGrows_29 : decode cX5_readGrows 29 = .ok (.aload_n 0, 1) := by decide +kernel
theorem dX5_readGrows_30 : decode cX5_readGrows 30 = .ok (.getfield 31, 3) := by decide +kernel
theorem dX5_readGrows_33 : decode cX5_readGrows 33 = .ok (.aload_n 1, 1) := by decide +kernel
theorem dX5_readGrows_34 : decode cX5_readGrows 34 = .ok (.getfield 150, 3) := by decide +kernel
theorem dX5_readGrows_37 : decode cX5_readGrows 37 = .ok (.invokevirtual 154, 3) := by decide +kernel
theorem dX5_readGrows_40 : decode cX5_readGrows 40 = .ok (.invokevirtual 85, 3) := by decide +kernel
theorem dX5_readGrows_43 : decode cX5_readGrows 43 = .ok (.aload_n 0, 1) := by decide +kernel
theorem dX5_readGrows_44 : decode cX5_readGrows 44 = .ok (.invokevirtual 104, 3) := by decide +kernel
theorem dX5_readGrows_47 : decode cX5_readGrows 47 = .ok (.return_, 1) := by decide +kernel
theorem dX5_readWork_0 : decode cX5_readWork 0 = .ok (.aload_n 0, 1) := by decide +kernel
theorem dX5_readWork_1 : decode cX5_readWork 1 = .ok (.iconst 0, 1) := by decide +kernel
theorem dX5_readWork_2 : decode cX5_readWork 2 = .ok (.putfield 9, 3) := by decide +kernel
theorem dX5_readWork_5 : decode cX5_readWork 5 = .ok (.aload_n 2, 1) := by decide +kernel
theorem dX5_readWork_6 : decode cX5_readWork 6 = .ok (.iconst 0, 1) := by decide +kernel
theorem dX5_readWork_7 : decode cX5_readWork 7 = .ok (.putfield 158, 3) := by decide +kernel
theorem dX5_readWork_10 : decode cX5_readWork 10 = .ok (.aload_n 0, 1) := by decide +kernel
theorem dX5_readWork_11 : decode cX5_readWork 11 = .ok (.getfield 22, 3) := by decide +kernel
theorem dX5_readWork_14 : decode cX5_readWork 14 = .ok (.invokevirtual 40, 3) := by decide +kernel
theorem dX5_readWork_17 : decode cX5_readWork 17 = .ok (.iconst 0, 1) := by decide +kernel
theorem dX5_readWork_18 : decode cX5_readWork 18 = .ok (.istore_n 3, 1) := by decide +kernel
theorem dX5_readWork_19 : decode cX5_readWork 19 = .ok (.iload_n 3, 1) := by decide +kernel
theorem dX5_readWork_20 : decode cX5_readWork 20 = .ok (.sipush 1000, 3) := by decide +kernel
theorem dX5_readWork_23 : decode cX5_readWork 23 = .ok (.if_icmp .gt 32, 3) := by decide +kernel
theorem dX5_readWork_26 : decode cX5_readWork 26 = .ok (.aload_n 0, 1) := by decide +kernel
theorem dX5_readWork_27 : decode cX5_readWork 27 = .ok (.getfield 9, 3) := by decide +kernel
theorem dX5_readWork_30 : decode cX5_readWork 30 = .ok (.ifCond .ne 25, 3) := by decide +kernel
theorem dX5_readWork_33 : decode cX5_readWork 33 = .ok (.aload_n 0, 1) := by decide +kernel
theorem dX5_readWork_34 : decode cX5_readWork 34 = .ok (.getfield 22, 3) := by decide +kernel
theorem dX5_readWork_37 : decode cX5_readWork 37 = .ok (.getfield 45, 3) := by decide +kernel
theorem dX5_readWork_40 : decode cX5_readWork 40 = .ok (.ifCond .eq 15, 3) := by decide +kernel
theorem dX5_readWork_43 : decode cX5_readWork 43 = .ok (.aload_n 0, 1) := by decide +kernel
theorem dX5_readWork_44 : decode cX5_readWork 44 = .ok (.aload_n 1, 1) := by decide +kernel
theorem dX5_readWork_45 : decode cX5_readWork 45 = .ok (.aload_n 2, 1) := by decide +kernel
theorem dX5_readWork_46 : decode cX5_readWork 46 = .ok (.invokevirtual 161, 3) := by decide +kernel
theorem dX5_readWork_49 : decode cX5_readWork 49 = .ok (.iinc 3 1, 3) := by decide +kernel
theorem dX5_readWork_52 : decode cX5_readWork 52 = .ok (.goto (-33), 3) := by decide +kernel
theorem dX5_readWork_55 : decode cX5_readWork 55 = .ok (.aload_n 0, 1) := by decide +kernel
theorem dX5_readWork_56 : decode cX5_readWork 56 = .ok (.getfield 9, 3) := by decide +kernel
theorem dX5_readWork_59 : decode cX5_readWork 59 = .ok (.ireturn, 1) := by decide +kernel
theorem dX5_readLine_0 : decode cX5_readLine 0 = .ok (.aload_n 0, 1) := by decide +kernel
theorem dX5_readLine_1 : decode cX5_readLine 1 = .ok (.getfield 22, 3) := by decide +kernel
theorem dX5_readLine_4 : decode cX5_readLine 4 = .ok (.getfield 48, 3) := by decide +kernel
theorem dX5_readLine_7 : decode cX5_readLine 7 = .ok (.astore_n 3, 1) := by decide +kernel
theorem dX5_readLine_8 : decode cX5_readLine 8 = .ok (.aload_n 3, 1) := by decide +kernel
theorem dX5_readLine_9 : decode cX5_readLine 9 = .ok (.getstatic 165, 3) := by decide +kernel
theorem dX5_readLine_12 : decode cX5_readLine 12 = .ok (.if_acmp .ne 7, 3) := by decide +kernel
theorem dX5_readLine_15 : decode cX5_readLine 15 = .ok (.iconst 0, 1) := by decide +kernel
theorem dX5_readLine_16 : decode cX5_readLine 16 = .ok (.goto 37, 3) := by decide +kernel
theorem dX5_readLine_19 : decode cX5_readLine 19 = .ok (.aload_n 3, 1) := by decide +kernel
theorem dX5_readLine_20 : decode cX5_readLine 20 = .ok (.getstatic 168, 3) := by decide +kernel
theorem dX5_readLine_23 : decode cX5_readLine 23 = .ok (.if_acmp .ne 7, 3) := by decide +kernel
theorem dX5_readLine_26 : decode cX5_readLine 26 = .ok (.iconst 1, 1) := by decide +kernel
theorem dX5_readLine_27 : decode cX5_readLine 27 = .ok (.goto 26, 3) := by decide +kernel
theorem dX5_readLine_30 : decode cX5_readLine 30 = .ok (.aload_n 3, 1) := by decide +kernel
theorem dX5_readLine_31 : decode cX5_readLine 31 = .ok (.getstatic 171, 3) := by decide +kernel
theorem dX5_readLine_34 : decode cX5_readLine 34 = .ok (.if_acmp .ne 7, 3) := by decide +kernel
theorem dX5_readLine_37 : decode cX5_readLine 37 = .ok (.iconst 2, 1) := by decide +kernel
theorem dX5_readLine_38 : decode cX5_readLine 38 = .ok (.goto 15, 3) := by decide +kernel
theorem dX5_readLine_41 : decode cX5_readLine 41 = .ok (.aload_n 3, 1) := by decide +kernel
theorem dX5_readLine_42 : decode cX5_readLine 42 = .ok (.getstatic 174, 3) := by decide +kernel
theorem dX5_readLine_45 : decode cX5_readLine 45 = .ok (.if_acmp .ne 7, 3) := by decide +kernel
theorem dX5_readLine_48 : decode cX5_readLine 48 = .ok (.iconst 3, 1) := by decide +kernel
theorem dX5_readLine_49 : decode cX5_readLine 49 = .ok (.goto 4, 3) := by decide +kernel
theorem dX5_readLine_52 : decode cX5_readLine 52 = .ok (.iconst (-1), 1) := by decide +kernel
theorem dX5_readLine_53 : decode cX5_readLine 53 = .ok (.istore 4, 2) := by decide +kernel
theorem dX5_readLine_55 : decode cX5_readLine 55 = .ok (.aload_n 0, 1) := by decide +kernel
theorem dX5_readLine_56 : decode cX5_readLine 56 = .ok (.iload 4, 2) := by decide +kernel
theorem dX5_readLine_58 : decode cX5_readLine 58 = .ok (.iconst (-1), 1) := by decide +kernel
theorem dX5_readLine_59 : decode cX5_readLine 59 = .ok (.if_icmp .ne 7, 3) := by decide +kernel
theorem dX5_readLine_62 : decode cX5_readLine 62 = .ok (.iconst 1, 1) := by decide +kernel
theorem dX5_readLine_63 : decode cX5_readLine 63 = .ok (.goto 17, 3) := by decide +kernel
theorem dX5_readLine_66 : decode cX5_readLine 66 = .ok (.aload_n 2, 1) := by decide +kernel
theorem dX5_readLine_67 : decode cX5_readLine 67 = .ok (.getfield 158, 3) := by decide +kernel
theorem dX5_readLine_70 : decode cX5_readLine 70 = .ok (.bipush 30, 2) := by decide +kernel
theorem dX5_readLine_72 : decode cX5_readLine 72 = .ok (.if_icmp .lt 7, 3) := by decide +kernel
theorem dX5_readLine_75 : decode cX5_readLine 75 = .ok (.iconst 5, 1) := by decide +kernel
theorem dX5_readLine_76 : decode cX5_readLine 76 = .ok (.goto 4, 3) := by decide +kernel
theorem dX5_readLine_79 : decode cX5_readLine 79 = .ok (.iconst 0, 1) := by decide +kernel
theorem dX5_readLine_80 : decode cX5_readLine 80 = .ok (.invokevirtual 98, 3) := by decide +kernel
theorem dX5_readLine_83 : decode cX5_readLine 83 = .ok (.aload_n 0, 1) := by decide +kernel
theorem dX5_readLine_84 : decode cX5_readLine 84 = .ok (.iload 4, 2) := by decide +kernel
theorem dX5_readLine_86 : decode cX5_readLine 86 = .ok (.ifCond .ne 10, 3) := by decide +kernel
theorem dX5_readLine_89 : decode cX5_readLine 89 = .ok (.aload_n 1, 1) := by decide +kernel
theorem dX5_readLine_90 : decode cX5_readLine 90 = .ok (.getfield 122, 3) := by decide +kernel
theorem dX5_readLine_93 : decode cX5_readLine 93 = .ok (.goto 7, 3) := by decide +kernel
theorem dX5_readLine_96 : decode cX5_readLine 96 = .ok (.aload_n 1, 1) := by decide +kernel
theorem dX5_readLine_97 : decode cX5_readLine 97 = .ok (.getfield 89, 3) := by decide +kernel
theorem dX5_readLine_100 : decode cX5_readLine 100 = .ok (.iconst (-1), 1) := by decide +kernel
theorem dX5_readLine_101 : decode cX5_readLine 101 = .ok (.invokevirtual 139, 3) := by decide +kernel
theorem dX5_readLine_104 : decode cX5_readLine 104 = .ok (.istore 5, 2) := by decide +kernel
theorem dX5_readLine_106 : decode cX5_readLine 106 = .ok (.iconst (-1), 1) := by decide +kernel
theorem dX5_readLine_107 : decode cX5_readLine 107 = .ok (.istore 6, 2) := by decide +kernel
theorem dX5_readLine_109 : decode cX5_readLine 109 = .ok (.iload 4, 2) := by decide +kernel
theorem dX5_readLine_111 : decode cX5_readLine 111 = .ok (.iconst 1, 1) := by decide +kernel
theorem dX5_readLine_112 : decode cX5_readLine 112 = .ok (.if_icmp .eq 38, 3) := by decide +kernel
theorem dX5_readLine_115 : decode cX5_readLine 115 = .ok (.aload_n 0, 1) := by decide +kernel
theorem dX5_readLine_116 : decode cX5_readLine 116 = .ok (.iload 4, 2) := by decide +kernel
theorem dX5_readLine_118 : decode cX5_readLine 118 = .ok (.iconst 3, 1) := by decide +kernel
theorem dX5_readLine_119 : decode cX5_readLine 119 = .ok (.if_icmp .ne 10, 3) := by decide +kernel
theorem dX5_readLine_122 : decode cX5_readLine 122 = .ok (.aload_n 1, 1) := by decide +kernel
theorem dX5_readLine_123 : decode cX5_readLine 123 = .ok (.getfield 111, 3) := by decide +kernel
theorem dX5_readLine_126 : decode cX5_readLine 126 = .ok (.goto 7, 3) := by decide +kernel
theorem dX5_readLine_129 : decode cX5_readLine 129 = .ok (.aload_n 1, 1) := by decide +kernel
theorem dX5_readLine_130 : decode cX5_readLine 130 = .ok (.getfield 89, 3) := by decide +kernel
theorem dX5_readLine_133 : decode cX5_readLine 133 = .ok (.iload 4, 2) := by decide +kernel
theorem dX5_readLine_135 : decode cX5_readLine 135 = .ok (.iconst 2, 1) := by decide +kernel
theorem dX5_readLine_136 : decode cX5_readLine 136 = .ok (.if_icmp .ne 8, 3) := by decide +kernel
theorem dX5_readLine_139 : decode cX5_readLine 139 = .ok (.iload 5, 2) := by decide +kernel
theorem dX5_readLine_141 : decode cX5_readLine 141 = .ok (.goto 4, 3) := by decide +kernel
theorem dX5_readLine_144 : decode cX5_readLine 144 = .ok (.iconst (-1), 1) := by decide +kernel
theorem dX5_readLine_145 : decode cX5_readLine 145 = .ok (.invokevirtual 139, 3) := by decide +kernel
theorem dX5_readLine_148 : decode cX5_readLine 148 = .ok (.istore 6, 2) := by decide +kernel
theorem dX5_readLine_150 : decode cX5_readLine 150 = .ok (.aload_n 0, 1) := by decide +kernel
theorem dX5_readLine_151 : decode cX5_readLine 151 = .ok (.invokevirtual 104, 3) := by decide +kernel
theorem dX5_readLine_154 : decode cX5_readLine 154 = .ok (.aload_n 0, 1) := by decide +kernel
theorem dX5_readLine_155 : decode cX5_readLine 155 = .ok (.getfield 9, 3) := by decide +kernel
theorem dX5_readLine_158 : decode cX5_readLine 158 = .ok (.ifCond .ne 13, 3) := by decide +kernel
theorem dX5_readLine_161 : decode cX5_readLine 161 = .ok (.aload_n 2, 1) := by decide +kernel
theorem dX5_readLine_162 : decode cX5_readLine 162 = .ok (.iload 4, 2) := by decide +kernel
theorem dX5_readLine_164 : decode cX5_readLine 164 = .ok (.iload 5, 2) := by decide +kernel
theorem dX5_readLine_166 : decode cX5_readLine 166 = .ok (.iload 6, 2) := by decide +kernel
theorem dX5_readLine_168 : decode cX5_readLine 168 = .ok (.invokevirtual 177, 3) := by decide +kernel
theorem dX5_readLine_171 : decode cX5_readLine 171 = .ok (.return_, 1) := by decide +kernel
theorem dX5_fail_0 : decode cX5_fail 0 = .ok (.aload_n 0, 1) := by decide +kernel
theorem dX5_fail_1 : decode cX5_fail 1 = .ok (.getfield 9, 3) := by decide +kernel
theorem dX5_fail_4 : decode cX5_fail 4 = .ok (.ifCond .ne 23, 3) := by decide +kernel
theorem dX5_fail_7 : decode cX5_fail 7 = .ok (.iload_n 1, 1) := by decide +kernel
theorem dX5_fail_8 : decode cX5_fail 8 = .ok (.ifCond .eq 19, 3) := by decide +kernel
theorem dX5_fail_11 : decode cX5_fail 11 = .ok (.aload_n 0, 1) := by decide +kernel
theorem dX5_fail_12 : decode cX5_fail 12 = .ok (.iload_n 1, 1) := by decide +kernel
theorem dX5_fail_13 : decode cX5_fail 13 = .ok (.bipush 16, 2) := by decide +kernel
theorem dX5_fail_15 : decode cX5_fail 15 = .ok (.aload_n 0, 1) := by decide +kernel
theorem dX5_fail_16 : decode cX5_fail 16 = .ok (.getfield 22, 3) := by decide +kernel
theorem dX5_fail_19 : decode cX5_fail 19 = .ok (.getfield 180, 3) := by decide +kernel
theorem dX5_fail_22 : decode cX5_fail 22 = .ok (.imul, 1) := by decide +kernel
theorem dX5_fail_23 : decode cX5_fail 23 = .ok (.iadd, 1) := by decide +kernel
theorem dX5_fail_24 : decode cX5_fail 24 = .ok (.putfield 9, 3) := by decide +kernel
theorem dX5_fail_27 : decode cX5_fail 27 = .ok (.return_, 1) := by decide +kernel
theorem dX5_pass_0 : decode cX5_pass 0 = .ok (.aload_n 0, 1) := by decide +kernel
theorem dX5_pass_1 : decode cX5_pass 1 = .ok (.getfield 9, 3) := by decide +kernel
theorem dX5_pass_4 : decode cX5_pass 4 = .ok (.ifCond .ne 10, 3) := by decide +kernel
theorem dX5_pass_7 : decode cX5_pass 7 = .ok (.aload_n 0, 1) := by decide +kernel
theorem dX5_pass_8 : decode cX5_pass 8 = .ok (.getfield 22, 3) := by decide +kernel
theorem dX5_pass_11 : decode cX5_pass 11 = .ok (.invokevirtual 183, 3) := by decide +kernel
theorem dX5_pass_14 : decode cX5_pass 14 = .ok (.return_, 1) := by decide +kernel
theorem dX5_begin_0 : decode cX5_begin 0 = .ok (.aload_n 0, 1) := by decide +kernel
theorem dX5_begin_1 : decode cX5_begin 1 = .ok (.iload_n 1, 1) := by decide +kernel
theorem dX5_begin_2 : decode cX5_begin 2 = .ok (.invokevirtual 85, 3) := by decide +kernel
theorem dX5_begin_5 : decode cX5_begin 5 = .ok (.aload_n 0, 1) := by decide +kernel
theorem dX5_begin_6 : decode cX5_begin 6 = .ok (.invokevirtual 186, 3) := by decide +kernel
theorem dX5_begin_9 : decode cX5_begin 9 = .ok (.return_, 1) := by decide +kernel
theorem dX5_expect_0 : decode cX5_expect 0 = .ok (.aload_n 0, 1) := by decide +kernel
theorem dX5_expect_1 : decode cX5_expect 1 = .ok (.aload_n 0, 1) := by decide +kernel
theorem dX5_expect_2 : decode cX5_expect 2 = .ok (.getfield 22, 3) := by decide +kernel
theorem dX5_expect_5 : decode cX5_expect 5 = .ok (.getfield 48, 3) := by decide +kernel
theorem dX5_expect_8 : decode cX5_expect 8 = .ok (.aload_n 1, 1) := by decide +kernel
theorem dX5_expect_9 : decode cX5_expect 9 = .ok (.if_acmp .ne 7, 3) := by decide +kernel
theorem dX5_expect_12 : decode cX5_expect 12 = .ok (.iconst 0, 1) := by decide +kernel
theorem dX5_expect_13 : decode cX5_expect 13 = .ok (.goto 4, 3) := by decide +kernel
theorem dX5_expect_16 : decode cX5_expect 16 = .ok (.iconst 1, 1) := by decide +kernel
theorem dX5_expect_17 : decode cX5_expect 17 = .ok (.invokevirtual 85, 3) := by decide +kernel
theorem dX5_expect_20 : decode cX5_expect 20 = .ok (.aload_n 0, 1) := by decide +kernel
theorem dX5_expect_21 : decode cX5_expect 21 = .ok (.invokevirtual 186, 3) := by decide +kernel
theorem dX5_expect_24 : decode cX5_expect 24 = .ok (.return_, 1) := by decide +kernel
theorem dX5_expectEnd_0 : decode cX5_expectEnd 0 = .ok (.aload_n 0, 1) := by decide +kernel
theorem dX5_expectEnd_1 : decode cX5_expectEnd 1 = .ok (.aload_n 0, 1) := by decide +kernel
theorem dX5_expectEnd_2 : decode cX5_expectEnd 2 = .ok (.getfield 22, 3) := by decide +kernel
theorem dX5_expectEnd_5 : decode cX5_expectEnd 5 = .ok (.getfield 189, 3) := by decide +kernel
theorem dX5_expectEnd_8 : decode cX5_expectEnd 8 = .ok (.bipush 59, 2) := by decide +kernel
theorem dX5_expectEnd_10 : decode cX5_expectEnd 10 = .ok (.if_icmp .ne 7, 3) := by decide +kernel
theorem dX5_expectEnd_13 : decode cX5_expectEnd 13 = .ok (.iconst 0, 1) := by decide +kernel
theorem dX5_expectEnd_14 : decode cX5_expectEnd 14 = .ok (.goto 4, 3) := by decide +kernel
theorem dX5_expectEnd_17 : decode cX5_expectEnd 17 = .ok (.iconst 1, 1) := by decide +kernel
theorem dX5_expectEnd_18 : decode cX5_expectEnd 18 = .ok (.invokevirtual 85, 3) := by decide +kernel
theorem dX5_expectEnd_21 : decode cX5_expectEnd 21 = .ok (.aload_n 0, 1) := by decide +kernel
theorem dX5_expectEnd_22 : decode cX5_expectEnd 22 = .ok (.invokevirtual 186, 3) := by decide +kernel
theorem dX5_expectEnd_25 : decode cX5_expectEnd 25 = .ok (.return_, 1) := by decide +kernel
theorem dX5_isName_0 : decode cX5_isName 0 = .ok (.aload_n 0, 1) := by decide +kernel
theorem dX5_isName_1 : decode cX5_isName 1 = .ok (.getfield 22, 3) := by decide +kernel
theorem dX5_isName_4 : decode cX5_isName 4 = .ok (.getfield 45, 3) := by decide +kernel
theorem dX5_isName_7 : decode cX5_isName 7 = .ok (.iconst 1, 1) := by decide +kernel
theorem dX5_isName_8 : decode cX5_isName 8 = .ok (.if_icmp .ne 20, 3) := by decide +kernel
theorem dX5_isName_11 : decode cX5_isName 11 = .ok (.aload_n 0, 1) := by decide +kernel
theorem dX5_isName_12 : decode cX5_isName 12 = .ok (.getfield 22, 3) := by decide +kernel
theorem dX5_isName_15 : decode cX5_isName 15 = .ok (.getfield 48, 3) := by decide +kernel
theorem dX5_isName_18 : decode cX5_isName 18 = .ok (.getfield 192, 3) := by decide +kernel
theorem dX5_isName_21 : decode cX5_isName 21 = .ok (.ifCond .eq 7, 3) := by decide +kernel
theorem dX5_isName_24 : decode cX5_isName 24 = .ok (.iconst 1, 1) := by decide +kernel
theorem dX5_isName_25 : decode cX5_isName 25 = .ok (.goto 4, 3) := by decide +kernel
theorem dX5_isName_28 : decode cX5_isName 28 = .ok (.iconst 0, 1) := by decide +kernel
theorem dX5_isName_29 : decode cX5_isName 29 = .ok (.ireturn, 1) := by decide +kernel
theorem dX5_newName_0 : decode cX5_newName 0 = .ok (.aload_n 0, 1) := by decide +kernel
theorem dX5_newName_1 : decode cX5_newName 1 = .ok (.getfield 22, 3) := by decide +kernel
theorem dX5_newName_4 : decode cX5_newName 4 = .ok (.getfield 195, 3) := by decide +kernel
theorem dX5_newName_7 : decode cX5_newName 7 = .ok (.lstore_n 2, 1) := by decide +kernel
theorem dX5_newName_8 : decode cX5_newName 8 = .ok (.aload_n 0, 1) := by decide +kernel
theorem dX5_newName_9 : decode cX5_newName 9 = .ok (.aload_n 0, 1) := by decide +kernel
theorem dX5_newName_10 : decode cX5_newName 10 = .ok (.invokevirtual 199, 3) := by decide +kernel
theorem dX5_newName_13 : decode cX5_newName 13 = .ok (.ifCond .ne 7, 3) := by decide +kernel
theorem dX5_newName_16 : decode cX5_newName 16 = .ok (.iconst 1, 1) := by decide +kernel
theorem dX5_newName_17 : decode cX5_newName 17 = .ok (.goto 16, 3) := by decide +kernel
theorem dX5_newName_20 : decode cX5_newName 20 = .ok (.aload_n 1, 1) := by decide +kernel
theorem dX5_newName_21 : decode cX5_newName 21 = .ok (.lload_n 2, 1) := by decide +kernel
theorem dX5_newName_22 : decode cX5_newName 22 = .ok (.invokevirtual 203, 3) := by decide +kernel
theorem dX5_newName_25 : decode cX5_newName 25 = .ok (.ifCond .eq 7, 3) := by decide +kernel
theorem dX5_newName_28 : decode cX5_newName 28 = .ok (.iconst 3, 1) := by decide +kernel
theorem dX5_newName_29 : decode cX5_newName 29 = .ok (.goto 4, 3) := by decide +kernel
theorem dX5_newName_32 : decode cX5_newName 32 = .ok (.iconst 0, 1) := by decide +kernel
theorem dX5_newName_33 : decode cX5_newName 33 = .ok (.invokevirtual 85, 3) := by decide +kernel
theorem dX5_newName_36 : decode cX5_newName 36 = .ok (.aload_n 0, 1) := by decide +kernel
theorem dX5_newName_37 : decode cX5_newName 37 = .ok (.invokevirtual 186, 3) := by decide +kernel
theorem dX5_newName_40 : decode cX5_newName 40 = .ok (.lload_n 2, 1) := by decide +kernel
theorem dX5_newName_41 : decode cX5_newName 41 = .ok (.lreturn, 1) := by decide +kernel
theorem dX5_oldName_0 : decode cX5_oldName 0 = .ok (.aload_n 1, 1) := by decide +kernel
theorem dX5_oldName_1 : decode cX5_oldName 1 = .ok (.aload_n 0, 1) := by decide +kernel
theorem dX5_oldName_2 : decode cX5_oldName 2 = .ok (.getfield 22, 3) := by decide +kernel
theorem dX5_oldName_5 : decode cX5_oldName 5 = .ok (.getfield 195, 3) := by decide +kernel
theorem dX5_oldName_8 : decode cX5_oldName 8 = .ok (.invokevirtual 207, 3) := by decide +kernel
theorem dX5_oldName_11 : decode cX5_oldName 11 = .ok (.istore_n 3, 1) := by decide +kernel
theorem dX5_oldName_12 : decode cX5_oldName 12 = .ok (.aload_n 0, 1) := by decide +kernel
theorem dX5_oldName_13 : decode cX5_oldName 13 = .ok (.aload_n 0, 1) := by decide +kernel
theorem dX5_oldName_14 : decode cX5_oldName 14 = .ok (.invokevirtual 199, 3) := by decide +kernel
theorem dX5_oldName_17 : decode cX5_oldName 17 = .ok (.ifCond .ne 7, 3) := by decide +kernel
theorem dX5_oldName_20 : decode cX5_oldName 20 = .ok (.iconst 1, 1) := by decide +kernel
theorem dX5_oldName_21 : decode cX5_oldName 21 = .ok (.goto 22, 3) := by decide +kernel
theorem dX5_oldName_24 : decode cX5_oldName 24 = .ok (.iload_n 3, 1) := by decide +kernel
theorem dX5_oldName_25 : decode cX5_oldName 25 = .ok (.iconst (-1), 1) := by decide +kernel
theorem dX5_oldName_26 : decode cX5_oldName 26 = .ok (.if_icmp .ne 7, 3) := by decide +kernel
theorem dX5_oldName_29 : decode cX5_oldName 29 = .ok (.iconst 2, 1) := by decide +kernel
theorem dX5_oldName_30 : decode cX5_oldName 30 = .ok (.goto 13, 3) := by decide +kernel
theorem dX5_oldName_33 : decode cX5_oldName 33 = .ok (.iload_n 3, 1) := by decide +kernel
theorem dX5_oldName_34 : decode cX5_oldName 34 = .ok (.iload_n 2, 1) := by decide +kernel
theorem dX5_oldName_35 : decode cX5_oldName 35 = .ok (.if_icmp .ne 7, 3) := by decide +kernel
theorem dX5_oldName_38 : decode cX5_oldName 38 = .ok (.iconst 3, 1) := by decide +kernel
theorem dX5_oldName_39 : decode cX5_oldName 39 = .ok (.goto 4, 3) := by decide +kernel
theorem dX5_oldName_42 : decode cX5_oldName 42 = .ok (.iconst 0, 1) := by decide +kernel
theorem dX5_oldName_43 : decode cX5_oldName 43 = .ok (.invokevirtual 85, 3) := by decide +kernel
theorem dX5_oldName_46 : decode cX5_oldName 46 = .ok (.aload_n 0, 1) := by decide +kernel
theorem dX5_oldName_47 : decode cX5_oldName 47 = .ok (.invokevirtual 186, 3) := by decide +kernel
theorem dX5_oldName_50 : decode cX5_oldName 50 = .ok (.iload_n 3, 1) := by decide +kernel
theorem dX5_oldName_51 : decode cX5_oldName 51 = .ok (.ireturn, 1) := by decide +kernel
theorem dX5_toldKind_0 : decode cX5_toldKind 0 = .ok (.aload_n 0, 1) := by decide +kernel
theorem dX5_toldKind_1 : decode cX5_toldKind 1 = .ok (.getfield 22, 3) := by decide +kernel
theorem dX5_toldKind_4 : decode cX5_toldKind 4 = .ok (.getfield 48, 3) := by decide +kernel
theorem dX5_toldKind_7 : decode cX5_toldKind 7 = .ok (.getfield 211, 3) := by decide +kernel
theorem dX5_toldKind_10 : decode cX5_toldKind 10 = .ok (.istore_n 1, 1) := by decide +kernel
theorem dX5_toldKind_11 : decode cX5_toldKind 11 = .ok (.aload_n 0, 1) := by decide +kernel
theorem dX5_toldKind_12 : decode cX5_toldKind 12 = .ok (.iload_n 1, 1) := by decide +kernel
theorem dX5_toldKind_13 : decode cX5_toldKind 13 = .ok (.iconst (-1), 1) := by decide +kernel
theorem dX5_toldKind_14 : decode cX5_toldKind 14 = .ok (.if_icmp .ne 7, 3) := by decide +kernel
theorem dX5_toldKind_17 : decode cX5_toldKind 17 = .ok (.iconst 1, 1) := by decide +kernel
theorem dX5_toldKind_18 : decode cX5_toldKind 18 = .ok (.goto 4, 3) := by decide +kernel
theorem dX5_toldKind_21 : decode cX5_toldKind 21 = .ok (.iconst 0, 1) := by decide +kernel
theorem dX5_toldKind_22 : decode cX5_toldKind 22 = .ok (.invokevirtual 85, 3) := by decide +kernel
theorem dX5_toldKind_25 : decode cX5_toldKind 25 = .ok (.aload_n 0, 1) := by decide +kernel
theorem dX5_toldKind_26 : decode cX5_toldKind 26 = .ok (.invokevirtual 186, 3) := by decide +kernel
theorem dX5_toldKind_29 : decode cX5_toldKind 29 = .ok (.iload_n 1, 1) := by decide +kernel
theorem dX5_toldKind_30 : decode cX5_toldKind 30 = .ok (.ireturn, 1) := by decide +kernel
theorem dX5_toldNumber_0 : decode cX5_toldNumber 0 = .ok (.aload_n 0, 1) := by decide +kernel
theorem dX5_toldNumber_1 : decode cX5_toldNumber 1 = .ok (.getfield 22, 3) := by decide +kernel
theorem dX5_toldNumber_4 : decode cX5_toldNumber 4 = .ok (.getfield 214, 3) := by decide +kernel
theorem dX5_toldNumber_7 : decode cX5_toldNumber 7 = .ok (.istore_n 3, 1) := by decide +kernel
theorem dX5_toldNumber_8 : decode cX5_toldNumber 8 = .ok (.aload_n 0, 1) := by decide +kernel
theorem dX5_toldNumber_9 : decode cX5_toldNumber 9 = .ok (.aload_n 0, 1) := by decide +kernel
theorem dX5_toldNumber_10 : decode cX5_toldNumber 10 = .ok (.getfield 22, 3) := by decide +kernel
theorem dX5_toldNumber_13 : decode cX5_toldNumber 13 = .ok (.getfield 45, 3) := by decide +kernel
theorem dX5_toldNumber_16 : decode cX5_toldNumber 16 = .ok (.iconst 2, 1) := by decide +kernel
theorem dX5_toldNumber_17 : decode cX5_toldNumber 17 = .ok (.if_icmp .eq 7, 3) := by decide +kernel
theorem dX5_toldNumber_20 : decode cX5_toldNumber 20 = .ok (.iconst 1, 1) := by decide +kernel
theorem dX5_toldNumber_21 : decode cX5_toldNumber 21 = .ok (.goto 18, 3) := by decide +kernel
theorem dX5_toldNumber_24 : decode cX5_toldNumber 24 = .ok (.iload_n 3, 1) := by decide +kernel
theorem dX5_toldNumber_25 : decode cX5_toldNumber 25 = .ok (.iload_n 1, 1) := by decide +kernel
theorem dX5_toldNumber_26 : decode cX5_toldNumber 26 = .ok (.if_icmp .lt 8, 3) := by decide +kernel
theorem dX5_toldNumber_29 : decode cX5_toldNumber 29 = .ok (.iload_n 3, 1) := by decide +kernel
theorem dX5_toldNumber_30 : decode cX5_toldNumber 30 = .ok (.iload_n 2, 1) := by decide +kernel
theorem dX5_toldNumber_31 : decode cX5_toldNumber 31 = .ok (.if_icmp .le 7, 3) := by decide +kernel
theorem dX5_toldNumber_34 : decode cX5_toldNumber 34 = .ok (.iconst 4, 1) := by decide +kernel
theorem dX5_toldNumber_35 : decode cX5_toldNumber 35 = .ok (.goto 4, 3) := by decide +kernel
theorem dX5_toldNumber_38 : decode cX5_toldNumber 38 = .ok (.iconst 0, 1) := by decide +kernel
theorem dX5_toldNumber_39 : decode cX5_toldNumber 39 = .ok (.invokevirtual 85, 3) := by decide +kernel
theorem dX5_toldNumber_42 : decode cX5_toldNumber 42 = .ok (.aload_n 0, 1) := by decide +kernel
theorem dX5_toldNumber_43 : decode cX5_toldNumber 43 = .ok (.invokevirtual 186, 3) := by decide +kernel
theorem dX5_toldNumber_46 : decode cX5_toldNumber 46 = .ok (.iload_n 3, 1) := by decide +kernel
theorem dX5_toldNumber_47 : decode cX5_toldNumber 47 = .ok (.ireturn, 1) := by decide +kernel
theorem dX6_init_0 : decode cX6_init 0 = .ok (.aload_n 0, 1) := by decide +kernel
theorem dX6_init_1 : decode cX6_init 1 = .ok (.invokespecial 3, 3) := by decide +kernel
theorem dX6_init_4 : decode cX6_init 4 = .ok (.aload_n 0, 1) := by decide +kernel
theorem dX6_init_5 : decode cX6_init 5 = .ok (.iload_n 1, 1) := by decide +kernel
theorem dX6_init_6 : decode cX6_init 6 = .ok (.ifCond .ge 7, 3) := by decide +kernel
theorem dX6_init_9 : decode cX6_init 9 = .ok (.iconst 0, 1) := by decide +kernel
theorem dX6_init_10 : decode cX6_init 10 = .ok (.goto 4, 3) := by decide +kernel
theorem dX6_init_13 : decode cX6_init 13 = .ok (.iload_n 1, 1) := by decide +kernel
theorem dX6_init_14 : decode cX6_init 14 = .ok (.newarray .int, 2) := by decide +kernel
theorem dX6_init_16 : decode cX6_init 16 = .ok (.putfield 9, 3) := by decide +kernel
theorem dX6_init_19 : decode cX6_init 19 = .ok (.aload_n 0, 1) := by decide +kernel
theorem dX6_init_20 : decode cX6_init 20 = .ok (.iconst (-1), 1) := by decide +kernel
theorem dX6_init_21 : decode cX6_init 21 = .ok (.invokevirtual 15, 3) := by decide +kernel
theorem dX6_init_24 : decode cX6_init 24 = .ok (.return_, 1) := by decide +kernel
theorem dX6_at_0 : decode cX6_at 0 = .ok (.iload_n 1, 1) := by decide +kernel
theorem dX6_at_1 : decode cX6_at 1 = .ok (.ifCond .lt 21, 3) := by decide +kernel
theorem dX6_at_4 : decode cX6_at 4 = .ok (.iload_n 1, 1) := by decide +kernel
theorem dX6_at_5 : decode cX6_at 5 = .ok (.aload_n 0, 1) := by decide +kernel
theorem dX6_at_6 : decode cX6_at 6 = .ok (.getfield 9, 3) := by decide +kernel
theorem dX6_at_9 : decode cX6_at 9 = .ok (.arraylength, 1) := by decide +kernel
theorem dX6_at_10 : decode cX6_at 10 = .ok (.if_icmp .ge 12, 3) := by decide +kernel
theorem dX6_at_13 : decode cX6_at 13 = .ok (.aload_n 0, 1) := by decide +kernel
theorem dX6_at_14 : decode cX6_at 14 = .ok (.getfield 9, 3) := by decide +kernel
theorem dX6_at_17 : decode cX6_at 17 = .ok (.iload_n 1, 1) := by decide +kernel
theorem dX6_at_18 : decode cX6_at 18 = .ok (.iaload, 1) := by decide +kernel
theorem dX6_at_19 : decode cX6_at 19 = .ok (.goto 4, 3) := by decide +kernel
theorem dX6_at_22 : decode cX6_at 22 = .ok (.iconst (-1), 1) := by decide +kernel
theorem dX6_at_23 : decode cX6_at 23 = .ok (.ireturn, 1) := by decide +kernel
theorem dX6_set_0 : decode cX6_set 0 = .ok (.iload_n 1, 1) := by decide +kernel
theorem dX6_set_1 : decode cX6_set 1 = .ok (.ifCond .lt 19, 3) := by decide +kernel
theorem dX6_set_4 : decode cX6_set 4 = .ok (.iload_n 1, 1) := by decide +kernel
theorem dX6_set_5 : decode cX6_set 5 = .ok (.aload_n 0, 1) := by decide +kernel
theorem dX6_set_6 : decode cX6_set 6 = .ok (.getfield 9, 3) := by decide +kernel
theorem dX6_set_9 : decode cX6_set 9 = .ok (.arraylength, 1) := by decide +kernel
theorem dX6_set_10 : decode cX6_set 10 = .ok (.if_icmp .ge 10, 3) := by decide +kernel
theorem dX6_set_13 : decode cX6_set 13 = .ok (.aload_n 0, 1) := by decide +kernel
theorem dX6_set_14 : decode cX6_set 14 = .ok (.getfield 9, 3) := by decide +kernel
theorem dX6_set_17 : decode cX6_set 17 = .ok (.iload_n 1, 1) := by decide +kernel
theorem dX6_set_18 : decode cX6_set 18 = .ok (.iload_n 2, 1) := by decide +kernel
theorem dX6_set_19 : decode cX6_set 19 = .ok (.iastore, 1) := by decide +kernel
theorem dX6_set_20 : decode cX6_set 20 = .ok (.return_, 1) := by decide +kernel
theorem dX6_fill_0 : decode cX6_fill 0 = .ok (.iconst 0, 1) := by decide +kernel
theorem dX6_fill_1 : decode cX6_fill 1 = .ok (.istore_n 2, 1) := by decide +kernel
theorem dX6_fill_2 : decode cX6_fill 2 = .ok (.iload_n 2, 1) := by decide +kernel
theorem dX6_fill_3 : decode cX6_fill 3 = .ok (.aload_n 0, 1) := by decide +kernel
theorem dX6_fill_4 : decode cX6_fill 4 = .ok (.getfield 9, 3) := by decide +kernel
theorem dX6_fill_7 : decode cX6_fill 7 = .ok (.arraylength, 1) := by decide +kernel
theorem dX6_fill_8 : decode cX6_fill 8 = .ok (.if_icmp .ge 16, 3) := by decide +kernel
theorem dX6_fill_11 : decode cX6_fill 11 = .ok (.aload_n 0, 1) := by decide +kernel
theorem dX6_fill_12 : decode cX6_fill 12 = .ok (.getfield 9, 3) := by decide +kernel
theorem dX6_fill_15 : decode cX6_fill 15 = .ok (.iload_n 2, 1) := by decide +kernel
theorem dX6_fill_16 : decode cX6_fill 16 = .ok (.iload_n 1, 1) := by decide +kernel
theorem dX6_fill_17 : decode cX6_fill 17 = .ok (.iastore, 1) := by decide +kernel
theorem dX6_fill_18 : decode cX6_fill 18 = .ok (.iinc 2 1, 3) := by decide +kernel
theorem dX6_fill_21 : decode cX6_fill 21 = .ok (.goto (-19), 3) := by decide +kernel
theorem dX6_fill_24 : decode cX6_fill 24 = .ok (.return_, 1) := by decide +kernel
theorem dX6_copyFrom_0 : decode cX6_copyFrom 0 = .ok (.iconst 0, 1) := by decide +kernel
theorem dX6_copyFrom_1 : decode cX6_copyFrom 1 = .ok (.istore_n 2, 1) := by decide +kernel
theorem dX6_copyFrom_2 : decode cX6_copyFrom 2 = .ok (.iload_n 2, 1) := by decide +kernel
theorem dX6_copyFrom_3 : decode cX6_copyFrom 3 = .ok (.aload_n 0, 1) := by decide +kernel
theorem dX6_copyFrom_4 : decode cX6_copyFrom 4 = .ok (.getfield 9, 3) := by decide +kernel
theorem dX6_copyFrom_7 : decode cX6_copyFrom 7 = .ok (.arraylength, 1) := by decide +kernel
theorem dX6_copyFrom_8 : decode cX6_copyFrom 8 = .ok (.if_icmp .ge 30, 3) := by decide +kernel
theorem dX6_copyFrom_11 : decode cX6_copyFrom 11 = .ok (.iload_n 2, 1) := by decide +kernel
theorem dX6_copyFrom_12 : decode cX6_copyFrom 12 = .ok (.aload_n 1, 1) := by decide +kernel
theorem dX6_copyFrom_13 : decode cX6_copyFrom 13 = .ok (.getfield 9, 3) := by decide +kernel
theorem dX6_copyFrom_16 : decode cX6_copyFrom 16 = .ok (.arraylength, 1) := by decide +kernel
theorem dX6_copyFrom_17 : decode cX6_copyFrom 17 = .ok (.if_icmp .ge 21, 3) := by decide +kernel
theorem dX6_copyFrom_20 : decode cX6_copyFrom 20 = .ok (.aload_n 0, 1) := by decide +kernel
theorem dX6_copyFrom_21 : decode cX6_copyFrom 21 = .ok (.getfield 9, 3) := by decide +kernel
theorem dX6_copyFrom_24 : decode cX6_copyFrom 24 = .ok (.iload_n 2, 1) := by decide +kernel
theorem dX6_copyFrom_25 : decode cX6_copyFrom 25 = .ok (.aload_n 1, 1) := by decide +kernel
theorem dX6_copyFrom_26 : decode cX6_copyFrom 26 = .ok (.getfield 9, 3) := by decide +kernel
theorem dX6_copyFrom_29 : decode cX6_copyFrom 29 = .ok (.iload_n 2, 1) := by decide +kernel
theorem dX6_copyFrom_30 : decode cX6_copyFrom 30 = .ok (.iaload, 1) := by decide +kernel
theorem dX6_copyFrom_31 : decode cX6_copyFrom 31 = .ok (.iastore, 1) := by decide +kernel
theorem dX6_copyFrom_32 : decode cX6_copyFrom 32 = .ok (.iinc 2 1, 3) := by decide +kernel
theorem dX6_copyFrom_35 : decode cX6_copyFrom 35 = .ok (.goto (-33), 3) := by decide +kernel
theorem dX6_copyFrom_38 : decode cX6_copyFrom 38 = .ok (.return_, 1) := by decide +kernel
theorem dX6_copyPart_0 : decode cX6_copyPart 0 = .ok (.iconst 0, 1) := by decide +kernel
theorem dX6_copyPart_1 : decode cX6_copyPart 1 = .ok (.istore 5, 2) := by decide +kernel
theorem dX6_copyPart_3 : decode cX6_copyPart 3 = .ok (.iload 5, 2) := by decide +kernel
theorem dX6_copyPart_5 : decode cX6_copyPart 5 = .ok (.iload 4, 2) := by decide +kernel
theorem dX6_copyPart_7 : decode cX6_copyPart 7 = .ok (.if_icmp .ge 25, 3) := by decide +kernel
theorem dX6_copyPart_10 : decode cX6_copyPart 10 = .ok (.aload_n 0, 1) := by decide +kernel
theorem dX6_copyPart_11 : decode cX6_copyPart 11 = .ok (.iload_n 1, 1) := by decide +kernel
theorem dX6_copyPart_12 : decode cX6_copyPart 12 = .ok (.iload 5, 2) := by decide +kernel
theorem dX6_copyPart_14 : decode cX6_copyPart 14 = .ok (.iadd, 1) := by decide +kernel
theorem dX6_copyPart_15 : decode cX6_copyPart 15 = .ok (.aload_n 2, 1) := by decide +kernel
theorem dX6_copyPart_16 : decode cX6_copyPart 16 = .ok (.iload_n 3, 1) := by decide +kernel
theorem dX6_copyPart_17 : decode cX6_copyPart 17 = .ok (.iload 5, 2) := by decide +kernel
theorem dX6_copyPart_19 : decode cX6_copyPart 19 = .ok (.iadd, 1) := by decide +kernel
theorem dX6_copyPart_20 : decode cX6_copyPart 20 = .ok (.invokevirtual 19, 3) := by decide +kernel
theorem dX6_copyPart_23 : decode cX6_copyPart 23 = .ok (.invokevirtual 23, 3) := by decide +kernel
theorem dX6_copyPart_26 : decode cX6_copyPart 26 = .ok (.iinc 5 1, 3) := by decide +kernel
theorem dX6_copyPart_29 : decode cX6_copyPart 29 = .ok (.goto (-26), 3) := by decide +kernel
theorem dX6_copyPart_32 : decode cX6_copyPart 32 = .ok (.return_, 1) := by decide +kernel
theorem dX7_init_0 : decode cX7_init 0 = .ok (.aload_n 0, 1) := by decide +kernel
theorem dX7_init_1 : decode cX7_init 1 = .ok (.invokespecial 3, 3) := by decide +kernel
theorem dX7_init_4 : decode cX7_init 4 = .ok (.aload_n 0, 1) := by decide +kernel
theorem dX7_init_5 : decode cX7_init 5 = .ok (.sipush 1000, 3) := by decide +kernel
theorem dX7_init_8 : decode cX7_init 8 = .ok (.newarray .byte, 2) := by decide +kernel
theorem dX7_init_10 : decode cX7_init 10 = .ok (.putfield 11, 3) := by decide +kernel
theorem dX7_init_13 : decode cX7_init 13 = .ok (.aload_n 0, 1) := by decide +kernel
theorem dX7_init_14 : decode cX7_init 14 = .ok (.iconst 0, 1) := by decide +kernel
theorem dX7_init_15 : decode cX7_init 15 = .ok (.putfield 15, 3) := by decide +kernel
theorem dX7_init_18 : decode cX7_init 18 = .ok (.aload_n 0, 1) := by decide +kernel
theorem dX7_init_19 : decode cX7_init 19 = .ok (.iconst 0, 1) := by decide +kernel
theorem dX7_init_20 : decode cX7_init 20 = .ok (.putfield 19, 3) := by decide +kernel
theorem dX7_init_23 : decode cX7_init 23 = .ok (.aload_n 0, 1) := by decide +kernel
theorem dX7_init_24 : decode cX7_init 24 = .ok (.iconst 0, 1) := by decide +kernel
theorem dX7_init_25 : decode cX7_init 25 = .ok (.putfield 22, 3) := by decide +kernel
theorem dX7_init_28 : decode cX7_init 28 = .ok (.aload_n 0, 1) := by decide +kernel
theorem dX7_init_29 : decode cX7_init 29 = .ok (.iconst 0, 1) := by decide +kernel
theorem dX7_init_30 : decode cX7_init 30 = .ok (.putfield 25, 3) := by decide +kernel
theorem dX7_init_33 : decode cX7_init 33 = .ok (.aload_n 0, 1) := by decide +kernel
theorem dX7_init_34 : decode cX7_init 34 = .ok (.getstatic 28, 3) := by decide +kernel
theorem dX7_init_37 : decode cX7_init 37 = .ok (.putfield 34, 3) := by decide +kernel
theorem dX7_init_40 : decode cX7_init 40 = .ok (.aload_n 0, 1) := by decide +kernel
theorem dX7_init_41 : decode cX7_init 41 = .ok (.lconst 0, 1) := by decide +kernel
theorem dX7_init_42 : decode cX7_init 42 = .ok (.putfield 37, 3) := by decide +kernel
theorem dX7_init_45 : decode cX7_init 45 = .ok (.aload_n 0, 1) := by decide +kernel
theorem dX7_init_46 : decode cX7_init 46 = .ok (.iconst (-1), 1) := by decide +kernel
theorem dX7_init_47 : decode cX7_init 47 = .ok (.putfield 41, 3) := by decide +kernel
theorem dX7_init_50 : decode cX7_init 50 = .ok (.aload_n 0, 1) := by decide +kernel
theorem dX7_init_51 : decode cX7_init 51 = .ok (.iconst (-1), 1) := by decide +kernel
theorem dX7_init_52 : decode cX7_init 52 = .ok (.putfield 44, 3) := by decide +kernel
theorem dX7_init_55 : decode cX7_init 55 = .ok (.return_, 1) := by decide +kernel
theorem dX7_addBytes_0 : decode cX7_addBytes 0 = .ok (.bipush 56, 2) := by decide +kernel
theorem dX7_addBytes_2 : decode cX7_addBytes 2 = .ok (.istore_n 3, 1) := by decide +kernel
theorem dX7_addBytes_3 : decode cX7_addBytes 3 = .ok (.iload_n 3, 1) := by decide +kernel
theorem dX7_addBytes_4 : decode cX7_addBytes 4 = .ok (.ifCond .lt 93, 3) := by decide +kernel
theorem dX7_addBytes_7 : decode cX7_addBytes 7 = .ok (.lload_n 1, 1) := by decide +kernel
theorem dX7_addBytes_8 : decode cX7_addBytes 8 = .ok (.iload_n 3, 1) := by decide +kernel
theorem dX7_addBytes_9 : decode cX7_addBytes 9 = .ok (.lushr, 1) := by decide +kernel
theorem dX7_addBytes_10 : decode cX7_addBytes 10 = .ok (.ldc2_w 47, 3) := by decide +kernel
theorem dX7_addBytes_13 : decode cX7_addBytes 13 = .ok (.land, 1) := by decide +kernel
theorem dX7_addBytes_14 : decode cX7_addBytes 14 = .ok (.l2i, 1) := by decide +kernel
theorem dX7_addBytes_15 : decode cX7_addBytes 15 = .ok (.istore 4, 2) := by decide +kernel
