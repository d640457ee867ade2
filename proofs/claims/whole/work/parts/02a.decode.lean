theorem dX0_init_0 : decode cX0_init 0 = .ok (.aload_n 0, 1) := by decide +kernel
theorem dX0_init_1 : decode cX0_init 1 = .ok (.invokespecial 3, 3) := by decide +kernel
theorem dX0_init_4 : decode cX0_init 4 = .ok (.aload_n 0, 1) := by decide +kernel
theorem dX0_init_5 : decode cX0_init 5 = .ok (.bipush 14, 2) := by decide +kernel
theorem dX0_init_7 : decode cX0_init 7 = .ok (.anewarray 9, 3) := by decide +kernel
theorem dX0_init_10 : decode cX0_init 10 = .ok (.putfield 11, 3) := by decide +kernel
theorem dX0_init_13 : decode cX0_init 13 = .ok (.aload_n 0, 1) := by decide +kernel
theorem dX0_init_14 : decode cX0_init 14 = .ok (.iconst 3, 1) := by decide +kernel
theorem dX0_init_15 : decode cX0_init 15 = .ok (.anewarray 17, 3) := by decide +kernel
theorem dX0_init_18 : decode cX0_init 18 = .ok (.putfield 19, 3) := by decide +kernel
theorem dX0_init_21 : decode cX0_init 21 = .ok (.aload_n 0, 1) := by decide +kernel
theorem dX0_init_22 : decode cX0_init 22 = .ok (.getstatic 23, 3) := by decide +kernel
theorem dX0_init_25 : decode cX0_init 25 = .ok (.arraylength, 1) := by decide +kernel
theorem dX0_init_26 : decode cX0_init 26 = .ok (.newarray .int, 2) := by decide +kernel
theorem dX0_init_28 : decode cX0_init 28 = .ok (.putfield 27, 3) := by decide +kernel
theorem dX0_init_31 : decode cX0_init 31 = .ok (.aload_n 0, 1) := by decide +kernel
theorem dX0_init_32 : decode cX0_init 32 = .ok (.bipush 14, 2) := by decide +kernel
theorem dX0_init_34 : decode cX0_init 34 = .ok (.newarray .int, 2) := by decide +kernel
theorem dX0_init_36 : decode cX0_init 36 = .ok (.putfield 30, 3) := by decide +kernel
theorem dX0_init_39 : decode cX0_init 39 = .ok (.aload_n 0, 1) := by decide +kernel
theorem dX0_init_40 : decode cX0_init 40 = .ok (.iconst 2, 1) := by decide +kernel
theorem dX0_init_41 : decode cX0_init 41 = .ok (.newarray .int, 2) := by decide +kernel
theorem dX0_init_43 : decode cX0_init 43 = .ok (.putfield 33, 3) := by decide +kernel
theorem dX0_init_46 : decode cX0_init 46 = .ok (.iconst 0, 1) := by decide +kernel
theorem dX0_init_47 : decode cX0_init 47 = .ok (.istore_n 1, 1) := by decide +kernel
theorem dX0_init_48 : decode cX0_init 48 = .ok (.iload_n 1, 1) := by decide +kernel
theorem dX0_init_49 : decode cX0_init 49 = .ok (.bipush 14, 2) := by decide +kernel
theorem dX0_init_51 : decode cX0_init 51 = .ok (.if_icmp .ge 22, 3) := by decide +kernel
theorem dX0_init_54 : decode cX0_init 54 = .ok (.aload_n 0, 1) := by decide +kernel
theorem dX0_init_55 : decode cX0_init 55 = .ok (.getfield 11, 3) := by decide +kernel
theorem dX0_init_58 : decode cX0_init 58 = .ok (.iload_n 1, 1) := by decide +kernel
theorem dX0_init_59 : decode cX0_init 59 = .ok (.new 9, 3) := by decide +kernel
theorem dX0_init_62 : decode cX0_init 62 = .ok (.dup, 1) := by decide +kernel
theorem dX0_init_63 : decode cX0_init 63 = .ok (.invokespecial 36, 3) := by decide +kernel
theorem dX0_init_66 : decode cX0_init 66 = .ok (.aastore, 1) := by decide +kernel
theorem dX0_init_67 : decode cX0_init 67 = .ok (.iinc 1 1, 3) := by decide +kernel
theorem dX0_init_70 : decode cX0_init 70 = .ok (.goto (-22), 3) := by decide +kernel
theorem dX0_init_73 : decode cX0_init 73 = .ok (.iconst 0, 1) := by decide +kernel
theorem dX0_init_74 : decode cX0_init 74 = .ok (.istore_n 1, 1) := by decide +kernel
theorem dX0_init_75 : decode cX0_init 75 = .ok (.iload_n 1, 1) := by decide +kernel
theorem dX0_init_76 : decode cX0_init 76 = .ok (.iconst 3, 1) := by decide +kernel
theorem dX0_init_77 : decode cX0_init 77 = .ok (.if_icmp .ge 22, 3) := by decide +kernel
theorem dX0_init_80 : decode cX0_init 80 = .ok (.aload_n 0, 1) := by decide +kernel
theorem dX0_init_81 : decode cX0_init 81 = .ok (.getfield 19, 3) := by decide +kernel
theorem dX0_init_84 : decode cX0_init 84 = .ok (.iload_n 1, 1) := by decide +kernel
theorem dX0_init_85 : decode cX0_init 85 = .ok (.new 17, 3) := by decide +kernel
theorem dX0_init_88 : decode cX0_init 88 = .ok (.dup, 1) := by decide +kernel
theorem dX0_init_89 : decode cX0_init 89 = .ok (.invokespecial 37, 3) := by decide +kernel
theorem dX0_init_92 : decode cX0_init 92 = .ok (.aastore, 1) := by decide +kernel
theorem dX0_init_93 : decode cX0_init 93 = .ok (.iinc 1 1, 3) := by decide +kernel
theorem dX0_init_96 : decode cX0_init 96 = .ok (.goto (-21), 3) := by decide +kernel
theorem dX0_init_99 : decode cX0_init 99 = .ok (.return_, 1) := by decide +kernel
theorem dX0_load_0 : decode cX0_load 0 = .ok (.aload_n 1, 1) := by decide +kernel
theorem dX0_load_1 : decode cX0_load 1 = .ok (.getfield 38, 3) := by decide +kernel
theorem dX0_load_4 : decode cX0_load 4 = .ok (.iconst 0, 1) := by decide +kernel
theorem dX0_load_5 : decode cX0_load 5 = .ok (.aload_n 0, 1) := by decide +kernel
theorem dX0_load_6 : decode cX0_load 6 = .ok (.getfield 27, 3) := by decide +kernel
theorem dX0_load_9 : decode cX0_load 9 = .ok (.iconst 0, 1) := by decide +kernel
theorem dX0_load_10 : decode cX0_load 10 = .ok (.aload_n 0, 1) := by decide +kernel
theorem dX0_load_11 : decode cX0_load 11 = .ok (.getfield 27, 3) := by decide +kernel
theorem dX0_load_14 : decode cX0_load 14 = .ok (.arraylength, 1) := by decide +kernel
theorem dX0_load_15 : decode cX0_load 15 = .ok (.invokestatic 41, 3) := by decide +kernel
theorem dX0_load_18 : decode cX0_load 18 = .ok (.aload_n 0, 1) := by decide +kernel
theorem dX0_load_19 : decode cX0_load 19 = .ok (.getfield 33, 3) := by decide +kernel
theorem dX0_load_22 : decode cX0_load 22 = .ok (.iconst 0, 1) := by decide +kernel
theorem dX0_load_23 : decode cX0_load 23 = .ok (.invokestatic 47, 3) := by decide +kernel
theorem dX0_load_26 : decode cX0_load 26 = .ok (.aload_n 0, 1) := by decide +kernel
theorem dX0_load_27 : decode cX0_load 27 = .ok (.aload_n 1, 1) := by decide +kernel
theorem dX0_load_28 : decode cX0_load 28 = .ok (.getfield 53, 3) := by decide +kernel
theorem dX0_load_31 : decode cX0_load 31 = .ok (.putfield 57, 3) := by decide +kernel
theorem dX0_load_34 : decode cX0_load 34 = .ok (.aload_n 0, 1) := by decide +kernel
theorem dX0_load_35 : decode cX0_load 35 = .ok (.aload_n 1, 1) := by decide +kernel
theorem dX0_load_36 : decode cX0_load 36 = .ok (.getfield 58, 3) := by decide +kernel
theorem dX0_load_39 : decode cX0_load 39 = .ok (.putfield 61, 3) := by decide +kernel
theorem dX0_load_42 : decode cX0_load 42 = .ok (.aload_n 0, 1) := by decide +kernel
theorem dX0_load_43 : decode cX0_load 43 = .ok (.iconst 0, 1) := by decide +kernel
theorem dX0_load_44 : decode cX0_load 44 = .ok (.putfield 62, 3) := by decide +kernel
theorem dX0_load_47 : decode cX0_load 47 = .ok (.aload_n 0, 1) := by decide +kernel
theorem dX0_load_48 : decode cX0_load 48 = .ok (.iconst 0, 1) := by decide +kernel
theorem dX0_load_49 : decode cX0_load 49 = .ok (.putfield 65, 3) := by decide +kernel
theorem dX0_load_52 : decode cX0_load 52 = .ok (.aload_n 0, 1) := by decide +kernel
theorem dX0_load_53 : decode cX0_load 53 = .ok (.iconst 0, 1) := by decide +kernel
theorem dX0_load_54 : decode cX0_load 54 = .ok (.putfield 68, 3) := by decide +kernel
theorem dX0_load_57 : decode cX0_load 57 = .ok (.aload_n 0, 1) := by decide +kernel
theorem dX0_load_58 : decode cX0_load 58 = .ok (.iconst 0, 1) := by decide +kernel
theorem dX0_load_59 : decode cX0_load 59 = .ok (.putfield 71, 3) := by decide +kernel
theorem dX0_load_62 : decode cX0_load 62 = .ok (.aload_n 0, 1) := by decide +kernel
theorem dX0_load_63 : decode cX0_load 63 = .ok (.iconst 0, 1) := by decide +kernel
theorem dX0_load_64 : decode cX0_load 64 = .ok (.putfield 74, 3) := by decide +kernel
theorem dX0_load_67 : decode cX0_load 67 = .ok (.aload_n 0, 1) := by decide +kernel
theorem dX0_load_68 : decode cX0_load 68 = .ok (.iconst 0, 1) := by decide +kernel
theorem dX0_load_69 : decode cX0_load 69 = .ok (.putfield 77, 3) := by decide +kernel
theorem dX0_load_72 : decode cX0_load 72 = .ok (.aload_n 0, 1) := by decide +kernel
theorem dX0_load_73 : decode cX0_load 73 = .ok (.iconst 0, 1) := by decide +kernel
theorem dX0_load_74 : decode cX0_load 74 = .ok (.putfield 80, 3) := by decide +kernel
theorem dX0_load_77 : decode cX0_load 77 = .ok (.aload_n 0, 1) := by decide +kernel
theorem dX0_load_78 : decode cX0_load 78 = .ok (.aload_n 1, 1) := by decide +kernel
theorem dX0_load_79 : decode cX0_load 79 = .ok (.getfield 83, 3) := by decide +kernel
theorem dX0_load_82 : decode cX0_load 82 = .ok (.aload_n 1, 1) := by decide +kernel
theorem dX0_load_83 : decode cX0_load 83 = .ok (.getfield 86, 3) := by decide +kernel
theorem dX0_load_86 : decode cX0_load 86 = .ok (.invokevirtual 89, 3) := by decide +kernel
theorem dX0_load_89 : decode cX0_load 89 = .ok (.iconst 0, 1) := by decide +kernel
theorem dX0_load_90 : decode cX0_load 90 = .ok (.istore_n 3, 1) := by decide +kernel
theorem dX0_load_91 : decode cX0_load 91 = .ok (.iload_n 3, 1) := by decide +kernel
theorem dX0_load_92 : decode cX0_load 92 = .ok (.aload_n 0, 1) := by decide +kernel
theorem dX0_load_93 : decode cX0_load 93 = .ok (.getfield 57, 3) := by decide +kernel
theorem dX0_load_96 : decode cX0_load 96 = .ok (.if_icmp .ge 42, 3) := by decide +kernel
theorem dX0_load_99 : decode cX0_load 99 = .ok (.aload_n 0, 1) := by decide +kernel
theorem dX0_load_100 : decode cX0_load 100 = .ok (.getfield 19, 3) := by decide +kernel
theorem dX0_load_103 : decode cX0_load 103 = .ok (.iload_n 3, 1) := by decide +kernel
theorem dX0_load_104 : decode cX0_load 104 = .ok (.aaload, 1) := by decide +kernel
theorem dX0_load_105 : decode cX0_load 105 = .ok (.aload_n 1, 1) := by decide +kernel
theorem dX0_load_106 : decode cX0_load 106 = .ok (.getfield 93, 3) := by decide +kernel
theorem dX0_load_109 : decode cX0_load 109 = .ok (.iconst 0, 1) := by decide +kernel
theorem dX0_load_110 : decode cX0_load 110 = .ok (.aaload, 1) := by decide +kernel
theorem dX0_load_111 : decode cX0_load 111 = .ok (.iload_n 3, 1) := by decide +kernel
theorem dX0_load_112 : decode cX0_load 112 = .ok (.iaload, 1) := by decide +kernel
theorem dX0_load_113 : decode cX0_load 113 = .ok (.aload_n 1, 1) := by decide +kernel
theorem dX0_load_114 : decode cX0_load 114 = .ok (.getfield 93, 3) := by decide +kernel
theorem dX0_load_117 : decode cX0_load 117 = .ok (.iconst 1, 1) := by decide +kernel
theorem dX0_load_118 : decode cX0_load 118 = .ok (.aaload, 1) := by decide +kernel
theorem dX0_load_119 : decode cX0_load 119 = .ok (.iload_n 3, 1) := by decide +kernel
theorem dX0_load_120 : decode cX0_load 120 = .ok (.iaload, 1) := by decide +kernel
theorem dX0_load_121 : decode cX0_load 121 = .ok (.aload_n 1, 1) := by decide +kernel
theorem dX0_load_122 : decode cX0_load 122 = .ok (.getfield 93, 3) := by decide +kernel
theorem dX0_load_125 : decode cX0_load 125 = .ok (.iconst 2, 1) := by decide +kernel
theorem dX0_load_126 : decode cX0_load 126 = .ok (.aaload, 1) := by decide +kernel
theorem dX0_load_127 : decode cX0_load 127 = .ok (.iload_n 3, 1) := by decide +kernel
theorem dX0_load_128 : decode cX0_load 128 = .ok (.iaload, 1) := by decide +kernel
theorem dX0_load_129 : decode cX0_load 129 = .ok (.invokevirtual 97, 3) := by decide +kernel
theorem dX0_load_132 : decode cX0_load 132 = .ok (.iinc 3 1, 3) := by decide +kernel
theorem dX0_load_135 : decode cX0_load 135 = .ok (.goto (-44), 3) := by decide +kernel
theorem dX0_load_138 : decode cX0_load 138 = .ok (.iconst 0, 1) := by decide +kernel
theorem dX0_load_139 : decode cX0_load 139 = .ok (.istore_n 3, 1) := by decide +kernel
theorem dX0_load_140 : decode cX0_load 140 = .ok (.iload_n 3, 1) := by decide +kernel
theorem dX0_load_141 : decode cX0_load 141 = .ok (.aload_n 0, 1) := by decide +kernel
theorem dX0_load_142 : decode cX0_load 142 = .ok (.getfield 61, 3) := by decide +kernel
theorem dX0_load_145 : decode cX0_load 145 = .ok (.if_icmp .ge 52, 3) := by decide +kernel
theorem dX0_load_148 : decode cX0_load 148 = .ok (.aload_n 0, 1) := by decide +kernel
theorem dX0_load_149 : decode cX0_load 149 = .ok (.getfield 11, 3) := by decide +kernel
theorem dX0_load_152 : decode cX0_load 152 = .ok (.iload_n 3, 1) := by decide +kernel
theorem dX0_load_153 : decode cX0_load 153 = .ok (.aaload, 1) := by decide +kernel
theorem dX0_load_154 : decode cX0_load 154 = .ok (.aload_n 1, 1) := by decide +kernel
theorem dX0_load_155 : decode cX0_load 155 = .ok (.getfield 101, 3) := by decide +kernel
theorem dX0_load_158 : decode cX0_load 158 = .ok (.iconst 0, 1) := by decide +kernel
theorem dX0_load_159 : decode cX0_load 159 = .ok (.aaload, 1) := by decide +kernel
theorem dX0_load_160 : decode cX0_load 160 = .ok (.iload_n 3, 1) := by decide +kernel
theorem dX0_load_161 : decode cX0_load 161 = .ok (.iaload, 1) := by decide +kernel
theorem dX0_load_162 : decode cX0_load 162 = .ok (.aload_n 1, 1) := by decide +kernel
theorem dX0_load_163 : decode cX0_load 163 = .ok (.getfield 101, 3) := by decide +kernel
theorem dX0_load_166 : decode cX0_load 166 = .ok (.iconst 1, 1) := by decide +kernel
theorem dX0_load_167 : decode cX0_load 167 = .ok (.aaload, 1) := by decide +kernel
theorem dX0_load_168 : decode cX0_load 168 = .ok (.iload_n 3, 1) := by decide +kernel
theorem dX0_load_169 : decode cX0_load 169 = .ok (.iaload, 1) := by decide +kernel
theorem dX0_load_170 : decode cX0_load 170 = .ok (.aload_n 1, 1) := by decide +kernel
theorem dX0_load_171 : decode cX0_load 171 = .ok (.getfield 101, 3) := by decide +kernel
theorem dX0_load_174 : decode cX0_load 174 = .ok (.iconst 2, 1) := by decide +kernel
theorem dX0_load_175 : decode cX0_load 175 = .ok (.aaload, 1) := by decide +kernel
theorem dX0_load_176 : decode cX0_load 176 = .ok (.iload_n 3, 1) := by decide +kernel
theorem dX0_load_177 : decode cX0_load 177 = .ok (.iaload, 1) := by decide +kernel
theorem dX0_load_178 : decode cX0_load 178 = .ok (.invokevirtual 104, 3) := by decide +kernel
theorem dX0_load_181 : decode cX0_load 181 = .ok (.iload_n 3, 1) := by decide +kernel
theorem dX0_load_182 : decode cX0_load 182 = .ok (.iload_n 2, 1) := by decide +kernel
theorem dX0_load_183 : decode cX0_load 183 = .ok (.if_icmp .eq 8, 3) := by decide +kernel
theorem dX0_load_186 : decode cX0_load 186 = .ok (.aload_n 0, 1) := by decide +kernel
theorem dX0_load_187 : decode cX0_load 187 = .ok (.iload_n 3, 1) := by decide +kernel
theorem dX0_load_188 : decode cX0_load 188 = .ok (.invokevirtual 105, 3) := by decide +kernel
theorem dX0_load_191 : decode cX0_load 191 = .ok (.iinc 3 1, 3) := by decide +kernel
theorem dX0_load_194 : decode cX0_load 194 = .ok (.goto (-54), 3) := by decide +kernel
theorem dX0_load_197 : decode cX0_load 197 = .ok (.return_, 1) := by decide +kernel
theorem dX0_lineUp_0 : decode cX0_lineUp 0 = .ok (.aload_n 0, 1) := by decide +kernel
theorem dX0_lineUp_1 : decode cX0_lineUp 1 = .ok (.getfield 62, 3) := by decide +kernel
theorem dX0_lineUp_4 : decode cX0_lineUp 4 = .ok (.istore_n 2, 1) := by decide +kernel
theorem dX0_lineUp_5 : decode cX0_lineUp 5 = .ok (.iload_n 2, 1) := by decide +kernel
theorem dX0_lineUp_6 : decode cX0_lineUp 6 = .ok (.ifCond .le 51, 3) := by decide +kernel
theorem dX0_lineUp_9 : decode cX0_lineUp 9 = .ok (.aload_n 0, 1) := by decide +kernel
theorem dX0_lineUp_10 : decode cX0_lineUp 10 = .ok (.getfield 11, 3) := by decide +kernel
theorem dX0_lineUp_13 : decode cX0_lineUp 13 = .ok (.aload_n 0, 1) := by decide +kernel
theorem dX0_lineUp_14 : decode cX0_lineUp 14 = .ok (.getfield 30, 3) := by decide +kernel
theorem dX0_lineUp_17 : decode cX0_lineUp 17 = .ok (.iload_n 2, 1) := by decide +kernel
theorem dX0_lineUp_18 : decode cX0_lineUp 18 = .ok (.iconst 1, 1) := by decide +kernel
theorem dX0_lineUp_19 : decode cX0_lineUp 19 = .ok (.isub, 1) := by decide +kernel
theorem dX0_lineUp_20 : decode cX0_lineUp 20 = .ok (.iaload, 1) := by decide +kernel
theorem dX0_lineUp_21 : decode cX0_lineUp 21 = .ok (.aaload, 1) := by decide +kernel
theorem dX0_lineUp_22 : decode cX0_lineUp 22 = .ok (.getfield 109, 3) := by decide +kernel
theorem dX0_lineUp_25 : decode cX0_lineUp 25 = .ok (.aload_n 0, 1) := by decide +kernel
theorem dX0_lineUp_26 : decode cX0_lineUp 26 = .ok (.getfield 11, 3) := by decide +kernel
theorem dX0_lineUp_29 : decode cX0_lineUp 29 = .ok (.iload_n 1, 1) := by decide +kernel
theorem dX0_lineUp_30 : decode cX0_lineUp 30 = .ok (.aaload, 1) := by decide +kernel
theorem dX0_lineUp_31 : decode cX0_lineUp 31 = .ok (.getfield 109, 3) := by decide +kernel
theorem dX0_lineUp_34 : decode cX0_lineUp 34 = .ok (.if_icmp .le 23, 3) := by decide +kernel
theorem dX0_lineUp_37 : decode cX0_lineUp 37 = .ok (.aload_n 0, 1) := by decide +kernel
theorem dX0_lineUp_38 : decode cX0_lineUp 38 = .ok (.getfield 30, 3) := by decide +kernel
theorem dX0_lineUp_41 : decode cX0_lineUp 41 = .ok (.iload_n 2, 1) := by decide +kernel
theorem dX0_lineUp_42 : decode cX0_lineUp 42 = .ok (.aload_n 0, 1) := by decide +kernel
theorem dX0_lineUp_43 : decode cX0_lineUp 43 = .ok (.getfield 30, 3) := by decide +kernel
theorem dX0_lineUp_46 : decode cX0_lineUp 46 = .ok (.iload_n 2, 1) := by decide +kernel
theorem dX0_lineUp_47 : decode cX0_lineUp 47 = .ok (.iconst 1, 1) := by decide +kernel
theorem dX0_lineUp_48 : decode cX0_lineUp 48 = .ok (.isub, 1) := by decide +kernel
theorem dX0_lineUp_49 : decode cX0_lineUp 49 = .ok (.iaload, 1) := by decide +kernel
theorem dX0_lineUp_50 : decode cX0_lineUp 50 = .ok (.iastore, 1) := by decide +kernel
theorem dX0_lineUp_51 : decode cX0_lineUp 51 = .ok (.iinc 2 (-1), 3) := by decide +kernel
theorem dX0_lineUp_54 : decode cX0_lineUp 54 = .ok (.goto (-49), 3) := by decide +kernel
theorem dX0_lineUp_57 : decode cX0_lineUp 57 = .ok (.aload_n 0, 1) := by decide +kernel
theorem dX0_lineUp_58 : decode cX0_lineUp 58 = .ok (.getfield 30, 3) := by decide +kernel
theorem dX0_lineUp_61 : decode cX0_lineUp 61 = .ok (.iload_n 2, 1) := by decide +kernel
theorem dX0_lineUp_62 : decode cX0_lineUp 62 = .ok (.iload_n 1, 1) := by decide +kernel
theorem dX0_lineUp_63 : decode cX0_lineUp 63 = .ok (.iastore, 1) := by decide +kernel
theorem dX0_lineUp_64 : decode cX0_lineUp 64 = .ok (.aload_n 0, 1) := by decide +kernel
theorem dX0_lineUp_65 : decode cX0_lineUp 65 = .ok (.dup, 1) := by decide +kernel
theorem dX0_lineUp_66 : decode cX0_lineUp 66 = .ok (.getfield 62, 3) := by decide +kernel
theorem dX0_lineUp_69 : decode cX0_lineUp 69 = .ok (.iconst 1, 1) := by decide +kernel
theorem dX0_lineUp_70 : decode cX0_lineUp 70 = .ok (.iadd, 1) := by decide +kernel
theorem dX0_lineUp_71 : decode cX0_lineUp 71 = .ok (.putfield 62, 3) := by decide +kernel
theorem dX0_lineUp_74 : decode cX0_lineUp 74 = .ok (.return_, 1) := by decide +kernel
theorem dX0_copyFrom_0 : decode cX0_copyFrom 0 = .ok (.aload_n 1, 1) := by decide +kernel
theorem dX0_copyFrom_1 : decode cX0_copyFrom 1 = .ok (.getfield 27, 3) := by decide +kernel
theorem dX0_copyFrom_4 : decode cX0_copyFrom 4 = .ok (.iconst 0, 1) := by decide +kernel
theorem dX0_copyFrom_5 : decode cX0_copyFrom 5 = .ok (.aload_n 0, 1) := by decide +kernel
theorem dX0_copyFrom_6 : decode cX0_copyFrom 6 = .ok (.getfield 27, 3) := by decide +kernel
theorem dX0_copyFrom_9 : decode cX0_copyFrom 9 = .ok (.iconst 0, 1) := by decide +kernel
theorem dX0_copyFrom_10 : decode cX0_copyFrom 10 = .ok (.aload_n 0, 1) := by decide +kernel
theorem dX0_copyFrom_11 : decode cX0_copyFrom 11 = .ok (.getfield 27, 3) := by decide +kernel
theorem dX0_copyFrom_14 : decode cX0_copyFrom 14 = .ok (.arraylength, 1) := by decide +kernel
theorem dX0_copyFrom_15 : decode cX0_copyFrom 15 = .ok (.invokestatic 41, 3) := by decide +kernel
theorem dX0_copyFrom_18 : decode cX0_copyFrom 18 = .ok (.aload_n 1, 1) := by decide +kernel
theorem dX0_copyFrom_19 : decode cX0_copyFrom 19 = .ok (.getfield 30, 3) := by decide +kernel
theorem dX0_copyFrom_22 : decode cX0_copyFrom 22 = .ok (.iconst 0, 1) := by decide +kernel
theorem dX0_copyFrom_23 : decode cX0_copyFrom 23 = .ok (.aload_n 0, 1) := by decide +kernel
theorem dX0_copyFrom_24 : decode cX0_copyFrom 24 = .ok (.getfield 30, 3) := by decide +kernel
theorem dX0_copyFrom_27 : decode cX0_copyFrom 27 = .ok (.iconst 0, 1) := by decide +kernel
theorem dX0_copyFrom_28 : decode cX0_copyFrom 28 = .ok (.aload_n 0, 1) := by decide +kernel
theorem dX0_copyFrom_29 : decode cX0_copyFrom 29 = .ok (.getfield 30, 3) := by decide +kernel
theorem dX0_copyFrom_32 : decode cX0_copyFrom 32 = .ok (.arraylength, 1) := by decide +kernel
theorem dX0_copyFrom_33 : decode cX0_copyFrom 33 = .ok (.invokestatic 41, 3) := by decide +kernel
theorem dX0_copyFrom_36 : decode cX0_copyFrom 36 = .ok (.aload_n 1, 1) := by decide +kernel
theorem dX0_copyFrom_37 : decode cX0_copyFrom 37 = .ok (.getfield 33, 3) := by decide +kernel
theorem dX0_copyFrom_40 : decode cX0_copyFrom 40 = .ok (.iconst 0, 1) := by decide +kernel
theorem dX0_copyFrom_41 : decode cX0_copyFrom 41 = .ok (.aload_n 0, 1) := by decide +kernel
theorem dX0_copyFrom_42 : decode cX0_copyFrom 42 = .ok (.getfield 33, 3) := by decide +kernel
theorem dX0_copyFrom_45 : decode cX0_copyFrom 45 = .ok (.iconst 0, 1) := by decide +kernel
theorem dX0_copyFrom_46 : decode cX0_copyFrom 46 = .ok (.aload_n 0, 1) := by decide +kernel
theorem dX0_copyFrom_47 : decode cX0_copyFrom 47 = .ok (.getfield 33, 3) := by decide +kernel
theorem dX0_copyFrom_50 : decode cX0_copyFrom 50 = .ok (.arraylength, 1) := by decide +kernel
theorem dX0_copyFrom_51 : decode cX0_copyFrom 51 = .ok (.invokestatic 41, 3) := by decide +kernel
theorem dX0_copyFrom_54 : decode cX0_copyFrom 54 = .ok (.aload_n 0, 1) := by decide +kernel
theorem dX0_copyFrom_55 : decode cX0_copyFrom 55 = .ok (.aload_n 1, 1) := by decide +kernel
theorem dX0_copyFrom_56 : decode cX0_copyFrom 56 = .ok (.getfield 57, 3) := by decide +kernel
theorem dX0_copyFrom_59 : decode cX0_copyFrom 59 = .ok (.putfield 57, 3) := by decide +kernel
theorem dX0_copyFrom_62 : decode cX0_copyFrom 62 = .ok (.aload_n 0, 1) := by decide +kernel
theorem dX0_copyFrom_63 : decode cX0_copyFrom 63 = .ok (.aload_n 1, 1) := by decide +kernel
theorem dX0_copyFrom_64 : decode cX0_copyFrom 64 = .ok (.getfield 61, 3) := by decide +kernel
theorem dX0_copyFrom_67 : decode cX0_copyFrom 67 = .ok (.putfield 61, 3) := by decide +kernel
theorem dX0_copyFrom_70 : decode cX0_copyFrom 70 = .ok (.aload_n 0, 1) := by decide +kernel
theorem dX0_copyFrom_71 : decode cX0_copyFrom 71 = .ok (.aload_n 1, 1) := by decide +kernel
theorem dX0_copyFrom_72 : decode cX0_copyFrom 72 = .ok (.getfield 62, 3) := by decide +kernel
theorem dX0_copyFrom_75 : decode cX0_copyFrom 75 = .ok (.putfield 62, 3) := by decide +kernel
theorem dX0_copyFrom_78 : decode cX0_copyFrom 78 = .ok (.aload_n 0, 1) := by decide +kernel
theorem dX0_copyFrom_79 : decode cX0_copyFrom 79 = .ok (.aload_n 1, 1) := by decide +kernel
theorem dX0_copyFrom_80 : decode cX0_copyFrom 80 = .ok (.getfield 65, 3) := by decide +kernel
theorem dX0_copyFrom_83 : decode cX0_copyFrom 83 = .ok (.putfield 65, 3) := by decide +kernel
theorem dX0_copyFrom_86 : decode cX0_copyFrom 86 = .ok (.aload_n 0, 1) := by decide +kernel
theorem dX0_copyFrom_87 : decode cX0_copyFrom 87 = .ok (.aload_n 1, 1) := by decide +kernel
theorem dX0_copyFrom_88 : decode cX0_copyFrom 88 = .ok (.getfield 68, 3) := by decide +kernel
theorem dX0_copyFrom_91 : decode cX0_copyFrom 91 = .ok (.putfield 68, 3) := by decide +kernel
theorem dX0_copyFrom_94 : decode cX0_copyFrom 94 = .ok (.aload_n 0, 1) := by decide +kernel
theorem dX0_copyFrom_95 : decode cX0_copyFrom 95 = .ok (.aload_n 1, 1) := by decide +kernel
theorem dX0_copyFrom_96 : decode cX0_copyFrom 96 = .ok (.getfield 112, 3) := by decide +kernel
theorem dX0_copyFrom_99 : decode cX0_copyFrom 99 = .ok (.putfield 112, 3) := by decide +kernel
theorem dX0_copyFrom_102 : decode cX0_copyFrom 102 = .ok (.aload_n 0, 1) := by decide +kernel
theorem dX0_copyFrom_103 : decode cX0_copyFrom 103 = .ok (.aload_n 1, 1) := by decide +kernel
theorem dX0_copyFrom_104 : decode cX0_copyFrom 104 = .ok (.getfield 115, 3) := by decide +kernel
theorem dX0_copyFrom_107 : decode cX0_copyFrom 107 = .ok (.putfield 115, 3) := by decide +kernel
theorem dX0_copyFrom_110 : decode cX0_copyFrom 110 = .ok (.aload_n 0, 1) := by decide +kernel
theorem dX0_copyFrom_111 : decode cX0_copyFrom 111 = .ok (.aload_n 1, 1) := by decide +kernel
theorem dX0_copyFrom_112 : decode cX0_copyFrom 112 = .ok (.getfield 71, 3) := by decide +kernel
theorem dX0_copyFrom_115 : decode cX0_copyFrom 115 = .ok (.putfield 71, 3) := by decide +kernel
theorem dX0_copyFrom_118 : decode cX0_copyFrom 118 = .ok (.aload_n 0, 1) := by decide +kernel
theorem dX0_copyFrom_119 : decode cX0_copyFrom 119 = .ok (.aload_n 1, 1) := by decide +kernel
theorem dX0_copyFrom_120 : decode cX0_copyFrom 120 = .ok (.getfield 74, 3) := by decide +kernel
theorem dX0_copyFrom_123 : decode cX0_copyFrom 123 = .ok (.putfield 74, 3) := by decide +kernel
theorem dX0_copyFrom_126 : decode cX0_copyFrom 126 = .ok (.aload_n 0, 1) := by decide +kernel
theorem dX0_copyFrom_127 : decode cX0_copyFrom 127 = .ok (.aload_n 1, 1) := by decide +kernel
theorem dX0_copyFrom_128 : decode cX0_copyFrom 128 = .ok (.getfield 77, 3) := by decide +kernel
theorem dX0_copyFrom_131 : decode cX0_copyFrom 131 = .ok (.putfield 77, 3) := by decide +kernel
theorem dX0_copyFrom_134 : decode cX0_copyFrom 134 = .ok (.aload_n 0, 1) := by decide +kernel
theorem dX0_copyFrom_135 : decode cX0_copyFrom 135 = .ok (.aload_n 1, 1) := by decide +kernel
theorem dX0_copyFrom_136 : decode cX0_copyFrom 136 = .ok (.getfield 80, 3) := by decide +kernel
theorem dX0_copyFrom_139 : decode cX0_copyFrom 139 = .ok (.putfield 80, 3) := by decide +kernel
theorem dX0_copyFrom_142 : decode cX0_copyFrom 142 = .ok (.iconst 0, 1) := by decide +kernel
theorem dX0_copyFrom_143 : decode cX0_copyFrom 143 = .ok (.istore_n 2, 1) := by decide +kernel
theorem dX0_copyFrom_144 : decode cX0_copyFrom 144 = .ok (.iload_n 2, 1) := by decide +kernel
theorem dX0_copyFrom_145 : decode cX0_copyFrom 145 = .ok (.aload_n 0, 1) := by decide +kernel
theorem dX0_copyFrom_146 : decode cX0_copyFrom 146 = .ok (.getfield 57, 3) := by decide +kernel
theorem dX0_copyFrom_149 : decode cX0_copyFrom 149 = .ok (.if_icmp .ge 24, 3) := by decide +kernel
theorem dX0_copyFrom_152 : decode cX0_copyFrom 152 = .ok (.aload_n 0, 1) := by decide +kernel
theorem dX0_copyFrom_153 : decode cX0_copyFrom 153 = .ok (.getfield 19, 3) := by decide +kernel
theorem dX0_copyFrom_156 : decode cX0_copyFrom 156 = .ok (.iload_n 2, 1) := by decide +kernel
theorem dX0_copyFrom_157 : decode cX0_copyFrom 157 = .ok (.aaload, 1) := by decide +kernel
theorem dX0_copyFrom_158 : decode cX0_copyFrom 158 = .ok (.aload_n 1, 1) := by decide +kernel
theorem dX0_copyFrom_159 : decode cX0_copyFrom 159 = .ok (.getfield 19, 3) := by decide +kernel
theorem dX0_copyFrom_162 : decode cX0_copyFrom 162 = .ok (.iload_n 2, 1) := by decide +kernel
theorem dX0_copyFrom_163 : decode cX0_copyFrom 163 = .ok (.aaload, 1) := by decide +kernel
theorem dX0_copyFrom_164 : decode cX0_copyFrom 164 = .ok (.invokevirtual 118, 3) := by decide +kernel
theorem dX0_copyFrom_167 : decode cX0_copyFrom 167 = .ok (.iinc 2 1, 3) := by decide +kernel
theorem dX0_copyFrom_170 : decode cX0_copyFrom 170 = .ok (.goto (-26), 3) := by decide +kernel
theorem dX0_copyFrom_173 : decode cX0_copyFrom 173 = .ok (.iconst 0, 1) := by decide +kernel
theorem dX0_copyFrom_174 : decode cX0_copyFrom 174 = .ok (.istore_n 2, 1) := by decide +kernel
theorem dX0_copyFrom_175 : decode cX0_copyFrom 175 = .ok (.iload_n 2, 1) := by decide +kernel
theorem dX0_copyFrom_176 : decode cX0_copyFrom 176 = .ok (.aload_n 0, 1) := by decide +kernel
theorem dX0_copyFrom_177 : decode cX0_copyFrom 177 = .ok (.getfield 61, 3) := by decide +kernel
theorem dX0_copyFrom_180 : decode cX0_copyFrom 180 = .ok (.if_icmp .ge 24, 3) := by decide +kernel
theorem dX0_copyFrom_183 : decode cX0_copyFrom 183 = .ok (.aload_n 0, 1) := by decide +kernel
theorem dX0_copyFrom_184 : decode cX0_copyFrom 184 = .ok (.getfield 11, 3) := by decide +kernel
theorem dX0_copyFrom_187 : decode cX0_copyFrom 187 = .ok (.iload_n 2, 1) := by decide +kernel
theorem dX0_copyFrom_188 : decode cX0_copyFrom 188 = .ok (.aaload, 1) := by decide +kernel
theorem dX0_copyFrom_189 : decode cX0_copyFrom 189 = .ok (.aload_n 1, 1) := by decide +kernel
theorem dX0_copyFrom_190 : decode cX0_copyFrom 190 = .ok (.getfield 11, 3) := by decide +kernel
theorem dX0_copyFrom_193 : decode cX0_copyFrom 193 = .ok (.iload_n 2, 1) := by decide +kernel
theorem dX0_copyFrom_194 : decode cX0_copyFrom 194 = .ok (.aaload, 1) := by decide +kernel
theorem dX0_copyFrom_195 : decode cX0_copyFrom 195 = .ok (.invokevirtual 122, 3) := by decide +kernel
theorem dX0_copyFrom_198 : decode cX0_copyFrom 198 = .ok (.iinc 2 1, 3) := by decide +kernel
theorem dX0_copyFrom_201 : decode cX0_copyFrom 201 = .ok (.goto (-26), 3) := by decide +kernel
theorem dX0_copyFrom_204 : decode cX0_copyFrom 204 = .ok (.return_, 1) := by decide +kernel
theorem dX0_loadAllDay_0 : decode cX0_loadAllDay 0 = .ok (.aload_n 0, 1) := by decide +kernel
theorem dX0_loadAllDay_1 : decode cX0_loadAllDay 1 = .ok (.aload_n 1, 1) := by decide +kernel
theorem dX0_loadAllDay_2 : decode cX0_loadAllDay 2 = .ok (.iconst (-1), 1) := by decide +kernel
theorem dX0_loadAllDay_3 : decode cX0_loadAllDay 3 = .ok (.invokevirtual 125, 3) := by decide +kernel
theorem dX0_loadAllDay_6 : decode cX0_loadAllDay 6 = .ok (.aload_n 0, 1) := by decide +kernel
theorem dX0_loadAllDay_7 : decode cX0_loadAllDay 7 = .ok (.iconst 0, 1) := by decide +kernel
theorem dX0_loadAllDay_8 : decode cX0_loadAllDay 8 = .ok (.iconst 0, 1) := by decide +kernel
theorem dX0_loadAllDay_9 : decode cX0_loadAllDay 9 = .ok (.invokevirtual 89, 3) := by decide +kernel
theorem dX0_loadAllDay_12 : decode cX0_loadAllDay 12 = .ok (.iconst 0, 1) := by decide +kernel
theorem dX0_loadAllDay_13 : decode cX0_loadAllDay 13 = .ok (.istore_n 3, 1) := by decide +kernel
theorem dX0_loadAllDay_14 : decode cX0_loadAllDay 14 = .ok (.iload_n 3, 1) := by decide +kernel
theorem dX0_loadAllDay_15 : decode cX0_loadAllDay 15 = .ok (.aload_n 0, 1) := by decide +kernel
theorem dX0_loadAllDay_16 : decode cX0_loadAllDay 16 = .ok (.getfield 57, 3) := by decide +kernel
theorem dX0_loadAllDay_19 : decode cX0_loadAllDay 19 = .ok (.if_icmp .ge 23, 3) := by decide +kernel
theorem dX0_loadAllDay_22 : decode cX0_loadAllDay 22 = .ok (.aload_n 0, 1) := by decide +kernel
theorem dX0_loadAllDay_23 : decode cX0_loadAllDay 23 = .ok (.getfield 19, 3) := by decide +kernel
theorem dX0_loadAllDay_26 : decode cX0_loadAllDay 26 = .ok (.iload_n 3, 1) := by decide +kernel
theorem dX0_loadAllDay_27 : decode cX0_loadAllDay 27 = .ok (.aaload, 1) := by decide +kernel
theorem dX0_loadAllDay_28 : decode cX0_loadAllDay 28 = .ok (.iload_n 2, 1) := by decide +kernel
theorem dX0_loadAllDay_29 : decode cX0_loadAllDay 29 = .ok (.iload_n 3, 1) := by decide +kernel
theorem dX0_loadAllDay_30 : decode cX0_loadAllDay 30 = .ok (.invokestatic 129, 3) := by decide +kernel
theorem dX0_loadAllDay_33 : decode cX0_loadAllDay 33 = .ok (.putfield 133, 3) := by decide +kernel
theorem dX0_loadAllDay_36 : decode cX0_loadAllDay 36 = .ok (.iinc 3 1, 3) := by decide +kernel
theorem dX0_loadAllDay_39 : decode cX0_loadAllDay 39 = .ok (.goto (-25), 3) := by decide +kernel
theorem dX0_loadAllDay_42 : decode cX0_loadAllDay 42 = .ok (.return_, 1) := by decide +kernel
theorem dX0_setPaces_0 : decode cX0_setPaces 0 = .ok (.iconst 0, 1) := by decide +kernel
theorem dX0_setPaces_1 : decode cX0_setPaces 1 = .ok (.istore_n 2, 1) := by decide +kernel
theorem dX0_setPaces_2 : decode cX0_setPaces 2 = .ok (.iload_n 2, 1) := by decide +kernel
theorem dX0_setPaces_3 : decode cX0_setPaces 3 = .ok (.aload_n 0, 1) := by decide +kernel
theorem dX0_setPaces_4 : decode cX0_setPaces 4 = .ok (.getfield 57, 3) := by decide +kernel
theorem dX0_setPaces_7 : decode cX0_setPaces 7 = .ok (.if_icmp .ge 25, 3) := by decide +kernel
theorem dX0_setPaces_10 : decode cX0_setPaces 10 = .ok (.aload_n 0, 1) := by decide +kernel
theorem dX0_setPaces_11 : decode cX0_setPaces 11 = .ok (.getfield 19, 3) := by decide +kernel
theorem dX0_setPaces_14 : decode cX0_setPaces 14 = .ok (.iload_n 2, 1) := by decide +kernel
theorem dX0_setPaces_15 : decode cX0_setPaces 15 = .ok (.aaload, 1) := by decide +kernel
theorem dX0_setPaces_16 : decode cX0_setPaces 16 = .ok (.iconst 1, 1) := by decide +kernel
theorem dX0_setPaces_17 : decode cX0_setPaces 17 = .ok (.iload_n 1, 1) := by decide +kernel
theorem dX0_setPaces_18 : decode cX0_setPaces 18 = .ok (.iload_n 2, 1) := by decide +kernel
theorem dX0_setPaces_19 : decode cX0_setPaces 19 = .ok (.ishr, 1) := by decide +kernel
theorem dX0_setPaces_20 : decode cX0_setPaces 20 = .ok (.iconst 1, 1) := by decide +kernel
theorem dX0_setPaces_21 : decode cX0_setPaces 21 = .ok (.iand, 1) := by decide +kernel
theorem dX0_setPaces_22 : decode cX0_setPaces 22 = .ok (.iadd, 1) := by decide +kernel
theorem dX0_setPaces_23 : decode cX0_setPaces 23 = .ok (.putfield 136, 3) := by decide +kernel
theorem dX0_setPaces_26 : decode cX0_setPaces 26 = .ok (.iinc 2 1, 3) := by decide +kernel
theorem dX0_setPaces_29 : decode cX0_setPaces 29 = .ok (.goto (-27), 3) := by decide +kernel
theorem dX0_setPaces_32 : decode cX0_setPaces 32 = .ok (.return_, 1) := by decide +kernel
theorem dX0_turnAt_0 : decode cX0_turnAt 0 = .ok (.aload_n 0, 1) := by decide +kernel
theorem dX0_turnAt_1 : decode cX0_turnAt 1 = .ok (.iload_n 1, 1) := by decide +kernel
theorem dX0_turnAt_2 : decode cX0_turnAt 2 = .ok (.putfield 112, 3) := by decide +kernel
theorem dX0_turnAt_5 : decode cX0_turnAt 5 = .ok (.aload_n 0, 1) := by decide +kernel
theorem dX0_turnAt_6 : decode cX0_turnAt 6 = .ok (.iload_n 2, 1) := by decide +kernel
theorem dX0_turnAt_7 : decode cX0_turnAt 7 = .ok (.putfield 115, 3) := by decide +kernel
theorem dX0_turnAt_10 : decode cX0_turnAt 10 = .ok (.return_, 1) := by decide +kernel
theorem dX0_keepStanding_0 : decode cX0_keepStanding 0 = .ok (.iload_n 1, 1) := by decide +kernel
theorem dX0_keepStanding_1 : decode cX0_keepStanding 1 = .ok (.iconst 0, 1) := by decide +kernel
theorem dX0_keepStanding_2 : decode cX0_keepStanding 2 = .ok (.aload_n 0, 1) := by decide +kernel
theorem dX0_keepStanding_3 : decode cX0_keepStanding 3 = .ok (.getfield 57, 3) := by decide +kernel
theorem dX0_keepStanding_6 : decode cX0_keepStanding 6 = .ok (.iconst 1, 1) := by decide +kernel
theorem dX0_keepStanding_7 : decode cX0_keepStanding 7 = .ok (.isub, 1) := by decide +kernel
theorem dX0_keepStanding_8 : decode cX0_keepStanding 8 = .ok (.invokestatic 139, 3) := by decide +kernel
theorem dX0_keepStanding_11 : decode cX0_keepStanding 11 = .ok (.ifCond .eq 36, 3) := by decide +kernel
theorem dX0_keepStanding_14 : decode cX0_keepStanding 14 = .ok (.aload_n 0, 1) := by decide +kernel
theorem dX0_keepStanding_15 : decode cX0_keepStanding 15 = .ok (.getfield 19, 3) := by decide +kernel
theorem dX0_keepStanding_18 : decode cX0_keepStanding 18 = .ok (.iload_n 1, 1) := by decide +kernel
theorem dX0_keepStanding_19 : decode cX0_keepStanding 19 = .ok (.aaload, 1) := by decide +kernel
theorem dX0_keepStanding_20 : decode cX0_keepStanding 20 = .ok (.iconst 0, 1) := by decide +kernel
theorem dX0_keepStanding_21 : decode cX0_keepStanding 21 = .ok (.putfield 133, 3) := by decide +kernel
theorem dX0_keepStanding_24 : decode cX0_keepStanding 24 = .ok (.aload_n 0, 1) := by decide +kernel
theorem dX0_keepStanding_25 : decode cX0_keepStanding 25 = .ok (.dup, 1) := by decide +kernel
theorem dX0_keepStanding_26 : decode cX0_keepStanding 26 = .ok (.getfield 115, 3) := by decide +kernel
theorem dX0_keepStanding_29 : decode cX0_keepStanding 29 = .ok (.aload_n 0, 1) := by decide +kernel
theorem dX0_keepStanding_30 : decode cX0_keepStanding 30 = .ok (.getfield 115, 3) := by decide +kernel
theorem dX0_keepStanding_33 : decode cX0_keepStanding 33 = .ok (.iload_n 1, 1) := by decide +kernel
theorem dX0_keepStanding_34 : decode cX0_keepStanding 34 = .ok (.invokestatic 129, 3) := by decide +kernel
theorem dX0_keepStanding_37 : decode cX0_keepStanding 37 = .ok (.getstatic 143, 3) := by decide +kernel
theorem dX0_keepStanding_40 : decode cX0_keepStanding 40 = .ok (.iload_n 1, 1) := by decide +kernel
theorem dX0_keepStanding_41 : decode cX0_keepStanding 41 = .ok (.iaload, 1) := by decide +kernel
theorem dX0_keepStanding_42 : decode cX0_keepStanding 42 = .ok (.imul, 1) := by decide +kernel
theorem dX0_keepStanding_43 : decode cX0_keepStanding 43 = .ok (.isub, 1) := by decide +kernel
theorem dX0_keepStanding_44 : decode cX0_keepStanding 44 = .ok (.putfield 115, 3) := by decide +kernel
theorem dX0_keepStanding_47 : decode cX0_keepStanding 47 = .ok (.return_, 1) := by decide +kernel
theorem dX0_run_0 : decode cX0_run 0 = .ok (.iload_n 1, 1) := by decide +kernel
theorem dX0_run_1 : decode cX0_run 1 = .ok (.istore_n 3, 1) := by decide +kernel
theorem dX0_run_2 : decode cX0_run 2 = .ok (.iload_n 3, 1) := by decide +kernel
theorem dX0_run_3 : decode cX0_run 3 = .ok (.iload_n 2, 1) := by decide +kernel
theorem dX0_run_4 : decode cX0_run 4 = .ok (.if_icmp .gt 14, 3) := by decide +kernel
theorem dX0_run_7 : decode cX0_run 7 = .ok (.aload_n 0, 1) := by decide +kernel
theorem dX0_run_8 : decode cX0_run 8 = .ok (.iload_n 3, 1) := by decide +kernel
theorem dX0_run_9 : decode cX0_run 9 = .ok (.invokevirtual 146, 3) := by decide +kernel
theorem dX0_run_12 : decode cX0_run 12 = .ok (.iinc 3 1, 3) := by decide +kernel
theorem dX0_run_15 : decode cX0_run 15 = .ok (.goto (-13), 3) := by decide +kernel
theorem dX0_run_18 : decode cX0_run 18 = .ok (.return_, 1) := by decide +kernel
theorem dX0_runWaits_0 : decode cX0_runWaits 0 = .ok (.iconst 1, 1) := by decide +kernel
theorem dX0_runWaits_1 : decode cX0_runWaits 1 = .ok (.istore_n 3, 1) := by decide +kernel
theorem dX0_runWaits_2 : decode cX0_runWaits 2 = .ok (.iload_n 1, 1) := by decide +kernel
theorem dX0_runWaits_3 : decode cX0_runWaits 3 = .ok (.istore 4, 2) := by decide +kernel
theorem dX0_runWaits_5 : decode cX0_runWaits 5 = .ok (.iload 4, 2) := by decide +kernel
theorem dX0_runWaits_7 : decode cX0_runWaits 7 = .ok (.bipush 99, 2) := by decide +kernel
theorem dX0_runWaits_9 : decode cX0_runWaits 9 = .ok (.if_icmp .gt 51, 3) := by decide +kernel
theorem dX0_runWaits_12 : decode cX0_runWaits 12 = .ok (.iload_n 3, 1) := by decide +kernel
theorem dX0_runWaits_13 : decode cX0_runWaits 13 = .ok (.ifCond .eq 47, 3) := by decide +kernel
theorem dX0_runWaits_16 : decode cX0_runWaits 16 = .ok (.aload_n 0, 1) := by decide +kernel
theorem dX0_runWaits_17 : decode cX0_runWaits 17 = .ok (.iload 4, 2) := by decide +kernel
theorem dX0_runWaits_19 : decode cX0_runWaits 19 = .ok (.invokevirtual 146, 3) := by decide +kernel
theorem dX0_runWaits_22 : decode cX0_runWaits 22 = .ok (.aload_n 0, 1) := by decide +kernel
theorem dX0_runWaits_23 : decode cX0_runWaits 23 = .ok (.getfield 71, 3) := by decide +kernel
theorem dX0_runWaits_26 : decode cX0_runWaits 26 = .ok (.iload_n 2, 1) := by decide +kernel
theorem dX0_runWaits_27 : decode cX0_runWaits 27 = .ok (.if_icmp .ge 25, 3) := by decide +kernel
theorem dX0_runWaits_30 : decode cX0_runWaits 30 = .ok (.aload_n 0, 1) := by decide +kernel
theorem dX0_runWaits_31 : decode cX0_runWaits 31 = .ok (.getfield 68, 3) := by decide +kernel
theorem dX0_runWaits_34 : decode cX0_runWaits 34 = .ok (.ifCond .gt 14, 3) := by decide +kernel
theorem dX0_runWaits_37 : decode cX0_runWaits 37 = .ok (.aload_n 0, 1) := by decide +kernel
theorem dX0_runWaits_38 : decode cX0_runWaits 38 = .ok (.getfield 65, 3) := by decide +kernel
theorem dX0_runWaits_41 : decode cX0_runWaits 41 = .ok (.aload_n 0, 1) := by decide +kernel
theorem dX0_runWaits_42 : decode cX0_runWaits 42 = .ok (.getfield 62, 3) := by decide +kernel
theorem dX0_runWaits_45 : decode cX0_runWaits 45 = .ok (.if_icmp .ge 7, 3) := by decide +kernel
theorem dX0_runWaits_48 : decode cX0_runWaits 48 = .ok (.iconst 1, 1) := by decide +kernel
theorem dX0_runWaits_49 : decode cX0_runWaits 49 = .ok (.goto 4, 3) := by decide +kernel
theorem dX0_runWaits_52 : decode cX0_runWaits 52 = .ok (.iconst 0, 1) := by decide +kernel
theorem dX0_runWaits_53 : decode cX0_runWaits 53 = .ok (.istore_n 3, 1) := by decide +kernel
theorem dX0_runWaits_54 : decode cX0_runWaits 54 = .ok (.iinc 4 1, 3) := by decide +kernel
theorem dX0_runWaits_57 : decode cX0_runWaits 57 = .ok (.goto (-52), 3) := by decide +kernel
theorem dX0_runWaits_60 : decode cX0_runWaits 60 = .ok (.return_, 1) := by decide +kernel
theorem dX0_passTick_0 : decode cX0_passTick 0 = .ok (.aload_n 0, 1) := by decide +kernel
theorem dX0_passTick_1 : decode cX0_passTick 1 = .ok (.iload_n 1, 1) := by decide +kernel
theorem dX0_passTick_2 : decode cX0_passTick 2 = .ok (.invokevirtual 149, 3) := by decide +kernel
theorem dX0_passTick_5 : decode cX0_passTick 5 = .ok (.aload_n 0, 1) := by decide +kernel
theorem dX0_passTick_6 : decode cX0_passTick 6 = .ok (.getfield 112, 3) := by decide +kernel
theorem dX0_passTick_9 : decode cX0_passTick 9 = .ok (.ifCond .le 16, 3) := by decide +kernel
theorem dX0_passTick_12 : decode cX0_passTick 12 = .ok (.iload_n 1, 1) := by decide +kernel
theorem dX0_passTick_13 : decode cX0_passTick 13 = .ok (.aload_n 0, 1) := by decide +kernel
theorem dX0_passTick_14 : decode cX0_passTick 14 = .ok (.getfield 112, 3) := by decide +kernel
theorem dX0_passTick_17 : decode cX0_passTick 17 = .ok (.if_icmp .ne 8, 3) := by decide +kernel
theorem dX0_passTick_20 : decode cX0_passTick 20 = .ok (.aload_n 0, 1) := by decide +kernel
theorem dX0_passTick_21 : decode cX0_passTick 21 = .ok (.iload_n 1, 1) := by decide +kernel
theorem dX0_passTick_22 : decode cX0_passTick 22 = .ok (.invokevirtual 152, 3) := by decide +kernel
theorem dX0_passTick_25 : decode cX0_passTick 25 = .ok (.iconst 0, 1) := by decide +kernel
theorem dX0_passTick_26 : decode cX0_passTick 26 = .ok (.istore_n 2, 1) := by decide +kernel
theorem dX0_passTick_27 : decode cX0_passTick 27 = .ok (.iload_n 2, 1) := by decide +kernel
theorem dX0_passTick_28 : decode cX0_passTick 28 = .ok (.aload_n 0, 1) := by decide +kernel
theorem dX0_passTick_29 : decode cX0_passTick 29 = .ok (.getfield 57, 3) := by decide +kernel
theorem dX0_passTick_32 : decode cX0_passTick 32 = .ok (.if_icmp .ge 44, 3) := by decide +kernel
theorem dX0_passTick_35 : decode cX0_passTick 35 = .ok (.aload_n 0, 1) := by decide +kernel
theorem dX0_passTick_36 : decode cX0_passTick 36 = .ok (.getfield 19, 3) := by decide +kernel
theorem dX0_passTick_39 : decode cX0_passTick 39 = .ok (.iload_n 2, 1) := by decide +kernel
theorem dX0_passTick_40 : decode cX0_passTick 40 = .ok (.aaload, 1) := by decide +kernel
theorem dX0_passTick_41 : decode cX0_passTick 41 = .ok (.invokevirtual 155, 3) := by decide +kernel
theorem dX0_passTick_44 : decode cX0_passTick 44 = .ok (.ifCond .eq 26, 3) := by decide +kernel
theorem dX0_passTick_47 : decode cX0_passTick 47 = .ok (.aload_n 0, 1) := by decide +kernel
theorem dX0_passTick_48 : decode cX0_passTick 48 = .ok (.getfield 19, 3) := by decide +kernel
theorem dX0_passTick_51 : decode cX0_passTick 51 = .ok (.iload_n 2, 1) := by decide +kernel
theorem dX0_passTick_52 : decode cX0_passTick 52 = .ok (.aaload, 1) := by decide +kernel
theorem dX0_passTick_53 : decode cX0_passTick 53 = .ok (.getfield 159, 3) := by decide +kernel
theorem dX0_passTick_56 : decode cX0_passTick 56 = .ok (.ifCond .le 14, 3) := by decide +kernel
theorem dX0_passTick_59 : decode cX0_passTick 59 = .ok (.aload_n 0, 1) := by decide +kernel
theorem dX0_passTick_60 : decode cX0_passTick 60 = .ok (.aload_n 0, 1) := by decide +kernel
theorem dX0_passTick_61 : decode cX0_passTick 61 = .ok (.getfield 19, 3) := by decide +kernel
theorem dX0_passTick_64 : decode cX0_passTick 64 = .ok (.iload_n 2, 1) := by decide +kernel
theorem dX0_passTick_65 : decode cX0_passTick 65 = .ok (.aaload, 1) := by decide +kernel
theorem dX0_passTick_66 : decode cX0_passTick 66 = .ok (.iload_n 1, 1) := by decide +kernel
theorem dX0_passTick_67 : decode cX0_passTick 67 = .ok (.invokevirtual 161, 3) := by decide +kernel
theorem dX0_passTick_70 : decode cX0_passTick 70 = .ok (.iinc 2 1, 3) := by decide +kernel
theorem dX0_passTick_73 : decode cX0_passTick 73 = .ok (.goto (-46), 3) := by decide +kernel
theorem dX0_passTick_76 : decode cX0_passTick 76 = .ok (.aload_n 0, 1) := by decide +kernel
theorem dX0_passTick_77 : decode cX0_passTick 77 = .ok (.iconst 0, 1) := by decide +kernel
theorem dX0_passTick_78 : decode cX0_passTick 78 = .ok (.iload_n 1, 1) := by decide +kernel
theorem dX0_passTick_79 : decode cX0_passTick 79 = .ok (.invokevirtual 165, 3) := by decide +kernel
theorem dX0_passTick_82 : decode cX0_passTick 82 = .ok (.aload_n 0, 1) := by decide +kernel
theorem dX0_passTick_83 : decode cX0_passTick 83 = .ok (.iconst 1, 1) := by decide +kernel
theorem dX0_passTick_84 : decode cX0_passTick 84 = .ok (.iload_n 1, 1) := by decide +kernel
theorem dX0_passTick_85 : decode cX0_passTick 85 = .ok (.invokevirtual 165, 3) := by decide +kernel
theorem dX0_passTick_88 : decode cX0_passTick 88 = .ok (.iconst 0, 1) := by decide +kernel
theorem dX0_passTick_89 : decode cX0_passTick 89 = .ok (.istore_n 2, 1) := by decide +kernel
theorem dX0_passTick_90 : decode cX0_passTick 90 = .ok (.iload_n 2, 1) := by decide +kernel
theorem dX0_passTick_91 : decode cX0_passTick 91 = .ok (.aload_n 0, 1) := by decide +kernel
theorem dX0_passTick_92 : decode cX0_passTick 92 = .ok (.getfield 57, 3) := by decide +kernel
theorem dX0_passTick_95 : decode cX0_passTick 95 = .ok (.if_icmp .ge 34, 3) := by decide +kernel
theorem dX0_passTick_98 : decode cX0_passTick 98 = .ok (.aload_n 0, 1) := by decide +kernel
theorem dX0_passTick_99 : decode cX0_passTick 99 = .ok (.getfield 19, 3) := by decide +kernel
theorem dX0_passTick_102 : decode cX0_passTick 102 = .ok (.iload_n 2, 1) := by decide +kernel
theorem dX0_passTick_103 : decode cX0_passTick 103 = .ok (.aaload, 1) := by decide +kernel
theorem dX0_passTick_104 : decode cX0_passTick 104 = .ok (.invokevirtual 155, 3) := by decide +kernel
theorem dX0_passTick_107 : decode cX0_passTick 107 = .ok (.ifCond .eq 16, 3) := by decide +kernel
theorem dX0_passTick_110 : decode cX0_passTick 110 = .ok (.aload_n 0, 1) := by decide +kernel
theorem dX0_passTick_111 : decode cX0_passTick 111 = .ok (.getfield 68, 3) := by decide +kernel
theorem dX0_passTick_114 : decode cX0_passTick 114 = .ok (.ifCond .le 9, 3) := by decide +kernel
theorem dX0_passTick_117 : decode cX0_passTick 117 = .ok (.aload_n 0, 1) := by decide +kernel
theorem dX0_passTick_118 : decode cX0_passTick 118 = .ok (.iload_n 2, 1) := by decide +kernel
theorem dX0_passTick_119 : decode cX0_passTick 119 = .ok (.iload_n 1, 1) := by decide +kernel
theorem dX0_passTick_120 : decode cX0_passTick 120 = .ok (.invokevirtual 168, 3) := by decide +kernel
theorem dX0_passTick_123 : decode cX0_passTick 123 = .ok (.iinc 2 1, 3) := by decide +kernel
theorem dX0_passTick_126 : decode cX0_passTick 126 = .ok (.goto (-36), 3) := by decide +kernel
theorem dX0_passTick_129 : decode cX0_passTick 129 = .ok (.iconst 0, 1) := by decide +kernel
theorem dX0_passTick_130 : decode cX0_passTick 130 = .ok (.istore_n 2, 1) := by decide +kernel
theorem dX0_passTick_131 : decode cX0_passTick 131 = .ok (.iload_n 2, 1) := by decide +kernel
theorem dX0_passTick_132 : decode cX0_passTick 132 = .ok (.aload_n 0, 1) := by decide +kernel
theorem dX0_passTick_133 : decode cX0_passTick 133 = .ok (.getfield 57, 3) := by decide +kernel
theorem dX0_passTick_136 : decode cX0_passTick 136 = .ok (.if_icmp .ge 14, 3) := by decide +kernel
theorem dX0_passTick_139 : decode cX0_passTick 139 = .ok (.aload_n 0, 1) := by decide +kernel
theorem dX0_passTick_140 : decode cX0_passTick 140 = .ok (.iload_n 2, 1) := by decide +kernel
theorem dX0_passTick_141 : decode cX0_passTick 141 = .ok (.invokevirtual 171, 3) := by decide +kernel
theorem dX0_passTick_144 : decode cX0_passTick 144 = .ok (.iinc 2 1, 3) := by decide +kernel
theorem dX0_passTick_147 : decode cX0_passTick 147 = .ok (.goto (-16), 3) := by decide +kernel
theorem dX0_passTick_150 : decode cX0_passTick 150 = .ok (.aload_n 0, 1) := by decide +kernel
theorem dX0_passTick_151 : decode cX0_passTick 151 = .ok (.dup, 1) := by decide +kernel
theorem dX0_passTick_152 : decode cX0_passTick 152 = .ok (.getfield 71, 3) := by decide +kernel
theorem dX0_passTick_155 : decode cX0_passTick 155 = .ok (.aload_n 0, 1) := by decide +kernel
theorem dX0_passTick_156 : decode cX0_passTick 156 = .ok (.getfield 68, 3) := by decide +kernel
theorem dX0_passTick_159 : decode cX0_passTick 159 = .ok (.iadd, 1) := by decide +kernel
theorem dX0_passTick_160 : decode cX0_passTick 160 = .ok (.putfield 71, 3) := by decide +kernel
theorem dX0_passTick_163 : decode cX0_passTick 163 = .ok (.return_, 1) := by decide +kernel
theorem dX0_arrive_0 : decode cX0_arrive 0 = .ok (.aload_n 0, 1) := by decide +kernel
theorem dX0_arrive_1 : decode cX0_arrive 1 = .ok (.getfield 65, 3) := by decide +kernel
theorem dX0_arrive_4 : decode cX0_arrive 4 = .ok (.aload_n 0, 1) := by decide +kernel
theorem dX0_arrive_5 : decode cX0_arrive 5 = .ok (.getfield 62, 3) := by decide +kernel
theorem dX0_arrive_8 : decode cX0_arrive 8 = .ok (.if_icmp .ge 65, 3) := by decide +kernel
theorem dX0_arrive_11 : decode cX0_arrive 11 = .ok (.aload_n 0, 1) := by decide +kernel
theorem dX0_arrive_12 : decode cX0_arrive 12 = .ok (.getfield 11, 3) := by decide +kernel
theorem dX0_arrive_15 : decode cX0_arrive 15 = .ok (.aload_n 0, 1) := by decide +kernel
theorem dX0_arrive_16 : decode cX0_arrive 16 = .ok (.getfield 30, 3) := by decide +kernel
theorem dX0_arrive_19 : decode cX0_arrive 19 = .ok (.aload_n 0, 1) := by decide +kernel
theorem dX0_arrive_20 : decode cX0_arrive 20 = .ok (.getfield 65, 3) := by decide +kernel
theorem dX0_arrive_23 : decode cX0_arrive 23 = .ok (.iaload, 1) := by decide +kernel
theorem dX0_arrive_24 : decode cX0_arrive 24 = .ok (.aaload, 1) := by decide +kernel
theorem dX0_arrive_25 : decode cX0_arrive 25 = .ok (.getfield 109, 3) := by decide +kernel
theorem dX0_arrive_28 : decode cX0_arrive 28 = .ok (.iload_n 1, 1) := by decide +kernel
theorem dX0_arrive_29 : decode cX0_arrive 29 = .ok (.if_icmp .ne 44, 3) := by decide +kernel
theorem dX0_arrive_32 : decode cX0_arrive 32 = .ok (.aload_n 0, 1) := by decide +kernel
theorem dX0_arrive_33 : decode cX0_arrive 33 = .ok (.getfield 11, 3) := by decide +kernel
theorem dX0_arrive_36 : decode cX0_arrive 36 = .ok (.aload_n 0, 1) := by decide +kernel
theorem dX0_arrive_37 : decode cX0_arrive 37 = .ok (.getfield 30, 3) := by decide +kernel
theorem dX0_arrive_40 : decode cX0_arrive 40 = .ok (.aload_n 0, 1) := by decide +kernel
theorem dX0_arrive_41 : decode cX0_arrive 41 = .ok (.getfield 65, 3) := by decide +kernel
theorem dX0_arrive_44 : decode cX0_arrive 44 = .ok (.iaload, 1) := by decide +kernel
theorem dX0_arrive_45 : decode cX0_arrive 45 = .ok (.aaload, 1) := by decide +kernel
theorem dX0_arrive_46 : decode cX0_arrive 46 = .ok (.iconst 0, 1) := by decide +kernel
theorem dX0_arrive_47 : decode cX0_arrive 47 = .ok (.putfield 174, 3) := by decide +kernel
theorem dX0_arrive_50 : decode cX0_arrive 50 = .ok (.aload_n 0, 1) := by decide +kernel
theorem dX0_arrive_51 : decode cX0_arrive 51 = .ok (.dup, 1) := by decide +kernel
theorem dX0_arrive_52 : decode cX0_arrive 52 = .ok (.getfield 65, 3) := by decide +kernel
theorem dX0_arrive_55 : decode cX0_arrive 55 = .ok (.iconst 1, 1) := by decide +kernel
theorem dX0_arrive_56 : decode cX0_arrive 56 = .ok (.iadd, 1) := by decide +kernel
theorem dX0_arrive_57 : decode cX0_arrive 57 = .ok (.putfield 65, 3) := by decide +kernel
theorem dX0_arrive_60 : decode cX0_arrive 60 = .ok (.aload_n 0, 1) := by decide +kernel
theorem dX0_arrive_61 : decode cX0_arrive 61 = .ok (.dup, 1) := by decide +kernel
theorem dX0_arrive_62 : decode cX0_arrive 62 = .ok (.getfield 68, 3) := by decide +kernel
theorem dX0_arrive_65 : decode cX0_arrive 65 = .ok (.iconst 1, 1) := by decide +kernel
theorem dX0_arrive_66 : decode cX0_arrive 66 = .ok (.iadd, 1) := by decide +kernel
theorem dX0_arrive_67 : decode cX0_arrive 67 = .ok (.putfield 68, 3) := by decide +kernel
theorem dX0_arrive_70 : decode cX0_arrive 70 = .ok (.goto (-70), 3) := by decide +kernel
theorem dX0_arrive_73 : decode cX0_arrive 73 = .ok (.return_, 1) := by decide +kernel
theorem dX0_turn_0 : decode cX0_turn 0 = .ok (.iconst 0, 1) := by decide +kernel
theorem dX0_turn_1 : decode cX0_turn 1 = .ok (.istore_n 2, 1) := by decide +kernel
theorem dX0_turn_2 : decode cX0_turn 2 = .ok (.iload_n 2, 1) := by decide +kernel
theorem dX0_turn_3 : decode cX0_turn 3 = .ok (.aload_n 0, 1) := by decide +kernel
theorem dX0_turn_4 : decode cX0_turn 4 = .ok (.getfield 57, 3) := by decide +kernel
theorem dX0_turn_7 : decode cX0_turn 7 = .ok (.if_icmp .ge 59, 3) := by decide +kernel
theorem dX0_turn_10 : decode cX0_turn 10 = .ok (.aload_n 0, 1) := by decide +kernel
theorem dX0_turn_11 : decode cX0_turn 11 = .ok (.getfield 19, 3) := by decide +kernel
theorem dX0_turn_14 : decode cX0_turn 14 = .ok (.iload_n 2, 1) := by decide +kernel
theorem dX0_turn_15 : decode cX0_turn 15 = .ok (.aaload, 1) := by decide +kernel
theorem dX0_turn_16 : decode cX0_turn 16 = .ok (.astore_n 3, 1) := by decide +kernel
theorem dX0_turn_17 : decode cX0_turn 17 = .ok (.aload_n 0, 1) := by decide +kernel
theorem dX0_turn_18 : decode cX0_turn 18 = .ok (.getfield 115, 3) := by decide +kernel
theorem dX0_turn_21 : decode cX0_turn 21 = .ok (.iload_n 2, 1) := by decide +kernel
theorem dX0_turn_22 : decode cX0_turn 22 = .ok (.invokestatic 129, 3) := by decide +kernel
theorem dX0_turn_25 : decode cX0_turn 25 = .ok (.istore 4, 2) := by decide +kernel
theorem dX0_turn_27 : decode cX0_turn 27 = .ok (.iload 4, 2) := by decide +kernel
theorem dX0_turn_29 : decode cX0_turn 29 = .ok (.ifCond .ne 12, 3) := by decide +kernel
theorem dX0_turn_32 : decode cX0_turn 32 = .ok (.aload_n 0, 1) := by decide +kernel
theorem dX0_turn_33 : decode cX0_turn 33 = .ok (.iload_n 2, 1) := by decide +kernel
theorem dX0_turn_34 : decode cX0_turn 34 = .ok (.iload_n 1, 1) := by decide +kernel
theorem dX0_turn_35 : decode cX0_turn 35 = .ok (.invokevirtual 177, 3) := by decide +kernel
theorem dX0_turn_38 : decode cX0_turn 38 = .ok (.goto 16, 3) := by decide +kernel
theorem dX0_turn_41 : decode cX0_turn 41 = .ok (.iload 4, 2) := by decide +kernel
theorem dX0_turn_43 : decode cX0_turn 43 = .ok (.aload_n 3, 1) := by decide +kernel
theorem dX0_turn_44 : decode cX0_turn 44 = .ok (.getfield 133, 3) := by decide +kernel
theorem dX0_turn_47 : decode cX0_turn 47 = .ok (.if_icmp .eq 7, 3) := by decide +kernel
theorem dX0_turn_50 : decode cX0_turn 50 = .ok (.aload_n 3, 1) := by decide +kernel
theorem dX0_turn_51 : decode cX0_turn 51 = .ok (.invokevirtual 180, 3) := by decide +kernel
theorem dX0_turn_54 : decode cX0_turn 54 = .ok (.aload_n 3, 1) := by decide +kernel
theorem dX0_turn_55 : decode cX0_turn 55 = .ok (.iload 4, 2) := by decide +kernel
theorem dX0_turn_57 : decode cX0_turn 57 = .ok (.putfield 133, 3) := by decide +kernel
theorem dX0_turn_60 : decode cX0_turn 60 = .ok (.iinc 2 1, 3) := by decide +kernel
theorem dX0_turn_63 : decode cX0_turn 63 = .ok (.goto (-61), 3) := by decide +kernel
theorem dX0_turn_66 : decode cX0_turn 66 = .ok (.return_, 1) := by decide +kernel
theorem dX0_letAllThrough_0 : decode cX0_letAllThrough 0 = .ok (.iconst 0, 1) := by decide +kernel
theorem dX0_letAllThrough_1 : decode cX0_letAllThrough 1 = .ok (.istore_n 3, 1) := by decide +kernel
theorem dX0_letAllThrough_2 : decode cX0_letAllThrough 2 = .ok (.iload_n 3, 1) := by decide +kernel
theorem dX0_letAllThrough_3 : decode cX0_letAllThrough 3 = .ok (.aload_n 0, 1) := by decide +kernel
theorem dX0_letAllThrough_4 : decode cX0_letAllThrough 4 = .ok (.getfield 61, 3) := by decide +kernel
theorem dX0_letAllThrough_7 : decode cX0_letAllThrough 7 = .ok (.if_icmp .ge 45, 3) := by decide +kernel
theorem dX0_letAllThrough_10 : decode cX0_letAllThrough 10 = .ok (.aload_n 0, 1) := by decide +kernel
theorem dX0_letAllThrough_11 : decode cX0_letAllThrough 11 = .ok (.getfield 11, 3) := by decide +kernel
theorem dX0_letAllThrough_14 : decode cX0_letAllThrough 14 = .ok (.iload_n 3, 1) := by decide +kernel
theorem dX0_letAllThrough_15 : decode cX0_letAllThrough 15 = .ok (.aaload, 1) := by decide +kernel
theorem dX0_letAllThrough_16 : decode cX0_letAllThrough 16 = .ok (.getfield 174, 3) := by decide +kernel
theorem dX0_letAllThrough_19 : decode cX0_letAllThrough 19 = .ok (.iconst 2, 1) := by decide +kernel
theorem dX0_letAllThrough_20 : decode cX0_letAllThrough 20 = .ok (.if_icmp .ne 26, 3) := by decide +kernel
theorem dX0_letAllThrough_23 : decode cX0_letAllThrough 23 = .ok (.aload_n 0, 1) := by decide +kernel
theorem dX0_letAllThrough_24 : decode cX0_letAllThrough 24 = .ok (.getfield 11, 3) := by decide +kernel
theorem dX0_letAllThrough_27 : decode cX0_letAllThrough 27 = .ok (.iload_n 3, 1) := by decide +kernel
theorem dX0_letAllThrough_28 : decode cX0_letAllThrough 28 = .ok (.aaload, 1) := by decide +kernel
theorem dX0_letAllThrough_29 : decode cX0_letAllThrough 29 = .ok (.getfield 183, 3) := by decide +kernel
theorem dX0_letAllThrough_32 : decode cX0_letAllThrough 32 = .ok (.iload_n 1, 1) := by decide +kernel
theorem dX0_letAllThrough_33 : decode cX0_letAllThrough 33 = .ok (.if_icmp .ne 13, 3) := by decide +kernel
theorem dX0_letAllThrough_36 : decode cX0_letAllThrough 36 = .ok (.aload_n 0, 1) := by decide +kernel
theorem dX0_letAllThrough_37 : decode cX0_letAllThrough 37 = .ok (.getfield 11, 3) := by decide +kernel
theorem dX0_letAllThrough_40 : decode cX0_letAllThrough 40 = .ok (.iload_n 3, 1) := by decide +kernel
theorem dX0_letAllThrough_41 : decode cX0_letAllThrough 41 = .ok (.aaload, 1) := by decide +kernel
theorem dX0_letAllThrough_42 : decode cX0_letAllThrough 42 = .ok (.iload_n 2, 1) := by decide +kernel
theorem dX0_letAllThrough_43 : decode cX0_letAllThrough 43 = .ok (.invokevirtual 185, 3) := by decide +kernel
theorem dX0_letAllThrough_46 : decode cX0_letAllThrough 46 = .ok (.iinc 3 1, 3) := by decide +kernel
theorem dX0_letAllThrough_49 : decode cX0_letAllThrough 49 = .ok (.goto (-47), 3) := by decide +kernel
theorem dX0_letAllThrough_52 : decode cX0_letAllThrough 52 = .ok (.aload_n 0, 1) := by decide +kernel
theorem dX0_letAllThrough_53 : decode cX0_letAllThrough 53 = .ok (.getfield 19, 3) := by decide +kernel
theorem dX0_letAllThrough_56 : decode cX0_letAllThrough 56 = .ok (.iload_n 1, 1) := by decide +kernel
theorem dX0_letAllThrough_57 : decode cX0_letAllThrough 57 = .ok (.aaload, 1) := by decide +kernel
theorem dX0_letAllThrough_58 : decode cX0_letAllThrough 58 = .ok (.invokevirtual 188, 3) := by decide +kernel
theorem dX0_letAllThrough_61 : decode cX0_letAllThrough 61 = .ok (.return_, 1) := by decide +kernel
theorem dX0_advance_0 : decode cX0_advance 0 = .ok (.aload_n 1, 1) := by decide +kernel
theorem dX0_advance_1 : decode cX0_advance 1 = .ok (.invokevirtual 191, 3) := by decide +kernel
theorem dX0_advance_4 : decode cX0_advance 4 = .ok (.istore_n 3, 1) := by decide +kernel
theorem dX0_advance_5 : decode cX0_advance 5 = .ok (.iconst 0, 1) := by decide +kernel
theorem dX0_advance_6 : decode cX0_advance 6 = .ok (.istore 4, 2) := by decide +kernel
theorem dX0_advance_8 : decode cX0_advance 8 = .ok (.iconst 0, 1) := by decide +kernel
theorem dX0_advance_9 : decode cX0_advance 9 = .ok (.istore 5, 2) := by decide +kernel
theorem dX0_advance_11 : decode cX0_advance 11 = .ok (.iload 5, 2) := by decide +kernel
theorem dX0_advance_13 : decode cX0_advance 13 = .ok (.aload_n 1, 1) := by decide +kernel
theorem dX0_advance_14 : decode cX0_advance 14 = .ok (.getfield 136, 3) := by decide +kernel
theorem dX0_advance_17 : decode cX0_advance 17 = .ok (.if_icmp .ge 68, 3) := by decide +kernel
theorem dX0_advance_20 : decode cX0_advance 20 = .ok (.iload 4, 2) := by decide +kernel
theorem dX0_advance_22 : decode cX0_advance 22 = .ok (.ifCond .ne 63, 3) := by decide +kernel
theorem dX0_advance_25 : decode cX0_advance 25 = .ok (.aload_n 1, 1) := by decide +kernel
theorem dX0_advance_26 : decode cX0_advance 26 = .ok (.invokevirtual 195, 3) := by decide +kernel
theorem dX0_advance_29 : decode cX0_advance 29 = .ok (.aload_n 0, 1) := by decide +kernel
theorem dX0_advance_30 : decode cX0_advance 30 = .ok (.getfield 27, 3) := by decide +kernel
theorem dX0_advance_33 : decode cX0_advance 33 = .ok (.iconst 1, 1) := by decide +kernel
theorem dX0_advance_34 : decode cX0_advance 34 = .ok (.iaload, 1) := by decide +kernel
theorem dX0_advance_35 : decode cX0_advance 35 = .ok (.aload_n 0, 1) := by decide +kernel
theorem dX0_advance_36 : decode cX0_advance 36 = .ok (.getfield 33, 3) := by decide +kernel
theorem dX0_advance_39 : decode cX0_advance 39 = .ok (.iload_n 3, 1) := by decide +kernel
theorem dX0_advance_40 : decode cX0_advance 40 = .ok (.iaload, 1) := by decide +kernel
theorem dX0_advance_41 : decode cX0_advance 41 = .ok (.isub, 1) := by decide +kernel
theorem dX0_advance_42 : decode cX0_advance 42 = .ok (.if_icmp .le 19, 3) := by decide +kernel
theorem dX0_advance_45 : decode cX0_advance 45 = .ok (.iconst 1, 1) := by decide +kernel
theorem dX0_advance_46 : decode cX0_advance 46 = .ok (.istore 4, 2) := by decide +kernel
theorem dX0_advance_48 : decode cX0_advance 48 = .ok (.aload_n 0, 1) := by decide +kernel
theorem dX0_advance_49 : decode cX0_advance 49 = .ok (.dup, 1) := by decide +kernel
theorem dX0_advance_50 : decode cX0_advance 50 = .ok (.getfield 77, 3) := by decide +kernel
theorem dX0_advance_53 : decode cX0_advance 53 = .ok (.iconst 1, 1) := by decide +kernel
theorem dX0_advance_54 : decode cX0_advance 54 = .ok (.iadd, 1) := by decide +kernel
theorem dX0_advance_55 : decode cX0_advance 55 = .ok (.putfield 77, 3) := by decide +kernel
theorem dX0_advance_58 : decode cX0_advance 58 = .ok (.goto 21, 3) := by decide +kernel
theorem dX0_advance_61 : decode cX0_advance 61 = .ok (.aload_n 0, 1) := by decide +kernel
theorem dX0_advance_62 : decode cX0_advance 62 = .ok (.aload_n 1, 1) := by decide +kernel
theorem dX0_advance_63 : decode cX0_advance 63 = .ok (.iconst 0, 1) := by decide +kernel
theorem dX0_advance_64 : decode cX0_advance 64 = .ok (.iload_n 2, 1) := by decide +kernel
theorem dX0_advance_65 : decode cX0_advance 65 = .ok (.invokevirtual 198, 3) := by decide +kernel
theorem dX0_advance_68 : decode cX0_advance 68 = .ok (.aload_n 0, 1) := by decide +kernel
theorem dX0_advance_69 : decode cX0_advance 69 = .ok (.aload_n 1, 1) := by decide +kernel
theorem dX0_advance_70 : decode cX0_advance 70 = .ok (.iconst 1, 1) := by decide +kernel
theorem dX0_advance_71 : decode cX0_advance 71 = .ok (.iload_n 2, 1) := by decide +kernel
theorem dX0_advance_72 : decode cX0_advance 72 = .ok (.invokevirtual 198, 3) := by decide +kernel
theorem dX0_advance_75 : decode cX0_advance 75 = .ok (.aload_n 1, 1) := by decide +kernel
theorem dX0_advance_76 : decode cX0_advance 76 = .ok (.invokevirtual 202, 3) := by decide +kernel
theorem dX0_advance_79 : decode cX0_advance 79 = .ok (.iinc 5 1, 3) := by decide +kernel
theorem dX0_advance_82 : decode cX0_advance 82 = .ok (.goto (-71), 3) := by decide +kernel
theorem dX0_advance_85 : decode cX0_advance 85 = .ok (.aload_n 0, 1) := by decide +kernel
theorem dX0_advance_86 : decode cX0_advance 86 = .ok (.aload_n 1, 1) := by decide +kernel
theorem dX0_advance_87 : decode cX0_advance 87 = .ok (.invokevirtual 205, 3) := by decide +kernel
theorem dX0_advance_90 : decode cX0_advance 90 = .ok (.return_, 1) := by decide +kernel
theorem dX0_land_0 : decode cX0_land 0 = .ok (.aload_n 1, 1) := by decide +kernel
theorem dX0_land_1 : decode cX0_land 1 = .ok (.aload_n 1, 1) := by decide +kernel
theorem dX0_land_2 : decode cX0_land 2 = .ok (.getfield 208, 3) := by decide +kernel
theorem dX0_land_5 : decode cX0_land 5 = .ok (.iconst 1, 1) := by decide +kernel
theorem dX0_land_6 : decode cX0_land 6 = .ok (.isub, 1) := by decide +kernel
theorem dX0_land_7 : decode cX0_land 7 = .ok (.iload_n 2, 1) := by decide +kernel
theorem dX0_land_8 : decode cX0_land 8 = .ok (.invokevirtual 211, 3) := by decide +kernel
theorem dX0_land_11 : decode cX0_land 11 = .ok (.istore 4, 2) := by decide +kernel
theorem dX0_land_13 : decode cX0_land 13 = .ok (.iload 4, 2) := by decide +kernel
theorem dX0_land_15 : decode cX0_land 15 = .ok (.ifCond .lt 75, 3) := by decide +kernel
theorem dX0_land_18 : decode cX0_land 18 = .ok (.aload_n 0, 1) := by decide +kernel
theorem dX0_land_19 : decode cX0_land 19 = .ok (.getfield 11, 3) := by decide +kernel
theorem dX0_land_22 : decode cX0_land 22 = .ok (.iload 4, 2) := by decide +kernel
theorem dX0_land_24 : decode cX0_land 24 = .ok (.aaload, 1) := by decide +kernel
theorem dX0_land_25 : decode cX0_land 25 = .ok (.getfield 174, 3) := by decide +kernel
theorem dX0_land_28 : decode cX0_land 28 = .ok (.iconst 2, 1) := by decide +kernel
theorem dX0_land_29 : decode cX0_land 29 = .ok (.if_icmp .ne 61, 3) := by decide +kernel
theorem dX0_land_32 : decode cX0_land 32 = .ok (.aload_n 0, 1) := by decide +kernel
theorem dX0_land_33 : decode cX0_land 33 = .ok (.getfield 11, 3) := by decide +kernel
theorem dX0_land_36 : decode cX0_land 36 = .ok (.iload 4, 2) := by decide +kernel
theorem dX0_land_38 : decode cX0_land 38 = .ok (.aaload, 1) := by decide +kernel
theorem dX0_land_39 : decode cX0_land 39 = .ok (.astore 5, 2) := by decide +kernel
theorem dX0_land_41 : decode cX0_land 41 = .ok (.aload 5, 2) := by decide +kernel
theorem dX0_land_43 : decode cX0_land 43 = .ok (.iconst 1, 1) := by decide +kernel
theorem dX0_land_44 : decode cX0_land 44 = .ok (.putfield 174, 3) := by decide +kernel
theorem dX0_land_47 : decode cX0_land 47 = .ok (.aload 5, 2) := by decide +kernel
theorem dX0_land_49 : decode cX0_land 49 = .ok (.iload_n 3, 1) := by decide +kernel
theorem dX0_land_50 : decode cX0_land 50 = .ok (.putfield 214, 3) := by decide +kernel
theorem dX0_land_53 : decode cX0_land 53 = .ok (.aload 5, 2) := by decide +kernel
theorem dX0_land_55 : decode cX0_land 55 = .ok (.aload_n 1, 1) := by decide +kernel
theorem dX0_land_56 : decode cX0_land 56 = .ok (.invokevirtual 191, 3) := by decide +kernel
theorem dX0_land_59 : decode cX0_land 59 = .ok (.putfield 217, 3) := by decide +kernel
theorem dX0_land_62 : decode cX0_land 62 = .ok (.aload_n 0, 1) := by decide +kernel
theorem dX0_land_63 : decode cX0_land 63 = .ok (.getfield 33, 3) := by decide +kernel
theorem dX0_land_66 : decode cX0_land 66 = .ok (.aload 5, 2) := by decide +kernel
theorem dX0_land_68 : decode cX0_land 68 = .ok (.getfield 217, 3) := by decide +kernel
theorem dX0_land_71 : decode cX0_land 71 = .ok (.dup2, 1) := by decide +kernel
theorem dX0_land_72 : decode cX0_land 72 = .ok (.iaload, 1) := by decide +kernel
theorem dX0_land_73 : decode cX0_land 73 = .ok (.iconst 1, 1) := by decide +kernel
theorem dX0_land_74 : decode cX0_land 74 = .ok (.iadd, 1) := by decide +kernel
theorem dX0_land_75 : decode cX0_land 75 = .ok (.iastore, 1) := by decide +kernel
theorem dX0_land_76 : decode cX0_land 76 = .ok (.aload_n 1, 1) := by decide +kernel
theorem dX0_land_77 : decode cX0_land 77 = .ok (.dup, 1) := by decide +kernel
theorem dX0_land_78 : decode cX0_land 78 = .ok (.getfield 159, 3) := by decide +kernel
theorem dX0_land_81 : decode cX0_land 81 = .ok (.aload 5, 2) := by decide +kernel
theorem dX0_land_83 : decode cX0_land 83 = .ok (.getfield 220, 3) := by decide +kernel
theorem dX0_land_86 : decode cX0_land 86 = .ok (.isub, 1) := by decide +kernel
theorem dX0_land_87 : decode cX0_land 87 = .ok (.putfield 159, 3) := by decide +kernel
theorem dX0_land_90 : decode cX0_land 90 = .ok (.return_, 1) := by decide +kernel
theorem dX0_walk_0 : decode cX0_walk 0 = .ok (.aload_n 1, 1) := by decide +kernel
theorem dX0_walk_1 : decode cX0_walk 1 = .ok (.getfield 208, 3) := by decide +kernel
theorem dX0_walk_4 : decode cX0_walk 4 = .ok (.iconst 2, 1) := by decide +kernel
theorem dX0_walk_5 : decode cX0_walk 5 = .ok (.isub, 1) := by decide +kernel
theorem dX0_walk_6 : decode cX0_walk 6 = .ok (.istore_n 2, 1) := by decide +kernel
theorem dX0_walk_7 : decode cX0_walk 7 = .ok (.iload_n 2, 1) := by decide +kernel
theorem dX0_walk_8 : decode cX0_walk 8 = .ok (.ifCond .lt 60, 3) := by decide +kernel
theorem dX0_walk_11 : decode cX0_walk 11 = .ok (.aload_n 1, 1) := by decide +kernel
theorem dX0_walk_12 : decode cX0_walk 12 = .ok (.iload_n 2, 1) := by decide +kernel
theorem dX0_walk_13 : decode cX0_walk 13 = .ok (.iconst 1, 1) := by decide +kernel
theorem dX0_walk_14 : decode cX0_walk 14 = .ok (.invokevirtual 211, 3) := by decide +kernel
theorem dX0_walk_17 : decode cX0_walk 17 = .ok (.istore_n 3, 1) := by decide +kernel
theorem dX0_walk_18 : decode cX0_walk 18 = .ok (.iload_n 3, 1) := by decide +kernel
theorem dX0_walk_19 : decode cX0_walk 19 = .ok (.ifCond .lt 43, 3) := by decide +kernel
theorem dX0_walk_22 : decode cX0_walk 22 = .ok (.aload_n 0, 1) := by decide +kernel
theorem dX0_walk_23 : decode cX0_walk 23 = .ok (.getfield 11, 3) := by decide +kernel
theorem dX0_walk_26 : decode cX0_walk 26 = .ok (.iload_n 3, 1) := by decide +kernel
theorem dX0_walk_27 : decode cX0_walk 27 = .ok (.aaload, 1) := by decide +kernel
theorem dX0_walk_28 : decode cX0_walk 28 = .ok (.getfield 223, 3) := by decide +kernel
theorem dX0_walk_31 : decode cX0_walk 31 = .ok (.iconst 1, 1) := by decide +kernel
theorem dX0_walk_32 : decode cX0_walk 32 = .ok (.if_icmp .ne 30, 3) := by decide +kernel
theorem dX0_walk_35 : decode cX0_walk 35 = .ok (.aload_n 1, 1) := by decide +kernel
theorem dX0_walk_36 : decode cX0_walk 36 = .ok (.iload_n 2, 1) := by decide +kernel
theorem dX0_walk_37 : decode cX0_walk 37 = .ok (.iconst 1, 1) := by decide +kernel
theorem dX0_walk_38 : decode cX0_walk 38 = .ok (.iadd, 1) := by decide +kernel
theorem dX0_walk_39 : decode cX0_walk 39 = .ok (.iconst 1, 1) := by decide +kernel
theorem dX0_walk_40 : decode cX0_walk 40 = .ok (.invokevirtual 211, 3) := by decide +kernel
theorem dX0_walk_43 : decode cX0_walk 43 = .ok (.ifCond .ge 19, 3) := by decide +kernel
theorem dX0_walk_46 : decode cX0_walk 46 = .ok (.aload_n 1, 1) := by decide +kernel
theorem dX0_walk_47 : decode cX0_walk 47 = .ok (.iload_n 2, 1) := by decide +kernel
theorem dX0_walk_48 : decode cX0_walk 48 = .ok (.iconst 1, 1) := by decide +kernel
theorem dX0_walk_49 : decode cX0_walk 49 = .ok (.iconst (-1), 1) := by decide +kernel
theorem dX0_walk_50 : decode cX0_walk 50 = .ok (.invokevirtual 226, 3) := by decide +kernel
theorem dX0_walk_53 : decode cX0_walk 53 = .ok (.aload_n 1, 1) := by decide +kernel
theorem dX0_walk_54 : decode cX0_walk 54 = .ok (.iload_n 2, 1) := by decide +kernel
theorem dX0_walk_55 : decode cX0_walk 55 = .ok (.iconst 1, 1) := by decide +kernel
theorem dX0_walk_56 : decode cX0_walk 56 = .ok (.iadd, 1) := by decide +kernel
theorem dX0_walk_57 : decode cX0_walk 57 = .ok (.iconst 1, 1) := by decide +kernel
theorem dX0_walk_58 : decode cX0_walk 58 = .ok (.iload_n 3, 1) := by decide +kernel
theorem dX0_walk_59 : decode cX0_walk 59 = .ok (.invokevirtual 226, 3) := by decide +kernel
theorem dX0_walk_62 : decode cX0_walk 62 = .ok (.iinc 2 (-1), 3) := by decide +kernel
theorem dX0_walk_65 : decode cX0_walk 65 = .ok (.goto (-58), 3) := by decide +kernel
theorem dX0_walk_68 : decode cX0_walk 68 = .ok (.return_, 1) := by decide +kernel
theorem dX0_leave_0 : decode cX0_leave 0 = .ok (.iconst 0, 1) := by decide +kernel
theorem dX0_leave_1 : decode cX0_leave 1 = .ok (.istore_n 3, 1) := by decide +kernel
theorem dX0_leave_2 : decode cX0_leave 2 = .ok (.iload_n 3, 1) := by decide +kernel
theorem dX0_leave_3 : decode cX0_leave 3 = .ok (.aload_n 0, 1) := by decide +kernel
theorem dX0_leave_4 : decode cX0_leave 4 = .ok (.getfield 27, 3) := by decide +kernel
theorem dX0_leave_7 : decode cX0_leave 7 = .ok (.iconst 2, 1) := by decide +kernel
theorem dX0_leave_8 : decode cX0_leave 8 = .ok (.iaload, 1) := by decide +kernel
theorem dX0_leave_9 : decode cX0_leave 9 = .ok (.if_icmp .ge 51, 3) := by decide +kernel
theorem dX0_leave_12 : decode cX0_leave 12 = .ok (.aload_n 0, 1) := by decide +kernel
theorem dX0_leave_13 : decode cX0_leave 13 = .ok (.getfield 33, 3) := by decide +kernel
theorem dX0_leave_16 : decode cX0_leave 16 = .ok (.iload_n 1, 1) := by decide +kernel
theorem dX0_leave_17 : decode cX0_leave 17 = .ok (.iaload, 1) := by decide +kernel
theorem dX0_leave_18 : decode cX0_leave 18 = .ok (.ifCond .le 42, 3) := by decide +kernel
theorem dX0_leave_21 : decode cX0_leave 21 = .ok (.aload_n 0, 1) := by decide +kernel
theorem dX0_leave_22 : decode cX0_leave 22 = .ok (.iload_n 1, 1) := by decide +kernel
theorem dX0_leave_23 : decode cX0_leave 23 = .ok (.invokevirtual 229, 3) := by decide +kernel
theorem dX0_leave_26 : decode cX0_leave 26 = .ok (.istore 4, 2) := by decide +kernel
theorem dX0_leave_28 : decode cX0_leave 28 = .ok (.iload 4, 2) := by decide +kernel
theorem dX0_leave_30 : decode cX0_leave 30 = .ok (.ifCond .lt 24, 3) := by decide +kernel
theorem dX0_leave_33 : decode cX0_leave 33 = .ok (.aload_n 0, 1) := by decide +kernel
theorem dX0_leave_34 : decode cX0_leave 34 = .ok (.getfield 11, 3) := by decide +kernel
theorem dX0_leave_37 : decode cX0_leave 37 = .ok (.iload 4, 2) := by decide +kernel
theorem dX0_leave_39 : decode cX0_leave 39 = .ok (.aaload, 1) := by decide +kernel
theorem dX0_leave_40 : decode cX0_leave 40 = .ok (.iload_n 2, 1) := by decide +kernel
theorem dX0_leave_41 : decode cX0_leave 41 = .ok (.invokevirtual 185, 3) := by decide +kernel
theorem dX0_leave_44 : decode cX0_leave 44 = .ok (.aload_n 0, 1) := by decide +kernel
theorem dX0_leave_45 : decode cX0_leave 45 = .ok (.getfield 33, 3) := by decide +kernel
theorem dX0_leave_48 : decode cX0_leave 48 = .ok (.iload_n 1, 1) := by decide +kernel
theorem dX0_leave_49 : decode cX0_leave 49 = .ok (.dup2, 1) := by decide +kernel
theorem dX0_leave_50 : decode cX0_leave 50 = .ok (.iaload, 1) := by decide +kernel
theorem dX0_leave_51 : decode cX0_leave 51 = .ok (.iconst 1, 1) := by decide +kernel
theorem dX0_leave_52 : decode cX0_leave 52 = .ok (.isub, 1) := by decide +kernel
theorem dX0_leave_53 : decode cX0_leave 53 = .ok (.iastore, 1) := by decide +kernel
theorem dX0_leave_54 : decode cX0_leave 54 = .ok (.iinc 3 1, 3) := by decide +kernel
theorem dX0_leave_57 : decode cX0_leave 57 = .ok (.goto (-55), 3) := by decide +kernel
theorem dX0_leave_60 : decode cX0_leave 60 = .ok (.return_, 1) := by decide +kernel
theorem dX0_firstOnLanding_0 : decode cX0_firstOnLanding 0 = .ok (.iconst (-1), 1) := by decide +kernel
theorem dX0_firstOnLanding_1 : decode cX0_firstOnLanding 1 = .ok (.istore_n 2, 1) := by decide +kernel
theorem dX0_firstOnLanding_2 : decode cX0_firstOnLanding 2 = .ok (.iconst 0, 1) := by decide +kernel
theorem dX0_firstOnLanding_3 : decode cX0_firstOnLanding 3 = .ok (.istore_n 3, 1) := by decide +kernel
theorem dX0_firstOnLanding_4 : decode cX0_firstOnLanding 4 = .ok (.iload_n 3, 1) := by decide +kernel
theorem dX0_firstOnLanding_5 : decode cX0_firstOnLanding 5 = .ok (.aload_n 0, 1) := by decide +kernel
theorem dX0_firstOnLanding_6 : decode cX0_firstOnLanding 6 = .ok (.getfield 61, 3) := by decide +kernel
theorem dX0_firstOnLanding_9 : decode cX0_firstOnLanding 9 = .ok (.if_icmp .ge 62, 3) := by decide +kernel
theorem dX0_firstOnLanding_12 : decode cX0_firstOnLanding 12 = .ok (.aload_n 0, 1) := by decide +kernel
theorem dX0_firstOnLanding_13 : decode cX0_firstOnLanding 13 = .ok (.getfield 11, 3) := by decide +kernel
theorem dX0_firstOnLanding_16 : decode cX0_firstOnLanding 16 = .ok (.iload_n 3, 1) := by decide +kernel
theorem dX0_firstOnLanding_17 : decode cX0_firstOnLanding 17 = .ok (.aaload, 1) := by decide +kernel
theorem dX0_firstOnLanding_18 : decode cX0_firstOnLanding 18 = .ok (.getfield 174, 3) := by decide +kernel
theorem dX0_firstOnLanding_21 : decode cX0_firstOnLanding 21 = .ok (.iconst 1, 1) := by decide +kernel
theorem dX0_firstOnLanding_22 : decode cX0_firstOnLanding 22 = .ok (.if_icmp .ne 43, 3) := by decide +kernel
theorem dX0_firstOnLanding_25 : decode cX0_firstOnLanding 25 = .ok (.aload_n 0, 1) := by decide +kernel
theorem dX0_firstOnLanding_26 : decode cX0_firstOnLanding 26 = .ok (.getfield 11, 3) := by decide +kernel
theorem dX0_firstOnLanding_29 : decode cX0_firstOnLanding 29 = .ok (.iload_n 3, 1) := by decide +kernel
theorem dX0_firstOnLanding_30 : decode cX0_firstOnLanding 30 = .ok (.aaload, 1) := by decide +kernel
theorem dX0_firstOnLanding_31 : decode cX0_firstOnLanding 31 = .ok (.getfield 217, 3) := by decide +kernel
theorem dX0_firstOnLanding_34 : decode cX0_firstOnLanding 34 = .ok (.iload_n 1, 1) := by decide +kernel
theorem dX0_firstOnLanding_35 : decode cX0_firstOnLanding 35 = .ok (.if_icmp .ne 30, 3) := by decide +kernel
theorem dX0_firstOnLanding_38 : decode cX0_firstOnLanding 38 = .ok (.iload_n 2, 1) := by decide +kernel
theorem dX0_firstOnLanding_39 : decode cX0_firstOnLanding 39 = .ok (.ifCond .lt 24, 3) := by decide +kernel
theorem dX0_firstOnLanding_42 : decode cX0_firstOnLanding 42 = .ok (.aload_n 0, 1) := by decide +kernel
theorem dX0_firstOnLanding_43 : decode cX0_firstOnLanding 43 = .ok (.getfield 11, 3) := by decide +kernel
theorem dX0_firstOnLanding_46 : decode cX0_firstOnLanding 46 = .ok (.iload_n 3, 1) := by decide +kernel
theorem dX0_firstOnLanding_47 : decode cX0_firstOnLanding 47 = .ok (.aaload, 1) := by decide +kernel
theorem dX0_firstOnLanding_48 : decode cX0_firstOnLanding 48 = .ok (.getfield 214, 3) := by decide +kernel
theorem dX0_firstOnLanding_51 : decode cX0_firstOnLanding 51 = .ok (.aload_n 0, 1) := by decide +kernel
theorem dX0_firstOnLanding_52 : decode cX0_firstOnLanding 52 = .ok (.getfield 11, 3) := by decide +kernel
theorem dX0_firstOnLanding_55 : decode cX0_firstOnLanding 55 = .ok (.iload_n 2, 1) := by decide +kernel
theorem dX0_firstOnLanding_56 : decode cX0_firstOnLanding 56 = .ok (.aaload, 1) := by decide +kernel
theorem dX0_firstOnLanding_57 : decode cX0_firstOnLanding 57 = .ok (.getfield 214, 3) := by decide +kernel
theorem dX0_firstOnLanding_60 : decode cX0_firstOnLanding 60 = .ok (.if_icmp .ge 5, 3) := by decide +kernel
theorem dX0_firstOnLanding_63 : decode cX0_firstOnLanding 63 = .ok (.iload_n 3, 1) := by decide +kernel
theorem dX0_firstOnLanding_64 : decode cX0_firstOnLanding 64 = .ok (.istore_n 2, 1) := by decide +kernel
theorem dX0_firstOnLanding_65 : decode cX0_firstOnLanding 65 = .ok (.iinc 3 1, 3) := by decide +kernel
theorem dX0_firstOnLanding_68 : decode cX0_firstOnLanding 68 = .ok (.goto (-64), 3) := by decide +kernel
theorem dX0_firstOnLanding_71 : decode cX0_firstOnLanding 71 = .ok (.iload_n 2, 1) := by decide +kernel
theorem dX0_firstOnLanding_72 : decode cX0_firstOnLanding 72 = .ok (.ireturn, 1) := by decide +kernel
theorem dX0_board_0 : decode cX0_board 0 = .ok (.aload_n 0, 1) := by decide +kernel
theorem dX0_board_1 : decode cX0_board 1 = .ok (.getfield 19, 3) := by decide +kernel
theorem dX0_board_4 : decode cX0_board 4 = .ok (.iload_n 1, 1) := by decide +kernel
theorem dX0_board_5 : decode cX0_board 5 = .ok (.aaload, 1) := by decide +kernel
theorem dX0_board_6 : decode cX0_board 6 = .ok (.astore_n 3, 1) := by decide +kernel
theorem dX0_board_7 : decode cX0_board 7 = .ok (.iconst 0, 1) := by decide +kernel
theorem dX0_board_8 : decode cX0_board 8 = .ok (.istore 4, 2) := by decide +kernel
theorem dX0_board_10 : decode cX0_board 10 = .ok (.iload 4, 2) := by decide +kernel
theorem dX0_board_12 : decode cX0_board 12 = .ok (.iconst 1, 1) := by decide +kernel
theorem dX0_board_13 : decode cX0_board 13 = .ok (.if_icmp .gt 114, 3) := by decide +kernel
theorem dX0_board_16 : decode cX0_board 16 = .ok (.aload_n 3, 1) := by decide +kernel
theorem dX0_board_17 : decode cX0_board 17 = .ok (.iconst 0, 1) := by decide +kernel
theorem dX0_board_18 : decode cX0_board 18 = .ok (.iload 4, 2) := by decide +kernel
theorem dX0_board_20 : decode cX0_board 20 = .ok (.invokevirtual 211, 3) := by decide +kernel
theorem dX0_board_23 : decode cX0_board 23 = .ok (.ifCond .ge 13, 3) := by decide +kernel
theorem dX0_board_26 : decode cX0_board 26 = .ok (.aload_n 0, 1) := by decide +kernel
theorem dX0_board_27 : decode cX0_board 27 = .ok (.aload_n 3, 1) := by decide +kernel
theorem dX0_board_28 : decode cX0_board 28 = .ok (.iload 4, 2) := by decide +kernel
theorem dX0_board_30 : decode cX0_board 30 = .ok (.invokevirtual 233, 3) := by decide +kernel
theorem dX0_board_33 : decode cX0_board 33 = .ok (.goto 4, 3) := by decide +kernel
theorem dX0_board_36 : decode cX0_board 36 = .ok (.iconst (-1), 1) := by decide +kernel
theorem dX0_board_37 : decode cX0_board 37 = .ok (.istore 5, 2) := by decide +kernel
theorem dX0_board_39 : decode cX0_board 39 = .ok (.iload 5, 2) := by decide +kernel
theorem dX0_board_41 : decode cX0_board 41 = .ok (.ifCond .lt 80, 3) := by decide +kernel
theorem dX0_board_44 : decode cX0_board 44 = .ok (.aload_n 0, 1) := by decide +kernel
theorem dX0_board_45 : decode cX0_board 45 = .ok (.getfield 11, 3) := by decide +kernel
theorem dX0_board_48 : decode cX0_board 48 = .ok (.iload 5, 2) := by decide +kernel
theorem dX0_board_50 : decode cX0_board 50 = .ok (.aaload, 1) := by decide +kernel
theorem dX0_board_51 : decode cX0_board 51 = .ok (.astore 6, 2) := by decide +kernel
theorem dX0_board_53 : decode cX0_board 53 = .ok (.aload 6, 2) := by decide +kernel
theorem dX0_board_55 : decode cX0_board 55 = .ok (.iconst 2, 1) := by decide +kernel
theorem dX0_board_56 : decode cX0_board 56 = .ok (.putfield 174, 3) := by decide +kernel
theorem dX0_board_59 : decode cX0_board 59 = .ok (.aload 6, 2) := by decide +kernel
theorem dX0_board_61 : decode cX0_board 61 = .ok (.iload_n 1, 1) := by decide +kernel
theorem dX0_board_62 : decode cX0_board 62 = .ok (.putfield 183, 3) := by decide +kernel
theorem dX0_board_65 : decode cX0_board 65 = .ok (.aload 6, 2) := by decide +kernel
theorem dX0_board_67 : decode cX0_board 67 = .ok (.iload_n 2, 1) := by decide +kernel
theorem dX0_board_68 : decode cX0_board 68 = .ok (.putfield 237, 3) := by decide +kernel
theorem dX0_board_71 : decode cX0_board 71 = .ok (.aload_n 0, 1) := by decide +kernel
theorem dX0_board_72 : decode cX0_board 72 = .ok (.dup, 1) := by decide +kernel
theorem dX0_board_73 : decode cX0_board 73 = .ok (.getfield 68, 3) := by decide +kernel
theorem dX0_board_76 : decode cX0_board 76 = .ok (.iconst 1, 1) := by decide +kernel
theorem dX0_board_77 : decode cX0_board 77 = .ok (.isub, 1) := by decide +kernel
theorem dX0_board_78 : decode cX0_board 78 = .ok (.putfield 68, 3) := by decide +kernel
theorem dX0_board_81 : decode cX0_board 81 = .ok (.aload_n 3, 1) := by decide +kernel
theorem dX0_board_82 : decode cX0_board 82 = .ok (.dup, 1) := by decide +kernel
theorem dX0_board_83 : decode cX0_board 83 = .ok (.getfield 159, 3) := by decide +kernel
theorem dX0_board_86 : decode cX0_board 86 = .ok (.aload 6, 2) := by decide +kernel
theorem dX0_board_88 : decode cX0_board 88 = .ok (.getfield 220, 3) := by decide +kernel
theorem dX0_board_91 : decode cX0_board 91 = .ok (.iadd, 1) := by decide +kernel
theorem dX0_board_92 : decode cX0_board 92 = .ok (.putfield 159, 3) := by decide +kernel
theorem dX0_board_95 : decode cX0_board 95 = .ok (.aload_n 3, 1) := by decide +kernel
theorem dX0_board_96 : decode cX0_board 96 = .ok (.iconst 0, 1) := by decide +kernel
theorem dX0_board_97 : decode cX0_board 97 = .ok (.iload 4, 2) := by decide +kernel
theorem dX0_board_99 : decode cX0_board 99 = .ok (.iload 5, 2) := by decide +kernel
theorem dX0_board_101 : decode cX0_board 101 = .ok (.invokevirtual 226, 3) := by decide +kernel
theorem dX0_board_104 : decode cX0_board 104 = .ok (.aload 6, 2) := by decide +kernel
theorem dX0_board_106 : decode cX0_board 106 = .ok (.getfield 223, 3) := by decide +kernel
theorem dX0_board_109 : decode cX0_board 109 = .ok (.iconst 2, 1) := by decide +kernel
theorem dX0_board_110 : decode cX0_board 110 = .ok (.if_icmp .ne 11, 3) := by decide +kernel
theorem dX0_board_113 : decode cX0_board 113 = .ok (.aload_n 3, 1) := by decide +kernel
theorem dX0_board_114 : decode cX0_board 114 = .ok (.iconst 0, 1) := by decide +kernel
theorem dX0_board_115 : decode cX0_board 115 = .ok (.iconst 1, 1) := by decide +kernel
theorem dX0_board_116 : decode cX0_board 116 = .ok (.iload 5, 2) := by decide +kernel
theorem dX0_board_118 : decode cX0_board 118 = .ok (.invokevirtual 226, 3) := by decide +kernel
theorem dX0_board_121 : decode cX0_board 121 = .ok (.iinc 4 1, 3) := by decide +kernel
theorem dX0_board_124 : decode cX0_board 124 = .ok (.goto (-114), 3) := by decide +kernel
theorem dX0_board_127 : decode cX0_board 127 = .ok (.return_, 1) := by decide +kernel
theorem dX0_firstToBoard_0 : decode cX0_firstToBoard 0 = .ok (.aload_n 1, 1) := by decide +kernel
theorem dX0_firstToBoard_1 : decode cX0_firstToBoard 1 = .ok (.invokevirtual 240, 3) := by decide +kernel
theorem dX0_firstToBoard_4 : decode cX0_firstToBoard 4 = .ok (.istore_n 3, 1) := by decide +kernel
theorem dX0_firstToBoard_5 : decode cX0_firstToBoard 5 = .ok (.iconst 0, 1) := by decide +kernel
theorem dX0_firstToBoard_6 : decode cX0_firstToBoard 6 = .ok (.istore 4, 2) := by decide +kernel
theorem dX0_firstToBoard_8 : decode cX0_firstToBoard 8 = .ok (.iload 4, 2) := by decide +kernel
theorem dX0_firstToBoard_10 : decode cX0_firstToBoard 10 = .ok (.aload_n 0, 1) := by decide +kernel
theorem dX0_firstToBoard_11 : decode cX0_firstToBoard 11 = .ok (.getfield 65, 3) := by decide +kernel
theorem dX0_firstToBoard_14 : decode cX0_firstToBoard 14 = .ok (.if_icmp .ge 62, 3) := by decide +kernel
theorem dX0_firstToBoard_17 : decode cX0_firstToBoard 17 = .ok (.aload_n 0, 1) := by decide +kernel
theorem dX0_firstToBoard_18 : decode cX0_firstToBoard 18 = .ok (.getfield 11, 3) := by decide +kernel
theorem dX0_firstToBoard_21 : decode cX0_firstToBoard 21 = .ok (.aload_n 0, 1) := by decide +kernel
theorem dX0_firstToBoard_22 : decode cX0_firstToBoard 22 = .ok (.getfield 30, 3) := by decide +kernel
theorem dX0_firstToBoard_25 : decode cX0_firstToBoard 25 = .ok (.iload 4, 2) := by decide +kernel
theorem dX0_firstToBoard_27 : decode cX0_firstToBoard 27 = .ok (.iaload, 1) := by decide +kernel
theorem dX0_firstToBoard_28 : decode cX0_firstToBoard 28 = .ok (.aaload, 1) := by decide +kernel
theorem dX0_firstToBoard_29 : decode cX0_firstToBoard 29 = .ok (.astore 5, 2) := by decide +kernel
theorem dX0_firstToBoard_31 : decode cX0_firstToBoard 31 = .ok (.aload 5, 2) := by decide +kernel
theorem dX0_firstToBoard_33 : decode cX0_firstToBoard 33 = .ok (.getfield 174, 3) := by decide +kernel
theorem dX0_firstToBoard_36 : decode cX0_firstToBoard 36 = .ok (.ifCond .ne 34, 3) := by decide +kernel
theorem dX0_firstToBoard_39 : decode cX0_firstToBoard 39 = .ok (.aload 5, 2) := by decide +kernel
theorem dX0_firstToBoard_41 : decode cX0_firstToBoard 41 = .ok (.getfield 243, 3) := by decide +kernel
theorem dX0_firstToBoard_44 : decode cX0_firstToBoard 44 = .ok (.iload_n 3, 1) := by decide +kernel
theorem dX0_firstToBoard_45 : decode cX0_firstToBoard 45 = .ok (.if_icmp .ne 25, 3) := by decide +kernel
theorem dX0_firstToBoard_48 : decode cX0_firstToBoard 48 = .ok (.aload_n 0, 1) := by decide +kernel
theorem dX0_firstToBoard_49 : decode cX0_firstToBoard 49 = .ok (.aload 5, 2) := by decide +kernel
theorem dX0_firstToBoard_51 : decode cX0_firstToBoard 51 = .ok (.getfield 223, 3) := by decide +kernel
theorem dX0_firstToBoard_54 : decode cX0_firstToBoard 54 = .ok (.aload_n 1, 1) := by decide +kernel
theorem dX0_firstToBoard_55 : decode cX0_firstToBoard 55 = .ok (.iload_n 2, 1) := by decide +kernel
theorem dX0_firstToBoard_56 : decode cX0_firstToBoard 56 = .ok (.invokevirtual 246, 3) := by decide +kernel
theorem dX0_firstToBoard_59 : decode cX0_firstToBoard 59 = .ok (.ifCond .eq 11, 3) := by decide +kernel
theorem dX0_firstToBoard_62 : decode cX0_firstToBoard 62 = .ok (.aload_n 0, 1) := by decide +kernel
theorem dX0_firstToBoard_63 : decode cX0_firstToBoard 63 = .ok (.getfield 30, 3) := by decide +kernel
theorem dX0_firstToBoard_66 : decode cX0_firstToBoard 66 = .ok (.iload 4, 2) := by decide +kernel
theorem dX0_firstToBoard_68 : decode cX0_firstToBoard 68 = .ok (.iaload, 1) := by decide +kernel
theorem dX0_firstToBoard_69 : decode cX0_firstToBoard 69 = .ok (.ireturn, 1) := by decide +kernel
theorem dX0_firstToBoard_70 : decode cX0_firstToBoard 70 = .ok (.iinc 4 1, 3) := by decide +kernel
theorem dX0_firstToBoard_73 : decode cX0_firstToBoard 73 = .ok (.goto (-65), 3) := by decide +kernel
theorem dX0_firstToBoard_76 : decode cX0_firstToBoard 76 = .ok (.iconst (-1), 1) := by decide +kernel
theorem dX0_firstToBoard_77 : decode cX0_firstToBoard 77 = .ok (.ireturn, 1) := by decide +kernel
theorem dX0_mayBoard_0 : decode cX0_mayBoard 0 = .ok (.iload_n 1, 1) := by decide +kernel
theorem dX0_mayBoard_1 : decode cX0_mayBoard 1 = .ok (.iconst 2, 1) := by decide +kernel
theorem dX0_mayBoard_2 : decode cX0_mayBoard 2 = .ok (.if_icmp .ne 22, 3) := by decide +kernel
theorem dX0_mayBoard_5 : decode cX0_mayBoard 5 = .ok (.iload_n 3, 1) := by decide +kernel
theorem dX0_mayBoard_6 : decode cX0_mayBoard 6 = .ok (.ifCond .ne 16, 3) := by decide +kernel
theorem dX0_mayBoard_9 : decode cX0_mayBoard 9 = .ok (.aload_n 2, 1) := by decide +kernel
theorem dX0_mayBoard_10 : decode cX0_mayBoard 10 = .ok (.getfield 250, 3) := by decide +kernel
theorem dX0_mayBoard_13 : decode cX0_mayBoard 13 = .ok (.iconst 1, 1) := by decide +kernel
theorem dX0_mayBoard_14 : decode cX0_mayBoard 14 = .ok (.iaload, 1) := by decide +kernel
theorem dX0_mayBoard_15 : decode cX0_mayBoard 15 = .ok (.ifCond .ge 7, 3) := by decide +kernel
theorem dX0_mayBoard_18 : decode cX0_mayBoard 18 = .ok (.iconst 1, 1) := by decide +kernel
theorem dX0_mayBoard_19 : decode cX0_mayBoard 19 = .ok (.goto 4, 3) := by decide +kernel
theorem dX0_mayBoard_22 : decode cX0_mayBoard 22 = .ok (.iconst 0, 1) := by decide +kernel
theorem dX0_mayBoard_23 : decode cX0_mayBoard 23 = .ok (.ireturn, 1) := by decide +kernel
theorem dX0_mayBoard_24 : decode cX0_mayBoard 24 = .ok (.aload_n 0, 1) := by decide +kernel
theorem dX0_mayBoard_25 : decode cX0_mayBoard 25 = .ok (.getfield 27, 3) := by decide +kernel
theorem dX0_mayBoard_28 : decode cX0_mayBoard 28 = .ok (.iconst 0, 1) := by decide +kernel
theorem dX0_mayBoard_29 : decode cX0_mayBoard 29 = .ok (.iaload, 1) := by decide +kernel
theorem dX0_mayBoard_30 : decode cX0_mayBoard 30 = .ok (.iconst 1, 1) := by decide +kernel
theorem dX0_mayBoard_31 : decode cX0_mayBoard 31 = .ok (.if_icmp .ne 28, 3) := by decide +kernel
theorem dX0_mayBoard_34 : decode cX0_mayBoard 34 = .ok (.iload_n 1, 1) := by decide +kernel
theorem dX0_mayBoard_35 : decode cX0_mayBoard 35 = .ok (.iconst 1, 1) := by decide +kernel
theorem dX0_mayBoard_36 : decode cX0_mayBoard 36 = .ok (.if_icmp .ne 7, 3) := by decide +kernel
theorem dX0_mayBoard_39 : decode cX0_mayBoard 39 = .ok (.iconst 1, 1) := by decide +kernel
theorem dX0_mayBoard_40 : decode cX0_mayBoard 40 = .ok (.goto 4, 3) := by decide +kernel
theorem dX0_mayBoard_43 : decode cX0_mayBoard 43 = .ok (.iconst 0, 1) := by decide +kernel
theorem dX0_mayBoard_44 : decode cX0_mayBoard 44 = .ok (.iload_n 3, 1) := by decide +kernel
theorem dX0_mayBoard_45 : decode cX0_mayBoard 45 = .ok (.iconst 1, 1) := by decide +kernel
theorem dX0_mayBoard_46 : decode cX0_mayBoard 46 = .ok (.if_icmp .ne 7, 3) := by decide +kernel
theorem dX0_mayBoard_49 : decode cX0_mayBoard 49 = .ok (.iconst 1, 1) := by decide +kernel
theorem dX0_mayBoard_50 : decode cX0_mayBoard 50 = .ok (.goto 4, 3) := by decide +kernel
theorem dX0_mayBoard_53 : decode cX0_mayBoard 53 = .ok (.iconst 0, 1) := by decide +kernel
theorem dX0_mayBoard_54 : decode cX0_mayBoard 54 = .ok (.if_icmp .eq 5, 3) := by decide +kernel
theorem dX0_mayBoard_57 : decode cX0_mayBoard 57 = .ok (.iconst 0, 1) := by decide +kernel
theorem dX0_mayBoard_58 : decode cX0_mayBoard 58 = .ok (.ireturn, 1) := by decide +kernel
theorem dX0_mayBoard_59 : decode cX0_mayBoard 59 = .ok (.iload_n 1, 1) := by decide +kernel
theorem dX0_mayBoard_60 : decode cX0_mayBoard 60 = .ok (.iconst 4, 1) := by decide +kernel
theorem dX0_mayBoard_61 : decode cX0_mayBoard 61 = .ok (.if_icmp .ne 17, 3) := by decide +kernel
theorem dX0_mayBoard_64 : decode cX0_mayBoard 64 = .ok (.aload_n 2, 1) := by decide +kernel
theorem dX0_mayBoard_65 : decode cX0_mayBoard 65 = .ok (.getfield 136, 3) := by decide +kernel
theorem dX0_mayBoard_68 : decode cX0_mayBoard 68 = .ok (.iconst 1, 1) := by decide +kernel
theorem dX0_mayBoard_69 : decode cX0_mayBoard 69 = .ok (.if_icmp .ne 7, 3) := by decide +kernel
theorem dX0_mayBoard_72 : decode cX0_mayBoard 72 = .ok (.iconst 1, 1) := by decide +kernel
theorem dX0_mayBoard_73 : decode cX0_mayBoard 73 = .ok (.goto 4, 3) := by decide +kernel
theorem dX0_mayBoard_76 : decode cX0_mayBoard 76 = .ok (.iconst 0, 1) := by decide +kernel
theorem dX0_mayBoard_77 : decode cX0_mayBoard 77 = .ok (.ireturn, 1) := by decide +kernel
theorem dX0_mayBoard_78 : decode cX0_mayBoard 78 = .ok (.iload_n 1, 1) := by decide +kernel
theorem dX0_mayBoard_79 : decode cX0_mayBoard 79 = .ok (.iconst 3, 1) := by decide +kernel
theorem dX0_mayBoard_80 : decode cX0_mayBoard 80 = .ok (.if_icmp .eq 7, 3) := by decide +kernel
theorem dX0_mayBoard_83 : decode cX0_mayBoard 83 = .ok (.iconst 1, 1) := by decide +kernel
theorem dX0_mayBoard_84 : decode cX0_mayBoard 84 = .ok (.goto 4, 3) := by decide +kernel
theorem dX0_mayBoard_87 : decode cX0_mayBoard 87 = .ok (.iconst 0, 1) := by decide +kernel
theorem dX0_mayBoard_88 : decode cX0_mayBoard 88 = .ok (.istore 4, 2) := by decide +kernel
theorem dX0_mayBoard_90 : decode cX0_mayBoard 90 = .ok (.iconst 0, 1) := by decide +kernel
theorem dX0_mayBoard_91 : decode cX0_mayBoard 91 = .ok (.istore 5, 2) := by decide +kernel
theorem dX0_mayBoard_93 : decode cX0_mayBoard 93 = .ok (.iload 5, 2) := by decide +kernel
theorem dX0_mayBoard_95 : decode cX0_mayBoard 95 = .ok (.iconst 4, 1) := by decide +kernel
theorem dX0_mayBoard_96 : decode cX0_mayBoard 96 = .ok (.if_icmp .ge 49, 3) := by decide +kernel
theorem dX0_mayBoard_99 : decode cX0_mayBoard 99 = .ok (.iload 4, 2) := by decide +kernel
theorem dX0_mayBoard_101 : decode cX0_mayBoard 101 = .ok (.ifCond .ne 44, 3) := by decide +kernel
theorem dX0_mayBoard_104 : decode cX0_mayBoard 104 = .ok (.aload_n 2, 1) := by decide +kernel
theorem dX0_mayBoard_105 : decode cX0_mayBoard 105 = .ok (.getfield 250, 3) := by decide +kernel
theorem dX0_mayBoard_108 : decode cX0_mayBoard 108 = .ok (.iload 5, 2) := by decide +kernel
theorem dX0_mayBoard_110 : decode cX0_mayBoard 110 = .ok (.iaload, 1) := by decide +kernel
theorem dX0_mayBoard_111 : decode cX0_mayBoard 111 = .ok (.istore 6, 2) := by decide +kernel
theorem dX0_mayBoard_113 : decode cX0_mayBoard 113 = .ok (.iload 6, 2) := by decide +kernel
theorem dX0_mayBoard_115 : decode cX0_mayBoard 115 = .ok (.ifCond .lt 21, 3) := by decide +kernel
theorem dX0_mayBoard_118 : decode cX0_mayBoard 118 = .ok (.aload_n 0, 1) := by decide +kernel
theorem dX0_mayBoard_119 : decode cX0_mayBoard 119 = .ok (.getfield 11, 3) := by decide +kernel
theorem dX0_mayBoard_122 : decode cX0_mayBoard 122 = .ok (.iload 6, 2) := by decide +kernel
theorem dX0_mayBoard_124 : decode cX0_mayBoard 124 = .ok (.aaload, 1) := by decide +kernel
theorem dX0_mayBoard_125 : decode cX0_mayBoard 125 = .ok (.getfield 223, 3) := by decide +kernel
theorem dX0_mayBoard_128 : decode cX0_mayBoard 128 = .ok (.iconst 3, 1) := by decide +kernel
theorem dX0_mayBoard_129 : decode cX0_mayBoard 129 = .ok (.if_icmp .eq 7, 3) := by decide +kernel
theorem dX0_mayBoard_132 : decode cX0_mayBoard 132 = .ok (.iconst 1, 1) := by decide +kernel
theorem dX0_mayBoard_133 : decode cX0_mayBoard 133 = .ok (.goto 4, 3) := by decide +kernel
theorem dX0_mayBoard_136 : decode cX0_mayBoard 136 = .ok (.iconst 0, 1) := by decide +kernel
theorem dX0_mayBoard_137 : decode cX0_mayBoard 137 = .ok (.istore 4, 2) := by decide +kernel
theorem dX0_mayBoard_139 : decode cX0_mayBoard 139 = .ok (.iinc 5 1, 3) := by decide +kernel
theorem dX0_mayBoard_142 : decode cX0_mayBoard 142 = .ok (.goto (-49), 3) := by decide +kernel
theorem dX0_mayBoard_145 : decode cX0_mayBoard 145 = .ok (.iload 4, 2) := by decide +kernel
theorem dX0_mayBoard_147 : decode cX0_mayBoard 147 = .ok (.ireturn, 1) := by decide +kernel
theorem dX0_weigh_0 : decode cX0_weigh 0 = .ok (.aload_n 0, 1) := by decide +kernel
theorem dX0_weigh_1 : decode cX0_weigh 1 = .ok (.getfield 19, 3) := by decide +kernel
theorem dX0_weigh_4 : decode cX0_weigh 4 = .ok (.iload_n 1, 1) := by decide +kernel
theorem dX0_weigh_5 : decode cX0_weigh 5 = .ok (.aaload, 1) := by decide +kernel
theorem dX0_weigh_6 : decode cX0_weigh 6 = .ok (.astore_n 2, 1) := by decide +kernel
theorem dX0_weigh_7 : decode cX0_weigh 7 = .ok (.aload_n 2, 1) := by decide +kernel
theorem dX0_weigh_8 : decode cX0_weigh 8 = .ok (.invokevirtual 155, 3) := by decide +kernel
theorem dX0_weigh_11 : decode cX0_weigh 11 = .ok (.ifCond .eq 56, 3) := by decide +kernel
theorem dX0_weigh_14 : decode cX0_weigh 14 = .ok (.aload_n 2, 1) := by decide +kernel
theorem dX0_weigh_15 : decode cX0_weigh 15 = .ok (.getfield 133, 3) := by decide +kernel
theorem dX0_weigh_18 : decode cX0_weigh 18 = .ok (.iconst 2, 1) := by decide +kernel
theorem dX0_weigh_19 : decode cX0_weigh 19 = .ok (.if_icmp .ne 21, 3) := by decide +kernel
theorem dX0_weigh_22 : decode cX0_weigh 22 = .ok (.aload_n 2, 1) := by decide +kernel
theorem dX0_weigh_23 : decode cX0_weigh 23 = .ok (.getfield 159, 3) := by decide +kernel
theorem dX0_weigh_26 : decode cX0_weigh 26 = .ok (.aload_n 0, 1) := by decide +kernel
theorem dX0_weigh_27 : decode cX0_weigh 27 = .ok (.getfield 27, 3) := by decide +kernel
theorem dX0_weigh_30 : decode cX0_weigh 30 = .ok (.bipush 6, 2) := by decide +kernel
theorem dX0_weigh_32 : decode cX0_weigh 32 = .ok (.iaload, 1) := by decide +kernel
theorem dX0_weigh_33 : decode cX0_weigh 33 = .ok (.imul, 1) := by decide +kernel
theorem dX0_weigh_34 : decode cX0_weigh 34 = .ok (.bipush 10, 2) := by decide +kernel
theorem dX0_weigh_36 : decode cX0_weigh 36 = .ok (.idiv, 1) := by decide +kernel
theorem dX0_weigh_37 : decode cX0_weigh 37 = .ok (.goto 8, 3) := by decide +kernel
theorem dX0_weigh_40 : decode cX0_weigh 40 = .ok (.aload_n 2, 1) := by decide +kernel
theorem dX0_weigh_41 : decode cX0_weigh 41 = .ok (.getfield 159, 3) := by decide +kernel
theorem dX0_weigh_44 : decode cX0_weigh 44 = .ok (.ineg, 1) := by decide +kernel
theorem dX0_weigh_45 : decode cX0_weigh 45 = .ok (.istore_n 3, 1) := by decide +kernel
theorem dX0_weigh_46 : decode cX0_weigh 46 = .ok (.aload_n 0, 1) := by decide +kernel
theorem dX0_weigh_47 : decode cX0_weigh 47 = .ok (.dup, 1) := by decide +kernel
theorem dX0_weigh_48 : decode cX0_weigh 48 = .ok (.getfield 74, 3) := by decide +kernel
theorem dX0_weigh_51 : decode cX0_weigh 51 = .ok (.iconst 0, 1) := by decide +kernel
theorem dX0_weigh_52 : decode cX0_weigh 52 = .ok (.aload_n 0, 1) := by decide +kernel
theorem dX0_weigh_53 : decode cX0_weigh 53 = .ok (.getfield 27, 3) := by decide +kernel
theorem dX0_weigh_56 : decode cX0_weigh 56 = .ok (.iconst 5, 1) := by decide +kernel
theorem dX0_weigh_57 : decode cX0_weigh 57 = .ok (.iaload, 1) := by decide +kernel
theorem dX0_weigh_58 : decode cX0_weigh 58 = .ok (.iload_n 3, 1) := by decide +kernel
theorem dX0_weigh_59 : decode cX0_weigh 59 = .ok (.isub, 1) := by decide +kernel
theorem dX0_weigh_60 : decode cX0_weigh 60 = .ok (.invokestatic 253, 3) := by decide +kernel
theorem dX0_weigh_63 : decode cX0_weigh 63 = .ok (.iadd, 1) := by decide +kernel
theorem dX0_weigh_64 : decode cX0_weigh 64 = .ok (.putfield 74, 3) := by decide +kernel
theorem dX0_weigh_67 : decode cX0_weigh 67 = .ok (.aload_n 2, 1) := by decide +kernel
theorem dX0_weigh_68 : decode cX0_weigh 68 = .ok (.getfield 258, 3) := by decide +kernel
theorem dX0_weigh_71 : decode cX0_weigh 71 = .ok (.ifCond .le 16, 3) := by decide +kernel
theorem dX0_weigh_74 : decode cX0_weigh 74 = .ok (.aload_n 2, 1) := by decide +kernel
theorem dX0_weigh_75 : decode cX0_weigh 75 = .ok (.dup, 1) := by decide +kernel
theorem dX0_weigh_76 : decode cX0_weigh 76 = .ok (.getfield 258, 3) := by decide +kernel
theorem dX0_weigh_79 : decode cX0_weigh 79 = .ok (.iconst 1, 1) := by decide +kernel
theorem dX0_weigh_80 : decode cX0_weigh 80 = .ok (.isub, 1) := by decide +kernel
theorem dX0_weigh_81 : decode cX0_weigh 81 = .ok (.putfield 258, 3) := by decide +kernel
theorem dX0_weigh_84 : decode cX0_weigh 84 = .ok (.goto 49, 3) := by decide +kernel
theorem dX0_weigh_87 : decode cX0_weigh 87 = .ok (.aload_n 2, 1) := by decide +kernel
theorem dX0_weigh_88 : decode cX0_weigh 88 = .ok (.getfield 159, 3) := by decide +kernel
theorem dX0_weigh_91 : decode cX0_weigh 91 = .ok (.aload_n 0, 1) := by decide +kernel
theorem dX0_weigh_92 : decode cX0_weigh 92 = .ok (.getfield 27, 3) := by decide +kernel
theorem dX0_weigh_95 : decode cX0_weigh 95 = .ok (.iconst 3, 1) := by decide +kernel
theorem dX0_weigh_96 : decode cX0_weigh 96 = .ok (.iaload, 1) := by decide +kernel
theorem dX0_weigh_97 : decode cX0_weigh 97 = .ok (.if_icmp .le 36, 3) := by decide +kernel
theorem dX0_weigh_100 : decode cX0_weigh 100 = .ok (.aload_n 2, 1) := by decide +kernel
theorem dX0_weigh_101 : decode cX0_weigh 101 = .ok (.aload_n 0, 1) := by decide +kernel
theorem dX0_weigh_102 : decode cX0_weigh 102 = .ok (.getfield 27, 3) := by decide +kernel
theorem dX0_weigh_105 : decode cX0_weigh 105 = .ok (.iconst 4, 1) := by decide +kernel
theorem dX0_weigh_106 : decode cX0_weigh 106 = .ok (.iaload, 1) := by decide +kernel
theorem dX0_weigh_107 : decode cX0_weigh 107 = .ok (.putfield 258, 3) := by decide +kernel
theorem dX0_weigh_110 : decode cX0_weigh 110 = .ok (.aload_n 0, 1) := by decide +kernel
theorem dX0_weigh_111 : decode cX0_weigh 111 = .ok (.dup, 1) := by decide +kernel
theorem dX0_weigh_112 : decode cX0_weigh 112 = .ok (.getfield 80, 3) := by decide +kernel
theorem dX0_weigh_115 : decode cX0_weigh 115 = .ok (.iconst 1, 1) := by decide +kernel
theorem dX0_weigh_116 : decode cX0_weigh 116 = .ok (.iadd, 1) := by decide +kernel
theorem dX0_weigh_117 : decode cX0_weigh 117 = .ok (.putfield 80, 3) := by decide +kernel
theorem dX0_weigh_120 : decode cX0_weigh 120 = .ok (.aload_n 2, 1) := by decide +kernel
theorem dX0_weigh_121 : decode cX0_weigh 121 = .ok (.getfield 136, 3) := by decide +kernel
theorem dX0_weigh_124 : decode cX0_weigh 124 = .ok (.iconst 2, 1) := by decide +kernel
theorem dX0_weigh_125 : decode cX0_weigh 125 = .ok (.if_icmp .ne 8, 3) := by decide +kernel
theorem dX0_weigh_128 : decode cX0_weigh 128 = .ok (.aload_n 0, 1) := by decide +kernel
theorem dX0_weigh_129 : decode cX0_weigh 129 = .ok (.iload_n 1, 1) := by decide +kernel
theorem dX0_weigh_130 : decode cX0_weigh 130 = .ok (.invokevirtual 261, 3) := by decide +kernel
theorem dX0_weigh_133 : decode cX0_weigh 133 = .ok (.return_, 1) := by decide +kernel
theorem dX0_letWalkersFall_0 : decode cX0_letWalkersFall 0 = .ok (.iconst 0, 1) := by decide +kernel
theorem dX0_letWalkersFall_1 : decode cX0_letWalkersFall 1 = .ok (.istore_n 2, 1) := by decide +kernel
theorem dX0_letWalkersFall_2 : decode cX0_letWalkersFall 2 = .ok (.iload_n 2, 1) := by decide +kernel
theorem dX0_letWalkersFall_3 : decode cX0_letWalkersFall 3 = .ok (.aload_n 0, 1) := by decide +kernel
theorem dX0_letWalkersFall_4 : decode cX0_letWalkersFall 4 = .ok (.getfield 61, 3) := by decide +kernel
theorem dX0_letWalkersFall_7 : decode cX0_letWalkersFall 7 = .ok (.if_icmp .ge 50, 3) := by decide +kernel
theorem dX0_letWalkersFall_10 : decode cX0_letWalkersFall 10 = .ok (.aload_n 0, 1) := by decide +kernel
theorem dX0_letWalkersFall_11 : decode cX0_letWalkersFall 11 = .ok (.getfield 11, 3) := by decide +kernel
theorem dX0_letWalkersFall_14 : decode cX0_letWalkersFall 14 = .ok (.iload_n 2, 1) := by decide +kernel
theorem dX0_letWalkersFall_15 : decode cX0_letWalkersFall 15 = .ok (.aaload, 1) := by decide +kernel
theorem dX0_letWalkersFall_16 : decode cX0_letWalkersFall 16 = .ok (.astore_n 3, 1) := by decide +kernel
theorem dX0_letWalkersFall_17 : decode cX0_letWalkersFall 17 = .ok (.aload_n 3, 1) := by decide +kernel
theorem dX0_letWalkersFall_18 : decode cX0_letWalkersFall 18 = .ok (.getfield 174, 3) := by decide +kernel
theorem dX0_letWalkersFall_21 : decode cX0_letWalkersFall 21 = .ok (.iconst 2, 1) := by decide +kernel
theorem dX0_letWalkersFall_22 : decode cX0_letWalkersFall 22 = .ok (.if_icmp .ne 29, 3) := by decide +kernel
theorem dX0_letWalkersFall_25 : decode cX0_letWalkersFall 25 = .ok (.aload_n 3, 1) := by decide +kernel
theorem dX0_letWalkersFall_26 : decode cX0_letWalkersFall 26 = .ok (.getfield 183, 3) := by decide +kernel
theorem dX0_letWalkersFall_29 : decode cX0_letWalkersFall 29 = .ok (.iload_n 1, 1) := by decide +kernel
theorem dX0_letWalkersFall_30 : decode cX0_letWalkersFall 30 = .ok (.if_icmp .ne 21, 3) := by decide +kernel
theorem dX0_letWalkersFall_33 : decode cX0_letWalkersFall 33 = .ok (.aload_n 3, 1) := by decide +kernel
theorem dX0_letWalkersFall_34 : decode cX0_letWalkersFall 34 = .ok (.getfield 223, 3) := by decide +kernel
theorem dX0_letWalkersFall_37 : decode cX0_letWalkersFall 37 = .ok (.iconst 1, 1) := by decide +kernel
theorem dX0_letWalkersFall_38 : decode cX0_letWalkersFall 38 = .ok (.if_icmp .ne 13, 3) := by decide +kernel
theorem dX0_letWalkersFall_41 : decode cX0_letWalkersFall 41 = .ok (.aload_n 3, 1) := by decide +kernel
theorem dX0_letWalkersFall_42 : decode cX0_letWalkersFall 42 = .ok (.iconst 0, 1) := by decide +kernel
theorem dX0_letWalkersFall_43 : decode cX0_letWalkersFall 43 = .ok (.putfield 223, 3) := by decide +kernel
theorem dX0_letWalkersFall_46 : decode cX0_letWalkersFall 46 = .ok (.aload_n 3, 1) := by decide +kernel
theorem dX0_letWalkersFall_47 : decode cX0_letWalkersFall 47 = .ok (.iconst 1, 1) := by decide +kernel
theorem dX0_letWalkersFall_48 : decode cX0_letWalkersFall 48 = .ok (.putfield 264, 3) := by decide +kernel
theorem dX0_letWalkersFall_51 : decode cX0_letWalkersFall 51 = .ok (.iinc 2 1, 3) := by decide +kernel
theorem dX0_letWalkersFall_54 : decode cX0_letWalkersFall 54 = .ok (.goto (-52), 3) := by decide +kernel
theorem dX0_letWalkersFall_57 : decode cX0_letWalkersFall 57 = .ok (.return_, 1) := by decide +kernel
theorem dX0_setOf_0 : decode cX0_setOf 0 = .ok (.iconst 0, 1) := by decide +kernel
theorem dX0_setOf_1 : decode cX0_setOf 1 = .ok (.istore_n 2, 1) := by decide +kernel
theorem dX0_setOf_2 : decode cX0_setOf 2 = .ok (.iconst 0, 1) := by decide +kernel
theorem dX0_setOf_3 : decode cX0_setOf 3 = .ok (.istore_n 3, 1) := by decide +kernel
theorem dX0_setOf_4 : decode cX0_setOf 4 = .ok (.iload_n 3, 1) := by decide +kernel
theorem dX0_setOf_5 : decode cX0_setOf 5 = .ok (.aload_n 0, 1) := by decide +kernel
theorem dX0_setOf_6 : decode cX0_setOf 6 = .ok (.getfield 61, 3) := by decide +kernel
theorem dX0_setOf_9 : decode cX0_setOf 9 = .ok (.if_icmp .ge 32, 3) := by decide +kernel
theorem dX0_setOf_12 : decode cX0_setOf 12 = .ok (.iload_n 2, 1) := by decide +kernel
theorem dX0_setOf_13 : decode cX0_setOf 13 = .ok (.aload_n 0, 1) := by decide +kernel
theorem dX0_setOf_14 : decode cX0_setOf 14 = .ok (.getfield 11, 3) := by decide +kernel
theorem dX0_setOf_17 : decode cX0_setOf 17 = .ok (.iload_n 3, 1) := by decide +kernel
theorem dX0_setOf_18 : decode cX0_setOf 18 = .ok (.aaload, 1) := by decide +kernel
theorem dX0_setOf_19 : decode cX0_setOf 19 = .ok (.getfield 174, 3) := by decide +kernel
theorem dX0_setOf_22 : decode cX0_setOf 22 = .ok (.iload_n 1, 1) := by decide +kernel
theorem dX0_setOf_23 : decode cX0_setOf 23 = .ok (.if_icmp .ne 9, 3) := by decide +kernel
theorem dX0_setOf_26 : decode cX0_setOf 26 = .ok (.iconst 1, 1) := by decide +kernel
theorem dX0_setOf_27 : decode cX0_setOf 27 = .ok (.iload_n 3, 1) := by decide +kernel
theorem dX0_setOf_28 : decode cX0_setOf 28 = .ok (.ishl, 1) := by decide +kernel
theorem dX0_setOf_29 : decode cX0_setOf 29 = .ok (.goto 4, 3) := by decide +kernel
theorem dX0_setOf_32 : decode cX0_setOf 32 = .ok (.iconst 0, 1) := by decide +kernel
theorem dX0_setOf_33 : decode cX0_setOf 33 = .ok (.ior, 1) := by decide +kernel
theorem dX0_setOf_34 : decode cX0_setOf 34 = .ok (.istore_n 2, 1) := by decide +kernel
theorem dX0_setOf_35 : decode cX0_setOf 35 = .ok (.iinc 3 1, 3) := by decide +kernel
theorem dX0_setOf_38 : decode cX0_setOf 38 = .ok (.goto (-34), 3) := by decide +kernel
theorem dX0_setOf_41 : decode cX0_setOf 41 = .ok (.iload_n 2, 1) := by decide +kernel
theorem dX0_setOf_42 : decode cX0_setOf 42 = .ok (.ireturn, 1) := by decide +kernel
theorem dX0_setOfFallen_0 : decode cX0_setOfFallen 0 = .ok (.iconst 0, 1) := by decide +kernel
theorem dX0_setOfFallen_1 : decode cX0_setOfFallen 1 = .ok (.istore_n 1, 1) := by decide +kernel
theorem dX0_setOfFallen_2 : decode cX0_setOfFallen 2 = .ok (.iconst 0, 1) := by decide +kernel
theorem dX0_setOfFallen_3 : decode cX0_setOfFallen 3 = .ok (.istore_n 2, 1) := by decide +kernel
theorem dX0_setOfFallen_4 : decode cX0_setOfFallen 4 = .ok (.iload_n 2, 1) := by decide +kernel
theorem dX0_setOfFallen_5 : decode cX0_setOfFallen 5 = .ok (.aload_n 0, 1) := by decide +kernel
theorem dX0_setOfFallen_6 : decode cX0_setOfFallen 6 = .ok (.getfield 61, 3) := by decide +kernel
theorem dX0_setOfFallen_9 : decode cX0_setOfFallen 9 = .ok (.if_icmp .ge 31, 3) := by decide +kernel
theorem dX0_setOfFallen_12 : decode cX0_setOfFallen 12 = .ok (.iload_n 1, 1) := by decide +kernel
theorem dX0_setOfFallen_13 : decode cX0_setOfFallen 13 = .ok (.aload_n 0, 1) := by decide +kernel
theorem dX0_setOfFallen_14 : decode cX0_setOfFallen 14 = .ok (.getfield 11, 3) := by decide +kernel
theorem dX0_setOfFallen_17 : decode cX0_setOfFallen 17 = .ok (.iload_n 2, 1) := by decide +kernel
theorem dX0_setOfFallen_18 : decode cX0_setOfFallen 18 = .ok (.aaload, 1) := by decide +kernel
theorem dX0_setOfFallen_19 : decode cX0_setOfFallen 19 = .ok (.getfield 264, 3) := by decide +kernel
theorem dX0_setOfFallen_22 : decode cX0_setOfFallen 22 = .ok (.ifCond .eq 9, 3) := by decide +kernel
theorem dX0_setOfFallen_25 : decode cX0_setOfFallen 25 = .ok (.iconst 1, 1) := by decide +kernel
theorem dX0_setOfFallen_26 : decode cX0_setOfFallen 26 = .ok (.iload_n 2, 1) := by decide +kernel
theorem dX0_setOfFallen_27 : decode cX0_setOfFallen 27 = .ok (.ishl, 1) := by decide +kernel
theorem dX0_setOfFallen_28 : decode cX0_setOfFallen 28 = .ok (.goto 4, 3) := by decide +kernel
theorem dX0_setOfFallen_31 : decode cX0_setOfFallen 31 = .ok (.iconst 0, 1) := by decide +kernel
theorem dX0_setOfFallen_32 : decode cX0_setOfFallen 32 = .ok (.ior, 1) := by decide +kernel
theorem dX0_setOfFallen_33 : decode cX0_setOfFallen 33 = .ok (.istore_n 1, 1) := by decide +kernel
theorem dX0_setOfFallen_34 : decode cX0_setOfFallen 34 = .ok (.iinc 2 1, 3) := by decide +kernel
theorem dX0_setOfFallen_37 : decode cX0_setOfFallen 37 = .ok (.goto (-33), 3) := by decide +kernel
theorem dX0_setOfFallen_40 : decode cX0_setOfFallen 40 = .ok (.iload_n 1, 1) := by decide +kernel
theorem dX0_setOfFallen_41 : decode cX0_setOfFallen 41 = .ok (.ireturn, 1) := by decide +kernel
theorem dX0_tripDigits_0 : decode cX0_tripDigits 0 = .ok (.iconst 0, 1) := by decide +kernel
theorem dX0_tripDigits_1 : decode cX0_tripDigits 1 = .ok (.istore_n 1, 1) := by decide +kernel
theorem dX0_tripDigits_2 : decode cX0_tripDigits 2 = .ok (.iconst 0, 1) := by decide +kernel
theorem dX0_tripDigits_3 : decode cX0_tripDigits 3 = .ok (.istore_n 2, 1) := by decide +kernel
theorem dX0_tripDigits_4 : decode cX0_tripDigits 4 = .ok (.iload_n 2, 1) := by decide +kernel
theorem dX0_tripDigits_5 : decode cX0_tripDigits 5 = .ok (.aload_n 0, 1) := by decide +kernel
theorem dX0_tripDigits_6 : decode cX0_tripDigits 6 = .ok (.getfield 57, 3) := by decide +kernel
theorem dX0_tripDigits_9 : decode cX0_tripDigits 9 = .ok (.if_icmp .ge 27, 3) := by decide +kernel
theorem dX0_tripDigits_12 : decode cX0_tripDigits 12 = .ok (.iload_n 1, 1) := by decide +kernel
theorem dX0_tripDigits_13 : decode cX0_tripDigits 13 = .ok (.aload_n 0, 1) := by decide +kernel
theorem dX0_tripDigits_14 : decode cX0_tripDigits 14 = .ok (.getfield 19, 3) := by decide +kernel
theorem dX0_tripDigits_17 : decode cX0_tripDigits 17 = .ok (.iload_n 2, 1) := by decide +kernel
theorem dX0_tripDigits_18 : decode cX0_tripDigits 18 = .ok (.aaload, 1) := by decide +kernel
theorem dX0_tripDigits_19 : decode cX0_tripDigits 19 = .ok (.getfield 258, 3) := by decide +kernel
theorem dX0_tripDigits_22 : decode cX0_tripDigits 22 = .ok (.getstatic 268, 3) := by decide +kernel
theorem dX0_tripDigits_25 : decode cX0_tripDigits 25 = .ok (.iload_n 2, 1) := by decide +kernel
theorem dX0_tripDigits_26 : decode cX0_tripDigits 26 = .ok (.iaload, 1) := by decide +kernel
theorem dX0_tripDigits_27 : decode cX0_tripDigits 27 = .ok (.imul, 1) := by decide +kernel
theorem dX0_tripDigits_28 : decode cX0_tripDigits 28 = .ok (.iadd, 1) := by decide +kernel
theorem dX0_tripDigits_29 : decode cX0_tripDigits 29 = .ok (.istore_n 1, 1) := by decide +kernel
theorem dX0_tripDigits_30 : decode cX0_tripDigits 30 = .ok (.iinc 2 1, 3) := by decide +kernel
theorem dX0_tripDigits_33 : decode cX0_tripDigits 33 = .ok (.goto (-29), 3) := by decide +kernel
theorem dX0_tripDigits_36 : decode cX0_tripDigits 36 = .ok (.iload_n 1, 1) := by decide +kernel
theorem dX0_tripDigits_37 : decode cX0_tripDigits 37 = .ok (.ireturn, 1) := by decide +kernel
theorem dX0_countThrough_0 : decode cX0_countThrough 0 = .ok (.iconst 0, 1) := by decide +kernel
theorem dX0_countThrough_1 : decode cX0_countThrough 1 = .ok (.istore_n 2, 1) := by decide +kernel
theorem dX0_countThrough_2 : decode cX0_countThrough 2 = .ok (.iconst 0, 1) := by decide +kernel
theorem dX0_countThrough_3 : decode cX0_countThrough 3 = .ok (.istore_n 3, 1) := by decide +kernel
theorem dX0_countThrough_4 : decode cX0_countThrough 4 = .ok (.iload_n 3, 1) := by decide +kernel
theorem dX0_countThrough_5 : decode cX0_countThrough 5 = .ok (.aload_n 0, 1) := by decide +kernel
theorem dX0_countThrough_6 : decode cX0_countThrough 6 = .ok (.getfield 61, 3) := by decide +kernel
theorem dX0_countThrough_9 : decode cX0_countThrough 9 = .ok (.if_icmp .ge 43, 3) := by decide +kernel
theorem dX0_countThrough_12 : decode cX0_countThrough 12 = .ok (.iload_n 2, 1) := by decide +kernel
theorem dX0_countThrough_13 : decode cX0_countThrough 13 = .ok (.aload_n 0, 1) := by decide +kernel
theorem dX0_countThrough_14 : decode cX0_countThrough 14 = .ok (.getfield 11, 3) := by decide +kernel
theorem dX0_countThrough_17 : decode cX0_countThrough 17 = .ok (.iload_n 3, 1) := by decide +kernel
theorem dX0_countThrough_18 : decode cX0_countThrough 18 = .ok (.aaload, 1) := by decide +kernel
theorem dX0_countThrough_19 : decode cX0_countThrough 19 = .ok (.getfield 174, 3) := by decide +kernel
theorem dX0_countThrough_22 : decode cX0_countThrough 22 = .ok (.iconst 3, 1) := by decide +kernel
theorem dX0_countThrough_23 : decode cX0_countThrough 23 = .ok (.if_icmp .ne 20, 3) := by decide +kernel
theorem dX0_countThrough_26 : decode cX0_countThrough 26 = .ok (.aload_n 0, 1) := by decide +kernel
theorem dX0_countThrough_27 : decode cX0_countThrough 27 = .ok (.getfield 11, 3) := by decide +kernel
theorem dX0_countThrough_30 : decode cX0_countThrough 30 = .ok (.iload_n 3, 1) := by decide +kernel
theorem dX0_countThrough_31 : decode cX0_countThrough 31 = .ok (.aaload, 1) := by decide +kernel
theorem dX0_countThrough_32 : decode cX0_countThrough 32 = .ok (.getfield 271, 3) := by decide +kernel
theorem dX0_countThrough_35 : decode cX0_countThrough 35 = .ok (.iload_n 1, 1) := by decide +kernel
theorem dX0_countThrough_36 : decode cX0_countThrough 36 = .ok (.if_icmp .gt 7, 3) := by decide +kernel
theorem dX0_countThrough_39 : decode cX0_countThrough 39 = .ok (.iconst 1, 1) := by decide +kernel
theorem dX0_countThrough_40 : decode cX0_countThrough 40 = .ok (.goto 4, 3) := by decide +kernel
theorem dX0_countThrough_43 : decode cX0_countThrough 43 = .ok (.iconst 0, 1) := by decide +kernel
theorem dX0_countThrough_44 : decode cX0_countThrough 44 = .ok (.iadd, 1) := by decide +kernel
theorem dX0_countThrough_45 : decode cX0_countThrough 45 = .ok (.istore_n 2, 1) := by decide +kernel
theorem dX0_countThrough_46 : decode cX0_countThrough 46 = .ok (.iinc 3 1, 3) := by decide +kernel
theorem dX0_countThrough_49 : decode cX0_countThrough 49 = .ok (.goto (-45), 3) := by decide +kernel
theorem dX0_countThrough_52 : decode cX0_countThrough 52 = .ok (.iload_n 2, 1) := by decide +kernel
theorem dX0_countThrough_53 : decode cX0_countThrough 53 = .ok (.ireturn, 1) := by decide +kernel
theorem dX0_lastThrough_0 : decode cX0_lastThrough 0 = .ok (.iconst 0, 1) := by decide +kernel
theorem dX0_lastThrough_1 : decode cX0_lastThrough 1 = .ok (.istore_n 1, 1) := by decide +kernel
theorem dX0_lastThrough_2 : decode cX0_lastThrough 2 = .ok (.iconst 0, 1) := by decide +kernel
theorem dX0_lastThrough_3 : decode cX0_lastThrough 3 = .ok (.istore_n 2, 1) := by decide +kernel
theorem dX0_lastThrough_4 : decode cX0_lastThrough 4 = .ok (.iload_n 2, 1) := by decide +kernel
theorem dX0_lastThrough_5 : decode cX0_lastThrough 5 = .ok (.aload_n 0, 1) := by decide +kernel
theorem dX0_lastThrough_6 : decode cX0_lastThrough 6 = .ok (.getfield 61, 3) := by decide +kernel
theorem dX0_lastThrough_9 : decode cX0_lastThrough 9 = .ok (.if_icmp .ge 41, 3) := by decide +kernel
theorem dX0_lastThrough_12 : decode cX0_lastThrough 12 = .ok (.iload_n 1, 1) := by decide +kernel
theorem dX0_lastThrough_13 : decode cX0_lastThrough 13 = .ok (.aload_n 0, 1) := by decide +kernel
theorem dX0_lastThrough_14 : decode cX0_lastThrough 14 = .ok (.getfield 11, 3) := by decide +kernel
theorem dX0_lastThrough_17 : decode cX0_lastThrough 17 = .ok (.iload_n 2, 1) := by decide +kernel
theorem dX0_lastThrough_18 : decode cX0_lastThrough 18 = .ok (.aaload, 1) := by decide +kernel
theorem dX0_lastThrough_19 : decode cX0_lastThrough 19 = .ok (.getfield 174, 3) := by decide +kernel
theorem dX0_lastThrough_22 : decode cX0_lastThrough 22 = .ok (.iconst 3, 1) := by decide +kernel
theorem dX0_lastThrough_23 : decode cX0_lastThrough 23 = .ok (.if_icmp .ne 15, 3) := by decide +kernel
theorem dX0_lastThrough_26 : decode cX0_lastThrough 26 = .ok (.aload_n 0, 1) := by decide +kernel
theorem dX0_lastThrough_27 : decode cX0_lastThrough 27 = .ok (.getfield 11, 3) := by decide +kernel
theorem dX0_lastThrough_30 : decode cX0_lastThrough 30 = .ok (.iload_n 2, 1) := by decide +kernel
theorem dX0_lastThrough_31 : decode cX0_lastThrough 31 = .ok (.aaload, 1) := by decide +kernel
theorem dX0_lastThrough_32 : decode cX0_lastThrough 32 = .ok (.getfield 271, 3) := by decide +kernel
theorem dX0_lastThrough_35 : decode cX0_lastThrough 35 = .ok (.goto 5, 3) := by decide +kernel
theorem dX0_lastThrough_38 : decode cX0_lastThrough 38 = .ok (.bipush 100, 2) := by decide +kernel
theorem dX0_lastThrough_40 : decode cX0_lastThrough 40 = .ok (.invokestatic 253, 3) := by decide +kernel
theorem dX0_lastThrough_43 : decode cX0_lastThrough 43 = .ok (.istore_n 1, 1) := by decide +kernel
theorem dX0_lastThrough_44 : decode cX0_lastThrough 44 = .ok (.iinc 2 1, 3) := by decide +kernel
theorem dX0_lastThrough_47 : decode cX0_lastThrough 47 = .ok (.goto (-43), 3) := by decide +kernel
theorem dX0_lastThrough_50 : decode cX0_lastThrough 50 = .ok (.iload_n 1, 1) := by decide +kernel
theorem dX0_lastThrough_51 : decode cX0_lastThrough 51 = .ok (.ireturn, 1) := by decide +kernel
theorem dX1_init_0 : decode cX1_init 0 = .ok (.aload_n 0, 1) := by decide +kernel
theorem dX1_init_1 : decode cX1_init 1 = .ok (.invokespecial 3, 3) := by decide +kernel
theorem dX1_init_4 : decode cX1_init 4 = .ok (.aload_n 0, 1) := by decide +kernel
theorem dX1_init_5 : decode cX1_init 5 = .ok (.bipush 20, 2) := by decide +kernel
theorem dX1_init_7 : decode cX1_init 7 = .ok (.newarray .int, 2) := by decide +kernel
theorem dX1_init_9 : decode cX1_init 9 = .ok (.putfield 9, 3) := by decide +kernel
theorem dX1_init_12 : decode cX1_init 12 = .ok (.aload_n 0, 1) := by decide +kernel
theorem dX1_init_13 : decode cX1_init 13 = .ok (.bipush 10, 2) := by decide +kernel
theorem dX1_init_15 : decode cX1_init 15 = .ok (.putfield 15, 3) := by decide +kernel
theorem dX1_init_18 : decode cX1_init 18 = .ok (.aload_n 0, 1) := by decide +kernel
theorem dX1_init_19 : decode cX1_init 19 = .ok (.bipush 10, 2) := by decide +kernel
theorem dX1_init_21 : decode cX1_init 21 = .ok (.iconst 0, 1) := by decide +kernel
theorem dX1_init_22 : decode cX1_init 22 = .ok (.iconst 1, 1) := by decide +kernel
theorem dX1_init_23 : decode cX1_init 23 = .ok (.invokevirtual 19, 3) := by decide +kernel
theorem dX1_init_26 : decode cX1_init 26 = .ok (.return_, 1) := by decide +kernel
theorem dX1_begin_0 : decode cX1_begin 0 = .ok (.aload_n 0, 1) := by decide +kernel
theorem dX1_begin_1 : decode cX1_begin 1 = .ok (.iconst 1, 1) := by decide +kernel
theorem dX1_begin_2 : decode cX1_begin 2 = .ok (.iload_n 1, 1) := by decide +kernel
theorem dX1_begin_3 : decode cX1_begin 3 = .ok (.bipush 10, 2) := by decide +kernel
theorem dX1_begin_5 : decode cX1_begin 5 = .ok (.invokestatic 23, 3) := by decide +kernel
theorem dX1_begin_8 : decode cX1_begin 8 = .ok (.invokestatic 29, 3) := by decide +kernel
theorem dX1_begin_11 : decode cX1_begin 11 = .ok (.putfield 15, 3) := by decide +kernel
theorem dX1_begin_14 : decode cX1_begin 14 = .ok (.aload_n 0, 1) := by decide +kernel
theorem dX1_begin_15 : decode cX1_begin 15 = .ok (.iload_n 2, 1) := by decide +kernel
theorem dX1_begin_16 : decode cX1_begin 16 = .ok (.putfield 32, 3) := by decide +kernel
theorem dX1_begin_19 : decode cX1_begin 19 = .ok (.aload_n 0, 1) := by decide +kernel
theorem dX1_begin_20 : decode cX1_begin 20 = .ok (.iload_n 3, 1) := by decide +kernel
theorem dX1_begin_21 : decode cX1_begin 21 = .ok (.putfield 35, 3) := by decide +kernel
theorem dX1_begin_24 : decode cX1_begin 24 = .ok (.aload_n 0, 1) := by decide +kernel
theorem dX1_begin_25 : decode cX1_begin 25 = .ok (.iconst 0, 1) := by decide +kernel
theorem dX1_begin_26 : decode cX1_begin 26 = .ok (.putfield 38, 3) := by decide +kernel
theorem dX1_begin_29 : decode cX1_begin 29 = .ok (.aload_n 0, 1) := by decide +kernel
theorem dX1_begin_30 : decode cX1_begin 30 = .ok (.invokevirtual 41, 3) := by decide +kernel
theorem dX1_begin_33 : decode cX1_begin 33 = .ok (.return_, 1) := by decide +kernel
theorem dX1_copyFrom_0 : decode cX1_copyFrom 0 = .ok (.aload_n 1, 1) := by decide +kernel
theorem dX1_copyFrom_1 : decode cX1_copyFrom 1 = .ok (.getfield 9, 3) := by decide +kernel
theorem dX1_copyFrom_4 : decode cX1_copyFrom 4 = .ok (.iconst 0, 1) := by decide +kernel
theorem dX1_copyFrom_5 : decode cX1_copyFrom 5 = .ok (.aload_n 0, 1) := by decide +kernel
theorem dX1_copyFrom_6 : decode cX1_copyFrom 6 = .ok (.getfield 9, 3) := by decide +kernel
theorem dX1_copyFrom_9 : decode cX1_copyFrom 9 = .ok (.iconst 0, 1) := by decide +kernel
theorem dX1_copyFrom_10 : decode cX1_copyFrom 10 = .ok (.aload_n 0, 1) := by decide +kernel
theorem dX1_copyFrom_11 : decode cX1_copyFrom 11 = .ok (.getfield 9, 3) := by decide +kernel
theorem dX1_copyFrom_14 : decode cX1_copyFrom 14 = .ok (.arraylength, 1) := by decide +kernel
theorem dX1_copyFrom_15 : decode cX1_copyFrom 15 = .ok (.invokestatic 44, 3) := by decide +kernel
theorem dX1_copyFrom_18 : decode cX1_copyFrom 18 = .ok (.aload_n 0, 1) := by decide +kernel
theorem dX1_copyFrom_19 : decode cX1_copyFrom 19 = .ok (.aload_n 1, 1) := by decide +kernel
theorem dX1_copyFrom_20 : decode cX1_copyFrom 20 = .ok (.getfield 15, 3) := by decide +kernel
theorem dX1_copyFrom_23 : decode cX1_copyFrom 23 = .ok (.putfield 15, 3) := by decide +kernel
theorem dX1_copyFrom_26 : decode cX1_copyFrom 26 = .ok (.aload_n 0, 1) := by decide +kernel
theorem dX1_copyFrom_27 : decode cX1_copyFrom 27 = .ok (.aload_n 1, 1) := by decide +kernel
theorem dX1_copyFrom_28 : decode cX1_copyFrom 28 = .ok (.getfield 32, 3) := by decide +kernel
theorem dX1_copyFrom_31 : decode cX1_copyFrom 31 = .ok (.putfield 32, 3) := by decide +kernel
theorem dX1_copyFrom_34 : decode cX1_copyFrom 34 = .ok (.aload_n 0, 1) := by decide +kernel
theorem dX1_copyFrom_35 : decode cX1_copyFrom 35 = .ok (.aload_n 1, 1) := by decide +kernel
theorem dX1_copyFrom_36 : decode cX1_copyFrom 36 = .ok (.getfield 35, 3) := by decide +kernel
theorem dX1_copyFrom_39 : decode cX1_copyFrom 39 = .ok (.putfield 35, 3) := by decide +kernel
theorem dX1_copyFrom_42 : decode cX1_copyFrom 42 = .ok (.aload_n 0, 1) := by decide +kernel
theorem dX1_copyFrom_43 : decode cX1_copyFrom 43 = .ok (.aload_n 1, 1) := by decide +kernel
theorem dX1_copyFrom_44 : decode cX1_copyFrom 44 = .ok (.getfield 38, 3) := by decide +kernel
theorem dX1_copyFrom_47 : decode cX1_copyFrom 47 = .ok (.putfield 38, 3) := by decide +kernel
theorem dX1_copyFrom_50 : decode cX1_copyFrom 50 = .ok (.aload_n 0, 1) := by decide +kernel
theorem dX1_copyFrom_51 : decode cX1_copyFrom 51 = .ok (.aload_n 1, 1) := by decide +kernel
theorem dX1_copyFrom_52 : decode cX1_copyFrom 52 = .ok (.getfield 50, 3) := by decide +kernel
theorem dX1_copyFrom_55 : decode cX1_copyFrom 55 = .ok (.putfield 50, 3) := by decide +kernel
theorem dX1_copyFrom_58 : decode cX1_copyFrom 58 = .ok (.return_, 1) := by decide +kernel
theorem dX1_moves_0 : decode cX1_moves 0 = .ok (.aload_n 0, 1) := by decide +kernel
theorem dX1_moves_1 : decode cX1_moves 1 = .ok (.getfield 32, 3) := by decide +kernel
theorem dX1_moves_4 : decode cX1_moves 4 = .ok (.ifCond .eq 14, 3) := by decide +kernel
theorem dX1_moves_7 : decode cX1_moves 7 = .ok (.aload_n 0, 1) := by decide +kernel
theorem dX1_moves_8 : decode cX1_moves 8 = .ok (.getfield 38, 3) := by decide +kernel
theorem dX1_moves_11 : decode cX1_moves 11 = .ok (.ifCond .ne 7, 3) := by decide +kernel
theorem dX1_moves_14 : decode cX1_moves 14 = .ok (.iconst 1, 1) := by decide +kernel
theorem dX1_moves_15 : decode cX1_moves 15 = .ok (.goto 4, 3) := by decide +kernel
theorem dX1_moves_18 : decode cX1_moves 18 = .ok (.iconst 0, 1) := by decide +kernel
theorem dX1_moves_19 : decode cX1_moves 19 = .ok (.ireturn, 1) := by decide +kernel
theorem dX1_startFloor_0 : decode cX1_startFloor 0 = .ok (.aload_n 0, 1) := by decide +kernel
theorem dX1_startFloor_1 : decode cX1_startFloor 1 = .ok (.getfield 32, 3) := by decide +kernel
theorem dX1_startFloor_4 : decode cX1_startFloor 4 = .ok (.iconst 2, 1) := by decide +kernel
theorem dX1_startFloor_5 : decode cX1_startFloor 5 = .ok (.if_icmp .ne 7, 3) := by decide +kernel
theorem dX1_startFloor_8 : decode cX1_startFloor 8 = .ok (.iconst 1, 1) := by decide +kernel
theorem dX1_startFloor_9 : decode cX1_startFloor 9 = .ok (.goto 4, 3) := by decide +kernel
theorem dX1_startFloor_12 : decode cX1_startFloor 12 = .ok (.iconst 0, 1) := by decide +kernel
theorem dX1_startFloor_13 : decode cX1_startFloor 13 = .ok (.ireturn, 1) := by decide +kernel
theorem dX1_endFloor_0 : decode cX1_endFloor 0 = .ok (.aload_n 0, 1) := by decide +kernel
theorem dX1_endFloor_1 : decode cX1_endFloor 1 = .ok (.getfield 32, 3) := by decide +kernel
theorem dX1_endFloor_4 : decode cX1_endFloor 4 = .ok (.iconst 2, 1) := by decide +kernel
theorem dX1_endFloor_5 : decode cX1_endFloor 5 = .ok (.if_icmp .ne 7, 3) := by decide +kernel
theorem dX1_endFloor_8 : decode cX1_endFloor 8 = .ok (.iconst 0, 1) := by decide +kernel
theorem dX1_endFloor_9 : decode cX1_endFloor 9 = .ok (.goto 4, 3) := by decide +kernel
theorem dX1_endFloor_12 : decode cX1_endFloor 12 = .ok (.iconst 1, 1) := by decide +kernel
theorem dX1_endFloor_13 : decode cX1_endFloor 13 = .ok (.ireturn, 1) := by decide +kernel
theorem dX1_who_0 : decode cX1_who 0 = .ok (.iconst 0, 1) := by decide +kernel
theorem dX1_who_1 : decode cX1_who 1 = .ok (.iload_n 1, 1) := by decide +kernel
theorem dX1_who_2 : decode cX1_who 2 = .ok (.if_icmp .gt 34, 3) := by decide +kernel
theorem dX1_who_5 : decode cX1_who 5 = .ok (.iload_n 1, 1) := by decide +kernel
theorem dX1_who_6 : decode cX1_who 6 = .ok (.aload_n 0, 1) := by decide +kernel
theorem dX1_who_7 : decode cX1_who 7 = .ok (.getfield 15, 3) := by decide +kernel
theorem dX1_who_10 : decode cX1_who 10 = .ok (.if_icmp .ge 26, 3) := by decide +kernel
theorem dX1_who_13 : decode cX1_who 13 = .ok (.iconst 0, 1) := by decide +kernel
theorem dX1_who_14 : decode cX1_who 14 = .ok (.iload_n 2, 1) := by decide +kernel
theorem dX1_who_15 : decode cX1_who 15 = .ok (.if_icmp .gt 21, 3) := by decide +kernel
theorem dX1_who_18 : decode cX1_who 18 = .ok (.iload_n 2, 1) := by decide +kernel
theorem dX1_who_19 : decode cX1_who 19 = .ok (.iconst 1, 1) := by decide +kernel
theorem dX1_who_20 : decode cX1_who 20 = .ok (.if_icmp .gt 16, 3) := by decide +kernel
theorem dX1_who_23 : decode cX1_who 23 = .ok (.aload_n 0, 1) := by decide +kernel
theorem dX1_who_24 : decode cX1_who 24 = .ok (.getfield 9, 3) := by decide +kernel
theorem dX1_who_27 : decode cX1_who 27 = .ok (.iconst 2, 1) := by decide +kernel
theorem dX1_who_28 : decode cX1_who 28 = .ok (.iload_n 1, 1) := by decide +kernel
theorem dX1_who_29 : decode cX1_who 29 = .ok (.imul, 1) := by decide +kernel
theorem dX1_who_30 : decode cX1_who 30 = .ok (.iload_n 2, 1) := by decide +kernel
theorem dX1_who_31 : decode cX1_who 31 = .ok (.iadd, 1) := by decide +kernel
theorem dX1_who_32 : decode cX1_who 32 = .ok (.iaload, 1) := by decide +kernel
theorem dX1_who_33 : decode cX1_who 33 = .ok (.goto 4, 3) := by decide +kernel
theorem dX1_who_36 : decode cX1_who 36 = .ok (.iconst (-1), 1) := by decide +kernel
theorem dX1_who_37 : decode cX1_who 37 = .ok (.ireturn, 1) := by decide +kernel
theorem dX1_put_0 : decode cX1_put 0 = .ok (.iconst 0, 1) := by decide +kernel
theorem dX1_put_1 : decode cX1_put 1 = .ok (.iload_n 1, 1) := by decide +kernel
theorem dX1_put_2 : decode cX1_put 2 = .ok (.if_icmp .gt 32, 3) := by decide +kernel
theorem dX1_put_5 : decode cX1_put 5 = .ok (.iload_n 1, 1) := by decide +kernel
theorem dX1_put_6 : decode cX1_put 6 = .ok (.aload_n 0, 1) := by decide +kernel
theorem dX1_put_7 : decode cX1_put 7 = .ok (.getfield 15, 3) := by decide +kernel
theorem dX1_put_10 : decode cX1_put 10 = .ok (.if_icmp .ge 24, 3) := by decide +kernel
theorem dX1_put_13 : decode cX1_put 13 = .ok (.iconst 0, 1) := by decide +kernel
theorem dX1_put_14 : decode cX1_put 14 = .ok (.iload_n 2, 1) := by decide +kernel
theorem dX1_put_15 : decode cX1_put 15 = .ok (.if_icmp .gt 19, 3) := by decide +kernel
theorem dX1_put_18 : decode cX1_put 18 = .ok (.iload_n 2, 1) := by decide +kernel
theorem dX1_put_19 : decode cX1_put 19 = .ok (.iconst 1, 1) := by decide +kernel
theorem dX1_put_20 : decode cX1_put 20 = .ok (.if_icmp .gt 14, 3) := by decide +kernel
theorem dX1_put_23 : decode cX1_put 23 = .ok (.aload_n 0, 1) := by decide +kernel
theorem dX1_put_24 : decode cX1_put 24 = .ok (.getfield 9, 3) := by decide +kernel
theorem dX1_put_27 : decode cX1_put 27 = .ok (.iconst 2, 1) := by decide +kernel
theorem dX1_put_28 : decode cX1_put 28 = .ok (.iload_n 1, 1) := by decide +kernel
theorem dX1_put_29 : decode cX1_put 29 = .ok (.imul, 1) := by decide +kernel
theorem dX1_put_30 : decode cX1_put 30 = .ok (.iload_n 2, 1) := by decide +kernel
theorem dX1_put_31 : decode cX1_put 31 = .ok (.iadd, 1) := by decide +kernel
theorem dX1_put_32 : decode cX1_put 32 = .ok (.iload_n 3, 1) := by decide +kernel
theorem dX1_put_33 : decode cX1_put 33 = .ok (.iastore, 1) := by decide +kernel
theorem dX1_put_34 : decode cX1_put 34 = .ok (.return_, 1) := by decide +kernel
theorem dX1_empty_0 : decode cX1_empty 0 = .ok (.aload_n 0, 1) := by decide +kernel
theorem dX1_empty_1 : decode cX1_empty 1 = .ok (.getfield 9, 3) := by decide +kernel
theorem dX1_empty_4 : decode cX1_empty 4 = .ok (.iconst (-1), 1) := by decide +kernel
theorem dX1_empty_5 : decode cX1_empty 5 = .ok (.invokestatic 53, 3) := by decide +kernel
theorem dX1_empty_8 : decode cX1_empty 8 = .ok (.aload_n 0, 1) := by decide +kernel
theorem dX1_empty_9 : decode cX1_empty 9 = .ok (.iconst 0, 1) := by decide +kernel
theorem dX1_empty_10 : decode cX1_empty 10 = .ok (.putfield 50, 3) := by decide +kernel
theorem dX1_empty_13 : decode cX1_empty 13 = .ok (.return_, 1) := by decide +kernel
theorem dX1_countOnLastStep_0 : decode cX1_countOnLastStep 0 = .ok (.aload_n 0, 1) := by decide +kernel
theorem dX1_countOnLastStep_1 : decode cX1_countOnLastStep 1 = .ok (.aload_n 0, 1) := by decide +kernel
theorem dX1_countOnLastStep_2 : decode cX1_countOnLastStep 2 = .ok (.getfield 15, 3) := by decide +kernel
theorem dX1_countOnLastStep_5 : decode cX1_countOnLastStep 5 = .ok (.iconst 1, 1) := by decide +kernel
theorem dX1_countOnLastStep_6 : decode cX1_countOnLastStep 6 = .ok (.isub, 1) := by decide +kernel
theorem dX1_countOnLastStep_7 : decode cX1_countOnLastStep 7 = .ok (.iconst 0, 1) := by decide +kernel
theorem dX1_countOnLastStep_8 : decode cX1_countOnLastStep 8 = .ok (.invokevirtual 59, 3) := by decide +kernel
theorem dX1_countOnLastStep_11 : decode cX1_countOnLastStep 11 = .ok (.istore_n 1, 1) := by decide +kernel
theorem dX1_countOnLastStep_12 : decode cX1_countOnLastStep 12 = .ok (.aload_n 0, 1) := by decide +kernel
theorem dX1_countOnLastStep_13 : decode cX1_countOnLastStep 13 = .ok (.aload_n 0, 1) := by decide +kernel
theorem dX1_countOnLastStep_14 : decode cX1_countOnLastStep 14 = .ok (.getfield 15, 3) := by decide +kernel
theorem dX1_countOnLastStep_17 : decode cX1_countOnLastStep 17 = .ok (.iconst 1, 1) := by decide +kernel
theorem dX1_countOnLastStep_18 : decode cX1_countOnLastStep 18 = .ok (.isub, 1) := by decide +kernel
theorem dX1_countOnLastStep_19 : decode cX1_countOnLastStep 19 = .ok (.iconst 1, 1) := by decide +kernel
theorem dX1_countOnLastStep_20 : decode cX1_countOnLastStep 20 = .ok (.invokevirtual 59, 3) := by decide +kernel
theorem dX1_countOnLastStep_23 : decode cX1_countOnLastStep 23 = .ok (.istore_n 2, 1) := by decide +kernel
theorem dX1_countOnLastStep_24 : decode cX1_countOnLastStep 24 = .ok (.iload_n 1, 1) := by decide +kernel
theorem dX1_countOnLastStep_25 : decode cX1_countOnLastStep 25 = .ok (.ifCond .ge 7, 3) := by decide +kernel
theorem dX1_countOnLastStep_28 : decode cX1_countOnLastStep 28 = .ok (.iconst 0, 1) := by decide +kernel
theorem dX1_countOnLastStep_29 : decode cX1_countOnLastStep 29 = .ok (.goto 4, 3) := by decide +kernel
theorem dX1_countOnLastStep_32 : decode cX1_countOnLastStep 32 = .ok (.iconst 1, 1) := by decide +kernel
theorem dX1_countOnLastStep_33 : decode cX1_countOnLastStep 33 = .ok (.istore_n 3, 1) := by decide +kernel
theorem dX1_countOnLastStep_34 : decode cX1_countOnLastStep 34 = .ok (.iload_n 2, 1) := by decide +kernel
theorem dX1_countOnLastStep_35 : decode cX1_countOnLastStep 35 = .ok (.ifCond .lt 8, 3) := by decide +kernel
theorem dX1_countOnLastStep_38 : decode cX1_countOnLastStep 38 = .ok (.iload_n 2, 1) := by decide +kernel
theorem dX1_countOnLastStep_39 : decode cX1_countOnLastStep 39 = .ok (.iload_n 1, 1) := by decide +kernel
theorem dX1_countOnLastStep_40 : decode cX1_countOnLastStep 40 = .ok (.if_icmp .ne 7, 3) := by decide +kernel
theorem dX1_countOnLastStep_43 : decode cX1_countOnLastStep 43 = .ok (.iload_n 3, 1) := by decide +kernel
theorem dX1_countOnLastStep_44 : decode cX1_countOnLastStep 44 = .ok (.goto 6, 3) := by decide +kernel
theorem dX1_countOnLastStep_47 : decode cX1_countOnLastStep 47 = .ok (.iload_n 3, 1) := by decide +kernel
theorem dX1_countOnLastStep_48 : decode cX1_countOnLastStep 48 = .ok (.iconst 1, 1) := by decide +kernel
theorem dX1_countOnLastStep_49 : decode cX1_countOnLastStep 49 = .ok (.iadd, 1) := by decide +kernel
theorem dX1_countOnLastStep_50 : decode cX1_countOnLastStep 50 = .ok (.ireturn, 1) := by decide +kernel
theorem dX1_goOneStep_0 : decode cX1_goOneStep 0 = .ok (.aload_n 0, 1) := by decide +kernel
theorem dX1_goOneStep_1 : decode cX1_goOneStep 1 = .ok (.getfield 9, 3) := by decide +kernel
theorem dX1_goOneStep_4 : decode cX1_goOneStep 4 = .ok (.iconst 0, 1) := by decide +kernel
theorem dX1_goOneStep_5 : decode cX1_goOneStep 5 = .ok (.aload_n 0, 1) := by decide +kernel
theorem dX1_goOneStep_6 : decode cX1_goOneStep 6 = .ok (.getfield 9, 3) := by decide +kernel
theorem dX1_goOneStep_9 : decode cX1_goOneStep 9 = .ok (.iconst 2, 1) := by decide +kernel
theorem dX1_goOneStep_10 : decode cX1_goOneStep 10 = .ok (.iconst 2, 1) := by decide +kernel
theorem dX1_goOneStep_11 : decode cX1_goOneStep 11 = .ok (.aload_n 0, 1) := by decide +kernel
theorem dX1_goOneStep_12 : decode cX1_goOneStep 12 = .ok (.getfield 15, 3) := by decide +kernel
theorem dX1_goOneStep_15 : decode cX1_goOneStep 15 = .ok (.iconst 1, 1) := by decide +kernel
theorem dX1_goOneStep_16 : decode cX1_goOneStep 16 = .ok (.isub, 1) := by decide +kernel
theorem dX1_goOneStep_17 : decode cX1_goOneStep 17 = .ok (.imul, 1) := by decide +kernel
theorem dX1_goOneStep_18 : decode cX1_goOneStep 18 = .ok (.invokestatic 44, 3) := by decide +kernel
theorem dX1_goOneStep_21 : decode cX1_goOneStep 21 = .ok (.aload_n 0, 1) := by decide +kernel
theorem dX1_goOneStep_22 : decode cX1_goOneStep 22 = .ok (.getfield 9, 3) := by decide +kernel
theorem dX1_goOneStep_25 : decode cX1_goOneStep 25 = .ok (.iconst 0, 1) := by decide +kernel
theorem dX1_goOneStep_26 : decode cX1_goOneStep 26 = .ok (.iconst (-1), 1) := by decide +kernel
theorem dX1_goOneStep_27 : decode cX1_goOneStep 27 = .ok (.iastore, 1) := by decide +kernel
theorem dX1_goOneStep_28 : decode cX1_goOneStep 28 = .ok (.aload_n 0, 1) := by decide +kernel
theorem dX1_goOneStep_29 : decode cX1_goOneStep 29 = .ok (.getfield 9, 3) := by decide +kernel
theorem dX1_goOneStep_32 : decode cX1_goOneStep 32 = .ok (.iconst 1, 1) := by decide +kernel
theorem dX1_goOneStep_33 : decode cX1_goOneStep 33 = .ok (.iconst (-1), 1) := by decide +kernel
theorem dX1_goOneStep_34 : decode cX1_goOneStep 34 = .ok (.iastore, 1) := by decide +kernel
theorem dX1_goOneStep_35 : decode cX1_goOneStep 35 = .ok (.return_, 1) := by decide +kernel
theorem dX1_turnRound_0 : decode cX1_turnRound 0 = .ok (.iconst 0, 1) := by decide +kernel
theorem dX1_turnRound_1 : decode cX1_turnRound 1 = .ok (.istore_n 1, 1) := by decide +kernel
theorem dX1_turnRound_2 : decode cX1_turnRound 2 = .ok (.aload_n 0, 1) := by decide +kernel
theorem dX1_turnRound_3 : decode cX1_turnRound 3 = .ok (.getfield 15, 3) := by decide +kernel
theorem dX1_turnRound_6 : decode cX1_turnRound 6 = .ok (.iconst 1, 1) := by decide +kernel
theorem dX1_turnRound_7 : decode cX1_turnRound 7 = .ok (.isub, 1) := by decide +kernel
theorem dX1_turnRound_8 : decode cX1_turnRound 8 = .ok (.istore_n 2, 1) := by decide +kernel
theorem dX1_turnRound_9 : decode cX1_turnRound 9 = .ok (.iload_n 1, 1) := by decide +kernel
theorem dX1_turnRound_10 : decode cX1_turnRound 10 = .ok (.iload_n 2, 1) := by decide +kernel
theorem dX1_turnRound_11 : decode cX1_turnRound 11 = .ok (.if_icmp .ge 53, 3) := by decide +kernel
theorem dX1_turnRound_14 : decode cX1_turnRound 14 = .ok (.iconst 0, 1) := by decide +kernel
theorem dX1_turnRound_15 : decode cX1_turnRound 15 = .ok (.istore_n 3, 1) := by decide +kernel
theorem dX1_turnRound_16 : decode cX1_turnRound 16 = .ok (.iload_n 3, 1) := by decide +kernel
theorem dX1_turnRound_17 : decode cX1_turnRound 17 = .ok (.iconst 1, 1) := by decide +kernel
theorem dX1_turnRound_18 : decode cX1_turnRound 18 = .ok (.if_icmp .gt 37, 3) := by decide +kernel
theorem dX1_turnRound_21 : decode cX1_turnRound 21 = .ok (.aload_n 0, 1) := by decide +kernel
theorem dX1_turnRound_22 : decode cX1_turnRound 22 = .ok (.iload_n 1, 1) := by decide +kernel
theorem dX1_turnRound_23 : decode cX1_turnRound 23 = .ok (.iload_n 3, 1) := by decide +kernel
theorem dX1_turnRound_24 : decode cX1_turnRound 24 = .ok (.invokevirtual 59, 3) := by decide +kernel
theorem dX1_turnRound_27 : decode cX1_turnRound 27 = .ok (.istore 4, 2) := by decide +kernel
theorem dX1_turnRound_29 : decode cX1_turnRound 29 = .ok (.aload_n 0, 1) := by decide +kernel
theorem dX1_turnRound_30 : decode cX1_turnRound 30 = .ok (.iload_n 1, 1) := by decide +kernel
theorem dX1_turnRound_31 : decode cX1_turnRound 31 = .ok (.iload_n 3, 1) := by decide +kernel
theorem dX1_turnRound_32 : decode cX1_turnRound 32 = .ok (.aload_n 0, 1) := by decide +kernel
theorem dX1_turnRound_33 : decode cX1_turnRound 33 = .ok (.iload_n 2, 1) := by decide +kernel
theorem dX1_turnRound_34 : decode cX1_turnRound 34 = .ok (.iload_n 3, 1) := by decide +kernel
theorem dX1_turnRound_35 : decode cX1_turnRound 35 = .ok (.invokevirtual 59, 3) := by decide +kernel
theorem dX1_turnRound_38 : decode cX1_turnRound 38 = .ok (.invokevirtual 62, 3) := by decide +kernel
theorem dX1_turnRound_41 : decode cX1_turnRound 41 = .ok (.aload_n 0, 1) := by decide +kernel
theorem dX1_turnRound_42 : decode cX1_turnRound 42 = .ok (.iload_n 2, 1) := by decide +kernel
theorem dX1_turnRound_43 : decode cX1_turnRound 43 = .ok (.iload_n 3, 1) := by decide +kernel
theorem dX1_turnRound_44 : decode cX1_turnRound 44 = .ok (.iload 4, 2) := by decide +kernel
theorem dX1_turnRound_46 : decode cX1_turnRound 46 = .ok (.invokevirtual 62, 3) := by decide +kernel
theorem dX1_turnRound_49 : decode cX1_turnRound 49 = .ok (.iinc 3 1, 3) := by decide +kernel
theorem dX1_turnRound_52 : decode cX1_turnRound 52 = .ok (.goto (-36), 3) := by decide +kernel
theorem dX1_turnRound_55 : decode cX1_turnRound 55 = .ok (.iinc 1 1, 3) := by decide +kernel
theorem dX1_turnRound_58 : decode cX1_turnRound 58 = .ok (.iinc 2 (-1), 3) := by decide +kernel
theorem dX1_turnRound_61 : decode cX1_turnRound 61 = .ok (.goto (-52), 3) := by decide +kernel
theorem dX1_turnRound_64 : decode cX1_turnRound 64 = .ok (.return_, 1) := by decide +kernel
theorem dX2_init_0 : decode cX2_init 0 = .ok (.aload_n 0, 1) := by decide +kernel
theorem dX2_init_1 : decode cX2_init 1 = .ok (.invokespecial 3, 3) := by decide +kernel
theorem dX2_init_4 : decode cX2_init 4 = .ok (.aload_n 0, 1) := by decide +kernel
theorem dX2_init_5 : decode cX2_init 5 = .ok (.iconst 3, 1) := by decide +kernel
theorem dX2_init_6 : decode cX2_init 6 = .ok (.iconst 3, 1) := by decide +kernel
theorem dX2_init_7 : decode cX2_init 7 = .ok (.multianewarray 9 2, 4) := by decide +kernel
theorem dX2_init_11 : decode cX2_init 11 = .ok (.putfield 11, 3) := by decide +kernel
theorem dX2_init_14 : decode cX2_init 14 = .ok (.aload_n 0, 1) := by decide +kernel
theorem dX2_init_15 : decode cX2_init 15 = .ok (.iconst 3, 1) := by decide +kernel
theorem dX2_init_16 : decode cX2_init 16 = .ok (.bipush 14, 2) := by decide +kernel
theorem dX2_init_18 : decode cX2_init 18 = .ok (.multianewarray 9 2, 4) := by decide +kernel
theorem dX2_init_22 : decode cX2_init 22 = .ok (.putfield 16, 3) := by decide +kernel
theorem dX2_init_25 : decode cX2_init 25 = .ok (.aload_n 0, 1) := by decide +kernel
theorem dX2_init_26 : decode cX2_init 26 = .ok (.getstatic 19, 3) := by decide +kernel
theorem dX2_init_29 : decode cX2_init 29 = .ok (.arraylength, 1) := by decide +kernel
theorem dX2_init_30 : decode cX2_init 30 = .ok (.newarray .int, 2) := by decide +kernel
theorem dX2_init_32 : decode cX2_init 32 = .ok (.putfield 23, 3) := by decide +kernel
theorem dX2_init_35 : decode cX2_init 35 = .ok (.getstatic 19, 3) := by decide +kernel
theorem dX2_init_38 : decode cX2_init 38 = .ok (.iconst 0, 1) := by decide +kernel
theorem dX2_init_39 : decode cX2_init 39 = .ok (.aload_n 0, 1) := by decide +kernel
theorem dX2_init_40 : decode cX2_init 40 = .ok (.getfield 23, 3) := by decide +kernel
theorem dX2_init_43 : decode cX2_init 43 = .ok (.iconst 0, 1) := by decide +kernel
theorem dX2_init_44 : decode cX2_init 44 = .ok (.aload_n 0, 1) := by decide +kernel
theorem dX2_init_45 : decode cX2_init 45 = .ok (.getfield 23, 3) := by decide +kernel
theorem dX2_init_48 : decode cX2_init 48 = .ok (.arraylength, 1) := by decide +kernel
theorem dX2_init_49 : decode cX2_init 49 = .ok (.invokestatic 26, 3) := by decide +kernel
theorem dX2_init_52 : decode cX2_init 52 = .ok (.return_, 1) := by decide +kernel
theorem dX2_copyFrom_0 : decode cX2_copyFrom 0 = .ok (.iconst 0, 1) := by decide +kernel
theorem dX2_copyFrom_1 : decode cX2_copyFrom 1 = .ok (.istore_n 2, 1) := by decide +kernel
theorem dX2_copyFrom_2 : decode cX2_copyFrom 2 = .ok (.iload_n 2, 1) := by decide +kernel
theorem dX2_copyFrom_3 : decode cX2_copyFrom 3 = .ok (.iconst 3, 1) := by decide +kernel
theorem dX2_copyFrom_4 : decode cX2_copyFrom 4 = .ok (.if_icmp .ge 46, 3) := by decide +kernel
theorem dX2_copyFrom_7 : decode cX2_copyFrom 7 = .ok (.aload_n 1, 1) := by decide +kernel
theorem dX2_copyFrom_8 : decode cX2_copyFrom 8 = .ok (.getfield 11, 3) := by decide +kernel
theorem dX2_copyFrom_11 : decode cX2_copyFrom 11 = .ok (.iload_n 2, 1) := by decide +kernel
theorem dX2_copyFrom_12 : decode cX2_copyFrom 12 = .ok (.aaload, 1) := by decide +kernel
theorem dX2_copyFrom_13 : decode cX2_copyFrom 13 = .ok (.iconst 0, 1) := by decide +kernel
theorem dX2_copyFrom_14 : decode cX2_copyFrom 14 = .ok (.aload_n 0, 1) := by decide +kernel
theorem dX2_copyFrom_15 : decode cX2_copyFrom 15 = .ok (.getfield 11, 3) := by decide +kernel
theorem dX2_copyFrom_18 : decode cX2_copyFrom 18 = .ok (.iload_n 2, 1) := by decide +kernel
theorem dX2_copyFrom_19 : decode cX2_copyFrom 19 = .ok (.aaload, 1) := by decide +kernel
theorem dX2_copyFrom_20 : decode cX2_copyFrom 20 = .ok (.iconst 0, 1) := by decide +kernel
theorem dX2_copyFrom_21 : decode cX2_copyFrom 21 = .ok (.iconst 3, 1) := by decide +kernel
theorem dX2_copyFrom_22 : decode cX2_copyFrom 22 = .ok (.invokestatic 26, 3) := by decide +kernel
theorem dX2_copyFrom_25 : decode cX2_copyFrom 25 = .ok (.aload_n 1, 1) := by decide +kernel
theorem dX2_copyFrom_26 : decode cX2_copyFrom 26 = .ok (.getfield 16, 3) := by decide +kernel
theorem dX2_copyFrom_29 : decode cX2_copyFrom 29 = .ok (.iload_n 2, 1) := by decide +kernel
theorem dX2_copyFrom_30 : decode cX2_copyFrom 30 = .ok (.aaload, 1) := by decide +kernel
theorem dX2_copyFrom_31 : decode cX2_copyFrom 31 = .ok (.iconst 0, 1) := by decide +kernel
theorem dX2_copyFrom_32 : decode cX2_copyFrom 32 = .ok (.aload_n 0, 1) := by decide +kernel
theorem dX2_copyFrom_33 : decode cX2_copyFrom 33 = .ok (.getfield 16, 3) := by decide +kernel
theorem dX2_copyFrom_36 : decode cX2_copyFrom 36 = .ok (.iload_n 2, 1) := by decide +kernel
theorem dX2_copyFrom_37 : decode cX2_copyFrom 37 = .ok (.aaload, 1) := by decide +kernel
theorem dX2_copyFrom_38 : decode cX2_copyFrom 38 = .ok (.iconst 0, 1) := by decide +kernel
theorem dX2_copyFrom_39 : decode cX2_copyFrom 39 = .ok (.bipush 14, 2) := by decide +kernel
theorem dX2_copyFrom_41 : decode cX2_copyFrom 41 = .ok (.invokestatic 26, 3) := by decide +kernel
theorem dX2_copyFrom_44 : decode cX2_copyFrom 44 = .ok (.iinc 2 1, 3) := by decide +kernel
theorem dX2_copyFrom_47 : decode cX2_copyFrom 47 = .ok (.goto (-45), 3) := by decide +kernel
theorem dX2_copyFrom_50 : decode cX2_copyFrom 50 = .ok (.aload_n 1, 1) := by decide +kernel
theorem dX2_copyFrom_51 : decode cX2_copyFrom 51 = .ok (.getfield 23, 3) := by decide +kernel
theorem dX2_copyFrom_54 : decode cX2_copyFrom 54 = .ok (.iconst 0, 1) := by decide +kernel
theorem dX2_copyFrom_55 : decode cX2_copyFrom 55 = .ok (.aload_n 0, 1) := by decide +kernel
theorem dX2_copyFrom_56 : decode cX2_copyFrom 56 = .ok (.getfield 23, 3) := by decide +kernel
theorem dX2_copyFrom_59 : decode cX2_copyFrom 59 = .ok (.iconst 0, 1) := by decide +kernel
theorem dX2_copyFrom_60 : decode cX2_copyFrom 60 = .ok (.aload_n 0, 1) := by decide +kernel
theorem dX2_copyFrom_61 : decode cX2_copyFrom 61 = .ok (.getfield 23, 3) := by decide +kernel
theorem dX2_copyFrom_64 : decode cX2_copyFrom 64 = .ok (.arraylength, 1) := by decide +kernel
theorem dX2_copyFrom_65 : decode cX2_copyFrom 65 = .ok (.invokestatic 26, 3) := by decide +kernel
theorem dX2_copyFrom_68 : decode cX2_copyFrom 68 = .ok (.aload_n 0, 1) := by decide +kernel
theorem dX2_copyFrom_69 : decode cX2_copyFrom 69 = .ok (.aload_n 1, 1) := by decide +kernel
theorem dX2_copyFrom_70 : decode cX2_copyFrom 70 = .ok (.getfield 32, 3) := by decide +kernel
theorem dX2_copyFrom_73 : decode cX2_copyFrom 73 = .ok (.putfield 32, 3) := by decide +kernel
theorem dX2_copyFrom_76 : decode cX2_copyFrom 76 = .ok (.aload_n 0, 1) := by decide +kernel
theorem dX2_copyFrom_77 : decode cX2_copyFrom 77 = .ok (.aload_n 1, 1) := by decide +kernel
theorem dX2_copyFrom_78 : decode cX2_copyFrom 78 = .ok (.getfield 36, 3) := by decide +kernel
theorem dX2_copyFrom_81 : decode cX2_copyFrom 81 = .ok (.putfield 36, 3) := by decide +kernel
theorem dX2_copyFrom_84 : decode cX2_copyFrom 84 = .ok (.aload_n 0, 1) := by decide +kernel
theorem dX2_copyFrom_85 : decode cX2_copyFrom 85 = .ok (.aload_n 1, 1) := by decide +kernel
theorem dX2_copyFrom_86 : decode cX2_copyFrom 86 = .ok (.getfield 39, 3) := by decide +kernel
theorem dX2_copyFrom_89 : decode cX2_copyFrom 89 = .ok (.putfield 39, 3) := by decide +kernel
theorem dX2_copyFrom_92 : decode cX2_copyFrom 92 = .ok (.aload_n 0, 1) := by decide +kernel
theorem dX2_copyFrom_93 : decode cX2_copyFrom 93 = .ok (.aload_n 1, 1) := by decide +kernel
theorem dX2_copyFrom_94 : decode cX2_copyFrom 94 = .ok (.getfield 42, 3) := by decide +kernel
theorem dX2_copyFrom_97 : decode cX2_copyFrom 97 = .ok (.putfield 42, 3) := by decide +kernel
theorem dX2_copyFrom_100 : decode cX2_copyFrom 100 = .ok (.return_, 1) := by decide +kernel
theorem dX2_addPerson_0 : decode cX2_addPerson 0 = .ok (.aload_n 0, 1) := by decide +kernel
theorem dX2_addPerson_1 : decode cX2_addPerson 1 = .ok (.getfield 36, 3) := by decide +kernel
theorem dX2_addPerson_4 : decode cX2_addPerson 4 = .ok (.bipush 14, 2) := by decide +kernel
theorem dX2_addPerson_6 : decode cX2_addPerson 6 = .ok (.if_icmp .ge 49, 3) := by decide +kernel
theorem dX2_addPerson_9 : decode cX2_addPerson 9 = .ok (.aload_n 0, 1) := by decide +kernel
theorem dX2_addPerson_10 : decode cX2_addPerson 10 = .ok (.getfield 16, 3) := by decide +kernel
theorem dX2_addPerson_13 : decode cX2_addPerson 13 = .ok (.iconst 0, 1) := by decide +kernel
theorem dX2_addPerson_14 : decode cX2_addPerson 14 = .ok (.aaload, 1) := by decide +kernel
theorem dX2_addPerson_15 : decode cX2_addPerson 15 = .ok (.aload_n 0, 1) := by decide +kernel
theorem dX2_addPerson_16 : decode cX2_addPerson 16 = .ok (.getfield 36, 3) := by decide +kernel
theorem dX2_addPerson_19 : decode cX2_addPerson 19 = .ok (.iload_n 1, 1) := by decide +kernel
theorem dX2_addPerson_20 : decode cX2_addPerson 20 = .ok (.iastore, 1) := by decide +kernel
theorem dX2_addPerson_21 : decode cX2_addPerson 21 = .ok (.aload_n 0, 1) := by decide +kernel
theorem dX2_addPerson_22 : decode cX2_addPerson 22 = .ok (.getfield 16, 3) := by decide +kernel
theorem dX2_addPerson_25 : decode cX2_addPerson 25 = .ok (.iconst 1, 1) := by decide +kernel
theorem dX2_addPerson_26 : decode cX2_addPerson 26 = .ok (.aaload, 1) := by decide +kernel
theorem dX2_addPerson_27 : decode cX2_addPerson 27 = .ok (.aload_n 0, 1) := by decide +kernel
theorem dX2_addPerson_28 : decode cX2_addPerson 28 = .ok (.getfield 36, 3) := by decide +kernel
theorem dX2_addPerson_31 : decode cX2_addPerson 31 = .ok (.iload_n 2, 1) := by decide +kernel
theorem dX2_addPerson_32 : decode cX2_addPerson 32 = .ok (.iastore, 1) := by decide +kernel
theorem dX2_addPerson_33 : decode cX2_addPerson 33 = .ok (.aload_n 0, 1) := by decide +kernel
theorem dX2_addPerson_34 : decode cX2_addPerson 34 = .ok (.getfield 16, 3) := by decide +kernel
theorem dX2_addPerson_37 : decode cX2_addPerson 37 = .ok (.iconst 2, 1) := by decide +kernel
theorem dX2_addPerson_38 : decode cX2_addPerson 38 = .ok (.aaload, 1) := by decide +kernel
theorem dX2_addPerson_39 : decode cX2_addPerson 39 = .ok (.aload_n 0, 1) := by decide +kernel
theorem dX2_addPerson_40 : decode cX2_addPerson 40 = .ok (.getfield 36, 3) := by decide +kernel
theorem dX2_addPerson_43 : decode cX2_addPerson 43 = .ok (.iload_n 3, 1) := by decide +kernel
theorem dX2_addPerson_44 : decode cX2_addPerson 44 = .ok (.iastore, 1) := by decide +kernel
theorem dX2_addPerson_45 : decode cX2_addPerson 45 = .ok (.aload_n 0, 1) := by decide +kernel
theorem dX2_addPerson_46 : decode cX2_addPerson 46 = .ok (.dup, 1) := by decide +kernel
theorem dX2_addPerson_47 : decode cX2_addPerson 47 = .ok (.getfield 36, 3) := by decide +kernel
theorem dX2_addPerson_50 : decode cX2_addPerson 50 = .ok (.iconst 1, 1) := by decide +kernel
theorem dX2_addPerson_51 : decode cX2_addPerson 51 = .ok (.iadd, 1) := by decide +kernel
theorem dX2_addPerson_52 : decode cX2_addPerson 52 = .ok (.putfield 36, 3) := by decide +kernel
theorem dX2_addPerson_55 : decode cX2_addPerson 55 = .ok (.return_, 1) := by decide +kernel
theorem dX2_removePerson_0 : decode cX2_removePerson 0 = .ok (.iload_n 1, 1) := by decide +kernel
theorem dX2_removePerson_1 : decode cX2_removePerson 1 = .ok (.iconst 1, 1) := by decide +kernel
theorem dX2_removePerson_2 : decode cX2_removePerson 2 = .ok (.iadd, 1) := by decide +kernel
theorem dX2_removePerson_3 : decode cX2_removePerson 3 = .ok (.istore_n 2, 1) := by decide +kernel
theorem dX2_removePerson_4 : decode cX2_removePerson 4 = .ok (.iload_n 2, 1) := by decide +kernel
theorem dX2_removePerson_5 : decode cX2_removePerson 5 = .ok (.aload_n 0, 1) := by decide +kernel
theorem dX2_removePerson_6 : decode cX2_removePerson 6 = .ok (.getfield 36, 3) := by decide +kernel
theorem dX2_removePerson_9 : decode cX2_removePerson 9 = .ok (.if_icmp .ge 40, 3) := by decide +kernel
theorem dX2_removePerson_12 : decode cX2_removePerson 12 = .ok (.iconst 0, 1) := by decide +kernel
theorem dX2_removePerson_13 : decode cX2_removePerson 13 = .ok (.istore_n 3, 1) := by decide +kernel
theorem dX2_removePerson_14 : decode cX2_removePerson 14 = .ok (.iload_n 3, 1) := by decide +kernel
theorem dX2_removePerson_15 : decode cX2_removePerson 15 = .ok (.iconst 3, 1) := by decide +kernel
theorem dX2_removePerson_16 : decode cX2_removePerson 16 = .ok (.if_icmp .ge 27, 3) := by decide +kernel
theorem dX2_removePerson_19 : decode cX2_removePerson 19 = .ok (.aload_n 0, 1) := by decide +kernel
theorem dX2_removePerson_20 : decode cX2_removePerson 20 = .ok (.getfield 16, 3) := by decide +kernel
theorem dX2_removePerson_23 : decode cX2_removePerson 23 = .ok (.iload_n 3, 1) := by decide +kernel
theorem dX2_removePerson_24 : decode cX2_removePerson 24 = .ok (.aaload, 1) := by decide +kernel
theorem dX2_removePerson_25 : decode cX2_removePerson 25 = .ok (.iload_n 2, 1) := by decide +kernel
theorem dX2_removePerson_26 : decode cX2_removePerson 26 = .ok (.iconst 1, 1) := by decide +kernel
theorem dX2_removePerson_27 : decode cX2_removePerson 27 = .ok (.isub, 1) := by decide +kernel
theorem dX2_removePerson_28 : decode cX2_removePerson 28 = .ok (.aload_n 0, 1) := by decide +kernel
theorem dX2_removePerson_29 : decode cX2_removePerson 29 = .ok (.getfield 16, 3) := by decide +kernel
theorem dX2_removePerson_32 : decode cX2_removePerson 32 = .ok (.iload_n 3, 1) := by decide +kernel
theorem dX2_removePerson_33 : decode cX2_removePerson 33 = .ok (.aaload, 1) := by decide +kernel
theorem dX2_removePerson_34 : decode cX2_removePerson 34 = .ok (.iload_n 2, 1) := by decide +kernel
theorem dX2_removePerson_35 : decode cX2_removePerson 35 = .ok (.iaload, 1) := by decide +kernel
theorem dX2_removePerson_36 : decode cX2_removePerson 36 = .ok (.iastore, 1) := by decide +kernel
theorem dX2_removePerson_37 : decode cX2_removePerson 37 = .ok (.iinc 3 1, 3) := by decide +kernel
theorem dX2_removePerson_40 : decode cX2_removePerson 40 = .ok (.goto (-26), 3) := by decide +kernel
theorem dX2_removePerson_43 : decode cX2_removePerson 43 = .ok (.iinc 2 1, 3) := by decide +kernel
theorem dX2_removePerson_46 : decode cX2_removePerson 46 = .ok (.goto (-42), 3) := by decide +kernel
theorem dX2_removePerson_49 : decode cX2_removePerson 49 = .ok (.aload_n 0, 1) := by decide +kernel
theorem dX2_removePerson_50 : decode cX2_removePerson 50 = .ok (.dup, 1) := by decide +kernel
theorem dX2_removePerson_51 : decode cX2_removePerson 51 = .ok (.getfield 36, 3) := by decide +kernel
theorem dX2_removePerson_54 : decode cX2_removePerson 54 = .ok (.iconst 1, 1) := by decide +kernel
theorem dX2_removePerson_55 : decode cX2_removePerson 55 = .ok (.isub, 1) := by decide +kernel
theorem dX2_removePerson_56 : decode cX2_removePerson 56 = .ok (.putfield 36, 3) := by decide +kernel
theorem dX2_removePerson_59 : decode cX2_removePerson 59 = .ok (.return_, 1) := by decide +kernel
theorem dX2_countUp_0 : decode cX2_countUp 0 = .ok (.iconst 0, 1) := by decide +kernel
theorem dX2_countUp_1 : decode cX2_countUp 1 = .ok (.istore_n 1, 1) := by decide +kernel
theorem dX2_countUp_2 : decode cX2_countUp 2 = .ok (.iconst 0, 1) := by decide +kernel
theorem dX2_countUp_3 : decode cX2_countUp 3 = .ok (.istore_n 2, 1) := by decide +kernel
theorem dX2_countUp_4 : decode cX2_countUp 4 = .ok (.iload_n 2, 1) := by decide +kernel
theorem dX2_countUp_5 : decode cX2_countUp 5 = .ok (.aload_n 0, 1) := by decide +kernel
theorem dX2_countUp_6 : decode cX2_countUp 6 = .ok (.getfield 36, 3) := by decide +kernel
theorem dX2_countUp_9 : decode cX2_countUp 9 = .ok (.if_icmp .ge 28, 3) := by decide +kernel
theorem dX2_countUp_12 : decode cX2_countUp 12 = .ok (.iload_n 1, 1) := by decide +kernel
theorem dX2_countUp_13 : decode cX2_countUp 13 = .ok (.aload_n 0, 1) := by decide +kernel
theorem dX2_countUp_14 : decode cX2_countUp 14 = .ok (.getfield 16, 3) := by decide +kernel
theorem dX2_countUp_17 : decode cX2_countUp 17 = .ok (.iconst 1, 1) := by decide +kernel
theorem dX2_countUp_18 : decode cX2_countUp 18 = .ok (.aaload, 1) := by decide +kernel
theorem dX2_countUp_19 : decode cX2_countUp 19 = .ok (.iload_n 2, 1) := by decide +kernel
theorem dX2_countUp_20 : decode cX2_countUp 20 = .ok (.iaload, 1) := by decide +kernel
theorem dX2_countUp_21 : decode cX2_countUp 21 = .ok (.ifCond .ne 7, 3) := by decide +kernel
theorem dX2_countUp_24 : decode cX2_countUp 24 = .ok (.iconst 1, 1) := by decide +kernel
theorem dX2_countUp_25 : decode cX2_countUp 25 = .ok (.goto 4, 3) := by decide +kernel
theorem dX2_countUp_28 : decode cX2_countUp 28 = .ok (.iconst 0, 1) := by decide +kernel
theorem dX2_countUp_29 : decode cX2_countUp 29 = .ok (.iadd, 1) := by decide +kernel
theorem dX2_countUp_30 : decode cX2_countUp 30 = .ok (.istore_n 1, 1) := by decide +kernel
theorem dX2_countUp_31 : decode cX2_countUp 31 = .ok (.iinc 2 1, 3) := by decide +kernel
theorem dX2_countUp_34 : decode cX2_countUp 34 = .ok (.goto (-30), 3) := by decide +kernel
theorem dX2_countUp_37 : decode cX2_countUp 37 = .ok (.iload_n 1, 1) := by decide +kernel
theorem dX2_countUp_38 : decode cX2_countUp 38 = .ok (.ireturn, 1) := by decide +kernel
theorem dX3_init_0 : decode cX3_init 0 = .ok (.aload_n 0, 1) := by decide +kernel
theorem dX3_init_1 : decode cX3_init 1 = .ok (.invokespecial 3, 3) := by decide +kernel
theorem dX3_init_4 : decode cX3_init 4 = .ok (.aload_n 0, 1) := by decide +kernel
theorem dX3_init_5 : decode cX3_init 5 = .ok (.iconst 0, 1) := by decide +kernel
theorem dX3_init_6 : decode cX3_init 6 = .ok (.iconst 0, 1) := by decide +kernel
theorem dX3_init_7 : decode cX3_init 7 = .ok (.iconst 0, 1) := by decide +kernel
theorem dX3_init_8 : decode cX3_init 8 = .ok (.invokevirtual 9, 3) := by decide +kernel
theorem dX3_init_11 : decode cX3_init 11 = .ok (.return_, 1) := by decide +kernel
theorem dX3_begin_0 : decode cX3_begin 0 = .ok (.aload_n 0, 1) := by decide +kernel
theorem dX3_begin_1 : decode cX3_begin 1 = .ok (.iload_n 1, 1) := by decide +kernel
theorem dX3_begin_2 : decode cX3_begin 2 = .ok (.putfield 15, 3) := by decide +kernel
theorem dX3_begin_5 : decode cX3_begin 5 = .ok (.aload_n 0, 1) := by decide +kernel
theorem dX3_begin_6 : decode cX3_begin 6 = .ok (.iload_n 2, 1) := by decide +kernel
theorem dX3_begin_7 : decode cX3_begin 7 = .ok (.putfield 19, 3) := by decide +kernel
theorem dX3_begin_10 : decode cX3_begin 10 = .ok (.aload_n 0, 1) := by decide +kernel
theorem dX3_begin_11 : decode cX3_begin 11 = .ok (.iload_n 3, 1) := by decide +kernel
theorem dX3_begin_12 : decode cX3_begin 12 = .ok (.putfield 22, 3) := by decide +kernel
theorem dX3_begin_15 : decode cX3_begin 15 = .ok (.aload_n 0, 1) := by decide +kernel
theorem dX3_begin_16 : decode cX3_begin 16 = .ok (.iload_n 3, 1) := by decide +kernel
theorem dX3_begin_17 : decode cX3_begin 17 = .ok (.invokestatic 25, 3) := by decide +kernel
theorem dX3_begin_20 : decode cX3_begin 20 = .ok (.putfield 29, 3) := by decide +kernel
theorem dX3_begin_23 : decode cX3_begin 23 = .ok (.aload_n 0, 1) := by decide +kernel
theorem dX3_begin_24 : decode cX3_begin 24 = .ok (.iconst 4, 1) := by decide +kernel
theorem dX3_begin_25 : decode cX3_begin 25 = .ok (.putfield 32, 3) := by decide +kernel
theorem dX3_begin_28 : decode cX3_begin 28 = .ok (.aload_n 0, 1) := by decide +kernel
theorem dX3_begin_29 : decode cX3_begin 29 = .ok (.bipush (-4), 2) := by decide +kernel
theorem dX3_begin_31 : decode cX3_begin 31 = .ok (.putfield 35, 3) := by decide +kernel
theorem dX3_begin_34 : decode cX3_begin 34 = .ok (.aload_n 0, 1) := by decide +kernel
theorem dX3_begin_35 : decode cX3_begin 35 = .ok (.bipush (-4), 2) := by decide +kernel
theorem dX3_begin_37 : decode cX3_begin 37 = .ok (.putfield 38, 3) := by decide +kernel
theorem dX3_begin_40 : decode cX3_begin 40 = .ok (.aload_n 0, 1) := by decide +kernel
theorem dX3_begin_41 : decode cX3_begin 41 = .ok (.bipush (-4), 2) := by decide +kernel
theorem dX3_begin_43 : decode cX3_begin 43 = .ok (.putfield 41, 3) := by decide +kernel
theorem dX3_begin_46 : decode cX3_begin 46 = .ok (.aload_n 0, 1) := by decide +kernel
theorem dX3_begin_47 : decode cX3_begin 47 = .ok (.bipush (-4), 2) := by decide +kernel
theorem dX3_begin_49 : decode cX3_begin 49 = .ok (.putfield 44, 3) := by decide +kernel
theorem dX3_begin_52 : decode cX3_begin 52 = .ok (.aload_n 0, 1) := by decide +kernel
theorem dX3_begin_53 : decode cX3_begin 53 = .ok (.bipush (-4), 2) := by decide +kernel
theorem dX3_begin_55 : decode cX3_begin 55 = .ok (.putfield 47, 3) := by decide +kernel
theorem dX3_begin_58 : decode cX3_begin 58 = .ok (.aload_n 0, 1) := by decide +kernel
theorem dX3_begin_59 : decode cX3_begin 59 = .ok (.iconst 0, 1) := by decide +kernel
theorem dX3_begin_60 : decode cX3_begin 60 = .ok (.putfield 50, 3) := by decide +kernel
theorem dX3_begin_63 : decode cX3_begin 63 = .ok (.return_, 1) := by decide +kernel
theorem dX3_copyFrom_0 : decode cX3_copyFrom 0 = .ok (.aload_n 0, 1) := by decide +kernel
theorem dX3_copyFrom_1 : decode cX3_copyFrom 1 = .ok (.aload_n 1, 1) := by decide +kernel
theorem dX3_copyFrom_2 : decode cX3_copyFrom 2 = .ok (.getfield 15, 3) := by decide +kernel
theorem dX3_copyFrom_5 : decode cX3_copyFrom 5 = .ok (.putfield 15, 3) := by decide +kernel
theorem dX3_copyFrom_8 : decode cX3_copyFrom 8 = .ok (.aload_n 0, 1) := by decide +kernel
theorem dX3_copyFrom_9 : decode cX3_copyFrom 9 = .ok (.aload_n 1, 1) := by decide +kernel
theorem dX3_copyFrom_10 : decode cX3_copyFrom 10 = .ok (.getfield 19, 3) := by decide +kernel
theorem dX3_copyFrom_13 : decode cX3_copyFrom 13 = .ok (.putfield 19, 3) := by decide +kernel
theorem dX3_copyFrom_16 : decode cX3_copyFrom 16 = .ok (.aload_n 0, 1) := by decide +kernel
theorem dX3_copyFrom_17 : decode cX3_copyFrom 17 = .ok (.aload_n 1, 1) := by decide +kernel
theorem dX3_copyFrom_18 : decode cX3_copyFrom 18 = .ok (.getfield 22, 3) := by decide +kernel
theorem dX3_copyFrom_21 : decode cX3_copyFrom 21 = .ok (.putfield 22, 3) := by decide +kernel
theorem dX3_copyFrom_24 : decode cX3_copyFrom 24 = .ok (.aload_n 0, 1) := by decide +kernel
theorem dX3_copyFrom_25 : decode cX3_copyFrom 25 = .ok (.aload_n 1, 1) := by decide +kernel
theorem dX3_copyFrom_26 : decode cX3_copyFrom 26 = .ok (.getfield 29, 3) := by decide +kernel
theorem dX3_copyFrom_29 : decode cX3_copyFrom 29 = .ok (.putfield 29, 3) := by decide +kernel
theorem dX3_copyFrom_32 : decode cX3_copyFrom 32 = .ok (.aload_n 0, 1) := by decide +kernel
theorem dX3_copyFrom_33 : decode cX3_copyFrom 33 = .ok (.aload_n 1, 1) := by decide +kernel
theorem dX3_copyFrom_34 : decode cX3_copyFrom 34 = .ok (.getfield 32, 3) := by decide +kernel
theorem dX3_copyFrom_37 : decode cX3_copyFrom 37 = .ok (.putfield 32, 3) := by decide +kernel
theorem dX3_copyFrom_40 : decode cX3_copyFrom 40 = .ok (.aload_n 0, 1) := by decide +kernel
theorem dX3_copyFrom_41 : decode cX3_copyFrom 41 = .ok (.aload_n 1, 1) := by decide +kernel
theorem dX3_copyFrom_42 : decode cX3_copyFrom 42 = .ok (.getfield 35, 3) := by decide +kernel
theorem dX3_copyFrom_45 : decode cX3_copyFrom 45 = .ok (.putfield 35, 3) := by decide +kernel
theorem dX3_copyFrom_48 : decode cX3_copyFrom 48 = .ok (.aload_n 0, 1) := by decide +kernel
theorem dX3_copyFrom_49 : decode cX3_copyFrom 49 = .ok (.aload_n 1, 1) := by decide +kernel
theorem dX3_copyFrom_50 : decode cX3_copyFrom 50 = .ok (.getfield 38, 3) := by decide +kernel
theorem dX3_copyFrom_53 : decode cX3_copyFrom 53 = .ok (.putfield 38, 3) := by decide +kernel
theorem dX3_copyFrom_56 : decode cX3_copyFrom 56 = .ok (.aload_n 0, 1) := by decide +kernel
theorem dX3_copyFrom_57 : decode cX3_copyFrom 57 = .ok (.aload_n 1, 1) := by decide +kernel
theorem dX3_copyFrom_58 : decode cX3_copyFrom 58 = .ok (.getfield 41, 3) := by decide +kernel
theorem dX3_copyFrom_61 : decode cX3_copyFrom 61 = .ok (.putfield 41, 3) := by decide +kernel
theorem dX3_copyFrom_64 : decode cX3_copyFrom 64 = .ok (.aload_n 0, 1) := by decide +kernel
theorem dX3_copyFrom_65 : decode cX3_copyFrom 65 = .ok (.aload_n 1, 1) := by decide +kernel
theorem dX3_copyFrom_66 : decode cX3_copyFrom 66 = .ok (.getfield 44, 3) := by decide +kernel
theorem dX3_copyFrom_69 : decode cX3_copyFrom 69 = .ok (.putfield 44, 3) := by decide +kernel
theorem dX3_copyFrom_72 : decode cX3_copyFrom 72 = .ok (.aload_n 0, 1) := by decide +kernel
theorem dX3_copyFrom_73 : decode cX3_copyFrom 73 = .ok (.aload_n 1, 1) := by decide +kernel
theorem dX3_copyFrom_74 : decode cX3_copyFrom 74 = .ok (.getfield 47, 3) := by decide +kernel
theorem dX3_copyFrom_77 : decode cX3_copyFrom 77 = .ok (.putfield 47, 3) := by decide +kernel
theorem dX3_copyFrom_80 : decode cX3_copyFrom 80 = .ok (.aload_n 0, 1) := by decide +kernel
theorem dX3_copyFrom_81 : decode cX3_copyFrom 81 = .ok (.aload_n 1, 1) := by decide +kernel
theorem dX3_copyFrom_82 : decode cX3_copyFrom 82 = .ok (.getfield 50, 3) := by decide +kernel
theorem dX3_copyFrom_85 : decode cX3_copyFrom 85 = .ok (.putfield 50, 3) := by decide +kernel
theorem dX3_copyFrom_88 : decode cX3_copyFrom 88 = .ok (.return_, 1) := by decide +kernel
theorem dX3_goThrough_0 : decode cX3_goThrough 0 = .ok (.aload_n 0, 1) := by decide +kernel
theorem dX3_goThrough_1 : decode cX3_goThrough 1 = .ok (.iconst 3, 1) := by decide +kernel
theorem dX3_goThrough_2 : decode cX3_goThrough 2 = .ok (.putfield 32, 3) := by decide +kernel
theorem dX3_goThrough_5 : decode cX3_goThrough 5 = .ok (.aload_n 0, 1) := by decide +kernel
theorem dX3_goThrough_6 : decode cX3_goThrough 6 = .ok (.iload_n 1, 1) := by decide +kernel
theorem dX3_goThrough_7 : decode cX3_goThrough 7 = .ok (.putfield 47, 3) := by decide +kernel
theorem dX3_goThrough_10 : decode cX3_goThrough 10 = .ok (.return_, 1) := by decide +kernel
theorem dX3_countWait_0 : decode cX3_countWait 0 = .ok (.aload_n 0, 1) := by decide +kernel
theorem dX3_countWait_1 : decode cX3_countWait 1 = .ok (.getfield 38, 3) := by decide +kernel
theorem dX3_countWait_4 : decode cX3_countWait 4 = .ok (.ifCond .ge 13, 3) := by decide +kernel
theorem dX3_countWait_7 : decode cX3_countWait 7 = .ok (.bipush 100, 2) := by decide +kernel
theorem dX3_countWait_9 : decode cX3_countWait 9 = .ok (.aload_n 0, 1) := by decide +kernel
theorem dX3_countWait_10 : decode cX3_countWait 10 = .ok (.getfield 15, 3) := by decide +kernel
theorem dX3_countWait_13 : decode cX3_countWait 13 = .ok (.isub, 1) := by decide +kernel
theorem dX3_countWait_14 : decode cX3_countWait 14 = .ok (.goto 12, 3) := by decide +kernel
theorem dX3_countWait_17 : decode cX3_countWait 17 = .ok (.aload_n 0, 1) := by decide +kernel
theorem dX3_countWait_18 : decode cX3_countWait 18 = .ok (.getfield 38, 3) := by decide +kernel
theorem dX3_countWait_21 : decode cX3_countWait 21 = .ok (.aload_n 0, 1) := by decide +kernel
theorem dX3_countWait_22 : decode cX3_countWait 22 = .ok (.getfield 15, 3) := by decide +kernel
theorem dX3_countWait_25 : decode cX3_countWait 25 = .ok (.isub, 1) := by decide +kernel
theorem dX3_countWait_26 : decode cX3_countWait 26 = .ok (.ireturn, 1) := by decide +kernel
theorem dX4_init_0 : decode cX4_init 0 = .ok (.aload_n 0, 1) := by decide +kernel
theorem dX4_init_1 : decode cX4_init 1 = .ok (.invokespecial 3, 3) := by decide +kernel
theorem dX4_init_4 : decode cX4_init 4 = .ok (.aload_n 0, 1) := by decide +kernel
theorem dX4_init_5 : decode cX4_init 5 = .ok (.bipush 16, 2) := by decide +kernel
theorem dX4_init_7 : decode cX4_init 7 = .ok (.newarray .int, 2) := by decide +kernel
theorem dX4_init_9 : decode cX4_init 9 = .ok (.putfield 9, 3) := by decide +kernel
theorem dX4_init_12 : decode cX4_init 12 = .ok (.aload_n 0, 1) := by decide +kernel
theorem dX4_init_13 : decode cX4_init 13 = .ok (.iconst 0, 1) := by decide +kernel
theorem dX4_init_14 : decode cX4_init 14 = .ok (.putfield 15, 3) := by decide +kernel
theorem dX4_init_17 : decode cX4_init 17 = .ok (.return_, 1) := by decide +kernel
theorem dX4_begin_0 : decode cX4_begin 0 = .ok (.aload_n 0, 1) := by decide +kernel
theorem dX4_begin_1 : decode cX4_begin 1 = .ok (.iconst 1, 1) := by decide +kernel
theorem dX4_begin_2 : decode cX4_begin 2 = .ok (.putfield 15, 3) := by decide +kernel
theorem dX4_begin_5 : decode cX4_begin 5 = .ok (.aload_n 0, 1) := by decide +kernel
theorem dX4_begin_6 : decode cX4_begin 6 = .ok (.iload_n 1, 1) := by decide +kernel
theorem dX4_begin_7 : decode cX4_begin 7 = .ok (.putfield 19, 3) := by decide +kernel
theorem dX4_begin_10 : decode cX4_begin 10 = .ok (.aload_n 0, 1) := by decide +kernel
theorem dX4_begin_11 : decode cX4_begin 11 = .ok (.iload_n 2, 1) := by decide +kernel
theorem dX4_begin_12 : decode cX4_begin 12 = .ok (.putfield 23, 3) := by decide +kernel
theorem dX4_begin_15 : decode cX4_begin 15 = .ok (.aload_n 0, 1) := by decide +kernel
theorem dX4_begin_16 : decode cX4_begin 16 = .ok (.getfield 9, 3) := by decide +kernel
theorem dX4_begin_19 : decode cX4_begin 19 = .ok (.iconst 0, 1) := by decide +kernel
theorem dX4_begin_20 : decode cX4_begin 20 = .ok (.invokestatic 26, 3) := by decide +kernel
theorem dX4_begin_23 : decode cX4_begin 23 = .ok (.return_, 1) := by decide +kernel
theorem dX4_holds_0 : decode cX4_holds 0 = .ok (.iload_n 1, 1) := by decide +kernel
theorem dX4_holds_1 : decode cX4_holds 1 = .ok (.ifCond .lt 29, 3) := by decide +kernel
theorem dX4_holds_4 : decode cX4_holds 4 = .ok (.iload_n 1, 1) := by decide +kernel
theorem dX4_holds_5 : decode cX4_holds 5 = .ok (.aload_n 0, 1) := by decide +kernel
theorem dX4_holds_6 : decode cX4_holds 6 = .ok (.getfield 23, 3) := by decide +kernel
theorem dX4_holds_9 : decode cX4_holds 9 = .ok (.if_icmp .gt 21, 3) := by decide +kernel
theorem dX4_holds_12 : decode cX4_holds 12 = .ok (.iload_n 2, 1) := by decide +kernel
theorem dX4_holds_13 : decode cX4_holds 13 = .ok (.ifCond .lt 17, 3) := by decide +kernel
theorem dX4_holds_16 : decode cX4_holds 16 = .ok (.iload_n 2, 1) := by decide +kernel
theorem dX4_holds_17 : decode cX4_holds 17 = .ok (.aload_n 0, 1) := by decide +kernel
theorem dX4_holds_18 : decode cX4_holds 18 = .ok (.getfield 23, 3) := by decide +kernel
theorem dX4_holds_21 : decode cX4_holds 21 = .ok (.iload_n 1, 1) := by decide +kernel
theorem dX4_holds_22 : decode cX4_holds 22 = .ok (.isub, 1) := by decide +kernel
theorem dX4_holds_23 : decode cX4_holds 23 = .ok (.if_icmp .gt 7, 3) := by decide +kernel
theorem dX4_holds_26 : decode cX4_holds 26 = .ok (.iconst 1, 1) := by decide +kernel
theorem dX4_holds_27 : decode cX4_holds 27 = .ok (.goto 4, 3) := by decide +kernel
theorem dX4_holds_30 : decode cX4_holds 30 = .ok (.iconst 0, 1) := by decide +kernel
theorem dX4_holds_31 : decode cX4_holds 31 = .ok (.ireturn, 1) := by decide +kernel
theorem dX4_put_0 : decode cX4_put 0 = .ok (.iload_n 1, 1) := by decide +kernel
theorem dX4_put_1 : decode cX4_put 1 = .ok (.iconst 0, 1) := by decide +kernel
theorem dX4_put_2 : decode cX4_put 2 = .ok (.aload_n 0, 1) := by decide +kernel
theorem dX4_put_3 : decode cX4_put 3 = .ok (.getfield 23, 3) := by decide +kernel
theorem dX4_put_6 : decode cX4_put 6 = .ok (.iconst 1, 1) := by decide +kernel
theorem dX4_put_7 : decode cX4_put 7 = .ok (.isub, 1) := by decide +kernel
theorem dX4_put_8 : decode cX4_put 8 = .ok (.invokestatic 32, 3) := by decide +kernel
theorem dX4_put_11 : decode cX4_put 11 = .ok (.ifCond .eq 35, 3) := by decide +kernel
theorem dX4_put_14 : decode cX4_put 14 = .ok (.aload_n 0, 1) := by decide +kernel
theorem dX4_put_15 : decode cX4_put 15 = .ok (.getfield 9, 3) := by decide +kernel
theorem dX4_put_18 : decode cX4_put 18 = .ok (.iload_n 1, 1) := by decide +kernel
theorem dX4_put_19 : decode cX4_put 19 = .ok (.aload_n 0, 1) := by decide +kernel
theorem dX4_put_20 : decode cX4_put 20 = .ok (.getfield 19, 3) := by decide +kernel
theorem dX4_put_23 : decode cX4_put 23 = .ok (.ifCond .ne 8, 3) := by decide +kernel
theorem dX4_put_26 : decode cX4_put 26 = .ok (.iload_n 2, 1) := by decide +kernel
theorem dX4_put_27 : decode cX4_put 27 = .ok (.i2b, 1) := by decide +kernel
theorem dX4_put_28 : decode cX4_put 28 = .ok (.goto 17, 3) := by decide +kernel
theorem dX4_put_31 : decode cX4_put 31 = .ok (.aload_n 0, 1) := by decide +kernel
theorem dX4_put_32 : decode cX4_put 32 = .ok (.getfield 19, 3) := by decide +kernel
theorem dX4_put_35 : decode cX4_put 35 = .ok (.iconst 1, 1) := by decide +kernel
theorem dX4_put_36 : decode cX4_put 36 = .ok (.if_icmp .ne 8, 3) := by decide +kernel
theorem dX4_put_39 : decode cX4_put 39 = .ok (.iload_n 2, 1) := by decide +kernel
theorem dX4_put_40 : decode cX4_put 40 = .ok (.i2s, 1) := by decide +kernel
theorem dX4_put_41 : decode cX4_put 41 = .ok (.goto 4, 3) := by decide +kernel
theorem dX4_put_44 : decode cX4_put 44 = .ok (.iload_n 2, 1) := by decide +kernel
theorem dX4_put_45 : decode cX4_put 45 = .ok (.iastore, 1) := by decide +kernel
theorem dX4_put_46 : decode cX4_put 46 = .ok (.return_, 1) := by decide +kernel
theorem dX5_init_0 : decode cX5_init 0 = .ok (.aload_n 0, 1) := by decide +kernel
theorem dX5_init_1 : decode cX5_init 1 = .ok (.invokespecial 3, 3) := by decide +kernel
theorem dX5_init_4 : decode cX5_init 4 = .ok (.aload_n 0, 1) := by decide +kernel
theorem dX5_init_5 : decode cX5_init 5 = .ok (.bipush 80, 2) := by decide +kernel
theorem dX5_init_7 : decode cX5_init 7 = .ok (.newarray .int, 2) := by decide +kernel
theorem dX5_init_9 : decode cX5_init 9 = .ok (.putfield 9, 3) := by decide +kernel
theorem dX5_init_12 : decode cX5_init 12 = .ok (.aload_n 0, 1) := by decide +kernel
theorem dX5_init_13 : decode cX5_init 13 = .ok (.iconst 3, 1) := by decide +kernel
theorem dX5_init_14 : decode cX5_init 14 = .ok (.bipush 8, 2) := by decide +kernel
theorem dX5_init_16 : decode cX5_init 16 = .ok (.multianewarray 15 2, 4) := by decide +kernel
theorem dX5_init_20 : decode cX5_init 20 = .ok (.putfield 17, 3) := by decide +kernel
theorem dX5_init_23 : decode cX5_init 23 = .ok (.aload_n 0, 1) := by decide +kernel
theorem dX5_init_24 : decode cX5_init 24 = .ok (.iconst 0, 1) := by decide +kernel
theorem dX5_init_25 : decode cX5_init 25 = .ok (.putfield 20, 3) := by decide +kernel
theorem dX5_init_28 : decode cX5_init 28 = .ok (.return_, 1) := by decide +kernel
theorem dX5_add_0 : decode cX5_add 0 = .ok (.aload_n 0, 1) := by decide +kernel
theorem dX5_add_1 : decode cX5_add 1 = .ok (.getfield 20, 3) := by decide +kernel
theorem dX5_add_4 : decode cX5_add 4 = .ok (.bipush 80, 2) := by decide +kernel
theorem dX5_add_6 : decode cX5_add 6 = .ok (.if_icmp .ge 23, 3) := by decide +kernel
theorem dX5_add_9 : decode cX5_add 9 = .ok (.aload_n 0, 1) := by decide +kernel
theorem dX5_add_10 : decode cX5_add 10 = .ok (.getfield 9, 3) := by decide +kernel
theorem dX5_add_13 : decode cX5_add 13 = .ok (.aload_n 0, 1) := by decide +kernel
theorem dX5_add_14 : decode cX5_add 14 = .ok (.getfield 20, 3) := by decide +kernel
theorem dX5_add_17 : decode cX5_add 17 = .ok (.iload_n 1, 1) := by decide +kernel
theorem dX5_add_18 : decode cX5_add 18 = .ok (.iastore, 1) := by decide +kernel
theorem dX5_add_19 : decode cX5_add 19 = .ok (.aload_n 0, 1) := by decide +kernel
theorem dX5_add_20 : decode cX5_add 20 = .ok (.dup, 1) := by decide +kernel
theorem dX5_add_21 : decode cX5_add 21 = .ok (.getfield 20, 3) := by decide +kernel
theorem dX5_add_24 : decode cX5_add 24 = .ok (.iconst 1, 1) := by decide +kernel
theorem dX5_add_25 : decode cX5_add 25 = .ok (.iadd, 1) := by decide +kernel
theorem dX5_add_26 : decode cX5_add 26 = .ok (.putfield 20, 3) := by decide +kernel
theorem dX5_add_29 : decode cX5_add 29 = .ok (.return_, 1) := by decide +kernel
theorem dX5_parse_0 : decode cX5_parse 0 = .ok (.aload_n 0, 1) := by decide +kernel
theorem dX5_parse_1 : decode cX5_parse 1 = .ok (.iconst 0, 1) := by decide +kernel
theorem dX5_parse_2 : decode cX5_parse 2 = .ok (.putfield 24, 3) := by decide +kernel
theorem dX5_parse_5 : decode cX5_parse 5 = .ok (.aload_n 0, 1) := by decide +kernel
theorem dX5_parse_6 : decode cX5_parse 6 = .ok (.iconst 0, 1) := by decide +kernel
theorem dX5_parse_7 : decode cX5_parse 7 = .ok (.putfield 27, 3) := by decide +kernel
theorem dX5_parse_10 : decode cX5_parse 10 = .ok (.iconst 0, 1) := by decide +kernel
theorem dX5_parse_11 : decode cX5_parse 11 = .ok (.istore_n 1, 1) := by decide +kernel
theorem dX5_parse_12 : decode cX5_parse 12 = .ok (.iload_n 1, 1) := by decide +kernel
theorem dX5_parse_13 : decode cX5_parse 13 = .ok (.bipush 8, 2) := by decide +kernel
theorem dX5_parse_15 : decode cX5_parse 15 = .ok (.if_icmp .ge 72, 3) := by decide +kernel
theorem dX5_parse_18 : decode cX5_parse 18 = .ok (.aload_n 0, 1) := by decide +kernel
theorem dX5_parse_19 : decode cX5_parse 19 = .ok (.iload_n 1, 1) := by decide +kernel
theorem dX5_parse_20 : decode cX5_parse 20 = .ok (.invokevirtual 30, 3) := by decide +kernel
theorem dX5_parse_23 : decode cX5_parse 23 = .ok (.istore_n 2, 1) := by decide +kernel
theorem dX5_parse_24 : decode cX5_parse 24 = .ok (.iload_n 2, 1) := by decide +kernel
theorem dX5_parse_25 : decode cX5_parse 25 = .ok (.ifCond .ge 5, 3) := by decide +kernel
theorem dX5_parse_28 : decode cX5_parse 28 = .ok (.iload_n 2, 1) := by decide +kernel
theorem dX5_parse_29 : decode cX5_parse 29 = .ok (.ireturn, 1) := by decide +kernel
theorem dX5_parse_30 : decode cX5_parse 30 = .ok (.aload_n 0, 1) := by decide +kernel
theorem dX5_parse_31 : decode cX5_parse 31 = .ok (.iload_n 1, 1) := by decide +kernel
theorem dX5_parse_32 : decode cX5_parse 32 = .ok (.iconst 1, 1) := by decide +kernel
theorem dX5_parse_33 : decode cX5_parse 33 = .ok (.iadd, 1) := by decide +kernel
theorem dX5_parse_34 : decode cX5_parse 34 = .ok (.putfield 27, 3) := by decide +kernel
theorem dX5_parse_37 : decode cX5_parse 37 = .ok (.aload_n 0, 1) := by decide +kernel
theorem dX5_parse_38 : decode cX5_parse 38 = .ok (.invokevirtual 34, 3) := by decide +kernel
theorem dX5_parse_41 : decode cX5_parse 41 = .ok (.istore_n 3, 1) := by decide +kernel
theorem dX5_parse_42 : decode cX5_parse 42 = .ok (.iload_n 3, 1) := by decide +kernel
theorem dX5_parse_43 : decode cX5_parse 43 = .ok (.ifCond .ge 5, 3) := by decide +kernel
theorem dX5_parse_46 : decode cX5_parse 46 = .ok (.iconst 0, 1) := by decide +kernel
theorem dX5_parse_47 : decode cX5_parse 47 = .ok (.ireturn, 1) := by decide +kernel
theorem dX5_parse_48 : decode cX5_parse 48 = .ok (.iload_n 3, 1) := by decide +kernel
theorem dX5_parse_49 : decode cX5_parse 49 = .ok (.bipush 59, 2) := by decide +kernel
theorem dX5_parse_51 : decode cX5_parse 51 = .ok (.if_icmp .ne 12, 3) := by decide +kernel
theorem dX5_parse_54 : decode cX5_parse 54 = .ok (.aload_n 0, 1) := by decide +kernel
theorem dX5_parse_55 : decode cX5_parse 55 = .ok (.getfield 27, 3) := by decide +kernel
theorem dX5_parse_58 : decode cX5_parse 58 = .ok (.bipush 8, 2) := by decide +kernel
theorem dX5_parse_60 : decode cX5_parse 60 = .ok (.if_icmp .ne 11, 3) := by decide +kernel
theorem dX5_parse_63 : decode cX5_parse 63 = .ok (.bipush (-20), 2) := by decide +kernel
theorem dX5_parse_65 : decode cX5_parse 65 = .ok (.aload_n 0, 1) := by decide +kernel
theorem dX5_parse_66 : decode cX5_parse 66 = .ok (.getfield 24, 3) := by decide +kernel
theorem dX5_parse_69 : decode cX5_parse 69 = .ok (.isub, 1) := by decide +kernel
theorem dX5_parse_70 : decode cX5_parse 70 = .ok (.ireturn, 1) := by decide +kernel
theorem dX5_parse_71 : decode cX5_parse 71 = .ok (.aload_n 0, 1) := by decide +kernel
theorem dX5_parse_72 : decode cX5_parse 72 = .ok (.dup, 1) := by decide +kernel
theorem dX5_parse_73 : decode cX5_parse 73 = .ok (.getfield 24, 3) := by decide +kernel
theorem dX5_parse_76 : decode cX5_parse 76 = .ok (.iconst 1, 1) := by decide +kernel
theorem dX5_parse_77 : decode cX5_parse 77 = .ok (.iadd, 1) := by decide +kernel
theorem dX5_parse_78 : decode cX5_parse 78 = .ok (.putfield 24, 3) := by decide +kernel
theorem dX5_parse_81 : decode cX5_parse 81 = .ok (.iinc 1 1, 3) := by decide +kernel
theorem dX5_parse_84 : decode cX5_parse 84 = .ok (.goto (-72), 3) := by decide +kernel
theorem dX5_parse_87 : decode cX5_parse 87 = .ok (.iconst 0, 1) := by decide +kernel
theorem dX5_parse_88 : decode cX5_parse 88 = .ok (.ireturn, 1) := by decide +kernel
theorem dX5_parsePerson_0 : decode cX5_parsePerson 0 = .ok (.aload_n 0, 1) := by decide +kernel
theorem dX5_parsePerson_1 : decode cX5_parsePerson 1 = .ok (.invokevirtual 34, 3) := by decide +kernel
theorem dX5_parsePerson_4 : decode cX5_parsePerson 4 = .ok (.pop, 1) := by decide +kernel
theorem dX5_parsePerson_5 : decode cX5_parsePerson 5 = .ok (.aload_n 0, 1) := by decide +kernel
theorem dX5_parsePerson_6 : decode cX5_parsePerson 6 = .ok (.getfield 24, 3) := by decide +kernel
theorem dX5_parsePerson_9 : decode cX5_parsePerson 9 = .ok (.istore_n 2, 1) := by decide +kernel
theorem dX5_parsePerson_10 : decode cX5_parsePerson 10 = .ok (.aload_n 0, 1) := by decide +kernel
theorem dX5_parsePerson_11 : decode cX5_parsePerson 11 = .ok (.invokevirtual 38, 3) := by decide +kernel
theorem dX5_parsePerson_14 : decode cX5_parsePerson 14 = .ok (.istore_n 3, 1) := by decide +kernel
theorem dX5_parsePerson_15 : decode cX5_parsePerson 15 = .ok (.iload_n 3, 1) := by decide +kernel
theorem dX5_parsePerson_16 : decode cX5_parsePerson 16 = .ok (.iconst 0, 1) := by decide +kernel
theorem dX5_parsePerson_17 : decode cX5_parsePerson 17 = .ok (.bipush 99, 2) := by decide +kernel
theorem dX5_parsePerson_19 : decode cX5_parsePerson 19 = .ok (.invokestatic 41, 3) := by decide +kernel
theorem dX5_parsePerson_22 : decode cX5_parsePerson 22 = .ok (.ifCond .ne 8, 3) := by decide +kernel
theorem dX5_parsePerson_25 : decode cX5_parsePerson 25 = .ok (.bipush (-20), 2) := by decide +kernel
theorem dX5_parsePerson_27 : decode cX5_parsePerson 27 = .ok (.iload_n 2, 1) := by decide +kernel
theorem dX5_parsePerson_28 : decode cX5_parsePerson 28 = .ok (.isub, 1) := by decide +kernel
theorem dX5_parsePerson_29 : decode cX5_parsePerson 29 = .ok (.ireturn, 1) := by decide +kernel
theorem dX5_parsePerson_30 : decode cX5_parsePerson 30 = .ok (.ldc 45, 2) := by decide +kernel
theorem dX5_parsePerson_32 : decode cX5_parsePerson 32 = .ok (.aload_n 0, 1) := by decide +kernel
theorem dX5_parsePerson_33 : decode cX5_parsePerson 33 = .ok (.invokevirtual 47, 3) := by decide +kernel
theorem dX5_parsePerson_36 : decode cX5_parsePerson 36 = .ok (.i2c, 1) := by decide +kernel
theorem dX5_parsePerson_37 : decode cX5_parsePerson 37 = .ok (.invokevirtual 50, 3) := by decide +kernel
theorem dX5_parsePerson_40 : decode cX5_parsePerson 40 = .ok (.istore 4, 2) := by decide +kernel
theorem dX5_parsePerson_42 : decode cX5_parsePerson 42 = .ok (.iload 4, 2) := by decide +kernel
theorem dX5_parsePerson_44 : decode cX5_parsePerson 44 = .ok (.ifCond .ge 11, 3) := by decide +kernel
theorem dX5_parsePerson_47 : decode cX5_parsePerson 47 = .ok (.bipush (-20), 2) := by decide +kernel
theorem dX5_parsePerson_49 : decode cX5_parsePerson 49 = .ok (.aload_n 0, 1) := by decide +kernel
theorem dX5_parsePerson_50 : decode cX5_parsePerson 50 = .ok (.getfield 24, 3) := by decide +kernel
theorem dX5_parsePerson_53 : decode cX5_parsePerson 53 = .ok (.isub, 1) := by decide +kernel
theorem dX5_parsePerson_54 : decode cX5_parsePerson 54 = .ok (.ireturn, 1) := by decide +kernel
theorem dX5_parsePerson_55 : decode cX5_parsePerson 55 = .ok (.aload_n 0, 1) := by decide +kernel
theorem dX5_parsePerson_56 : decode cX5_parsePerson 56 = .ok (.dup, 1) := by decide +kernel
theorem dX5_parsePerson_57 : decode cX5_parsePerson 57 = .ok (.getfield 24, 3) := by decide +kernel
theorem dX5_parsePerson_60 : decode cX5_parsePerson 60 = .ok (.iconst 1, 1) := by decide +kernel
theorem dX5_parsePerson_61 : decode cX5_parsePerson 61 = .ok (.iadd, 1) := by decide +kernel
theorem dX5_parsePerson_62 : decode cX5_parsePerson 62 = .ok (.putfield 24, 3) := by decide +kernel
theorem dX5_parsePerson_65 : decode cX5_parsePerson 65 = .ok (.ldc 55, 2) := by decide +kernel
theorem dX5_parsePerson_67 : decode cX5_parsePerson 67 = .ok (.aload_n 0, 1) := by decide +kernel
theorem dX5_parsePerson_68 : decode cX5_parsePerson 68 = .ok (.invokevirtual 47, 3) := by decide +kernel
theorem dX5_parsePerson_71 : decode cX5_parsePerson 71 = .ok (.i2c, 1) := by decide +kernel
theorem dX5_parsePerson_72 : decode cX5_parsePerson 72 = .ok (.invokevirtual 50, 3) := by decide +kernel
theorem dX5_parsePerson_75 : decode cX5_parsePerson 75 = .ok (.istore 5, 2) := by decide +kernel
theorem dX5_parsePerson_77 : decode cX5_parsePerson 77 = .ok (.iload 5, 2) := by decide +kernel
theorem dX5_parsePerson_79 : decode cX5_parsePerson 79 = .ok (.ifCond .ge 11, 3) := by decide +kernel
theorem dX5_parsePerson_82 : decode cX5_parsePerson 82 = .ok (.bipush (-20), 2) := by decide +kernel
theorem dX5_parsePerson_84 : decode cX5_parsePerson 84 = .ok (.aload_n 0, 1) := by decide +kernel
theorem dX5_parsePerson_85 : decode cX5_parsePerson 85 = .ok (.getfield 24, 3) := by decide +kernel
theorem dX5_parsePerson_88 : decode cX5_parsePerson 88 = .ok (.isub, 1) := by decide +kernel
theorem dX5_parsePerson_89 : decode cX5_parsePerson 89 = .ok (.ireturn, 1) := by decide +kernel
theorem dX5_parsePerson_90 : decode cX5_parsePerson 90 = .ok (.aload_n 0, 1) := by decide +kernel
theorem dX5_parsePerson_91 : decode cX5_parsePerson 91 = .ok (.dup, 1) := by decide +kernel
theorem dX5_parsePerson_92 : decode cX5_parsePerson 92 = .ok (.getfield 24, 3) := by decide +kernel
theorem dX5_parsePerson_95 : decode cX5_parsePerson 95 = .ok (.iconst 1, 1) := by decide +kernel
theorem dX5_parsePerson_96 : decode cX5_parsePerson 96 = .ok (.iadd, 1) := by decide +kernel
theorem dX5_parsePerson_97 : decode cX5_parsePerson 97 = .ok (.putfield 24, 3) := by decide +kernel
theorem dX5_parsePerson_100 : decode cX5_parsePerson 100 = .ok (.aload_n 0, 1) := by decide +kernel
theorem dX5_parsePerson_101 : decode cX5_parsePerson 101 = .ok (.getfield 17, 3) := by decide +kernel
theorem dX5_parsePerson_104 : decode cX5_parsePerson 104 = .ok (.iconst 0, 1) := by decide +kernel
theorem dX5_parsePerson_105 : decode cX5_parsePerson 105 = .ok (.aaload, 1) := by decide +kernel
theorem dX5_parsePerson_106 : decode cX5_parsePerson 106 = .ok (.iload_n 1, 1) := by decide +kernel
theorem dX5_parsePerson_107 : decode cX5_parsePerson 107 = .ok (.iload_n 3, 1) := by decide +kernel
theorem dX5_parsePerson_108 : decode cX5_parsePerson 108 = .ok (.iastore, 1) := by decide +kernel
theorem dX5_parsePerson_109 : decode cX5_parsePerson 109 = .ok (.aload_n 0, 1) := by decide +kernel
theorem dX5_parsePerson_110 : decode cX5_parsePerson 110 = .ok (.getfield 17, 3) := by decide +kernel
theorem dX5_parsePerson_113 : decode cX5_parsePerson 113 = .ok (.iconst 1, 1) := by decide +kernel
theorem dX5_parsePerson_114 : decode cX5_parsePerson 114 = .ok (.aaload, 1) := by decide +kernel
theorem dX5_parsePerson_115 : decode cX5_parsePerson 115 = .ok (.iload_n 1, 1) := by decide +kernel
theorem dX5_parsePerson_116 : decode cX5_parsePerson 116 = .ok (.iload 4, 2) := by decide +kernel
theorem dX5_parsePerson_118 : decode cX5_parsePerson 118 = .ok (.iastore, 1) := by decide +kernel
theorem dX5_parsePerson_119 : decode cX5_parsePerson 119 = .ok (.aload_n 0, 1) := by decide +kernel
theorem dX5_parsePerson_120 : decode cX5_parsePerson 120 = .ok (.getfield 17, 3) := by decide +kernel
theorem dX5_parsePerson_123 : decode cX5_parsePerson 123 = .ok (.iconst 2, 1) := by decide +kernel
theorem dX5_parsePerson_124 : decode cX5_parsePerson 124 = .ok (.aaload, 1) := by decide +kernel
theorem dX5_parsePerson_125 : decode cX5_parsePerson 125 = .ok (.iload_n 1, 1) := by decide +kernel
theorem dX5_parsePerson_126 : decode cX5_parsePerson 126 = .ok (.iload 5, 2) := by decide +kernel
theorem dX5_parsePerson_128 : decode cX5_parsePerson 128 = .ok (.iastore, 1) := by decide +kernel
theorem dX5_parsePerson_129 : decode cX5_parsePerson 129 = .ok (.iconst 0, 1) := by decide +kernel
theorem dX5_parsePerson_130 : decode cX5_parsePerson 130 = .ok (.ireturn, 1) := by decide +kernel
theorem dX5_parseNumber_0 : decode cX5_parseNumber 0 = .ok (.iconst (-1), 1) := by decide +kernel
theorem dX5_parseNumber_1 : decode cX5_parseNumber 1 = .ok (.istore_n 1, 1) := by decide +kernel
theorem dX5_parseNumber_2 : decode cX5_parseNumber 2 = .ok (.aload_n 0, 1) := by decide +kernel
theorem dX5_parseNumber_3 : decode cX5_parseNumber 3 = .ok (.getfield 24, 3) := by decide +kernel
theorem dX5_parseNumber_6 : decode cX5_parseNumber 6 = .ok (.aload_n 0, 1) := by decide +kernel
theorem dX5_parseNumber_7 : decode cX5_parseNumber 7 = .ok (.getfield 20, 3) := by decide +kernel
theorem dX5_parseNumber_10 : decode cX5_parseNumber 10 = .ok (.if_icmp .ge 62, 3) := by decide +kernel
theorem dX5_parseNumber_13 : decode cX5_parseNumber 13 = .ok (.aload_n 0, 1) := by decide +kernel
theorem dX5_parseNumber_14 : decode cX5_parseNumber 14 = .ok (.getfield 9, 3) := by decide +kernel
theorem dX5_parseNumber_17 : decode cX5_parseNumber 17 = .ok (.aload_n 0, 1) := by decide +kernel
theorem dX5_parseNumber_18 : decode cX5_parseNumber 18 = .ok (.getfield 24, 3) := by decide +kernel
theorem dX5_parseNumber_21 : decode cX5_parseNumber 21 = .ok (.iaload, 1) := by decide +kernel
theorem dX5_parseNumber_22 : decode cX5_parseNumber 22 = .ok (.bipush 48, 2) := by decide +kernel
theorem dX5_parseNumber_24 : decode cX5_parseNumber 24 = .ok (.bipush 57, 2) := by decide +kernel
theorem dX5_parseNumber_26 : decode cX5_parseNumber 26 = .ok (.invokestatic 41, 3) := by decide +kernel
theorem dX5_parseNumber_29 : decode cX5_parseNumber 29 = .ok (.ifCond .eq 43, 3) := by decide +kernel
theorem dX5_parseNumber_32 : decode cX5_parseNumber 32 = .ok (.bipush 100, 2) := by decide +kernel
theorem dX5_parseNumber_34 : decode cX5_parseNumber 34 = .ok (.iconst 0, 1) := by decide +kernel
theorem dX5_parseNumber_35 : decode cX5_parseNumber 35 = .ok (.iload_n 1, 1) := by decide +kernel
theorem dX5_parseNumber_36 : decode cX5_parseNumber 36 = .ok (.invokestatic 57, 3) := by decide +kernel
theorem dX5_parseNumber_39 : decode cX5_parseNumber 39 = .ok (.bipush 10, 2) := by decide +kernel
theorem dX5_parseNumber_41 : decode cX5_parseNumber 41 = .ok (.imul, 1) := by decide +kernel
theorem dX5_parseNumber_42 : decode cX5_parseNumber 42 = .ok (.aload_n 0, 1) := by decide +kernel
theorem dX5_parseNumber_43 : decode cX5_parseNumber 43 = .ok (.getfield 9, 3) := by decide +kernel
theorem dX5_parseNumber_46 : decode cX5_parseNumber 46 = .ok (.aload_n 0, 1) := by decide +kernel
theorem dX5_parseNumber_47 : decode cX5_parseNumber 47 = .ok (.getfield 24, 3) := by decide +kernel
theorem dX5_parseNumber_50 : decode cX5_parseNumber 50 = .ok (.iaload, 1) := by decide +kernel
theorem dX5_parseNumber_51 : decode cX5_parseNumber 51 = .ok (.iadd, 1) := by decide +kernel
theorem dX5_parseNumber_52 : decode cX5_parseNumber 52 = .ok (.bipush 48, 2) := by decide +kernel
theorem dX5_parseNumber_54 : decode cX5_parseNumber 54 = .ok (.isub, 1) := by decide +kernel
theorem dX5_parseNumber_55 : decode cX5_parseNumber 55 = .ok (.invokestatic 63, 3) := by decide +kernel
theorem dX5_parseNumber_58 : decode cX5_parseNumber 58 = .ok (.istore_n 1, 1) := by decide +kernel
theorem dX5_parseNumber_59 : decode cX5_parseNumber 59 = .ok (.aload_n 0, 1) := by decide +kernel
theorem dX5_parseNumber_60 : decode cX5_parseNumber 60 = .ok (.dup, 1) := by decide +kernel
theorem dX5_parseNumber_61 : decode cX5_parseNumber 61 = .ok (.getfield 24, 3) := by decide +kernel
theorem dX5_parseNumber_64 : decode cX5_parseNumber 64 = .ok (.iconst 1, 1) := by decide +kernel
theorem dX5_parseNumber_65 : decode cX5_parseNumber 65 = .ok (.iadd, 1) := by decide +kernel
theorem dX5_parseNumber_66 : decode cX5_parseNumber 66 = .ok (.putfield 24, 3) := by decide +kernel
theorem dX5_parseNumber_69 : decode cX5_parseNumber 69 = .ok (.goto (-67), 3) := by decide +kernel
theorem dX5_parseNumber_72 : decode cX5_parseNumber 72 = .ok (.iload_n 1, 1) := by decide +kernel
theorem dX5_parseNumber_73 : decode cX5_parseNumber 73 = .ok (.ireturn, 1) := by decide +kernel
theorem dX5_nextByte_0 : decode cX5_nextByte 0 = .ok (.aload_n 0, 1) := by decide +kernel
theorem dX5_nextByte_1 : decode cX5_nextByte 1 = .ok (.getfield 24, 3) := by decide +kernel
theorem dX5_nextByte_4 : decode cX5_nextByte 4 = .ok (.aload_n 0, 1) := by decide +kernel
theorem dX5_nextByte_5 : decode cX5_nextByte 5 = .ok (.getfield 20, 3) := by decide +kernel
theorem dX5_nextByte_8 : decode cX5_nextByte 8 = .ok (.if_icmp .ge 30, 3) := by decide +kernel
theorem dX5_nextByte_11 : decode cX5_nextByte 11 = .ok (.aload_n 0, 1) := by decide +kernel
theorem dX5_nextByte_12 : decode cX5_nextByte 12 = .ok (.getfield 9, 3) := by decide +kernel
theorem dX5_nextByte_15 : decode cX5_nextByte 15 = .ok (.aload_n 0, 1) := by decide +kernel
theorem dX5_nextByte_16 : decode cX5_nextByte 16 = .ok (.getfield 24, 3) := by decide +kernel
theorem dX5_nextByte_19 : decode cX5_nextByte 19 = .ok (.iaload, 1) := by decide +kernel
theorem dX5_nextByte_20 : decode cX5_nextByte 20 = .ok (.bipush 32, 2) := by decide +kernel
theorem dX5_nextByte_22 : decode cX5_nextByte 22 = .ok (.if_icmp .ne 16, 3) := by decide +kernel
theorem dX5_nextByte_25 : decode cX5_nextByte 25 = .ok (.aload_n 0, 1) := by decide +kernel
theorem dX5_nextByte_26 : decode cX5_nextByte 26 = .ok (.dup, 1) := by decide +kernel
theorem dX5_nextByte_27 : decode cX5_nextByte 27 = .ok (.getfield 24, 3) := by decide +kernel
theorem dX5_nextByte_30 : decode cX5_nextByte 30 = .ok (.iconst 1, 1) := by decide +kernel
theorem dX5_nextByte_31 : decode cX5_nextByte 31 = .ok (.iadd, 1) := by decide +kernel
theorem dX5_nextByte_32 : decode cX5_nextByte 32 = .ok (.putfield 24, 3) := by decide +kernel
theorem dX5_nextByte_35 : decode cX5_nextByte 35 = .ok (.goto (-35), 3) := by decide +kernel
theorem dX5_nextByte_38 : decode cX5_nextByte 38 = .ok (.aload_n 0, 1) := by decide +kernel
theorem dX5_nextByte_39 : decode cX5_nextByte 39 = .ok (.getfield 24, 3) := by decide +kernel
theorem dX5_nextByte_42 : decode cX5_nextByte 42 = .ok (.aload_n 0, 1) := by decide +kernel
theorem dX5_nextByte_43 : decode cX5_nextByte 43 = .ok (.getfield 20, 3) := by decide +kernel
theorem dX5_nextByte_46 : decode cX5_nextByte 46 = .ok (.if_icmp .ge 15, 3) := by decide +kernel
theorem dX5_nextByte_49 : decode cX5_nextByte 49 = .ok (.aload_n 0, 1) := by decide +kernel
theorem dX5_nextByte_50 : decode cX5_nextByte 50 = .ok (.getfield 9, 3) := by decide +kernel
theorem dX5_nextByte_53 : decode cX5_nextByte 53 = .ok (.aload_n 0, 1) := by decide +kernel
theorem dX5_nextByte_54 : decode cX5_nextByte 54 = .ok (.getfield 24, 3) := by decide +kernel
theorem dX5_nextByte_57 : decode cX5_nextByte 57 = .ok (.iaload, 1) := by decide +kernel
theorem dX5_nextByte_58 : decode cX5_nextByte 58 = .ok (.goto 4, 3) := by decide +kernel
theorem dX5_nextByte_61 : decode cX5_nextByte 61 = .ok (.iconst (-1), 1) := by decide +kernel
theorem dX5_nextByte_62 : decode cX5_nextByte 62 = .ok (.ireturn, 1) := by decide +kernel
theorem dX5_nextLetter_0 : decode cX5_nextLetter 0 = .ok (.iconst 0, 1) := by decide +kernel
theorem dX5_nextLetter_1 : decode cX5_nextLetter 1 = .ok (.aload_n 0, 1) := by decide +kernel
theorem dX5_nextLetter_2 : decode cX5_nextLetter 2 = .ok (.invokevirtual 34, 3) := by decide +kernel
theorem dX5_nextLetter_5 : decode cX5_nextLetter 5 = .ok (.invokestatic 57, 3) := by decide +kernel
theorem dX5_nextLetter_8 : decode cX5_nextLetter 8 = .ok (.ireturn, 1) := by decide +kernel
theorem dX6_init_0 : decode cX6_init 0 = .ok (.aload_n 0, 1) := by decide +kernel
theorem dX6_init_1 : decode cX6_init 1 = .ok (.invokespecial 1, 3) := by decide +kernel
theorem dX6_init_4 : decode cX6_init 4 = .ok (.aload_n 0, 1) := by decide +kernel
theorem dX6_init_5 : decode cX6_init 5 = .ok (.new 7, 3) := by decide +kernel
theorem dX6_init_8 : decode cX6_init 8 = .ok (.dup, 1) := by decide +kernel
theorem dX6_init_9 : decode cX6_init 9 = .ok (.invokespecial 9, 3) := by decide +kernel
theorem dX6_init_12 : decode cX6_init 12 = .ok (.putfield 10, 3) := by decide +kernel
theorem dX6_init_15 : decode cX6_init 15 = .ok (.aload_n 0, 1) := by decide +kernel
theorem dX6_init_16 : decode cX6_init 16 = .ok (.new 7, 3) := by decide +kernel
theorem dX6_init_19 : decode cX6_init 19 = .ok (.dup, 1) := by decide +kernel
theorem dX6_init_20 : decode cX6_init 20 = .ok (.invokespecial 9, 3) := by decide +kernel
theorem dX6_init_23 : decode cX6_init 23 = .ok (.putfield 16, 3) := by decide +kernel
theorem dX6_init_26 : decode cX6_init 26 = .ok (.aload_n 0, 1) := by decide +kernel
theorem dX6_init_27 : decode cX6_init 27 = .ok (.new 19, 3) := by decide +kernel
theorem dX6_init_30 : decode cX6_init 30 = .ok (.dup, 1) := by decide +kernel
theorem dX6_init_31 : decode cX6_init 31 = .ok (.invokespecial 21, 3) := by decide +kernel
theorem dX6_init_34 : decode cX6_init 34 = .ok (.putfield 22, 3) := by decide +kernel
theorem dX6_init_37 : decode cX6_init 37 = .ok (.aload_n 0, 1) := by decide +kernel
theorem dX6_init_38 : decode cX6_init 38 = .ok (.iconst 4, 1) := by decide +kernel
theorem dX6_init_39 : decode cX6_init 39 = .ok (.anewarray 26, 3) := by decide +kernel
theorem dX6_init_42 : decode cX6_init 42 = .ok (.putfield 28, 3) := by decide +kernel
theorem dX6_init_45 : decode cX6_init 45 = .ok (.aload_n 0, 1) := by decide +kernel
theorem dX6_init_46 : decode cX6_init 46 = .ok (.new 32, 3) := by decide +kernel
theorem dX6_init_49 : decode cX6_init 49 = .ok (.dup, 1) := by decide +kernel
theorem dX6_init_50 : decode cX6_init 50 = .ok (.invokespecial 34, 3) := by decide +kernel
theorem dX6_init_53 : decode cX6_init 53 = .ok (.putfield 35, 3) := by decide +kernel
theorem dX6_init_56 : decode cX6_init 56 = .ok (.aload_n 0, 1) := by decide +kernel
theorem dX6_init_57 : decode cX6_init 57 = .ok (.new 32, 3) := by decide +kernel
theorem dX6_init_60 : decode cX6_init 60 = .ok (.dup, 1) := by decide +kernel
theorem dX6_init_61 : decode cX6_init 61 = .ok (.invokespecial 34, 3) := by decide +kernel
theorem dX6_init_64 : decode cX6_init 64 = .ok (.putfield 39, 3) := by decide +kernel
theorem dX6_init_67 : decode cX6_init 67 = .ok (.aload_n 0, 1) := by decide +kernel
theorem dX6_init_68 : decode cX6_init 68 = .ok (.new 32, 3) := by decide +kernel
theorem dX6_init_71 : decode cX6_init 71 = .ok (.dup, 1) := by decide +kernel
theorem dX6_init_72 : decode cX6_init 72 = .ok (.invokespecial 34, 3) := by decide +kernel
theorem dX6_init_75 : decode cX6_init 75 = .ok (.putfield 42, 3) := by decide +kernel
theorem dX6_init_78 : decode cX6_init 78 = .ok (.iconst 0, 1) := by decide +kernel
theorem dX6_init_79 : decode cX6_init 79 = .ok (.istore_n 1, 1) := by decide +kernel
theorem dX6_init_80 : decode cX6_init 80 = .ok (.iload_n 1, 1) := by decide +kernel
theorem dX6_init_81 : decode cX6_init 81 = .ok (.iconst 4, 1) := by decide +kernel
theorem dX6_init_82 : decode cX6_init 82 = .ok (.if_icmp .ge 22, 3) := by decide +kernel
theorem dX6_init_85 : decode cX6_init 85 = .ok (.aload_n 0, 1) := by decide +kernel
theorem dX6_init_86 : decode cX6_init 86 = .ok (.getfield 28, 3) := by decide +kernel
theorem dX6_init_89 : decode cX6_init 89 = .ok (.iload_n 1, 1) := by decide +kernel
theorem dX6_init_90 : decode cX6_init 90 = .ok (.new 26, 3) := by decide +kernel
theorem dX6_init_93 : decode cX6_init 93 = .ok (.dup, 1) := by decide +kernel
theorem dX6_init_94 : decode cX6_init 94 = .ok (.invokespecial 45, 3) := by decide +kernel
theorem dX6_init_97 : decode cX6_init 97 = .ok (.aastore, 1) := by decide +kernel
theorem dX6_init_98 : decode cX6_init 98 = .ok (.iinc 1 1, 3) := by decide +kernel
theorem dX6_init_101 : decode cX6_init 101 = .ok (.goto (-21), 3) := by decide +kernel
theorem dX6_init_104 : decode cX6_init 104 = .ok (.return_, 1) := by decide +kernel
theorem dX6_stair_0 : decode cX6_stair 0 = .ok (.iload_n 1, 1) := by decide +kernel
theorem dX6_stair_1 : decode cX6_stair 1 = .ok (.getstatic 46, 3) := by decide +kernel
theorem dX6_stair_4 : decode cX6_stair 4 = .ok (.iconst 0, 1) := by decide +kernel
theorem dX6_stair_5 : decode cX6_stair 5 = .ok (.iaload, 1) := by decide +kernel
theorem dX6_stair_6 : decode cX6_stair 6 = .ok (.getstatic 50, 3) := by decide +kernel
theorem dX6_stair_9 : decode cX6_stair 9 = .ok (.iconst 0, 1) := by decide +kernel
theorem dX6_stair_10 : decode cX6_stair 10 = .ok (.iaload, 1) := by decide +kernel
theorem dX6_stair_11 : decode cX6_stair 11 = .ok (.invokestatic 53, 3) := by decide +kernel
theorem dX6_stair_14 : decode cX6_stair 14 = .ok (.ifCond .eq 20, 3) := by decide +kernel
theorem dX6_stair_17 : decode cX6_stair 17 = .ok (.iload_n 2, 1) := by decide +kernel
theorem dX6_stair_18 : decode cX6_stair 18 = .ok (.getstatic 46, 3) := by decide +kernel
theorem dX6_stair_21 : decode cX6_stair 21 = .ok (.iconst 2, 1) := by decide +kernel
theorem dX6_stair_22 : decode cX6_stair 22 = .ok (.iaload, 1) := by decide +kernel
theorem dX6_stair_23 : decode cX6_stair 23 = .ok (.getstatic 50, 3) := by decide +kernel
theorem dX6_stair_26 : decode cX6_stair 26 = .ok (.iconst 2, 1) := by decide +kernel
theorem dX6_stair_27 : decode cX6_stair 27 = .ok (.iaload, 1) := by decide +kernel
theorem dX6_stair_28 : decode cX6_stair 28 = .ok (.invokestatic 53, 3) := by decide +kernel
theorem dX6_stair_31 : decode cX6_stair 31 = .ok (.ifCond .ne 5, 3) := by decide +kernel
theorem dX6_stair_34 : decode cX6_stair 34 = .ok (.iconst (-1), 1) := by decide +kernel
theorem dX6_stair_35 : decode cX6_stair 35 = .ok (.ireturn, 1) := by decide +kernel
theorem dX6_stair_36 : decode cX6_stair 36 = .ok (.aload_n 0, 1) := by decide +kernel
theorem dX6_stair_37 : decode cX6_stair 37 = .ok (.getfield 10, 3) := by decide +kernel
theorem dX6_stair_40 : decode cX6_stair 40 = .ok (.getfield 57, 3) := by decide +kernel
theorem dX6_stair_43 : decode cX6_stair 43 = .ok (.iconst 3, 1) := by decide +kernel
theorem dX6_stair_44 : decode cX6_stair 44 = .ok (.if_icmp .lt 6, 3) := by decide +kernel
theorem dX6_stair_47 : decode cX6_stair 47 = .ok (.bipush (-3), 2) := by decide +kernel
theorem dX6_stair_49 : decode cX6_stair 49 = .ok (.ireturn, 1) := by decide +kernel
theorem dX6_stair_50 : decode cX6_stair 50 = .ok (.aload_n 0, 1) := by decide +kernel
theorem dX6_stair_51 : decode cX6_stair 51 = .ok (.getfield 10, 3) := by decide +kernel
theorem dX6_stair_54 : decode cX6_stair 54 = .ok (.getfield 57, 3) := by decide +kernel
theorem dX6_stair_57 : decode cX6_stair 57 = .ok (.istore_n 3, 1) := by decide +kernel
theorem dX6_stair_58 : decode cX6_stair 58 = .ok (.aload_n 0, 1) := by decide +kernel
theorem dX6_stair_59 : decode cX6_stair 59 = .ok (.getfield 10, 3) := by decide +kernel
theorem dX6_stair_62 : decode cX6_stair 62 = .ok (.getfield 61, 3) := by decide +kernel
theorem dX6_stair_65 : decode cX6_stair 65 = .ok (.iconst 0, 1) := by decide +kernel
theorem dX6_stair_66 : decode cX6_stair 66 = .ok (.aaload, 1) := by decide +kernel
theorem dX6_stair_67 : decode cX6_stair 67 = .ok (.iload_n 3, 1) := by decide +kernel
theorem dX6_stair_68 : decode cX6_stair 68 = .ok (.iload_n 1, 1) := by decide +kernel
theorem dX6_stair_69 : decode cX6_stair 69 = .ok (.iastore, 1) := by decide +kernel
theorem dX6_stair_70 : decode cX6_stair 70 = .ok (.aload_n 0, 1) := by decide +kernel
theorem dX6_stair_71 : decode cX6_stair 71 = .ok (.getfield 10, 3) := by decide +kernel
theorem dX6_stair_74 : decode cX6_stair 74 = .ok (.getfield 61, 3) := by decide +kernel
theorem dX6_stair_77 : decode cX6_stair 77 = .ok (.iconst 1, 1) := by decide +kernel
theorem dX6_stair_78 : decode cX6_stair 78 = .ok (.aaload, 1) := by decide +kernel
theorem dX6_stair_79 : decode cX6_stair 79 = .ok (.iload_n 3, 1) := by decide +kernel
theorem dX6_stair_80 : decode cX6_stair 80 = .ok (.iconst 0, 1) := by decide +kernel
theorem dX6_stair_81 : decode cX6_stair 81 = .ok (.iastore, 1) := by decide +kernel
theorem dX6_stair_82 : decode cX6_stair 82 = .ok (.aload_n 0, 1) := by decide +kernel
theorem dX6_stair_83 : decode cX6_stair 83 = .ok (.getfield 10, 3) := by decide +kernel
theorem dX6_stair_86 : decode cX6_stair 86 = .ok (.getfield 61, 3) := by decide +kernel
theorem dX6_stair_89 : decode cX6_stair 89 = .ok (.iconst 2, 1) := by decide +kernel
theorem dX6_stair_90 : decode cX6_stair 90 = .ok (.aaload, 1) := by decide +kernel
theorem dX6_stair_91 : decode cX6_stair 91 = .ok (.iload_n 3, 1) := by decide +kernel
theorem dX6_stair_92 : decode cX6_stair 92 = .ok (.iload_n 2, 1) := by decide +kernel
theorem dX6_stair_93 : decode cX6_stair 93 = .ok (.iastore, 1) := by decide +kernel
theorem dX6_stair_94 : decode cX6_stair 94 = .ok (.aload_n 0, 1) := by decide +kernel
theorem dX6_stair_95 : decode cX6_stair 95 = .ok (.getfield 10, 3) := by decide +kernel
theorem dX6_stair_98 : decode cX6_stair 98 = .ok (.iload_n 3, 1) := by decide +kernel
theorem dX6_stair_99 : decode cX6_stair 99 = .ok (.iconst 1, 1) := by decide +kernel
theorem dX6_stair_100 : decode cX6_stair 100 = .ok (.iadd, 1) := by decide +kernel
theorem dX6_stair_101 : decode cX6_stair 101 = .ok (.putfield 57, 3) := by decide +kernel
theorem dX6_stair_104 : decode cX6_stair 104 = .ok (.aload_n 0, 1) := by decide +kernel
theorem dX6_stair_105 : decode cX6_stair 105 = .ok (.invokevirtual 65, 3) := by decide +kernel
theorem dX6_stair_108 : decode cX6_stair 108 = .ok (.iload_n 3, 1) := by decide +kernel
theorem dX6_stair_109 : decode cX6_stair 109 = .ok (.ireturn, 1) := by decide +kernel
theorem dX6_of_0 : decode cX6_of 0 = .ok (.aload_n 0, 1) := by decide +kernel
theorem dX6_of_1 : decode cX6_of 1 = .ok (.iload_n 1, 1) := by decide +kernel
theorem dX6_of_2 : decode cX6_of 2 = .ok (.invokevirtual 68, 3) := by decide +kernel
theorem dX6_of_5 : decode cX6_of 5 = .ok (.ifCond .eq 29, 3) := by decide +kernel
theorem dX6_of_8 : decode cX6_of 8 = .ok (.iload_n 2, 1) := by decide +kernel
theorem dX6_of_9 : decode cX6_of 9 = .ok (.iconst 0, 1) := by decide +kernel
theorem dX6_of_10 : decode cX6_of 10 = .ok (.iconst 2, 1) := by decide +kernel
theorem dX6_of_11 : decode cX6_of 11 = .ok (.invokestatic 53, 3) := by decide +kernel
theorem dX6_of_14 : decode cX6_of 14 = .ok (.ifCond .eq 20, 3) := by decide +kernel
theorem dX6_of_17 : decode cX6_of 17 = .ok (.iload_n 3, 1) := by decide +kernel
theorem dX6_of_18 : decode cX6_of 18 = .ok (.getstatic 46, 3) := by decide +kernel
theorem dX6_of_21 : decode cX6_of 21 = .ok (.iload_n 2, 1) := by decide +kernel
theorem dX6_of_22 : decode cX6_of 22 = .ok (.iaload, 1) := by decide +kernel
theorem dX6_of_23 : decode cX6_of 23 = .ok (.getstatic 50, 3) := by decide +kernel
theorem dX6_of_26 : decode cX6_of 26 = .ok (.iload_n 2, 1) := by decide +kernel
theorem dX6_of_27 : decode cX6_of 27 = .ok (.iaload, 1) := by decide +kernel
theorem dX6_of_28 : decode cX6_of 28 = .ok (.invokestatic 53, 3) := by decide +kernel
theorem dX6_of_31 : decode cX6_of 31 = .ok (.ifCond .ne 5, 3) := by decide +kernel
theorem dX6_of_34 : decode cX6_of 34 = .ok (.iconst (-1), 1) := by decide +kernel
theorem dX6_of_35 : decode cX6_of 35 = .ok (.ireturn, 1) := by decide +kernel
theorem dX6_of_36 : decode cX6_of 36 = .ok (.aload_n 0, 1) := by decide +kernel
theorem dX6_of_37 : decode cX6_of 37 = .ok (.getfield 10, 3) := by decide +kernel
theorem dX6_of_40 : decode cX6_of 40 = .ok (.getfield 61, 3) := by decide +kernel
theorem dX6_of_43 : decode cX6_of 43 = .ok (.iload_n 2, 1) := by decide +kernel
theorem dX6_of_44 : decode cX6_of 44 = .ok (.aaload, 1) := by decide +kernel
theorem dX6_of_45 : decode cX6_of 45 = .ok (.iload_n 1, 1) := by decide +kernel
theorem dX6_of_46 : decode cX6_of 46 = .ok (.iaload, 1) := by decide +kernel
theorem dX6_of_47 : decode cX6_of 47 = .ok (.istore 4, 2) := by decide +kernel
theorem dX6_of_49 : decode cX6_of 49 = .ok (.aload_n 0, 1) := by decide +kernel
theorem dX6_of_50 : decode cX6_of 50 = .ok (.getfield 10, 3) := by decide +kernel
theorem dX6_of_53 : decode cX6_of 53 = .ok (.getfield 61, 3) := by decide +kernel
theorem dX6_of_56 : decode cX6_of 56 = .ok (.iload_n 2, 1) := by decide +kernel
theorem dX6_of_57 : decode cX6_of 57 = .ok (.aaload, 1) := by decide +kernel
theorem dX6_of_58 : decode cX6_of 58 = .ok (.iload_n 1, 1) := by decide +kernel
theorem dX6_of_59 : decode cX6_of 59 = .ok (.iload_n 3, 1) := by decide +kernel
theorem dX6_of_60 : decode cX6_of 60 = .ok (.iastore, 1) := by decide +kernel
theorem dX6_of_61 : decode cX6_of 61 = .ok (.aload_n 0, 1) := by decide +kernel
theorem dX6_of_62 : decode cX6_of 62 = .ok (.invokevirtual 65, 3) := by decide +kernel
theorem dX6_of_65 : decode cX6_of 65 = .ok (.iload 4, 2) := by decide +kernel
theorem dX6_of_67 : decode cX6_of 67 = .ok (.ireturn, 1) := by decide +kernel
theorem dX6_set_0 : decode cX6_set 0 = .ok (.iload_n 1, 1) := by decide +kernel
theorem dX6_set_1 : decode cX6_set 1 = .ok (.iconst 0, 1) := by decide +kernel
theorem dX6_set_2 : decode cX6_set 2 = .ok (.bipush 6, 2) := by decide +kernel
theorem dX6_set_4 : decode cX6_set 4 = .ok (.invokestatic 53, 3) := by decide +kernel
theorem dX6_set_7 : decode cX6_set 7 = .ok (.ifCond .eq 20, 3) := by decide +kernel
theorem dX6_set_10 : decode cX6_set 10 = .ok (.iload_n 2, 1) := by decide +kernel
theorem dX6_set_11 : decode cX6_set 11 = .ok (.getstatic 72, 3) := by decide +kernel
theorem dX6_set_14 : decode cX6_set 14 = .ok (.iload_n 1, 1) := by decide +kernel
theorem dX6_set_15 : decode cX6_set 15 = .ok (.iaload, 1) := by decide +kernel
theorem dX6_set_16 : decode cX6_set 16 = .ok (.getstatic 75, 3) := by decide +kernel
theorem dX6_set_19 : decode cX6_set 19 = .ok (.iload_n 1, 1) := by decide +kernel
theorem dX6_set_20 : decode cX6_set 20 = .ok (.iaload, 1) := by decide +kernel
theorem dX6_set_21 : decode cX6_set 21 = .ok (.invokestatic 53, 3) := by decide +kernel
theorem dX6_set_24 : decode cX6_set 24 = .ok (.ifCond .ne 5, 3) := by decide +kernel
theorem dX6_set_27 : decode cX6_set 27 = .ok (.iconst (-1), 1) := by decide +kernel
theorem dX6_set_28 : decode cX6_set 28 = .ok (.ireturn, 1) := by decide +kernel
theorem dX6_set_29 : decode cX6_set 29 = .ok (.aload_n 0, 1) := by decide +kernel
theorem dX6_set_30 : decode cX6_set 30 = .ok (.getfield 10, 3) := by decide +kernel
theorem dX6_set_33 : decode cX6_set 33 = .ok (.getfield 78, 3) := by decide +kernel
theorem dX6_set_36 : decode cX6_set 36 = .ok (.iload_n 1, 1) := by decide +kernel
theorem dX6_set_37 : decode cX6_set 37 = .ok (.iaload, 1) := by decide +kernel
theorem dX6_set_38 : decode cX6_set 38 = .ok (.istore_n 3, 1) := by decide +kernel
theorem dX6_set_39 : decode cX6_set 39 = .ok (.aload_n 0, 1) := by decide +kernel
theorem dX6_set_40 : decode cX6_set 40 = .ok (.getfield 10, 3) := by decide +kernel
theorem dX6_set_43 : decode cX6_set 43 = .ok (.getfield 78, 3) := by decide +kernel
theorem dX6_set_46 : decode cX6_set 46 = .ok (.iload_n 1, 1) := by decide +kernel
theorem dX6_set_47 : decode cX6_set 47 = .ok (.iload_n 2, 1) := by decide +kernel
theorem dX6_set_48 : decode cX6_set 48 = .ok (.iastore, 1) := by decide +kernel
theorem dX6_set_49 : decode cX6_set 49 = .ok (.aload_n 0, 1) := by decide +kernel
theorem dX6_set_50 : decode cX6_set 50 = .ok (.invokevirtual 65, 3) := by decide +kernel
theorem dX6_set_53 : decode cX6_set 53 = .ok (.iload_n 3, 1) := by decide +kernel
theorem dX6_set_54 : decode cX6_set 54 = .ok (.ireturn, 1) := by decide +kernel
theorem dX6_change_0 : decode cX6_change 0 = .ok (.iload_n 1, 1) := by decide +kernel
theorem dX6_change_1 : decode cX6_change 1 = .ok (.iconst 0, 1) := by decide +kernel
theorem dX6_change_2 : decode cX6_change 2 = .ok (.bipush 99, 2) := by decide +kernel
theorem dX6_change_4 : decode cX6_change 4 = .ok (.invokestatic 53, 3) := by decide +kernel
theorem dX6_change_7 : decode cX6_change 7 = .ok (.ifCond .eq 18, 3) := by decide +kernel
theorem dX6_change_10 : decode cX6_change 10 = .ok (.iload_n 2, 1) := by decide +kernel
theorem dX6_change_11 : decode cX6_change 11 = .ok (.iconst 0, 1) := by decide +kernel
theorem dX6_change_12 : decode cX6_change 12 = .ok (.getstatic 81, 3) := by decide +kernel
theorem dX6_change_15 : decode cX6_change 15 = .ok (.iconst 3, 1) := by decide +kernel
theorem dX6_change_16 : decode cX6_change 16 = .ok (.iaload, 1) := by decide +kernel
theorem dX6_change_17 : decode cX6_change 17 = .ok (.iconst 1, 1) := by decide +kernel
theorem dX6_change_18 : decode cX6_change 18 = .ok (.isub, 1) := by decide +kernel
theorem dX6_change_19 : decode cX6_change 19 = .ok (.invokestatic 53, 3) := by decide +kernel
theorem dX6_change_22 : decode cX6_change 22 = .ok (.ifCond .ne 5, 3) := by decide +kernel
theorem dX6_change_25 : decode cX6_change 25 = .ok (.iconst (-1), 1) := by decide +kernel
theorem dX6_change_26 : decode cX6_change 26 = .ok (.ireturn, 1) := by decide +kernel
theorem dX6_change_27 : decode cX6_change 27 = .ok (.aload_n 0, 1) := by decide +kernel
theorem dX6_change_28 : decode cX6_change 28 = .ok (.getfield 10, 3) := by decide +kernel
theorem dX6_change_31 : decode cX6_change 31 = .ok (.getfield 84, 3) := by decide +kernel
theorem dX6_change_34 : decode cX6_change 34 = .ok (.istore_n 3, 1) := by decide +kernel
theorem dX6_change_35 : decode cX6_change 35 = .ok (.aload_n 0, 1) := by decide +kernel
theorem dX6_change_36 : decode cX6_change 36 = .ok (.getfield 10, 3) := by decide +kernel
theorem dX6_change_39 : decode cX6_change 39 = .ok (.iload_n 1, 1) := by decide +kernel
theorem dX6_change_40 : decode cX6_change 40 = .ok (.putfield 84, 3) := by decide +kernel
theorem dX6_change_43 : decode cX6_change 43 = .ok (.aload_n 0, 1) := by decide +kernel
theorem dX6_change_44 : decode cX6_change 44 = .ok (.getfield 10, 3) := by decide +kernel
theorem dX6_change_47 : decode cX6_change 47 = .ok (.iload_n 2, 1) := by decide +kernel
theorem dX6_change_48 : decode cX6_change 48 = .ok (.putfield 87, 3) := by decide +kernel
theorem dX6_change_51 : decode cX6_change 51 = .ok (.aload_n 0, 1) := by decide +kernel
theorem dX6_change_52 : decode cX6_change 52 = .ok (.invokevirtual 65, 3) := by decide +kernel
theorem dX6_change_55 : decode cX6_change 55 = .ok (.iload_n 3, 1) := by decide +kernel
theorem dX6_change_56 : decode cX6_change 56 = .ok (.ireturn, 1) := by decide +kernel
theorem dX6_person_0 : decode cX6_person 0 = .ok (.iload_n 1, 1) := by decide +kernel
theorem dX6_person_1 : decode cX6_person 1 = .ok (.iconst 0, 1) := by decide +kernel
theorem dX6_person_2 : decode cX6_person 2 = .ok (.getstatic 90, 3) := by decide +kernel
theorem dX6_person_5 : decode cX6_person 5 = .ok (.iconst 0, 1) := by decide +kernel
theorem dX6_person_6 : decode cX6_person 6 = .ok (.iaload, 1) := by decide +kernel
theorem dX6_person_7 : decode cX6_person 7 = .ok (.invokestatic 53, 3) := by decide +kernel
theorem dX6_person_10 : decode cX6_person 10 = .ok (.ifCond .eq 29, 3) := by decide +kernel
theorem dX6_person_13 : decode cX6_person 13 = .ok (.iload_n 2, 1) := by decide +kernel
theorem dX6_person_14 : decode cX6_person 14 = .ok (.iconst 0, 1) := by decide +kernel
theorem dX6_person_15 : decode cX6_person 15 = .ok (.getstatic 90, 3) := by decide +kernel
theorem dX6_person_18 : decode cX6_person 18 = .ok (.iconst 1, 1) := by decide +kernel
theorem dX6_person_19 : decode cX6_person 19 = .ok (.iaload, 1) := by decide +kernel
theorem dX6_person_20 : decode cX6_person 20 = .ok (.invokestatic 53, 3) := by decide +kernel
theorem dX6_person_23 : decode cX6_person 23 = .ok (.ifCond .eq 16, 3) := by decide +kernel
theorem dX6_person_26 : decode cX6_person 26 = .ok (.iload_n 3, 1) := by decide +kernel
theorem dX6_person_27 : decode cX6_person 27 = .ok (.iconst 0, 1) := by decide +kernel
theorem dX6_person_28 : decode cX6_person 28 = .ok (.getstatic 90, 3) := by decide +kernel
theorem dX6_person_31 : decode cX6_person 31 = .ok (.iconst 2, 1) := by decide +kernel
theorem dX6_person_32 : decode cX6_person 32 = .ok (.iaload, 1) := by decide +kernel
theorem dX6_person_33 : decode cX6_person 33 = .ok (.invokestatic 53, 3) := by decide +kernel
theorem dX6_person_36 : decode cX6_person 36 = .ok (.ifCond .ne 5, 3) := by decide +kernel
theorem dX6_person_39 : decode cX6_person 39 = .ok (.iconst (-1), 1) := by decide +kernel
theorem dX6_person_40 : decode cX6_person 40 = .ok (.ireturn, 1) := by decide +kernel
theorem dX6_person_41 : decode cX6_person 41 = .ok (.aload_n 0, 1) := by decide +kernel
theorem dX6_person_42 : decode cX6_person 42 = .ok (.getfield 10, 3) := by decide +kernel
theorem dX6_person_45 : decode cX6_person 45 = .ok (.getfield 93, 3) := by decide +kernel
theorem dX6_person_48 : decode cX6_person 48 = .ok (.bipush 14, 2) := by decide +kernel
theorem dX6_person_50 : decode cX6_person 50 = .ok (.if_icmp .lt 6, 3) := by decide +kernel
theorem dX6_person_53 : decode cX6_person 53 = .ok (.bipush (-3), 2) := by decide +kernel
theorem dX6_person_55 : decode cX6_person 55 = .ok (.ireturn, 1) := by decide +kernel
theorem dX6_person_56 : decode cX6_person 56 = .ok (.aload_n 0, 1) := by decide +kernel
theorem dX6_person_57 : decode cX6_person 57 = .ok (.getfield 10, 3) := by decide +kernel
theorem dX6_person_60 : decode cX6_person 60 = .ok (.iload_n 1, 1) := by decide +kernel
theorem dX6_person_61 : decode cX6_person 61 = .ok (.iload_n 2, 1) := by decide +kernel
theorem dX6_person_62 : decode cX6_person 62 = .ok (.iload_n 3, 1) := by decide +kernel
theorem dX6_person_63 : decode cX6_person 63 = .ok (.invokevirtual 96, 3) := by decide +kernel
theorem dX6_person_66 : decode cX6_person 66 = .ok (.aload_n 0, 1) := by decide +kernel
theorem dX6_person_67 : decode cX6_person 67 = .ok (.invokevirtual 65, 3) := by decide +kernel
theorem dX6_person_70 : decode cX6_person 70 = .ok (.aload_n 0, 1) := by decide +kernel
theorem dX6_person_71 : decode cX6_person 71 = .ok (.getfield 10, 3) := by decide +kernel
theorem dX6_person_74 : decode cX6_person 74 = .ok (.getfield 93, 3) := by decide +kernel
theorem dX6_person_77 : decode cX6_person 77 = .ok (.iconst 1, 1) := by decide +kernel
theorem dX6_person_78 : decode cX6_person 78 = .ok (.isub, 1) := by decide +kernel
theorem dX6_person_79 : decode cX6_person 79 = .ok (.ireturn, 1) := by decide +kernel
theorem dX6_told_0 : decode cX6_told 0 = .ok (.aload_n 0, 1) := by decide +kernel
theorem dX6_told_1 : decode cX6_told 1 = .ok (.iload_n 1, 1) := by decide +kernel
theorem dX6_told_2 : decode cX6_told 2 = .ok (.invokevirtual 100, 3) := by decide +kernel
theorem dX6_told_5 : decode cX6_told 5 = .ok (.ifCond .eq 12, 3) := by decide +kernel
theorem dX6_told_8 : decode cX6_told 8 = .ok (.iload_n 2, 1) := by decide +kernel
theorem dX6_told_9 : decode cX6_told 9 = .ok (.iconst 0, 1) := by decide +kernel
theorem dX6_told_10 : decode cX6_told 10 = .ok (.iconst 3, 1) := by decide +kernel
theorem dX6_told_11 : decode cX6_told 11 = .ok (.invokestatic 53, 3) := by decide +kernel
theorem dX6_told_14 : decode cX6_told 14 = .ok (.ifCond .ne 5, 3) := by decide +kernel
theorem dX6_told_17 : decode cX6_told 17 = .ok (.iconst (-1), 1) := by decide +kernel
theorem dX6_told_18 : decode cX6_told 18 = .ok (.ireturn, 1) := by decide +kernel
theorem dX6_told_19 : decode cX6_told 19 = .ok (.iload_n 2, 1) := by decide +kernel
theorem dX6_told_20 : decode cX6_told 20 = .ok (.iconst 2, 1) := by decide +kernel
theorem dX6_told_21 : decode cX6_told 21 = .ok (.if_icmp .gt 17, 3) := by decide +kernel
theorem dX6_told_24 : decode cX6_told 24 = .ok (.aload_n 0, 1) := by decide +kernel
theorem dX6_told_25 : decode cX6_told 25 = .ok (.getfield 10, 3) := by decide +kernel
theorem dX6_told_28 : decode cX6_told 28 = .ok (.getfield 103, 3) := by decide +kernel
theorem dX6_told_31 : decode cX6_told 31 = .ok (.iload_n 2, 1) := by decide +kernel
theorem dX6_told_32 : decode cX6_told 32 = .ok (.aaload, 1) := by decide +kernel
theorem dX6_told_33 : decode cX6_told 33 = .ok (.iload_n 1, 1) := by decide +kernel
theorem dX6_told_34 : decode cX6_told 34 = .ok (.iaload, 1) := by decide +kernel
theorem dX6_told_35 : decode cX6_told 35 = .ok (.goto 17, 3) := by decide +kernel
theorem dX6_told_38 : decode cX6_told 38 = .ok (.aload_n 0, 1) := by decide +kernel
theorem dX6_told_39 : decode cX6_told 39 = .ok (.getfield 10, 3) := by decide +kernel
theorem dX6_told_42 : decode cX6_told 42 = .ok (.getfield 103, 3) := by decide +kernel
theorem dX6_told_45 : decode cX6_told 45 = .ok (.iconst 2, 1) := by decide +kernel
theorem dX6_told_46 : decode cX6_told 46 = .ok (.aaload, 1) := by decide +kernel
theorem dX6_told_47 : decode cX6_told 47 = .ok (.iload_n 1, 1) := by decide +kernel
theorem dX6_told_48 : decode cX6_told 48 = .ok (.iaload, 1) := by decide +kernel
theorem dX6_told_49 : decode cX6_told 49 = .ok (.invokestatic 106, 3) := by decide +kernel
theorem dX6_told_52 : decode cX6_told 52 = .ok (.ireturn, 1) := by decide +kernel
theorem dX6_strike_0 : decode cX6_strike 0 = .ok (.aload_n 0, 1) := by decide +kernel
theorem dX6_strike_1 : decode cX6_strike 1 = .ok (.iload_n 1, 1) := by decide +kernel
theorem dX6_strike_2 : decode cX6_strike 2 = .ok (.invokevirtual 100, 3) := by decide +kernel
theorem dX6_strike_5 : decode cX6_strike 5 = .ok (.ifCond .ne 5, 3) := by decide +kernel
theorem dX6_strike_8 : decode cX6_strike 8 = .ok (.iconst (-1), 1) := by decide +kernel
theorem dX6_strike_9 : decode cX6_strike 9 = .ok (.ireturn, 1) := by decide +kernel
theorem dX6_strike_10 : decode cX6_strike 10 = .ok (.aload_n 0, 1) := by decide +kernel
theorem dX6_strike_11 : decode cX6_strike 11 = .ok (.getfield 10, 3) := by decide +kernel
theorem dX6_strike_14 : decode cX6_strike 14 = .ok (.iload_n 1, 1) := by decide +kernel
theorem dX6_strike_15 : decode cX6_strike 15 = .ok (.invokevirtual 110, 3) := by decide +kernel
theorem dX6_strike_18 : decode cX6_strike 18 = .ok (.aload_n 0, 1) := by decide +kernel
theorem dX6_strike_19 : decode cX6_strike 19 = .ok (.invokevirtual 65, 3) := by decide +kernel
theorem dX6_strike_22 : decode cX6_strike 22 = .ok (.aload_n 0, 1) := by decide +kernel
theorem dX6_strike_23 : decode cX6_strike 23 = .ok (.getfield 10, 3) := by decide +kernel
theorem dX6_strike_26 : decode cX6_strike 26 = .ok (.getfield 93, 3) := by decide +kernel
theorem dX6_strike_29 : decode cX6_strike 29 = .ok (.ireturn, 1) := by decide +kernel
theorem dX6_type_0 : decode cX6_type 0 = .ok (.iload_n 3, 1) := by decide +kernel
theorem dX6_type_1 : decode cX6_type 1 = .ok (.iconst 1, 1) := by decide +kernel
theorem dX6_type_2 : decode cX6_type 2 = .ok (.bipush 8, 2) := by decide +kernel
theorem dX6_type_4 : decode cX6_type 4 = .ok (.invokestatic 53, 3) := by decide +kernel
theorem dX6_type_7 : decode cX6_type 7 = .ok (.ifCond .ne 5, 3) := by decide +kernel
theorem dX6_type_10 : decode cX6_type 10 = .ok (.iconst (-1), 1) := by decide +kernel
theorem dX6_type_11 : decode cX6_type 11 = .ok (.ireturn, 1) := by decide +kernel
theorem dX6_type_12 : decode cX6_type 12 = .ok (.iconst 0, 1) := by decide +kernel
theorem dX6_type_13 : decode cX6_type 13 = .ok (.istore 4, 2) := by decide +kernel
theorem dX6_type_15 : decode cX6_type 15 = .ok (.iload 4, 2) := by decide +kernel
theorem dX6_type_17 : decode cX6_type 17 = .ok (.iload_n 3, 1) := by decide +kernel
theorem dX6_type_18 : decode cX6_type 18 = .ok (.if_icmp .ge 27, 3) := by decide +kernel
theorem dX6_type_21 : decode cX6_type 21 = .ok (.lload_n 1, 1) := by decide +kernel
theorem dX6_type_22 : decode cX6_type 22 = .ok (.iload 4, 2) := by decide +kernel
theorem dX6_type_24 : decode cX6_type 24 = .ok (.invokestatic 114, 3) := by decide +kernel
theorem dX6_type_27 : decode cX6_type 27 = .ok (.bipush 32, 2) := by decide +kernel
theorem dX6_type_29 : decode cX6_type 29 = .ok (.bipush 126, 2) := by decide +kernel
theorem dX6_type_31 : decode cX6_type 31 = .ok (.invokestatic 53, 3) := by decide +kernel
theorem dX6_type_34 : decode cX6_type 34 = .ok (.ifCond .ne 5, 3) := by decide +kernel
theorem dX6_type_37 : decode cX6_type 37 = .ok (.iconst (-1), 1) := by decide +kernel
theorem dX6_type_38 : decode cX6_type 38 = .ok (.ireturn, 1) := by decide +kernel
theorem dX6_type_39 : decode cX6_type 39 = .ok (.iinc 4 1, 3) := by decide +kernel
theorem dX6_type_42 : decode cX6_type 42 = .ok (.goto (-27), 3) := by decide +kernel
theorem dX6_type_45 : decode cX6_type 45 = .ok (.iload_n 3, 1) := by decide +kernel
theorem dX6_type_46 : decode cX6_type 46 = .ok (.bipush 80, 2) := by decide +kernel
theorem dX6_type_48 : decode cX6_type 48 = .ok (.aload_n 0, 1) := by decide +kernel
theorem dX6_type_49 : decode cX6_type 49 = .ok (.getfield 22, 3) := by decide +kernel
theorem dX6_type_52 : decode cX6_type 52 = .ok (.getfield 118, 3) := by decide +kernel
theorem dX6_type_55 : decode cX6_type 55 = .ok (.isub, 1) := by decide +kernel
theorem dX6_type_56 : decode cX6_type 56 = .ok (.if_icmp .le 6, 3) := by decide +kernel
theorem dX6_type_59 : decode cX6_type 59 = .ok (.bipush (-3), 2) := by decide +kernel
theorem dX6_type_61 : decode cX6_type 61 = .ok (.ireturn, 1) := by decide +kernel
theorem dX6_type_62 : decode cX6_type 62 = .ok (.iload_n 3, 1) := by decide +kernel
theorem dX6_type_63 : decode cX6_type 63 = .ok (.iconst 1, 1) := by decide +kernel
theorem dX6_type_64 : decode cX6_type 64 = .ok (.isub, 1) := by decide +kernel
theorem dX6_type_65 : decode cX6_type 65 = .ok (.istore 4, 2) := by decide +kernel
theorem dX6_type_67 : decode cX6_type 67 = .ok (.iload 4, 2) := by decide +kernel
theorem dX6_type_69 : decode cX6_type 69 = .ok (.ifCond .lt 22, 3) := by decide +kernel
theorem dX6_type_72 : decode cX6_type 72 = .ok (.aload_n 0, 1) := by decide +kernel
theorem dX6_type_73 : decode cX6_type 73 = .ok (.getfield 22, 3) := by decide +kernel
theorem dX6_type_76 : decode cX6_type 76 = .ok (.lload_n 1, 1) := by decide +kernel
theorem dX6_type_77 : decode cX6_type 77 = .ok (.iload 4, 2) := by decide +kernel
theorem dX6_type_79 : decode cX6_type 79 = .ok (.invokestatic 114, 3) := by decide +kernel
theorem dX6_type_82 : decode cX6_type 82 = .ok (.invokevirtual 121, 3) := by decide +kernel
theorem dX6_type_85 : decode cX6_type 85 = .ok (.iinc 4 (-1), 3) := by decide +kernel
theorem dX6_type_88 : decode cX6_type 88 = .ok (.goto (-21), 3) := by decide +kernel
theorem dX6_type_91 : decode cX6_type 91 = .ok (.aload_n 0, 1) := by decide +kernel
theorem dX6_type_92 : decode cX6_type 92 = .ok (.getfield 22, 3) := by decide +kernel
theorem dX6_type_95 : decode cX6_type 95 = .ok (.getfield 118, 3) := by decide +kernel
theorem dX6_type_98 : decode cX6_type 98 = .ok (.ireturn, 1) := by decide +kernel
theorem dX6_people_0 : decode cX6_people 0 = .ok (.aload_n 0, 1) := by decide +kernel
theorem dX6_people_1 : decode cX6_people 1 = .ok (.getfield 22, 3) := by decide +kernel
theorem dX6_people_4 : decode cX6_people 4 = .ok (.invokevirtual 124, 3) := by decide +kernel
theorem dX6_people_7 : decode cX6_people 7 = .ok (.istore_n 1, 1) := by decide +kernel
theorem dX6_people_8 : decode cX6_people 8 = .ok (.aload_n 0, 1) := by decide +kernel
theorem dX6_people_9 : decode cX6_people 9 = .ok (.getfield 22, 3) := by decide +kernel
theorem dX6_people_12 : decode cX6_people 12 = .ok (.iconst 0, 1) := by decide +kernel
theorem dX6_people_13 : decode cX6_people 13 = .ok (.putfield 118, 3) := by decide +kernel
theorem dX6_people_16 : decode cX6_people 16 = .ok (.iload_n 1, 1) := by decide +kernel
theorem dX6_people_17 : decode cX6_people 17 = .ok (.ifCond .ge 5, 3) := by decide +kernel
theorem dX6_people_20 : decode cX6_people 20 = .ok (.iload_n 1, 1) := by decide +kernel
theorem dX6_people_21 : decode cX6_people 21 = .ok (.ireturn, 1) := by decide +kernel
theorem dX6_people_22 : decode cX6_people 22 = .ok (.aload_n 0, 1) := by decide +kernel
theorem dX6_people_23 : decode cX6_people 23 = .ok (.getfield 22, 3) := by decide +kernel
theorem dX6_people_26 : decode cX6_people 26 = .ok (.getfield 128, 3) := by decide +kernel
theorem dX6_people_29 : decode cX6_people 29 = .ok (.bipush 14, 2) := by decide +kernel
theorem dX6_people_31 : decode cX6_people 31 = .ok (.aload_n 0, 1) := by decide +kernel
theorem dX6_people_32 : decode cX6_people 32 = .ok (.getfield 10, 3) := by decide +kernel
theorem dX6_people_35 : decode cX6_people 35 = .ok (.getfield 93, 3) := by decide +kernel
theorem dX6_people_38 : decode cX6_people 38 = .ok (.isub, 1) := by decide +kernel
theorem dX6_people_39 : decode cX6_people 39 = .ok (.if_icmp .le 6, 3) := by decide +kernel
theorem dX6_people_42 : decode cX6_people 42 = .ok (.bipush (-3), 2) := by decide +kernel
theorem dX6_people_44 : decode cX6_people 44 = .ok (.ireturn, 1) := by decide +kernel
theorem dX6_people_45 : decode cX6_people 45 = .ok (.iconst 0, 1) := by decide +kernel
theorem dX6_people_46 : decode cX6_people 46 = .ok (.istore_n 2, 1) := by decide +kernel
theorem dX6_people_47 : decode cX6_people 47 = .ok (.iload_n 2, 1) := by decide +kernel
theorem dX6_people_48 : decode cX6_people 48 = .ok (.aload_n 0, 1) := by decide +kernel
theorem dX6_people_49 : decode cX6_people 49 = .ok (.getfield 22, 3) := by decide +kernel
theorem dX6_people_52 : decode cX6_people 52 = .ok (.getfield 128, 3) := by decide +kernel
theorem dX6_people_55 : decode cX6_people 55 = .ok (.if_icmp .ge 49, 3) := by decide +kernel
theorem dX6_people_58 : decode cX6_people 58 = .ok (.aload_n 0, 1) := by decide +kernel
theorem dX6_people_59 : decode cX6_people 59 = .ok (.getfield 10, 3) := by decide +kernel
theorem dX6_people_62 : decode cX6_people 62 = .ok (.aload_n 0, 1) := by decide +kernel
theorem dX6_people_63 : decode cX6_people 63 = .ok (.getfield 22, 3) := by decide +kernel
theorem dX6_people_66 : decode cX6_people 66 = .ok (.getfield 131, 3) := by decide +kernel
theorem dX6_people_69 : decode cX6_people 69 = .ok (.iconst 0, 1) := by decide +kernel
theorem dX6_people_70 : decode cX6_people 70 = .ok (.aaload, 1) := by decide +kernel
theorem dX6_people_71 : decode cX6_people 71 = .ok (.iload_n 2, 1) := by decide +kernel
theorem dX6_people_72 : decode cX6_people 72 = .ok (.iaload, 1) := by decide +kernel
theorem dX6_people_73 : decode cX6_people 73 = .ok (.aload_n 0, 1) := by decide +kernel
theorem dX6_people_74 : decode cX6_people 74 = .ok (.getfield 22, 3) := by decide +kernel
theorem dX6_people_77 : decode cX6_people 77 = .ok (.getfield 131, 3) := by decide +kernel
theorem dX6_people_80 : decode cX6_people 80 = .ok (.iconst 1, 1) := by decide +kernel
theorem dX6_people_81 : decode cX6_people 81 = .ok (.aaload, 1) := by decide +kernel
theorem dX6_people_82 : decode cX6_people 82 = .ok (.iload_n 2, 1) := by decide +kernel
theorem dX6_people_83 : decode cX6_people 83 = .ok (.iaload, 1) := by decide +kernel
theorem dX6_people_84 : decode cX6_people 84 = .ok (.aload_n 0, 1) := by decide +kernel
theorem dX6_people_85 : decode cX6_people 85 = .ok (.getfield 22, 3) := by decide +kernel
theorem dX6_people_88 : decode cX6_people 88 = .ok (.getfield 131, 3) := by decide +kernel
theorem dX6_people_91 : decode cX6_people 91 = .ok (.iconst 2, 1) := by decide +kernel
theorem dX6_people_92 : decode cX6_people 92 = .ok (.aaload, 1) := by decide +kernel
theorem dX6_people_93 : decode cX6_people 93 = .ok (.iload_n 2, 1) := by decide +kernel
theorem dX6_people_94 : decode cX6_people 94 = .ok (.iaload, 1) := by decide +kernel
theorem dX6_people_95 : decode cX6_people 95 = .ok (.invokevirtual 96, 3) := by decide +kernel
theorem dX6_people_98 : decode cX6_people 98 = .ok (.iinc 2 1, 3) := by decide +kernel
theorem dX6_people_101 : decode cX6_people 101 = .ok (.goto (-54), 3) := by decide +kernel
theorem dX6_people_104 : decode cX6_people 104 = .ok (.aload_n 0, 1) := by decide +kernel
theorem dX6_people_105 : decode cX6_people 105 = .ok (.invokevirtual 65, 3) := by decide +kernel
theorem dX6_people_108 : decode cX6_people 108 = .ok (.aload_n 0, 1) := by decide +kernel
theorem dX6_people_109 : decode cX6_people 109 = .ok (.getfield 22, 3) := by decide +kernel
theorem dX6_people_112 : decode cX6_people 112 = .ok (.getfield 128, 3) := by decide +kernel
theorem dX6_people_115 : decode cX6_people 115 = .ok (.ireturn, 1) := by decide +kernel
theorem dX6_count_0 : decode cX6_count 0 = .ok (.iload_n 1, 1) := by decide +kernel
theorem dX6_count_1 : decode cX6_count 1 = .ok (.tableswitch 51 0 2 #[27, 35, 43], 27) := by decide +kernel
theorem dX6_count_28 : decode cX6_count 28 = .ok (.aload_n 0, 1) := by decide +kernel
theorem dX6_count_29 : decode cX6_count 29 = .ok (.getfield 10, 3) := by decide +kernel
theorem dX6_count_32 : decode cX6_count 32 = .ok (.getfield 57, 3) := by decide +kernel
theorem dX6_count_35 : decode cX6_count 35 = .ok (.ireturn, 1) := by decide +kernel
theorem dX6_count_36 : decode cX6_count 36 = .ok (.aload_n 0, 1) := by decide +kernel
theorem dX6_count_37 : decode cX6_count 37 = .ok (.getfield 10, 3) := by decide +kernel
theorem dX6_count_40 : decode cX6_count 40 = .ok (.getfield 93, 3) := by decide +kernel
theorem dX6_count_43 : decode cX6_count 43 = .ok (.ireturn, 1) := by decide +kernel
theorem dX6_count_44 : decode cX6_count 44 = .ok (.aload_n 0, 1) := by decide +kernel
theorem dX6_count_45 : decode cX6_count 45 = .ok (.getfield 10, 3) := by decide +kernel
theorem dX6_count_48 : decode cX6_count 48 = .ok (.invokevirtual 132, 3) := by decide +kernel
theorem dX6_count_51 : decode cX6_count 51 = .ok (.ireturn, 1) := by decide +kernel
theorem dX6_count_52 : decode cX6_count 52 = .ok (.iconst (-1), 1) := by decide +kernel
theorem dX6_count_53 : decode cX6_count 53 = .ok (.ireturn, 1) := by decide +kernel
theorem dX6_fate_0 : decode cX6_fate 0 = .ok (.aload_n 0, 1) := by decide +kernel
theorem dX6_fate_1 : decode cX6_fate 1 = .ok (.iload_n 1, 1) := by decide +kernel
theorem dX6_fate_2 : decode cX6_fate 2 = .ok (.invokevirtual 100, 3) := by decide +kernel
theorem dX6_fate_5 : decode cX6_fate 5 = .ok (.ifCond .eq 12, 3) := by decide +kernel
theorem dX6_fate_8 : decode cX6_fate 8 = .ok (.iload_n 2, 1) := by decide +kernel
theorem dX6_fate_9 : decode cX6_fate 9 = .ok (.iconst 0, 1) := by decide +kernel
theorem dX6_fate_10 : decode cX6_fate 10 = .ok (.iconst 4, 1) := by decide +kernel
theorem dX6_fate_11 : decode cX6_fate 11 = .ok (.invokestatic 53, 3) := by decide +kernel
theorem dX6_fate_14 : decode cX6_fate 14 = .ok (.ifCond .ne 5, 3) := by decide +kernel
theorem dX6_fate_17 : decode cX6_fate 17 = .ok (.iconst (-1), 1) := by decide +kernel
theorem dX6_fate_18 : decode cX6_fate 18 = .ok (.ireturn, 1) := by decide +kernel
theorem dX6_fate_19 : decode cX6_fate 19 = .ok (.aload_n 0, 1) := by decide +kernel
theorem dX6_fate_20 : decode cX6_fate 20 = .ok (.invokevirtual 135, 3) := by decide +kernel
theorem dX6_fate_23 : decode cX6_fate 23 = .ok (.getfield 139, 3) := by decide +kernel
theorem dX6_fate_26 : decode cX6_fate 26 = .ok (.iload_n 1, 1) := by decide +kernel
theorem dX6_fate_27 : decode cX6_fate 27 = .ok (.aaload, 1) := by decide +kernel
theorem dX6_fate_28 : decode cX6_fate 28 = .ok (.astore_n 3, 1) := by decide +kernel
theorem dX6_fate_29 : decode cX6_fate 29 = .ok (.iload_n 2, 1) := by decide +kernel
theorem dX6_fate_30 : decode cX6_fate 30 = .ok (.tableswitch 59 0 3 #[30, 38, 46, 54], 30) := by decide +kernel
theorem dX6_fate_60 : decode cX6_fate 60 = .ok (.aload_n 3, 1) := by decide +kernel
theorem dX6_fate_61 : decode cX6_fate 61 = .ok (.getfield 143, 3) := by decide +kernel
theorem dX6_fate_64 : decode cX6_fate 64 = .ok (.invokestatic 148, 3) := by decide +kernel
theorem dX6_fate_67 : decode cX6_fate 67 = .ok (.ireturn, 1) := by decide +kernel
theorem dX6_fate_68 : decode cX6_fate 68 = .ok (.aload_n 3, 1) := by decide +kernel
theorem dX6_fate_69 : decode cX6_fate 69 = .ok (.getfield 151, 3) := by decide +kernel
theorem dX6_fate_72 : decode cX6_fate 72 = .ok (.invokestatic 148, 3) := by decide +kernel
theorem dX6_fate_75 : decode cX6_fate 75 = .ok (.ireturn, 1) := by decide +kernel
theorem dX6_fate_76 : decode cX6_fate 76 = .ok (.aload_n 3, 1) := by decide +kernel
theorem dX6_fate_77 : decode cX6_fate 77 = .ok (.getfield 153, 3) := by decide +kernel
theorem dX6_fate_80 : decode cX6_fate 80 = .ok (.invokestatic 148, 3) := by decide +kernel
theorem dX6_fate_83 : decode cX6_fate 83 = .ok (.ireturn, 1) := by decide +kernel
theorem dX6_fate_84 : decode cX6_fate 84 = .ok (.aload_n 3, 1) := by decide +kernel
theorem dX6_fate_85 : decode cX6_fate 85 = .ok (.invokevirtual 156, 3) := by decide +kernel
theorem dX6_fate_88 : decode cX6_fate 88 = .ok (.ireturn, 1) := by decide +kernel
theorem dX6_fate_89 : decode cX6_fate 89 = .ok (.aload_n 3, 1) := by decide +kernel
theorem dX6_fate_90 : decode cX6_fate 90 = .ok (.getfield 159, 3) := by decide +kernel
theorem dX6_fate_93 : decode cX6_fate 93 = .ok (.ifCond .eq 7, 3) := by decide +kernel
theorem dX6_fate_96 : decode cX6_fate 96 = .ok (.iconst 1, 1) := by decide +kernel
theorem dX6_fate_97 : decode cX6_fate 97 = .ok (.goto 4, 3) := by decide +kernel
theorem dX6_fate_100 : decode cX6_fate 100 = .ok (.iconst 0, 1) := by decide +kernel
theorem dX6_fate_101 : decode cX6_fate 101 = .ok (.ireturn, 1) := by decide +kernel
theorem dX6_at_0 : decode cX6_at 0 = .ok (.iload_n 1, 1) := by decide +kernel
theorem dX6_at_1 : decode cX6_at 1 = .ok (.iconst 0, 1) := by decide +kernel
theorem dX6_at_2 : decode cX6_at 2 = .ok (.bipush 99, 2) := by decide +kernel
theorem dX6_at_4 : decode cX6_at 4 = .ok (.invokestatic 53, 3) := by decide +kernel
theorem dX6_at_7 : decode cX6_at 7 = .ok (.ifCond .eq 12, 3) := by decide +kernel
theorem dX6_at_10 : decode cX6_at 10 = .ok (.iload_n 2, 1) := by decide +kernel
theorem dX6_at_11 : decode cX6_at 11 = .ok (.iconst 0, 1) := by decide +kernel
theorem dX6_at_12 : decode cX6_at 12 = .ok (.iconst 4, 1) := by decide +kernel
theorem dX6_at_13 : decode cX6_at 13 = .ok (.invokestatic 53, 3) := by decide +kernel
theorem dX6_at_16 : decode cX6_at 16 = .ok (.ifCond .ne 5, 3) := by decide +kernel
theorem dX6_at_19 : decode cX6_at 19 = .ok (.iconst (-1), 1) := by decide +kernel
theorem dX6_at_20 : decode cX6_at 20 = .ok (.ireturn, 1) := by decide +kernel
theorem dX6_at_21 : decode cX6_at 21 = .ok (.aload_n 0, 1) := by decide +kernel
theorem dX6_at_22 : decode cX6_at 22 = .ok (.getfield 39, 3) := by decide +kernel
theorem dX6_at_25 : decode cX6_at 25 = .ok (.aload_n 0, 1) := by decide +kernel
theorem dX6_at_26 : decode cX6_at 26 = .ok (.getfield 10, 3) := by decide +kernel
theorem dX6_at_29 : decode cX6_at 29 = .ok (.iconst (-1), 1) := by decide +kernel
theorem dX6_at_30 : decode cX6_at 30 = .ok (.invokevirtual 163, 3) := by decide +kernel
theorem dX6_at_33 : decode cX6_at 33 = .ok (.aload_n 0, 1) := by decide +kernel
theorem dX6_at_34 : decode cX6_at 34 = .ok (.getfield 39, 3) := by decide +kernel
theorem dX6_at_37 : decode cX6_at 37 = .ok (.iconst 0, 1) := by decide +kernel
theorem dX6_at_38 : decode cX6_at 38 = .ok (.iload_n 1, 1) := by decide +kernel
theorem dX6_at_39 : decode cX6_at 39 = .ok (.invokevirtual 167, 3) := by decide +kernel
theorem dX6_at_42 : decode cX6_at 42 = .ok (.iload_n 2, 1) := by decide +kernel
theorem dX6_at_43 : decode cX6_at 43 = .ok (.iconst 3, 1) := by decide +kernel
theorem dX6_at_44 : decode cX6_at 44 = .ok (.if_icmp .gt 14, 3) := by decide +kernel
theorem dX6_at_47 : decode cX6_at 47 = .ok (.aload_n 0, 1) := by decide +kernel
theorem dX6_at_48 : decode cX6_at 48 = .ok (.getfield 39, 3) := by decide +kernel
theorem dX6_at_51 : decode cX6_at 51 = .ok (.iload_n 2, 1) := by decide +kernel
theorem dX6_at_52 : decode cX6_at 52 = .ok (.invokevirtual 171, 3) := by decide +kernel
theorem dX6_at_55 : decode cX6_at 55 = .ok (.goto 10, 3) := by decide +kernel
theorem dX6_at_58 : decode cX6_at 58 = .ok (.aload_n 0, 1) := by decide +kernel
theorem dX6_at_59 : decode cX6_at 59 = .ok (.getfield 39, 3) := by decide +kernel
theorem dX6_at_62 : decode cX6_at 62 = .ok (.invokevirtual 174, 3) := by decide +kernel
theorem dX6_at_65 : decode cX6_at 65 = .ok (.ireturn, 1) := by decide +kernel
theorem dX6_on_0 : decode cX6_on 0 = .ok (.iload_n 1, 1) := by decide +kernel
theorem dX6_on_1 : decode cX6_on 1 = .ok (.iconst 0, 1) := by decide +kernel
theorem dX6_on_2 : decode cX6_on 2 = .ok (.bipush 99, 2) := by decide +kernel
theorem dX6_on_4 : decode cX6_on 4 = .ok (.invokestatic 53, 3) := by decide +kernel
theorem dX6_on_7 : decode cX6_on 7 = .ok (.ifCond .eq 42, 3) := by decide +kernel
theorem dX6_on_10 : decode cX6_on 10 = .ok (.aload_n 0, 1) := by decide +kernel
theorem dX6_on_11 : decode cX6_on 11 = .ok (.iload_n 2, 1) := by decide +kernel
theorem dX6_on_12 : decode cX6_on 12 = .ok (.invokevirtual 68, 3) := by decide +kernel
theorem dX6_on_15 : decode cX6_on 15 = .ok (.ifCond .eq 34, 3) := by decide +kernel
theorem dX6_on_18 : decode cX6_on 18 = .ok (.iload 4, 2) := by decide +kernel
theorem dX6_on_20 : decode cX6_on 20 = .ok (.iconst 0, 1) := by decide +kernel
theorem dX6_on_21 : decode cX6_on 21 = .ok (.iconst 1, 1) := by decide +kernel
theorem dX6_on_22 : decode cX6_on 22 = .ok (.invokestatic 53, 3) := by decide +kernel
theorem dX6_on_25 : decode cX6_on 25 = .ok (.ifCond .eq 24, 3) := by decide +kernel
theorem dX6_on_28 : decode cX6_on 28 = .ok (.iload_n 3, 1) := by decide +kernel
theorem dX6_on_29 : decode cX6_on 29 = .ok (.iconst 0, 1) := by decide +kernel
theorem dX6_on_30 : decode cX6_on 30 = .ok (.aload_n 0, 1) := by decide +kernel
theorem dX6_on_31 : decode cX6_on 31 = .ok (.getfield 10, 3) := by decide +kernel
theorem dX6_on_34 : decode cX6_on 34 = .ok (.getfield 61, 3) := by decide +kernel
theorem dX6_on_37 : decode cX6_on 37 = .ok (.iconst 0, 1) := by decide +kernel
theorem dX6_on_38 : decode cX6_on 38 = .ok (.aaload, 1) := by decide +kernel
theorem dX6_on_39 : decode cX6_on 39 = .ok (.iload_n 2, 1) := by decide +kernel
theorem dX6_on_40 : decode cX6_on 40 = .ok (.iaload, 1) := by decide +kernel
theorem dX6_on_41 : decode cX6_on 41 = .ok (.iconst 1, 1) := by decide +kernel
theorem dX6_on_42 : decode cX6_on 42 = .ok (.isub, 1) := by decide +kernel
theorem dX6_on_43 : decode cX6_on 43 = .ok (.invokestatic 53, 3) := by decide +kernel
theorem dX6_on_46 : decode cX6_on 46 = .ok (.ifCond .ne 5, 3) := by decide +kernel
theorem dX6_on_49 : decode cX6_on 49 = .ok (.iconst (-1), 1) := by decide +kernel
theorem dX6_on_50 : decode cX6_on 50 = .ok (.ireturn, 1) := by decide +kernel
theorem dX6_on_51 : decode cX6_on 51 = .ok (.aload_n 0, 1) := by decide +kernel
theorem dX6_on_52 : decode cX6_on 52 = .ok (.getfield 39, 3) := by decide +kernel
theorem dX6_on_55 : decode cX6_on 55 = .ok (.aload_n 0, 1) := by decide +kernel
theorem dX6_on_56 : decode cX6_on 56 = .ok (.getfield 10, 3) := by decide +kernel
theorem dX6_on_59 : decode cX6_on 59 = .ok (.iconst (-1), 1) := by decide +kernel
theorem dX6_on_60 : decode cX6_on 60 = .ok (.invokevirtual 163, 3) := by decide +kernel
theorem dX6_on_63 : decode cX6_on 63 = .ok (.aload_n 0, 1) := by decide +kernel
theorem dX6_on_64 : decode cX6_on 64 = .ok (.getfield 39, 3) := by decide +kernel
theorem dX6_on_67 : decode cX6_on 67 = .ok (.iconst 0, 1) := by decide +kernel
theorem dX6_on_68 : decode cX6_on 68 = .ok (.iload_n 1, 1) := by decide +kernel
theorem dX6_on_69 : decode cX6_on 69 = .ok (.invokevirtual 167, 3) := by decide +kernel
theorem dX6_on_72 : decode cX6_on 72 = .ok (.aload_n 0, 1) := by decide +kernel
theorem dX6_on_73 : decode cX6_on 73 = .ok (.getfield 39, 3) := by decide +kernel
theorem dX6_on_76 : decode cX6_on 76 = .ok (.getfield 177, 3) := by decide +kernel
theorem dX6_on_79 : decode cX6_on 79 = .ok (.iload_n 2, 1) := by decide +kernel
theorem dX6_on_80 : decode cX6_on 80 = .ok (.aaload, 1) := by decide +kernel
theorem dX6_on_81 : decode cX6_on 81 = .ok (.iload_n 3, 1) := by decide +kernel
theorem dX6_on_82 : decode cX6_on 82 = .ok (.iload 4, 2) := by decide +kernel
theorem dX6_on_84 : decode cX6_on 84 = .ok (.invokevirtual 181, 3) := by decide +kernel
theorem dX6_on_87 : decode cX6_on 87 = .ok (.invokestatic 148, 3) := by decide +kernel
theorem dX6_on_90 : decode cX6_on 90 = .ok (.ireturn, 1) := by decide +kernel
theorem dX6_all_0 : decode cX6_all 0 = .ok (.iload_n 1, 1) := by decide +kernel
theorem dX6_all_1 : decode cX6_all 1 = .ok (.iconst 0, 1) := by decide +kernel
theorem dX6_all_2 : decode cX6_all 2 = .ok (.bipush 6, 2) := by decide +kernel
theorem dX6_all_4 : decode cX6_all 4 = .ok (.invokestatic 53, 3) := by decide +kernel
theorem dX6_all_7 : decode cX6_all 7 = .ok (.ifCond .ne 5, 3) := by decide +kernel
theorem dX6_all_10 : decode cX6_all 10 = .ok (.iconst (-1), 1) := by decide +kernel
theorem dX6_all_11 : decode cX6_all 11 = .ok (.ireturn, 1) := by decide +kernel
theorem dX6_all_12 : decode cX6_all 12 = .ok (.aload_n 0, 1) := by decide +kernel
theorem dX6_all_13 : decode cX6_all 13 = .ok (.invokevirtual 135, 3) := by decide +kernel
theorem dX6_all_16 : decode cX6_all 16 = .ok (.astore_n 2, 1) := by decide +kernel
theorem dX6_all_17 : decode cX6_all 17 = .ok (.iload_n 1, 1) := by decide +kernel
theorem dX6_all_18 : decode cX6_all 18 = .ok (.tableswitch 70 0 5 #[38, 43, 48, 53, 58, 63], 38) := by decide +kernel
theorem dX6_all_56 : decode cX6_all 56 = .ok (.aload_n 2, 1) := by decide +kernel
theorem dX6_all_57 : decode cX6_all 57 = .ok (.getfield 187, 3) := by decide +kernel
theorem dX6_all_60 : decode cX6_all 60 = .ok (.ireturn, 1) := by decide +kernel
theorem dX6_all_61 : decode cX6_all 61 = .ok (.aload_n 2, 1) := by decide +kernel
theorem dX6_all_62 : decode cX6_all 62 = .ok (.getfield 190, 3) := by decide +kernel
theorem dX6_all_65 : decode cX6_all 65 = .ok (.ireturn, 1) := by decide +kernel
theorem dX6_all_66 : decode cX6_all 66 = .ok (.aload_n 2, 1) := by decide +kernel
theorem dX6_all_67 : decode cX6_all 67 = .ok (.getfield 193, 3) := by decide +kernel
theorem dX6_all_70 : decode cX6_all 70 = .ok (.ireturn, 1) := by decide +kernel
theorem dX6_all_71 : decode cX6_all 71 = .ok (.aload_n 2, 1) := by decide +kernel
theorem dX6_all_72 : decode cX6_all 72 = .ok (.getfield 196, 3) := by decide +kernel
theorem dX6_all_75 : decode cX6_all 75 = .ok (.ireturn, 1) := by decide +kernel
theorem dX6_all_76 : decode cX6_all 76 = .ok (.aload_n 2, 1) := by decide +kernel
theorem dX6_all_77 : decode cX6_all 77 = .ok (.invokevirtual 199, 3) := by decide +kernel
theorem dX6_all_80 : decode cX6_all 80 = .ok (.ireturn, 1) := by decide +kernel
theorem dX6_all_81 : decode cX6_all 81 = .ok (.aload_n 2, 1) := by decide +kernel
theorem dX6_all_82 : decode cX6_all 82 = .ok (.bipush 99, 2) := by decide +kernel
theorem dX6_all_84 : decode cX6_all 84 = .ok (.invokevirtual 202, 3) := by decide +kernel
theorem dX6_all_87 : decode cX6_all 87 = .ok (.ireturn, 1) := by decide +kernel
theorem dX6_all_88 : decode cX6_all 88 = .ok (.aload_n 2, 1) := by decide +kernel
theorem dX6_all_89 : decode cX6_all 89 = .ok (.invokevirtual 205, 3) := by decide +kernel
theorem dX6_all_92 : decode cX6_all 92 = .ok (.ireturn, 1) := by decide +kernel
theorem dX6_ways_0 : decode cX6_ways 0 = .ok (.iload_n 1, 1) := by decide +kernel
theorem dX6_ways_1 : decode cX6_ways 1 = .ok (.iconst 0, 1) := by decide +kernel
theorem dX6_ways_2 : decode cX6_ways 2 = .ok (.iconst 1, 1) := by decide +kernel
theorem dX6_ways_3 : decode cX6_ways 3 = .ok (.invokestatic 53, 3) := by decide +kernel
theorem dX6_ways_6 : decode cX6_ways 6 = .ok (.ifCond .ne 5, 3) := by decide +kernel
theorem dX6_ways_9 : decode cX6_ways 9 = .ok (.iconst (-1), 1) := by decide +kernel
theorem dX6_ways_10 : decode cX6_ways 10 = .ok (.ireturn, 1) := by decide +kernel
theorem dX6_ways_11 : decode cX6_ways 11 = .ok (.aload_n 0, 1) := by decide +kernel
theorem dX6_ways_12 : decode cX6_ways 12 = .ok (.getfield 10, 3) := by decide +kernel
theorem dX6_ways_15 : decode cX6_ways 15 = .ok (.getfield 57, 3) := by decide +kernel
theorem dX6_ways_18 : decode cX6_ways 18 = .ok (.ifCond .ne 6, 3) := by decide +kernel
theorem dX6_ways_21 : decode cX6_ways 21 = .ok (.bipush (-2), 2) := by decide +kernel
theorem dX6_ways_23 : decode cX6_ways 23 = .ok (.ireturn, 1) := by decide +kernel
theorem dX6_ways_24 : decode cX6_ways 24 = .ok (.ldc 208, 2) := by decide +kernel
theorem dX6_ways_26 : decode cX6_ways 26 = .ok (.istore_n 2, 1) := by decide +kernel
theorem dX6_ways_27 : decode cX6_ways 27 = .ok (.iconst 0, 1) := by decide +kernel
theorem dX6_ways_28 : decode cX6_ways 28 = .ok (.istore_n 3, 1) := by decide +kernel
theorem dX6_ways_29 : decode cX6_ways 29 = .ok (.iconst 0, 1) := by decide +kernel
theorem dX6_ways_30 : decode cX6_ways 30 = .ok (.istore 4, 2) := by decide +kernel
theorem dX6_ways_32 : decode cX6_ways 32 = .ok (.iload 4, 2) := by decide +kernel
theorem dX6_ways_34 : decode cX6_ways 34 = .ok (.getstatic 81, 3) := by decide +kernel
theorem dX6_ways_37 : decode cX6_ways 37 = .ok (.aload_n 0, 1) := by decide +kernel
theorem dX6_ways_38 : decode cX6_ways 38 = .ok (.getfield 10, 3) := by decide +kernel
theorem dX6_ways_41 : decode cX6_ways 41 = .ok (.getfield 57, 3) := by decide +kernel
theorem dX6_ways_44 : decode cX6_ways 44 = .ok (.iaload, 1) := by decide +kernel
theorem dX6_ways_45 : decode cX6_ways 45 = .ok (.if_icmp .ge 53, 3) := by decide +kernel
theorem dX6_ways_48 : decode cX6_ways 48 = .ok (.aload_n 0, 1) := by decide +kernel
theorem dX6_ways_49 : decode cX6_ways 49 = .ok (.getfield 39, 3) := by decide +kernel
theorem dX6_ways_52 : decode cX6_ways 52 = .ok (.aload_n 0, 1) := by decide +kernel
theorem dX6_ways_53 : decode cX6_ways 53 = .ok (.getfield 10, 3) := by decide +kernel
theorem dX6_ways_56 : decode cX6_ways 56 = .ok (.iload 4, 2) := by decide +kernel
theorem dX6_ways_58 : decode cX6_ways 58 = .ok (.invokevirtual 209, 3) := by decide +kernel
theorem dX6_ways_61 : decode cX6_ways 61 = .ok (.aload_n 0, 1) := by decide +kernel
theorem dX6_ways_62 : decode cX6_ways 62 = .ok (.getfield 39, 3) := by decide +kernel
theorem dX6_ways_65 : decode cX6_ways 65 = .ok (.iconst 0, 1) := by decide +kernel
theorem dX6_ways_66 : decode cX6_ways 66 = .ok (.iload_n 2, 1) := by decide +kernel
theorem dX6_ways_67 : decode cX6_ways 67 = .ok (.invokevirtual 212, 3) := by decide +kernel
theorem dX6_ways_70 : decode cX6_ways 70 = .ok (.aload_n 0, 1) := by decide +kernel
theorem dX6_ways_71 : decode cX6_ways 71 = .ok (.getfield 39, 3) := by decide +kernel
theorem dX6_ways_74 : decode cX6_ways 74 = .ok (.getfield 187, 3) := by decide +kernel
theorem dX6_ways_77 : decode cX6_ways 77 = .ok (.iload_n 2, 1) := by decide +kernel
theorem dX6_ways_78 : decode cX6_ways 78 = .ok (.if_icmp .ge 14, 3) := by decide +kernel
theorem dX6_ways_81 : decode cX6_ways 81 = .ok (.aload_n 0, 1) := by decide +kernel
theorem dX6_ways_82 : decode cX6_ways 82 = .ok (.getfield 39, 3) := by decide +kernel
theorem dX6_ways_85 : decode cX6_ways 85 = .ok (.getfield 187, 3) := by decide +kernel
theorem dX6_ways_88 : decode cX6_ways 88 = .ok (.istore_n 2, 1) := by decide +kernel
theorem dX6_ways_89 : decode cX6_ways 89 = .ok (.iload 4, 2) := by decide +kernel
theorem dX6_ways_91 : decode cX6_ways 91 = .ok (.istore_n 3, 1) := by decide +kernel
theorem dX6_ways_92 : decode cX6_ways 92 = .ok (.iinc 4 1, 3) := by decide +kernel
theorem dX6_ways_95 : decode cX6_ways 95 = .ok (.goto (-63), 3) := by decide +kernel
theorem dX6_ways_98 : decode cX6_ways 98 = .ok (.iload_n 1, 1) := by decide +kernel
theorem dX6_ways_99 : decode cX6_ways 99 = .ok (.ifCond .ne 7, 3) := by decide +kernel
theorem dX6_ways_102 : decode cX6_ways 102 = .ok (.iload_n 3, 1) := by decide +kernel
theorem dX6_ways_103 : decode cX6_ways 103 = .ok (.goto 4, 3) := by decide +kernel
theorem dX6_ways_106 : decode cX6_ways 106 = .ok (.iload_n 2, 1) := by decide +kernel
theorem dX6_ways_107 : decode cX6_ways 107 = .ok (.ireturn, 1) := by decide +kernel
theorem dX6_best_0 : decode cX6_best 0 = .ok (.iload_n 1, 1) := by decide +kernel
theorem dX6_best_1 : decode cX6_best 1 = .ok (.iconst 1, 1) := by decide +kernel
theorem dX6_best_2 : decode cX6_best 2 = .ok (.bipush 99, 2) := by decide +kernel
theorem dX6_best_4 : decode cX6_best 4 = .ok (.invokestatic 53, 3) := by decide +kernel
theorem dX6_best_7 : decode cX6_best 7 = .ok (.ifCond .eq 12, 3) := by decide +kernel
theorem dX6_best_10 : decode cX6_best 10 = .ok (.iload_n 2, 1) := by decide +kernel
theorem dX6_best_11 : decode cX6_best 11 = .ok (.iconst 0, 1) := by decide +kernel
theorem dX6_best_12 : decode cX6_best 12 = .ok (.iconst 2, 1) := by decide +kernel
theorem dX6_best_13 : decode cX6_best 13 = .ok (.invokestatic 53, 3) := by decide +kernel
theorem dX6_best_16 : decode cX6_best 16 = .ok (.ifCond .ne 5, 3) := by decide +kernel
theorem dX6_best_19 : decode cX6_best 19 = .ok (.iconst (-1), 1) := by decide +kernel
theorem dX6_best_20 : decode cX6_best 20 = .ok (.ireturn, 1) := by decide +kernel
theorem dX6_best_21 : decode cX6_best 21 = .ok (.aload_n 0, 1) := by decide +kernel
theorem dX6_best_22 : decode cX6_best 22 = .ok (.getfield 10, 3) := by decide +kernel
theorem dX6_best_25 : decode cX6_best 25 = .ok (.getfield 57, 3) := by decide +kernel
theorem dX6_best_28 : decode cX6_best 28 = .ok (.ifCond .ne 6, 3) := by decide +kernel
theorem dX6_best_31 : decode cX6_best 31 = .ok (.bipush (-2), 2) := by decide +kernel
theorem dX6_best_33 : decode cX6_best 33 = .ok (.ireturn, 1) := by decide +kernel
theorem dX6_best_34 : decode cX6_best 34 = .ok (.aload_n 0, 1) := by decide +kernel
theorem dX6_best_35 : decode cX6_best 35 = .ok (.getfield 215, 3) := by decide +kernel
theorem dX6_best_38 : decode cX6_best 38 = .ok (.iload_n 1, 1) := by decide +kernel
theorem dX6_best_39 : decode cX6_best 39 = .ok (.if_icmp .eq 8, 3) := by decide +kernel
theorem dX6_best_42 : decode cX6_best 42 = .ok (.aload_n 0, 1) := by decide +kernel
theorem dX6_best_43 : decode cX6_best 43 = .ok (.iload_n 1, 1) := by decide +kernel
theorem dX6_best_44 : decode cX6_best 44 = .ok (.invokevirtual 218, 3) := by decide +kernel
theorem dX6_best_47 : decode cX6_best 47 = .ok (.iload_n 2, 1) := by decide +kernel
theorem dX6_best_48 : decode cX6_best 48 = .ok (.lookupswitch 38 #[(0, 28), (1, 33)], 28) := by decide +kernel
theorem dX6_best_76 : decode cX6_best 76 = .ok (.aload_n 0, 1) := by decide +kernel
theorem dX6_best_77 : decode cX6_best 77 = .ok (.getfield 221, 3) := by decide +kernel
theorem dX6_best_80 : decode cX6_best 80 = .ok (.ireturn, 1) := by decide +kernel
theorem dX6_best_81 : decode cX6_best 81 = .ok (.aload_n 0, 1) := by decide +kernel
theorem dX6_best_82 : decode cX6_best 82 = .ok (.getfield 224, 3) := by decide +kernel
theorem dX6_best_85 : decode cX6_best 85 = .ok (.ireturn, 1) := by decide +kernel
theorem dX6_best_86 : decode cX6_best 86 = .ok (.aload_n 0, 1) := by decide +kernel
theorem dX6_best_87 : decode cX6_best 87 = .ok (.getfield 227, 3) := by decide +kernel
theorem dX6_best_90 : decode cX6_best 90 = .ok (.ireturn, 1) := by decide +kernel
theorem dX6_thrift_0 : decode cX6_thrift 0 = .ok (.iload_n 1, 1) := by decide +kernel
theorem dX6_thrift_1 : decode cX6_thrift 1 = .ok (.iconst 0, 1) := by decide +kernel
theorem dX6_thrift_2 : decode cX6_thrift 2 = .ok (.bipush 99, 2) := by decide +kernel
theorem dX6_thrift_4 : decode cX6_thrift 4 = .ok (.invokestatic 53, 3) := by decide +kernel
theorem dX6_thrift_7 : decode cX6_thrift 7 = .ok (.ifCond .eq 12, 3) := by decide +kernel
theorem dX6_thrift_10 : decode cX6_thrift 10 = .ok (.iload_n 2, 1) := by decide +kernel
theorem dX6_thrift_11 : decode cX6_thrift 11 = .ok (.iconst 0, 1) := by decide +kernel
theorem dX6_thrift_12 : decode cX6_thrift 12 = .ok (.iconst 1, 1) := by decide +kernel
theorem dX6_thrift_13 : decode cX6_thrift 13 = .ok (.invokestatic 53, 3) := by decide +kernel
theorem dX6_thrift_16 : decode cX6_thrift 16 = .ok (.ifCond .ne 5, 3) := by decide +kernel
theorem dX6_thrift_19 : decode cX6_thrift 19 = .ok (.iconst (-1), 1) := by decide +kernel
theorem dX6_thrift_20 : decode cX6_thrift 20 = .ok (.ireturn, 1) := by decide +kernel
theorem dX6_thrift_21 : decode cX6_thrift 21 = .ok (.aload_n 0, 1) := by decide +kernel
theorem dX6_thrift_22 : decode cX6_thrift 22 = .ok (.getfield 10, 3) := by decide +kernel
theorem dX6_thrift_25 : decode cX6_thrift 25 = .ok (.getfield 57, 3) := by decide +kernel
theorem dX6_thrift_28 : decode cX6_thrift 28 = .ok (.ifCond .ne 6, 3) := by decide +kernel
theorem dX6_thrift_31 : decode cX6_thrift 31 = .ok (.bipush (-2), 2) := by decide +kernel
theorem dX6_thrift_33 : decode cX6_thrift 33 = .ok (.ireturn, 1) := by decide +kernel
theorem dX6_thrift_34 : decode cX6_thrift 34 = .ok (.ldc 208, 2) := by decide +kernel
theorem dX6_thrift_36 : decode cX6_thrift 36 = .ok (.istore_n 3, 1) := by decide +kernel
theorem dX6_thrift_37 : decode cX6_thrift 37 = .ok (.bipush (-4), 2) := by decide +kernel
theorem dX6_thrift_39 : decode cX6_thrift 39 = .ok (.istore 4, 2) := by decide +kernel
theorem dX6_thrift_41 : decode cX6_thrift 41 = .ok (.iconst 0, 1) := by decide +kernel
theorem dX6_thrift_42 : decode cX6_thrift 42 = .ok (.istore 5, 2) := by decide +kernel
theorem dX6_thrift_44 : decode cX6_thrift 44 = .ok (.iload 5, 2) := by decide +kernel
theorem dX6_thrift_46 : decode cX6_thrift 46 = .ok (.iconst 1, 1) := by decide +kernel
theorem dX6_thrift_47 : decode cX6_thrift 47 = .ok (.aload_n 0, 1) := by decide +kernel
theorem dX6_thrift_48 : decode cX6_thrift 48 = .ok (.getfield 10, 3) := by decide +kernel
theorem dX6_thrift_51 : decode cX6_thrift 51 = .ok (.getfield 57, 3) := by decide +kernel
theorem dX6_thrift_54 : decode cX6_thrift 54 = .ok (.ishl, 1) := by decide +kernel
theorem dX6_thrift_55 : decode cX6_thrift 55 = .ok (.if_icmp .ge 74, 3) := by decide +kernel
theorem dX6_thrift_58 : decode cX6_thrift 58 = .ok (.aload_n 0, 1) := by decide +kernel
theorem dX6_thrift_59 : decode cX6_thrift 59 = .ok (.getfield 39, 3) := by decide +kernel
theorem dX6_thrift_62 : decode cX6_thrift 62 = .ok (.aload_n 0, 1) := by decide +kernel
theorem dX6_thrift_63 : decode cX6_thrift 63 = .ok (.getfield 10, 3) := by decide +kernel
theorem dX6_thrift_66 : decode cX6_thrift 66 = .ok (.iconst (-1), 1) := by decide +kernel
theorem dX6_thrift_67 : decode cX6_thrift 67 = .ok (.invokevirtual 163, 3) := by decide +kernel
theorem dX6_thrift_70 : decode cX6_thrift 70 = .ok (.aload_n 0, 1) := by decide +kernel
theorem dX6_thrift_71 : decode cX6_thrift 71 = .ok (.getfield 39, 3) := by decide +kernel
theorem dX6_thrift_74 : decode cX6_thrift 74 = .ok (.iload 5, 2) := by decide +kernel
theorem dX6_thrift_76 : decode cX6_thrift 76 = .ok (.invokevirtual 230, 3) := by decide +kernel
theorem dX6_thrift_79 : decode cX6_thrift 79 = .ok (.aload_n 0, 1) := by decide +kernel
theorem dX6_thrift_80 : decode cX6_thrift 80 = .ok (.getfield 39, 3) := by decide +kernel
theorem dX6_thrift_83 : decode cX6_thrift 83 = .ok (.iconst 0, 1) := by decide +kernel
theorem dX6_thrift_84 : decode cX6_thrift 84 = .ok (.bipush 99, 2) := by decide +kernel
theorem dX6_thrift_86 : decode cX6_thrift 86 = .ok (.invokevirtual 167, 3) := by decide +kernel
theorem dX6_thrift_89 : decode cX6_thrift 89 = .ok (.aload_n 0, 1) := by decide +kernel
theorem dX6_thrift_90 : decode cX6_thrift 90 = .ok (.getfield 39, 3) := by decide +kernel
theorem dX6_thrift_93 : decode cX6_thrift 93 = .ok (.invokevirtual 205, 3) := by decide +kernel
theorem dX6_thrift_96 : decode cX6_thrift 96 = .ok (.iload_n 1, 1) := by decide +kernel
theorem dX6_thrift_97 : decode cX6_thrift 97 = .ok (.if_icmp .gt 26, 3) := by decide +kernel
theorem dX6_thrift_100 : decode cX6_thrift 100 = .ok (.aload_n 0, 1) := by decide +kernel
theorem dX6_thrift_101 : decode cX6_thrift 101 = .ok (.getfield 39, 3) := by decide +kernel
theorem dX6_thrift_104 : decode cX6_thrift 104 = .ok (.getfield 190, 3) := by decide +kernel
theorem dX6_thrift_107 : decode cX6_thrift 107 = .ok (.iload_n 3, 1) := by decide +kernel
theorem dX6_thrift_108 : decode cX6_thrift 108 = .ok (.if_icmp .ge 15, 3) := by decide +kernel
theorem dX6_thrift_111 : decode cX6_thrift 111 = .ok (.aload_n 0, 1) := by decide +kernel
theorem dX6_thrift_112 : decode cX6_thrift 112 = .ok (.getfield 39, 3) := by decide +kernel
theorem dX6_thrift_115 : decode cX6_thrift 115 = .ok (.getfield 190, 3) := by decide +kernel
theorem dX6_thrift_118 : decode cX6_thrift 118 = .ok (.istore_n 3, 1) := by decide +kernel
theorem dX6_thrift_119 : decode cX6_thrift 119 = .ok (.iload 5, 2) := by decide +kernel
theorem dX6_thrift_121 : decode cX6_thrift 121 = .ok (.istore 4, 2) := by decide +kernel
theorem dX6_thrift_123 : decode cX6_thrift 123 = .ok (.iinc 5 1, 3) := by decide +kernel
theorem dX6_thrift_126 : decode cX6_thrift 126 = .ok (.goto (-82), 3) := by decide +kernel
theorem dX6_thrift_129 : decode cX6_thrift 129 = .ok (.iload_n 2, 1) := by decide +kernel
theorem dX6_thrift_130 : decode cX6_thrift 130 = .ok (.ifCond .eq 10, 3) := by decide +kernel
theorem dX6_thrift_133 : decode cX6_thrift 133 = .ok (.iload 4, 2) := by decide +kernel
theorem dX6_thrift_135 : decode cX6_thrift 135 = .ok (.bipush (-4), 2) := by decide +kernel
theorem dX6_thrift_137 : decode cX6_thrift 137 = .ok (.if_icmp .ne 8, 3) := by decide +kernel
theorem dX6_thrift_140 : decode cX6_thrift 140 = .ok (.iload 4, 2) := by decide +kernel
theorem dX6_thrift_142 : decode cX6_thrift 142 = .ok (.goto 4, 3) := by decide +kernel
theorem dX6_thrift_145 : decode cX6_thrift 145 = .ok (.iload_n 3, 1) := by decide +kernel
theorem dX6_thrift_146 : decode cX6_thrift 146 = .ok (.ireturn, 1) := by decide +kernel
theorem dX6_costs_0 : decode cX6_costs 0 = .ok (.aload_n 0, 1) := by decide +kernel
theorem dX6_costs_1 : decode cX6_costs 1 = .ok (.iload_n 1, 1) := by decide +kernel
theorem dX6_costs_2 : decode cX6_costs 2 = .ok (.invokevirtual 100, 3) := by decide +kernel
theorem dX6_costs_5 : decode cX6_costs 5 = .ok (.ifCond .ne 6, 3) := by decide +kernel
theorem dX6_costs_8 : decode cX6_costs 8 = .ok (.ldc 233, 2) := by decide +kernel
theorem dX6_costs_10 : decode cX6_costs 10 = .ok (.ireturn, 1) := by decide +kernel
theorem dX6_costs_11 : decode cX6_costs 11 = .ok (.aload_n 0, 1) := by decide +kernel
theorem dX6_costs_12 : decode cX6_costs 12 = .ok (.invokevirtual 135, 3) := by decide +kernel
theorem dX6_costs_15 : decode cX6_costs 15 = .ok (.astore_n 2, 1) := by decide +kernel
theorem dX6_costs_16 : decode cX6_costs 16 = .ok (.aload_n 2, 1) := by decide +kernel
theorem dX6_costs_17 : decode cX6_costs 17 = .ok (.getfield 187, 3) := by decide +kernel
theorem dX6_costs_20 : decode cX6_costs 20 = .ok (.aload_n 2, 1) := by decide +kernel
theorem dX6_costs_21 : decode cX6_costs 21 = .ok (.getfield 139, 3) := by decide +kernel
theorem dX6_costs_24 : decode cX6_costs 24 = .ok (.iload_n 1, 1) := by decide +kernel
theorem dX6_costs_25 : decode cX6_costs 25 = .ok (.aaload, 1) := by decide +kernel
theorem dX6_costs_26 : decode cX6_costs 26 = .ok (.invokevirtual 156, 3) := by decide +kernel
theorem dX6_costs_29 : decode cX6_costs 29 = .ok (.isub, 1) := by decide +kernel
theorem dX6_costs_30 : decode cX6_costs 30 = .ok (.istore_n 3, 1) := by decide +kernel
theorem dX6_costs_31 : decode cX6_costs 31 = .ok (.aload_n 0, 1) := by decide +kernel
theorem dX6_costs_32 : decode cX6_costs 32 = .ok (.getfield 39, 3) := by decide +kernel
theorem dX6_costs_35 : decode cX6_costs 35 = .ok (.aload_n 0, 1) := by decide +kernel
theorem dX6_costs_36 : decode cX6_costs 36 = .ok (.getfield 10, 3) := by decide +kernel
theorem dX6_costs_39 : decode cX6_costs 39 = .ok (.iload_n 1, 1) := by decide +kernel
theorem dX6_costs_40 : decode cX6_costs 40 = .ok (.invokevirtual 163, 3) := by decide +kernel
theorem dX6_costs_43 : decode cX6_costs 43 = .ok (.aload_n 0, 1) := by decide +kernel
theorem dX6_costs_44 : decode cX6_costs 44 = .ok (.getfield 39, 3) := by decide +kernel
theorem dX6_costs_47 : decode cX6_costs 47 = .ok (.iconst 0, 1) := by decide +kernel
theorem dX6_costs_48 : decode cX6_costs 48 = .ok (.ldc 208, 2) := by decide +kernel
theorem dX6_costs_50 : decode cX6_costs 50 = .ok (.invokevirtual 212, 3) := by decide +kernel
theorem dX6_costs_53 : decode cX6_costs 53 = .ok (.iload_n 3, 1) := by decide +kernel
theorem dX6_costs_54 : decode cX6_costs 54 = .ok (.aload_n 0, 1) := by decide +kernel
theorem dX6_costs_55 : decode cX6_costs 55 = .ok (.getfield 39, 3) := by decide +kernel
theorem dX6_costs_58 : decode cX6_costs 58 = .ok (.getfield 187, 3) := by decide +kernel
theorem dX6_costs_61 : decode cX6_costs 61 = .ok (.isub, 1) := by decide +kernel
theorem dX6_costs_62 : decode cX6_costs 62 = .ok (.ireturn, 1) := by decide +kernel
theorem dX6_rules_0 : decode cX6_rules 0 = .ok (.aload_n 0, 1) := by decide +kernel
theorem dX6_rules_1 : decode cX6_rules 1 = .ok (.iconst 0, 1) := by decide +kernel
theorem dX6_rules_2 : decode cX6_rules 2 = .ok (.invokevirtual 234, 3) := by decide +kernel
theorem dX6_rules_5 : decode cX6_rules 5 = .ok (.aload_n 0, 1) := by decide +kernel
theorem dX6_rules_6 : decode cX6_rules 6 = .ok (.iconst 1, 1) := by decide +kernel
theorem dX6_rules_7 : decode cX6_rules 7 = .ok (.invokevirtual 234, 3) := by decide +kernel
theorem dX6_rules_10 : decode cX6_rules 10 = .ok (.isub, 1) := by decide +kernel
theorem dX6_rules_11 : decode cX6_rules 11 = .ok (.ireturn, 1) := by decide +kernel
theorem dX6_stood_0 : decode cX6_stood 0 = .ok (.iload 4, 2) := by decide +kernel
theorem dX6_stood_2 : decode cX6_stood 2 = .ok (.iconst 1, 1) := by decide +kernel
theorem dX6_stood_3 : decode cX6_stood 3 = .ok (.bipush 10, 2) := by decide +kernel
theorem dX6_stood_5 : decode cX6_stood 5 = .ok (.invokestatic 53, 3) := by decide +kernel
theorem dX6_stood_8 : decode cX6_stood 8 = .ok (.ifCond .eq 15, 3) := by decide +kernel
theorem dX6_stood_11 : decode cX6_stood 11 = .ok (.aload_n 0, 1) := by decide +kernel
theorem dX6_stood_12 : decode cX6_stood 12 = .ok (.iload_n 1, 1) := by decide +kernel
theorem dX6_stood_13 : decode cX6_stood 13 = .ok (.iload_n 2, 1) := by decide +kernel
theorem dX6_stood_14 : decode cX6_stood 14 = .ok (.iload_n 3, 1) := by decide +kernel
theorem dX6_stood_15 : decode cX6_stood 15 = .ok (.iload 4, 2) := by decide +kernel
theorem dX6_stood_17 : decode cX6_stood 17 = .ok (.invokevirtual 237, 3) := by decide +kernel
theorem dX6_stood_20 : decode cX6_stood 20 = .ok (.goto 4, 3) := by decide +kernel
theorem dX6_stood_23 : decode cX6_stood 23 = .ok (.iconst (-1), 1) := by decide +kernel
theorem dX6_stood_24 : decode cX6_stood 24 = .ok (.istore 5, 2) := by decide +kernel
theorem dX6_stood_26 : decode cX6_stood 26 = .ok (.iload 5, 2) := by decide +kernel
theorem dX6_stood_28 : decode cX6_stood 28 = .ok (.ifCond .ge 6, 3) := by decide +kernel
theorem dX6_stood_31 : decode cX6_stood 31 = .ok (.iload 5, 2) := by decide +kernel
theorem dX6_stood_33 : decode cX6_stood 33 = .ok (.ireturn, 1) := by decide +kernel
theorem dX6_stood_34 : decode cX6_stood 34 = .ok (.iconst 0, 1) := by decide +kernel
theorem dX6_stood_35 : decode cX6_stood 35 = .ok (.istore 6, 2) := by decide +kernel
theorem dX6_stood_37 : decode cX6_stood 37 = .ok (.iconst 0, 1) := by decide +kernel
theorem dX6_stood_38 : decode cX6_stood 38 = .ok (.istore 7, 2) := by decide +kernel
theorem dX6_stood_40 : decode cX6_stood 40 = .ok (.iload 7, 2) := by decide +kernel
theorem dX6_stood_42 : decode cX6_stood 42 = .ok (.aload_n 0, 1) := by decide +kernel
theorem dX6_stood_43 : decode cX6_stood 43 = .ok (.getfield 10, 3) := by decide +kernel
theorem dX6_stood_46 : decode cX6_stood 46 = .ok (.getfield 57, 3) := by decide +kernel
theorem dX6_stood_49 : decode cX6_stood 49 = .ok (.if_icmp .ge 68, 3) := by decide +kernel
theorem dX6_stood_52 : decode cX6_stood 52 = .ok (.aload_n 0, 1) := by decide +kernel
theorem dX6_stood_53 : decode cX6_stood 53 = .ok (.getfield 39, 3) := by decide +kernel
theorem dX6_stood_56 : decode cX6_stood 56 = .ok (.aload_n 0, 1) := by decide +kernel
theorem dX6_stood_57 : decode cX6_stood 57 = .ok (.getfield 10, 3) := by decide +kernel
theorem dX6_stood_60 : decode cX6_stood 60 = .ok (.iconst (-1), 1) := by decide +kernel
theorem dX6_stood_61 : decode cX6_stood 61 = .ok (.invokevirtual 163, 3) := by decide +kernel
theorem dX6_stood_64 : decode cX6_stood 64 = .ok (.aload_n 0, 1) := by decide +kernel
theorem dX6_stood_65 : decode cX6_stood 65 = .ok (.getfield 39, 3) := by decide +kernel
theorem dX6_stood_68 : decode cX6_stood 68 = .ok (.iload 7, 2) := by decide +kernel
theorem dX6_stood_70 : decode cX6_stood 70 = .ok (.invokevirtual 241, 3) := by decide +kernel
theorem dX6_stood_73 : decode cX6_stood 73 = .ok (.aload_n 0, 1) := by decide +kernel
theorem dX6_stood_74 : decode cX6_stood 74 = .ok (.getfield 39, 3) := by decide +kernel
theorem dX6_stood_77 : decode cX6_stood 77 = .ok (.iconst 0, 1) := by decide +kernel
theorem dX6_stood_78 : decode cX6_stood 78 = .ok (.bipush 99, 2) := by decide +kernel
theorem dX6_stood_80 : decode cX6_stood 80 = .ok (.invokevirtual 167, 3) := by decide +kernel
theorem dX6_stood_83 : decode cX6_stood 83 = .ok (.aload_n 0, 1) := by decide +kernel
theorem dX6_stood_84 : decode cX6_stood 84 = .ok (.getfield 39, 3) := by decide +kernel
theorem dX6_stood_87 : decode cX6_stood 87 = .ok (.aload_n 0, 1) := by decide +kernel
theorem dX6_stood_88 : decode cX6_stood 88 = .ok (.getfield 28, 3) := by decide +kernel
theorem dX6_stood_91 : decode cX6_stood 91 = .ok (.iload_n 1, 1) := by decide +kernel
theorem dX6_stood_92 : decode cX6_stood 92 = .ok (.aaload, 1) := by decide +kernel
theorem dX6_stood_93 : decode cX6_stood 93 = .ok (.iload_n 3, 1) := by decide +kernel
theorem dX6_stood_94 : decode cX6_stood 94 = .ok (.iload 4, 2) := by decide +kernel
theorem dX6_stood_96 : decode cX6_stood 96 = .ok (.invokestatic 244, 3) := by decide +kernel
theorem dX6_stood_99 : decode cX6_stood 99 = .ok (.ifCond .eq 12, 3) := by decide +kernel
theorem dX6_stood_102 : decode cX6_stood 102 = .ok (.iload 6, 2) := by decide +kernel
theorem dX6_stood_104 : decode cX6_stood 104 = .ok (.iconst 1, 1) := by decide +kernel
theorem dX6_stood_105 : decode cX6_stood 105 = .ok (.iload 7, 2) := by decide +kernel
theorem dX6_stood_107 : decode cX6_stood 107 = .ok (.ishl, 1) := by decide +kernel
theorem dX6_stood_108 : decode cX6_stood 108 = .ok (.ior, 1) := by decide +kernel
theorem dX6_stood_109 : decode cX6_stood 109 = .ok (.istore 6, 2) := by decide +kernel
theorem dX6_stood_111 : decode cX6_stood 111 = .ok (.iinc 7 1, 3) := by decide +kernel
theorem dX6_stood_114 : decode cX6_stood 114 = .ok (.goto (-74), 3) := by decide +kernel
theorem dX6_stood_117 : decode cX6_stood 117 = .ok (.aload_n 0, 1) := by decide +kernel
theorem dX6_stood_118 : decode cX6_stood 118 = .ok (.invokevirtual 135, 3) := by decide +kernel
theorem dX6_stood_121 : decode cX6_stood 121 = .ok (.aload_n 0, 1) := by decide +kernel
theorem dX6_stood_122 : decode cX6_stood 122 = .ok (.getfield 28, 3) := by decide +kernel
theorem dX6_stood_125 : decode cX6_stood 125 = .ok (.iload_n 1, 1) := by decide +kernel
theorem dX6_stood_126 : decode cX6_stood 126 = .ok (.aaload, 1) := by decide +kernel
theorem dX6_stood_127 : decode cX6_stood 127 = .ok (.iload_n 3, 1) := by decide +kernel
theorem dX6_stood_128 : decode cX6_stood 128 = .ok (.iload 4, 2) := by decide +kernel
theorem dX6_stood_130 : decode cX6_stood 130 = .ok (.invokestatic 244, 3) := by decide +kernel
theorem dX6_stood_133 : decode cX6_stood 133 = .ok (.ifCond .eq 11, 3) := by decide +kernel
theorem dX6_stood_136 : decode cX6_stood 136 = .ok (.iload 6, 2) := by decide +kernel
theorem dX6_stood_138 : decode cX6_stood 138 = .ok (.bipush 8, 2) := by decide +kernel
theorem dX6_stood_140 : decode cX6_stood 140 = .ok (.ior, 1) := by decide +kernel
theorem dX6_stood_141 : decode cX6_stood 141 = .ok (.goto 5, 3) := by decide +kernel
theorem dX6_stood_144 : decode cX6_stood 144 = .ok (.iload 6, 2) := by decide +kernel
theorem dX6_stood_146 : decode cX6_stood 146 = .ok (.ireturn, 1) := by decide +kernel
theorem dX6_image_0 : decode cX6_image 0 = .ok (.aload_n 0, 1) := by decide +kernel
theorem dX6_image_1 : decode cX6_image 1 = .ok (.getfield 16, 3) := by decide +kernel
theorem dX6_image_4 : decode cX6_image 4 = .ok (.aload_n 0, 1) := by decide +kernel
theorem dX6_image_5 : decode cX6_image 5 = .ok (.getfield 10, 3) := by decide +kernel
theorem dX6_image_8 : decode cX6_image 8 = .ok (.invokevirtual 248, 3) := by decide +kernel
theorem dX6_image_11 : decode cX6_image 11 = .ok (.aload_n 0, 1) := by decide +kernel
theorem dX6_image_12 : decode cX6_image 12 = .ok (.iconst 1, 1) := by decide +kernel
theorem dX6_image_13 : decode cX6_image 13 = .ok (.putfield 252, 3) := by decide +kernel
theorem dX6_image_16 : decode cX6_image 16 = .ok (.iconst 1, 1) := by decide +kernel
theorem dX6_image_17 : decode cX6_image 17 = .ok (.ireturn, 1) := by decide +kernel
theorem dX6_restore_0 : decode cX6_restore 0 = .ok (.aload_n 0, 1) := by decide +kernel
theorem dX6_restore_1 : decode cX6_restore 1 = .ok (.getfield 252, 3) := by decide +kernel
theorem dX6_restore_4 : decode cX6_restore 4 = .ok (.ifCond .ne 6, 3) := by decide +kernel
theorem dX6_restore_7 : decode cX6_restore 7 = .ok (.bipush (-4), 2) := by decide +kernel
theorem dX6_restore_9 : decode cX6_restore 9 = .ok (.ireturn, 1) := by decide +kernel
theorem dX6_restore_10 : decode cX6_restore 10 = .ok (.aload_n 0, 1) := by decide +kernel
theorem dX6_restore_11 : decode cX6_restore 11 = .ok (.getfield 10, 3) := by decide +kernel
theorem dX6_restore_14 : decode cX6_restore 14 = .ok (.aload_n 0, 1) := by decide +kernel
theorem dX6_restore_15 : decode cX6_restore 15 = .ok (.getfield 16, 3) := by decide +kernel
theorem dX6_restore_18 : decode cX6_restore 18 = .ok (.invokevirtual 248, 3) := by decide +kernel
theorem dX6_restore_21 : decode cX6_restore 21 = .ok (.aload_n 0, 1) := by decide +kernel
theorem dX6_restore_22 : decode cX6_restore 22 = .ok (.invokevirtual 65, 3) := by decide +kernel
theorem dX6_restore_25 : decode cX6_restore 25 = .ok (.iconst 1, 1) := by decide +kernel
theorem dX6_restore_26 : decode cX6_restore 26 = .ok (.ireturn, 1) := by decide +kernel
theorem dX6_film_0 : decode cX6_film 0 = .ok (.iload 4, 2) := by decide +kernel
theorem dX6_film_2 : decode cX6_film 2 = .ok (.iconst 1, 1) := by decide +kernel
theorem dX6_film_3 : decode cX6_film 3 = .ok (.bipush 10, 2) := by decide +kernel
theorem dX6_film_5 : decode cX6_film 5 = .ok (.invokestatic 53, 3) := by decide +kernel
theorem dX6_film_8 : decode cX6_film 8 = .ok (.ifCond .eq 15, 3) := by decide +kernel
theorem dX6_film_11 : decode cX6_film 11 = .ok (.aload_n 0, 1) := by decide +kernel
theorem dX6_film_12 : decode cX6_film 12 = .ok (.iload_n 1, 1) := by decide +kernel
theorem dX6_film_13 : decode cX6_film 13 = .ok (.iload_n 2, 1) := by decide +kernel
theorem dX6_film_14 : decode cX6_film 14 = .ok (.iload_n 3, 1) := by decide +kernel
theorem dX6_film_15 : decode cX6_film 15 = .ok (.iload 4, 2) := by decide +kernel
theorem dX6_film_17 : decode cX6_film 17 = .ok (.invokevirtual 237, 3) := by decide +kernel
theorem dX6_film_20 : decode cX6_film 20 = .ok (.goto 4, 3) := by decide +kernel
theorem dX6_film_23 : decode cX6_film 23 = .ok (.iconst (-1), 1) := by decide +kernel
theorem dX6_film_24 : decode cX6_film 24 = .ok (.istore 5, 2) := by decide +kernel
theorem dX6_film_26 : decode cX6_film 26 = .ok (.iload 5, 2) := by decide +kernel
theorem dX6_film_28 : decode cX6_film 28 = .ok (.ifCond .ge 6, 3) := by decide +kernel
theorem dX6_film_31 : decode cX6_film 31 = .ok (.iload 5, 2) := by decide +kernel
theorem dX6_film_33 : decode cX6_film 33 = .ok (.ireturn, 1) := by decide +kernel
theorem dX6_film_34 : decode cX6_film 34 = .ok (.aload_n 0, 1) := by decide +kernel
theorem dX6_film_35 : decode cX6_film 35 = .ok (.invokevirtual 135, 3) := by decide +kernel
theorem dX6_film_38 : decode cX6_film 38 = .ok (.astore 6, 2) := by decide +kernel
theorem dX6_film_40 : decode cX6_film 40 = .ok (.iconst 0, 1) := by decide +kernel
theorem dX6_film_41 : decode cX6_film 41 = .ok (.istore 7, 2) := by decide +kernel
theorem dX6_film_43 : decode cX6_film 43 = .ok (.iload 7, 2) := by decide +kernel
theorem dX6_film_45 : decode cX6_film 45 = .ok (.iload 4, 2) := by decide +kernel
theorem dX6_film_47 : decode cX6_film 47 = .ok (.if_icmp .ge 35, 3) := by decide +kernel
theorem dX6_film_50 : decode cX6_film 50 = .ok (.aload_n 0, 1) := by decide +kernel
theorem dX6_film_51 : decode cX6_film 51 = .ok (.getfield 28, 3) := by decide +kernel
theorem dX6_film_54 : decode cX6_film 54 = .ok (.iload_n 1, 1) := by decide +kernel
theorem dX6_film_55 : decode cX6_film 55 = .ok (.aaload, 1) := by decide +kernel
theorem dX6_film_56 : decode cX6_film 56 = .ok (.iload_n 3, 1) := by decide +kernel
theorem dX6_film_57 : decode cX6_film 57 = .ok (.iload 7, 2) := by decide +kernel
theorem dX6_film_59 : decode cX6_film 59 = .ok (.iadd, 1) := by decide +kernel
theorem dX6_film_60 : decode cX6_film 60 = .ok (.aload 6, 2) := by decide +kernel
theorem dX6_film_62 : decode cX6_film 62 = .ok (.bipush 10, 2) := by decide +kernel
theorem dX6_film_64 : decode cX6_film 64 = .ok (.iload 7, 2) := by decide +kernel
theorem dX6_film_66 : decode cX6_film 66 = .ok (.imul, 1) := by decide +kernel
theorem dX6_film_67 : decode cX6_film 67 = .ok (.bipush 9, 2) := by decide +kernel
theorem dX6_film_69 : decode cX6_film 69 = .ok (.iadd, 1) := by decide +kernel
theorem dX6_film_70 : decode cX6_film 70 = .ok (.invokevirtual 202, 3) := by decide +kernel
theorem dX6_film_73 : decode cX6_film 73 = .ok (.invokevirtual 255, 3) := by decide +kernel
theorem dX6_film_76 : decode cX6_film 76 = .ok (.iinc 7 1, 3) := by decide +kernel
theorem dX6_film_79 : decode cX6_film 79 = .ok (.goto (-36), 3) := by decide +kernel
theorem dX6_film_82 : decode cX6_film 82 = .ok (.iload 4, 2) := by decide +kernel
theorem dX6_film_84 : decode cX6_film 84 = .ok (.ireturn, 1) := by decide +kernel
theorem dX6_sheet_0 : decode cX6_sheet 0 = .ok (.iload_n 1, 1) := by decide +kernel
theorem dX6_sheet_1 : decode cX6_sheet 1 = .ok (.invokestatic 258, 3) := by decide +kernel
theorem dX6_sheet_4 : decode cX6_sheet 4 = .ok (.ifCond .eq 18, 3) := by decide +kernel
theorem dX6_sheet_7 : decode cX6_sheet 7 = .ok (.iload_n 2, 1) := by decide +kernel
theorem dX6_sheet_8 : decode cX6_sheet 8 = .ok (.iconst 0, 1) := by decide +kernel
theorem dX6_sheet_9 : decode cX6_sheet 9 = .ok (.iconst 2, 1) := by decide +kernel
theorem dX6_sheet_10 : decode cX6_sheet 10 = .ok (.invokestatic 53, 3) := by decide +kernel
theorem dX6_sheet_13 : decode cX6_sheet 13 = .ok (.ifCond .eq 9, 3) := by decide +kernel
theorem dX6_sheet_16 : decode cX6_sheet 16 = .ok (.iload_n 3, 1) := by decide +kernel
theorem dX6_sheet_17 : decode cX6_sheet 17 = .ok (.bipush 16, 2) := by decide +kernel
theorem dX6_sheet_19 : decode cX6_sheet 19 = .ok (.if_icmp .le 5, 3) := by decide +kernel
theorem dX6_sheet_22 : decode cX6_sheet 22 = .ok (.iconst (-1), 1) := by decide +kernel
theorem dX6_sheet_23 : decode cX6_sheet 23 = .ok (.ireturn, 1) := by decide +kernel
theorem dX6_sheet_24 : decode cX6_sheet 24 = .ok (.iload_n 3, 1) := by decide +kernel
theorem dX6_sheet_25 : decode cX6_sheet 25 = .ok (.ifCond .ge 6, 3) := by decide +kernel
theorem dX6_sheet_28 : decode cX6_sheet 28 = .ok (.bipush (-14), 2) := by decide +kernel
theorem dX6_sheet_30 : decode cX6_sheet 30 = .ok (.ireturn, 1) := by decide +kernel
theorem dX6_sheet_31 : decode cX6_sheet 31 = .ok (.aload_n 0, 1) := by decide +kernel
theorem dX6_sheet_32 : decode cX6_sheet 32 = .ok (.getfield 28, 3) := by decide +kernel
theorem dX6_sheet_35 : decode cX6_sheet 35 = .ok (.iload_n 1, 1) := by decide +kernel
theorem dX6_sheet_36 : decode cX6_sheet 36 = .ok (.aaload, 1) := by decide +kernel
theorem dX6_sheet_37 : decode cX6_sheet 37 = .ok (.iload_n 2, 1) := by decide +kernel
theorem dX6_sheet_38 : decode cX6_sheet 38 = .ok (.iload_n 3, 1) := by decide +kernel
theorem dX6_sheet_39 : decode cX6_sheet 39 = .ok (.invokevirtual 261, 3) := by decide +kernel
theorem dX6_sheet_42 : decode cX6_sheet 42 = .ok (.iload_n 3, 1) := by decide +kernel
theorem dX6_sheet_43 : decode cX6_sheet 43 = .ok (.ireturn, 1) := by decide +kernel
theorem dX6_drop_0 : decode cX6_drop 0 = .ok (.iload_n 1, 1) := by decide +kernel
theorem dX6_drop_1 : decode cX6_drop 1 = .ok (.invokestatic 258, 3) := by decide +kernel
theorem dX6_drop_4 : decode cX6_drop 4 = .ok (.ifCond .ne 5, 3) := by decide +kernel
theorem dX6_drop_7 : decode cX6_drop 7 = .ok (.iconst (-1), 1) := by decide +kernel
theorem dX6_drop_8 : decode cX6_drop 8 = .ok (.ireturn, 1) := by decide +kernel
theorem dX6_drop_9 : decode cX6_drop 9 = .ok (.aload_n 0, 1) := by decide +kernel
theorem dX6_drop_10 : decode cX6_drop 10 = .ok (.getfield 28, 3) := by decide +kernel
theorem dX6_drop_13 : decode cX6_drop 13 = .ok (.iload_n 1, 1) := by decide +kernel
theorem dX6_drop_14 : decode cX6_drop 14 = .ok (.aaload, 1) := by decide +kernel
theorem dX6_drop_15 : decode cX6_drop 15 = .ok (.getfield 264, 3) := by decide +kernel
theorem dX6_drop_18 : decode cX6_drop 18 = .ok (.ifCond .ne 6, 3) := by decide +kernel
theorem dX6_drop_21 : decode cX6_drop 21 = .ok (.bipush (-11), 2) := by decide +kernel
theorem dX6_drop_23 : decode cX6_drop 23 = .ok (.ireturn, 1) := by decide +kernel
theorem dX6_drop_24 : decode cX6_drop 24 = .ok (.aload_n 0, 1) := by decide +kernel
theorem dX6_drop_25 : decode cX6_drop 25 = .ok (.getfield 28, 3) := by decide +kernel
theorem dX6_drop_28 : decode cX6_drop 28 = .ok (.iload_n 1, 1) := by decide +kernel
theorem dX6_drop_29 : decode cX6_drop 29 = .ok (.aaload, 1) := by decide +kernel
theorem dX6_drop_30 : decode cX6_drop 30 = .ok (.iconst 0, 1) := by decide +kernel
theorem dX6_drop_31 : decode cX6_drop 31 = .ok (.putfield 264, 3) := by decide +kernel
theorem dX6_drop_34 : decode cX6_drop 34 = .ok (.aload_n 0, 1) := by decide +kernel
theorem dX6_drop_35 : decode cX6_drop 35 = .ok (.getfield 28, 3) := by decide +kernel
theorem dX6_drop_38 : decode cX6_drop 38 = .ok (.iload_n 1, 1) := by decide +kernel
theorem dX6_drop_39 : decode cX6_drop 39 = .ok (.aaload, 1) := by decide +kernel
theorem dX6_drop_40 : decode cX6_drop 40 = .ok (.getfield 267, 3) := by decide +kernel
theorem dX6_drop_43 : decode cX6_drop 43 = .ok (.ireturn, 1) := by decide +kernel
theorem dX6_item_0 : decode cX6_item 0 = .ok (.aload_n 0, 1) := by decide +kernel
theorem dX6_item_1 : decode cX6_item 1 = .ok (.iload_n 1, 1) := by decide +kernel
theorem dX6_item_2 : decode cX6_item 2 = .ok (.iload_n 2, 1) := by decide +kernel
theorem dX6_item_3 : decode cX6_item 3 = .ok (.iload_n 3, 1) := by decide +kernel
theorem dX6_item_4 : decode cX6_item 4 = .ok (.iconst 1, 1) := by decide +kernel
theorem dX6_item_5 : decode cX6_item 5 = .ok (.invokevirtual 237, 3) := by decide +kernel
theorem dX6_item_8 : decode cX6_item 8 = .ok (.istore 5, 2) := by decide +kernel
theorem dX6_item_10 : decode cX6_item 10 = .ok (.iload 5, 2) := by decide +kernel
theorem dX6_item_12 : decode cX6_item 12 = .ok (.ifCond .ge 6, 3) := by decide +kernel
theorem dX6_item_15 : decode cX6_item 15 = .ok (.iload 5, 2) := by decide +kernel
theorem dX6_item_17 : decode cX6_item 17 = .ok (.ireturn, 1) := by decide +kernel
theorem dX6_item_18 : decode cX6_item 18 = .ok (.aload_n 0, 1) := by decide +kernel
theorem dX6_item_19 : decode cX6_item 19 = .ok (.getfield 28, 3) := by decide +kernel
theorem dX6_item_22 : decode cX6_item 22 = .ok (.iload_n 1, 1) := by decide +kernel
theorem dX6_item_23 : decode cX6_item 23 = .ok (.aaload, 1) := by decide +kernel
theorem dX6_item_24 : decode cX6_item 24 = .ok (.iload_n 3, 1) := by decide +kernel
theorem dX6_item_25 : decode cX6_item 25 = .ok (.iload 4, 2) := by decide +kernel
theorem dX6_item_27 : decode cX6_item 27 = .ok (.invokevirtual 255, 3) := by decide +kernel
theorem dX6_item_30 : decode cX6_item 30 = .ok (.iconst 1, 1) := by decide +kernel
theorem dX6_item_31 : decode cX6_item 31 = .ok (.ireturn, 1) := by decide +kernel
theorem dX6_copy_0 : decode cX6_copy 0 = .ok (.iload_n 1, 1) := by decide +kernel
theorem dX6_copy_1 : decode cX6_copy 1 = .ok (.invokestatic 258, 3) := by decide +kernel
theorem dX6_copy_4 : decode cX6_copy 4 = .ok (.ifCond .eq 10, 3) := by decide +kernel
theorem dX6_copy_7 : decode cX6_copy 7 = .ok (.iload_n 3, 1) := by decide +kernel
theorem dX6_copy_8 : decode cX6_copy 8 = .ok (.invokestatic 258, 3) := by decide +kernel
theorem dX6_copy_11 : decode cX6_copy 11 = .ok (.ifCond .ne 5, 3) := by decide +kernel
theorem dX6_copy_14 : decode cX6_copy 14 = .ok (.iconst (-1), 1) := by decide +kernel
theorem dX6_copy_15 : decode cX6_copy 15 = .ok (.ireturn, 1) := by decide +kernel
theorem dX6_copy_16 : decode cX6_copy 16 = .ok (.aload_n 0, 1) := by decide +kernel
theorem dX6_copy_17 : decode cX6_copy 17 = .ok (.getfield 28, 3) := by decide +kernel
theorem dX6_copy_20 : decode cX6_copy 20 = .ok (.iload_n 1, 1) := by decide +kernel
theorem dX6_copy_21 : decode cX6_copy 21 = .ok (.aaload, 1) := by decide +kernel
theorem dX6_copy_22 : decode cX6_copy 22 = .ok (.astore 6, 2) := by decide +kernel
theorem dX6_copy_24 : decode cX6_copy 24 = .ok (.aload_n 0, 1) := by decide +kernel
theorem dX6_copy_25 : decode cX6_copy 25 = .ok (.getfield 28, 3) := by decide +kernel
theorem dX6_copy_28 : decode cX6_copy 28 = .ok (.iload_n 3, 1) := by decide +kernel
theorem dX6_copy_29 : decode cX6_copy 29 = .ok (.aaload, 1) := by decide +kernel
theorem dX6_copy_30 : decode cX6_copy 30 = .ok (.astore 7, 2) := by decide +kernel
theorem dX6_copy_32 : decode cX6_copy 32 = .ok (.aload 6, 2) := by decide +kernel
theorem dX6_copy_34 : decode cX6_copy 34 = .ok (.getfield 264, 3) := by decide +kernel
theorem dX6_copy_37 : decode cX6_copy 37 = .ok (.ifCond .eq 11, 3) := by decide +kernel
theorem dX6_copy_40 : decode cX6_copy 40 = .ok (.aload 7, 2) := by decide +kernel
theorem dX6_copy_42 : decode cX6_copy 42 = .ok (.getfield 264, 3) := by decide +kernel
theorem dX6_copy_45 : decode cX6_copy 45 = .ok (.ifCond .ne 6, 3) := by decide +kernel
theorem dX6_copy_48 : decode cX6_copy 48 = .ok (.bipush (-11), 2) := by decide +kernel
theorem dX6_copy_50 : decode cX6_copy 50 = .ok (.ireturn, 1) := by decide +kernel
theorem dX6_copy_51 : decode cX6_copy 51 = .ok (.aload 6, 2) := by decide +kernel
theorem dX6_copy_53 : decode cX6_copy 53 = .ok (.getfield 270, 3) := by decide +kernel
theorem dX6_copy_56 : decode cX6_copy 56 = .ok (.aload 7, 2) := by decide +kernel
theorem dX6_copy_58 : decode cX6_copy 58 = .ok (.getfield 270, 3) := by decide +kernel
theorem dX6_copy_61 : decode cX6_copy 61 = .ok (.if_icmp .eq 6, 3) := by decide +kernel
theorem dX6_copy_64 : decode cX6_copy 64 = .ok (.bipush (-12), 2) := by decide +kernel
theorem dX6_copy_66 : decode cX6_copy 66 = .ok (.ireturn, 1) := by decide +kernel
theorem dX6_copy_67 : decode cX6_copy 67 = .ok (.aload 6, 2) := by decide +kernel
theorem dX6_copy_69 : decode cX6_copy 69 = .ok (.iload_n 2, 1) := by decide +kernel
theorem dX6_copy_70 : decode cX6_copy 70 = .ok (.iload 5, 2) := by decide +kernel
theorem dX6_copy_72 : decode cX6_copy 72 = .ok (.invokevirtual 273, 3) := by decide +kernel
theorem dX6_copy_75 : decode cX6_copy 75 = .ok (.ifCond .eq 15, 3) := by decide +kernel
theorem dX6_copy_78 : decode cX6_copy 78 = .ok (.aload 7, 2) := by decide +kernel
theorem dX6_copy_80 : decode cX6_copy 80 = .ok (.iload 4, 2) := by decide +kernel
theorem dX6_copy_82 : decode cX6_copy 82 = .ok (.iload 5, 2) := by decide +kernel
theorem dX6_copy_84 : decode cX6_copy 84 = .ok (.invokevirtual 273, 3) := by decide +kernel
theorem dX6_copy_87 : decode cX6_copy 87 = .ok (.ifCond .ne 6, 3) := by decide +kernel
theorem dX6_copy_90 : decode cX6_copy 90 = .ok (.bipush (-13), 2) := by decide +kernel
theorem dX6_copy_92 : decode cX6_copy 92 = .ok (.ireturn, 1) := by decide +kernel
theorem dX6_copy_93 : decode cX6_copy 93 = .ok (.aload 6, 2) := by decide +kernel
theorem dX6_copy_95 : decode cX6_copy 95 = .ok (.getfield 277, 3) := by decide +kernel
theorem dX6_copy_98 : decode cX6_copy 98 = .ok (.iload_n 2, 1) := by decide +kernel
theorem dX6_copy_99 : decode cX6_copy 99 = .ok (.aload 7, 2) := by decide +kernel
theorem dX6_copy_101 : decode cX6_copy 101 = .ok (.getfield 277, 3) := by decide +kernel
theorem dX6_copy_104 : decode cX6_copy 104 = .ok (.iload 4, 2) := by decide +kernel
theorem dX6_copy_106 : decode cX6_copy 106 = .ok (.iload 5, 2) := by decide +kernel
theorem dX6_copy_108 : decode cX6_copy 108 = .ok (.invokestatic 280, 3) := by decide +kernel
theorem dX6_copy_111 : decode cX6_copy 111 = .ok (.iload 5, 2) := by decide +kernel
theorem dX6_copy_113 : decode cX6_copy 113 = .ok (.ireturn, 1) := by decide +kernel
theorem dX6_isBetween_0 : decode cX6_isBetween 0 = .ok (.iload_n 1, 1) := by decide +kernel
theorem dX6_isBetween_1 : decode cX6_isBetween 1 = .ok (.iload_n 0, 1) := by decide +kernel
theorem dX6_isBetween_2 : decode cX6_isBetween 2 = .ok (.if_icmp .gt 12, 3) := by decide +kernel
theorem dX6_isBetween_5 : decode cX6_isBetween 5 = .ok (.iload_n 0, 1) := by decide +kernel
theorem dX6_isBetween_6 : decode cX6_isBetween 6 = .ok (.iload_n 2, 1) := by decide +kernel
theorem dX6_isBetween_7 : decode cX6_isBetween 7 = .ok (.if_icmp .gt 7, 3) := by decide +kernel
theorem dX6_isBetween_10 : decode cX6_isBetween 10 = .ok (.iconst 1, 1) := by decide +kernel
theorem dX6_isBetween_11 : decode cX6_isBetween 11 = .ok (.goto 4, 3) := by decide +kernel
theorem dX6_isBetween_14 : decode cX6_isBetween 14 = .ok (.iconst 0, 1) := by decide +kernel
theorem dX6_isBetween_15 : decode cX6_isBetween 15 = .ok (.ireturn, 1) := by decide +kernel
theorem dX6_isStair_0 : decode cX6_isStair 0 = .ok (.iload_n 1, 1) := by decide +kernel
theorem dX6_isStair_1 : decode cX6_isStair 1 = .ok (.iconst 0, 1) := by decide +kernel
theorem dX6_isStair_2 : decode cX6_isStair 2 = .ok (.aload_n 0, 1) := by decide +kernel
theorem dX6_isStair_3 : decode cX6_isStair 3 = .ok (.getfield 10, 3) := by decide +kernel
theorem dX6_isStair_6 : decode cX6_isStair 6 = .ok (.getfield 57, 3) := by decide +kernel
theorem dX6_isStair_9 : decode cX6_isStair 9 = .ok (.iconst 1, 1) := by decide +kernel
theorem dX6_isStair_10 : decode cX6_isStair 10 = .ok (.isub, 1) := by decide +kernel
theorem dX6_isStair_11 : decode cX6_isStair 11 = .ok (.invokestatic 53, 3) := by decide +kernel
theorem dX6_isStair_14 : decode cX6_isStair 14 = .ok (.ireturn, 1) := by decide +kernel
theorem dX6_isPerson_0 : decode cX6_isPerson 0 = .ok (.iload_n 1, 1) := by decide +kernel
theorem dX6_isPerson_1 : decode cX6_isPerson 1 = .ok (.iconst 0, 1) := by decide +kernel
theorem dX6_isPerson_2 : decode cX6_isPerson 2 = .ok (.aload_n 0, 1) := by decide +kernel
theorem dX6_isPerson_3 : decode cX6_isPerson 3 = .ok (.getfield 10, 3) := by decide +kernel
theorem dX6_isPerson_6 : decode cX6_isPerson 6 = .ok (.getfield 93, 3) := by decide +kernel
theorem dX6_isPerson_9 : decode cX6_isPerson 9 = .ok (.iconst 1, 1) := by decide +kernel
theorem dX6_isPerson_10 : decode cX6_isPerson 10 = .ok (.isub, 1) := by decide +kernel
theorem dX6_isPerson_11 : decode cX6_isPerson 11 = .ok (.invokestatic 53, 3) := by decide +kernel
theorem dX6_isPerson_14 : decode cX6_isPerson 14 = .ok (.ireturn, 1) := by decide +kernel
theorem dX6_isSheet_0 : decode cX6_isSheet 0 = .ok (.iload_n 0, 1) := by decide +kernel
theorem dX6_isSheet_1 : decode cX6_isSheet 1 = .ok (.iconst 0, 1) := by decide +kernel
theorem dX6_isSheet_2 : decode cX6_isSheet 2 = .ok (.iconst 3, 1) := by decide +kernel
theorem dX6_isSheet_3 : decode cX6_isSheet 3 = .ok (.invokestatic 53, 3) := by decide +kernel
theorem dX6_isSheet_6 : decode cX6_isSheet 6 = .ok (.ireturn, 1) := by decide +kernel
theorem dX6_orNone_0 : decode cX6_orNone 0 = .ok (.iload_n 0, 1) := by decide +kernel
theorem dX6_orNone_1 : decode cX6_orNone 1 = .ok (.ifCond .ge 8, 3) := by decide +kernel
theorem dX6_orNone_4 : decode cX6_orNone 4 = .ok (.bipush (-4), 2) := by decide +kernel
theorem dX6_orNone_6 : decode cX6_orNone 6 = .ok (.goto 4, 3) := by decide +kernel
theorem dX6_orNone_9 : decode cX6_orNone 9 = .ok (.iload_n 0, 1) := by decide +kernel
theorem dX6_orNone_10 : decode cX6_orNone 10 = .ok (.ireturn, 1) := by decide +kernel
theorem dX6_weightOf_0 : decode cX6_weightOf 0 = .ok (.iload_n 0, 1) := by decide +kernel
theorem dX6_weightOf_1 : decode cX6_weightOf 1 = .ok (.iconst 0, 1) := by decide +kernel
theorem dX6_weightOf_2 : decode cX6_weightOf 2 = .ok (.iconst 4, 1) := by decide +kernel
theorem dX6_weightOf_3 : decode cX6_weightOf 3 = .ok (.invokestatic 53, 3) := by decide +kernel
theorem dX6_weightOf_6 : decode cX6_weightOf 6 = .ok (.ifCond .eq 11, 3) := by decide +kernel
theorem dX6_weightOf_9 : decode cX6_weightOf 9 = .ok (.getstatic 286, 3) := by decide +kernel
theorem dX6_weightOf_12 : decode cX6_weightOf 12 = .ok (.iload_n 0, 1) := by decide +kernel
theorem dX6_weightOf_13 : decode cX6_weightOf 13 = .ok (.iaload, 1) := by decide +kernel
theorem dX6_weightOf_14 : decode cX6_weightOf 14 = .ok (.goto 4, 3) := by decide +kernel
theorem dX6_weightOf_17 : decode cX6_weightOf 17 = .ok (.iconst 0, 1) := by decide +kernel
theorem dX6_weightOf_18 : decode cX6_weightOf 18 = .ok (.ireturn, 1) := by decide +kernel
theorem dX6_byteOf_0 : decode cX6_byteOf 0 = .ok (.lload_n 0, 1) := by decide +kernel
theorem dX6_byteOf_1 : decode cX6_byteOf 1 = .ok (.bipush 8, 2) := by decide +kernel
theorem dX6_byteOf_3 : decode cX6_byteOf 3 = .ok (.iload_n 2, 1) := by decide +kernel
theorem dX6_byteOf_4 : decode cX6_byteOf 4 = .ok (.imul, 1) := by decide +kernel
theorem dX6_byteOf_5 : decode cX6_byteOf 5 = .ok (.lshr, 1) := by decide +kernel
theorem dX6_byteOf_6 : decode cX6_byteOf 6 = .ok (.ldc2_w 289, 3) := by decide +kernel
theorem dX6_byteOf_9 : decode cX6_byteOf 9 = .ok (.land, 1) := by decide +kernel
theorem dX6_byteOf_10 : decode cX6_byteOf 10 = .ok (.l2i, 1) := by decide +kernel
theorem dX6_byteOf_11 : decode cX6_byteOf 11 = .ok (.ireturn, 1) := by decide +kernel
theorem dX6_wayOf_0 : decode cX6_wayOf 0 = .ok (.iload_n 1, 1) := by decide +kernel
theorem dX6_wayOf_1 : decode cX6_wayOf 1 = .ok (.iconst 0, 1) := by decide +kernel
theorem dX6_wayOf_2 : decode cX6_wayOf 2 = .ok (.iconst 2, 1) := by decide +kernel
theorem dX6_wayOf_3 : decode cX6_wayOf 3 = .ok (.invokestatic 53, 3) := by decide +kernel
theorem dX6_wayOf_6 : decode cX6_wayOf 6 = .ok (.ifCond .eq 15, 3) := by decide +kernel
theorem dX6_wayOf_9 : decode cX6_wayOf 9 = .ok (.iload_n 0, 1) := by decide +kernel
theorem dX6_wayOf_10 : decode cX6_wayOf 10 = .ok (.getstatic 81, 3) := by decide +kernel
theorem dX6_wayOf_13 : decode cX6_wayOf 13 = .ok (.iload_n 1, 1) := by decide +kernel
theorem dX6_wayOf_14 : decode cX6_wayOf 14 = .ok (.iaload, 1) := by decide +kernel
theorem dX6_wayOf_15 : decode cX6_wayOf 15 = .ok (.idiv, 1) := by decide +kernel
theorem dX6_wayOf_16 : decode cX6_wayOf 16 = .ok (.iconst 3, 1) := by decide +kernel
theorem dX6_wayOf_17 : decode cX6_wayOf 17 = .ok (.irem, 1) := by decide +kernel
theorem dX6_wayOf_18 : decode cX6_wayOf 18 = .ok (.goto 4, 3) := by decide +kernel
theorem dX6_wayOf_21 : decode cX6_wayOf 21 = .ok (.iconst 0, 1) := by decide +kernel
theorem dX6_wayOf_22 : decode cX6_wayOf 22 = .ok (.ireturn, 1) := by decide +kernel
theorem dX6_tellAnew_0 : decode cX6_tellAnew 0 = .ok (.aload_n 0, 1) := by decide +kernel
theorem dX6_tellAnew_1 : decode cX6_tellAnew 1 = .ok (.iconst 0, 1) := by decide +kernel
theorem dX6_tellAnew_2 : decode cX6_tellAnew 2 = .ok (.putfield 291, 3) := by decide +kernel
theorem dX6_tellAnew_5 : decode cX6_tellAnew 5 = .ok (.aload_n 0, 1) := by decide +kernel
theorem dX6_tellAnew_6 : decode cX6_tellAnew 6 = .ok (.iconst 0, 1) := by decide +kernel
theorem dX6_tellAnew_7 : decode cX6_tellAnew 7 = .ok (.putfield 215, 3) := by decide +kernel
theorem dX6_tellAnew_10 : decode cX6_tellAnew 10 = .ok (.return_, 1) := by decide +kernel
theorem dX6_toldDay_0 : decode cX6_toldDay 0 = .ok (.aload_n 0, 1) := by decide +kernel
theorem dX6_toldDay_1 : decode cX6_toldDay 1 = .ok (.getfield 291, 3) := by decide +kernel
theorem dX6_toldDay_4 : decode cX6_toldDay 4 = .ok (.ifCond .ne 30, 3) := by decide +kernel
theorem dX6_toldDay_7 : decode cX6_toldDay 7 = .ok (.aload_n 0, 1) := by decide +kernel
theorem dX6_toldDay_8 : decode cX6_toldDay 8 = .ok (.getfield 35, 3) := by decide +kernel
theorem dX6_toldDay_11 : decode cX6_toldDay 11 = .ok (.aload_n 0, 1) := by decide +kernel
theorem dX6_toldDay_12 : decode cX6_toldDay 12 = .ok (.getfield 10, 3) := by decide +kernel
theorem dX6_toldDay_15 : decode cX6_toldDay 15 = .ok (.iconst (-1), 1) := by decide +kernel
theorem dX6_toldDay_16 : decode cX6_toldDay 16 = .ok (.invokevirtual 163, 3) := by decide +kernel
theorem dX6_toldDay_19 : decode cX6_toldDay 19 = .ok (.aload_n 0, 1) := by decide +kernel
theorem dX6_toldDay_20 : decode cX6_toldDay 20 = .ok (.getfield 35, 3) := by decide +kernel
theorem dX6_toldDay_23 : decode cX6_toldDay 23 = .ok (.iconst 0, 1) := by decide +kernel
theorem dX6_toldDay_24 : decode cX6_toldDay 24 = .ok (.bipush 99, 2) := by decide +kernel
theorem dX6_toldDay_26 : decode cX6_toldDay 26 = .ok (.invokevirtual 167, 3) := by decide +kernel
theorem dX6_toldDay_29 : decode cX6_toldDay 29 = .ok (.aload_n 0, 1) := by decide +kernel
theorem dX6_toldDay_30 : decode cX6_toldDay 30 = .ok (.iconst 1, 1) := by decide +kernel
theorem dX6_toldDay_31 : decode cX6_toldDay 31 = .ok (.putfield 291, 3) := by decide +kernel
theorem dX6_toldDay_34 : decode cX6_toldDay 34 = .ok (.aload_n 0, 1) := by decide +kernel
theorem dX6_toldDay_35 : decode cX6_toldDay 35 = .ok (.getfield 35, 3) := by decide +kernel
theorem dX6_toldDay_38 : decode cX6_toldDay 38 = .ok (.areturn, 1) := by decide +kernel
theorem dX6_waitsByRule_0 : decode cX6_waitsByRule 0 = .ok (.aload_n 0, 1) := by decide +kernel
theorem dX6_waitsByRule_1 : decode cX6_waitsByRule 1 = .ok (.getfield 39, 3) := by decide +kernel
theorem dX6_waitsByRule_4 : decode cX6_waitsByRule 4 = .ok (.aload_n 0, 1) := by decide +kernel
theorem dX6_waitsByRule_5 : decode cX6_waitsByRule 5 = .ok (.getfield 10, 3) := by decide +kernel
theorem dX6_waitsByRule_8 : decode cX6_waitsByRule 8 = .ok (.iconst (-1), 1) := by decide +kernel
theorem dX6_waitsByRule_9 : decode cX6_waitsByRule 9 = .ok (.invokevirtual 163, 3) := by decide +kernel
theorem dX6_waitsByRule_12 : decode cX6_waitsByRule 12 = .ok (.aload_n 0, 1) := by decide +kernel
theorem dX6_waitsByRule_13 : decode cX6_waitsByRule 13 = .ok (.getfield 39, 3) := by decide +kernel
theorem dX6_waitsByRule_16 : decode cX6_waitsByRule 16 = .ok (.getfield 294, 3) := by decide +kernel
theorem dX6_waitsByRule_19 : decode cX6_waitsByRule 19 = .ok (.iconst 0, 1) := by decide +kernel
theorem dX6_waitsByRule_20 : decode cX6_waitsByRule 20 = .ok (.iload_n 1, 1) := by decide +kernel
theorem dX6_waitsByRule_21 : decode cX6_waitsByRule 21 = .ok (.iastore, 1) := by decide +kernel
theorem dX6_waitsByRule_22 : decode cX6_waitsByRule 22 = .ok (.aload_n 0, 1) := by decide +kernel
theorem dX6_waitsByRule_23 : decode cX6_waitsByRule 23 = .ok (.getfield 39, 3) := by decide +kernel
theorem dX6_waitsByRule_26 : decode cX6_waitsByRule 26 = .ok (.iconst 0, 1) := by decide +kernel
theorem dX6_waitsByRule_27 : decode cX6_waitsByRule 27 = .ok (.ldc 208, 2) := by decide +kernel
theorem dX6_waitsByRule_29 : decode cX6_waitsByRule 29 = .ok (.invokevirtual 212, 3) := by decide +kernel
theorem dX6_waitsByRule_32 : decode cX6_waitsByRule 32 = .ok (.aload_n 0, 1) := by decide +kernel
theorem dX6_waitsByRule_33 : decode cX6_waitsByRule 33 = .ok (.getfield 39, 3) := by decide +kernel
theorem dX6_waitsByRule_36 : decode cX6_waitsByRule 36 = .ok (.getfield 187, 3) := by decide +kernel
theorem dX6_waitsByRule_39 : decode cX6_waitsByRule 39 = .ok (.ireturn, 1) := by decide +kernel
theorem dX6_seekChange_0 : decode cX6_seekChange 0 = .ok (.ldc 208, 2) := by decide +kernel
theorem dX6_seekChange_2 : decode cX6_seekChange 2 = .ok (.istore_n 2, 1) := by decide +kernel
theorem dX6_seekChange_3 : decode cX6_seekChange 3 = .ok (.iconst 0, 1) := by decide +kernel
theorem dX6_seekChange_4 : decode cX6_seekChange 4 = .ok (.istore_n 3, 1) := by decide +kernel
theorem dX6_seekChange_5 : decode cX6_seekChange 5 = .ok (.iload_n 3, 1) := by decide +kernel
theorem dX6_seekChange_6 : decode cX6_seekChange 6 = .ok (.getstatic 81, 3) := by decide +kernel
theorem dX6_seekChange_9 : decode cX6_seekChange 9 = .ok (.aload_n 0, 1) := by decide +kernel
theorem dX6_seekChange_10 : decode cX6_seekChange 10 = .ok (.getfield 10, 3) := by decide +kernel
theorem dX6_seekChange_13 : decode cX6_seekChange 13 = .ok (.getfield 57, 3) := by decide +kernel
theorem dX6_seekChange_16 : decode cX6_seekChange 16 = .ok (.iaload, 1) := by decide +kernel
theorem dX6_seekChange_17 : decode cX6_seekChange 17 = .ok (.if_icmp .ge 42, 3) := by decide +kernel
theorem dX6_seekChange_20 : decode cX6_seekChange 20 = .ok (.aload_n 0, 1) := by decide +kernel
theorem dX6_seekChange_21 : decode cX6_seekChange 21 = .ok (.getfield 39, 3) := by decide +kernel
theorem dX6_seekChange_24 : decode cX6_seekChange 24 = .ok (.aload_n 0, 1) := by decide +kernel
theorem dX6_seekChange_25 : decode cX6_seekChange 25 = .ok (.getfield 10, 3) := by decide +kernel
theorem dX6_seekChange_28 : decode cX6_seekChange 28 = .ok (.iload_n 3, 1) := by decide +kernel
theorem dX6_seekChange_29 : decode cX6_seekChange 29 = .ok (.invokevirtual 209, 3) := by decide +kernel
theorem dX6_seekChange_32 : decode cX6_seekChange 32 = .ok (.aload_n 0, 1) := by decide +kernel
theorem dX6_seekChange_33 : decode cX6_seekChange 33 = .ok (.getfield 39, 3) := by decide +kernel
theorem dX6_seekChange_36 : decode cX6_seekChange 36 = .ok (.iconst 0, 1) := by decide +kernel
theorem dX6_seekChange_37 : decode cX6_seekChange 37 = .ok (.iload_n 2, 1) := by decide +kernel
theorem dX6_seekChange_38 : decode cX6_seekChange 38 = .ok (.invokevirtual 212, 3) := by decide +kernel
theorem dX6_seekChange_41 : decode cX6_seekChange 41 = .ok (.iload_n 2, 1) := by decide +kernel
theorem dX6_seekChange_42 : decode cX6_seekChange 42 = .ok (.aload_n 0, 1) := by decide +kernel
theorem dX6_seekChange_43 : decode cX6_seekChange 43 = .ok (.getfield 39, 3) := by decide +kernel
theorem dX6_seekChange_46 : decode cX6_seekChange 46 = .ok (.getfield 187, 3) := by decide +kernel
theorem dX6_seekChange_49 : decode cX6_seekChange 49 = .ok (.invokestatic 295, 3) := by decide +kernel
theorem dX6_seekChange_52 : decode cX6_seekChange 52 = .ok (.istore_n 2, 1) := by decide +kernel
theorem dX6_seekChange_53 : decode cX6_seekChange 53 = .ok (.iinc 3 1, 3) := by decide +kernel
theorem dX6_seekChange_56 : decode cX6_seekChange 56 = .ok (.goto (-51), 3) := by decide +kernel
theorem dX6_seekChange_59 : decode cX6_seekChange 59 = .ok (.iinc 2 1, 3) := by decide +kernel
theorem dX6_seekChange_62 : decode cX6_seekChange 62 = .ok (.iconst 0, 1) := by decide +kernel
theorem dX6_seekChange_63 : decode cX6_seekChange 63 = .ok (.istore_n 3, 1) := by decide +kernel
theorem dX6_seekChange_64 : decode cX6_seekChange 64 = .ok (.iload_n 3, 1) := by decide +kernel
theorem dX6_seekChange_65 : decode cX6_seekChange 65 = .ok (.getstatic 81, 3) := by decide +kernel
theorem dX6_seekChange_68 : decode cX6_seekChange 68 = .ok (.aload_n 0, 1) := by decide +kernel
theorem dX6_seekChange_69 : decode cX6_seekChange 69 = .ok (.getfield 10, 3) := by decide +kernel
theorem dX6_seekChange_72 : decode cX6_seekChange 72 = .ok (.getfield 57, 3) := by decide +kernel
theorem dX6_seekChange_75 : decode cX6_seekChange 75 = .ok (.iaload, 1) := by decide +kernel
theorem dX6_seekChange_76 : decode cX6_seekChange 76 = .ok (.if_icmp .ge 128, 3) := by decide +kernel
theorem dX6_seekChange_79 : decode cX6_seekChange 79 = .ok (.aload_n 0, 1) := by decide +kernel
theorem dX6_seekChange_80 : decode cX6_seekChange 80 = .ok (.getfield 42, 3) := by decide +kernel
theorem dX6_seekChange_83 : decode cX6_seekChange 83 = .ok (.aload_n 0, 1) := by decide +kernel
theorem dX6_seekChange_84 : decode cX6_seekChange 84 = .ok (.getfield 10, 3) := by decide +kernel
theorem dX6_seekChange_87 : decode cX6_seekChange 87 = .ok (.iload_n 3, 1) := by decide +kernel
theorem dX6_seekChange_88 : decode cX6_seekChange 88 = .ok (.invokevirtual 209, 3) := by decide +kernel
theorem dX6_seekChange_91 : decode cX6_seekChange 91 = .ok (.aload_n 0, 1) := by decide +kernel
theorem dX6_seekChange_92 : decode cX6_seekChange 92 = .ok (.getfield 42, 3) := by decide +kernel
theorem dX6_seekChange_95 : decode cX6_seekChange 95 = .ok (.iconst 0, 1) := by decide +kernel
theorem dX6_seekChange_96 : decode cX6_seekChange 96 = .ok (.iload_n 1, 1) := by decide +kernel
theorem dX6_seekChange_97 : decode cX6_seekChange 97 = .ok (.iconst 1, 1) := by decide +kernel
theorem dX6_seekChange_98 : decode cX6_seekChange 98 = .ok (.isub, 1) := by decide +kernel
theorem dX6_seekChange_99 : decode cX6_seekChange 99 = .ok (.invokevirtual 167, 3) := by decide +kernel
theorem dX6_seekChange_102 : decode cX6_seekChange 102 = .ok (.iconst 0, 1) := by decide +kernel
theorem dX6_seekChange_103 : decode cX6_seekChange 103 = .ok (.istore 4, 2) := by decide +kernel
theorem dX6_seekChange_105 : decode cX6_seekChange 105 = .ok (.iload 4, 2) := by decide +kernel
theorem dX6_seekChange_107 : decode cX6_seekChange 107 = .ok (.getstatic 81, 3) := by decide +kernel
theorem dX6_seekChange_110 : decode cX6_seekChange 110 = .ok (.aload_n 0, 1) := by decide +kernel
theorem dX6_seekChange_111 : decode cX6_seekChange 111 = .ok (.getfield 10, 3) := by decide +kernel
theorem dX6_seekChange_114 : decode cX6_seekChange 114 = .ok (.getfield 57, 3) := by decide +kernel
theorem dX6_seekChange_117 : decode cX6_seekChange 117 = .ok (.iaload, 1) := by decide +kernel
theorem dX6_seekChange_118 : decode cX6_seekChange 118 = .ok (.if_icmp .ge 80, 3) := by decide +kernel
theorem dX6_seekChange_121 : decode cX6_seekChange 121 = .ok (.aload_n 0, 1) := by decide +kernel
theorem dX6_seekChange_122 : decode cX6_seekChange 122 = .ok (.getfield 42, 3) := by decide +kernel
theorem dX6_seekChange_125 : decode cX6_seekChange 125 = .ok (.getfield 187, 3) := by decide +kernel
theorem dX6_seekChange_128 : decode cX6_seekChange 128 = .ok (.iload_n 2, 1) := by decide +kernel
theorem dX6_seekChange_129 : decode cX6_seekChange 129 = .ok (.if_icmp .ge 69, 3) := by decide +kernel
theorem dX6_seekChange_132 : decode cX6_seekChange 132 = .ok (.aload_n 0, 1) := by decide +kernel
theorem dX6_seekChange_133 : decode cX6_seekChange 133 = .ok (.getfield 39, 3) := by decide +kernel
theorem dX6_seekChange_136 : decode cX6_seekChange 136 = .ok (.aload_n 0, 1) := by decide +kernel
theorem dX6_seekChange_137 : decode cX6_seekChange 137 = .ok (.getfield 42, 3) := by decide +kernel
theorem dX6_seekChange_140 : decode cX6_seekChange 140 = .ok (.invokevirtual 300, 3) := by decide +kernel
theorem dX6_seekChange_143 : decode cX6_seekChange 143 = .ok (.aload_n 0, 1) := by decide +kernel
theorem dX6_seekChange_144 : decode cX6_seekChange 144 = .ok (.getfield 39, 3) := by decide +kernel
theorem dX6_seekChange_147 : decode cX6_seekChange 147 = .ok (.iload_n 1, 1) := by decide +kernel
theorem dX6_seekChange_148 : decode cX6_seekChange 148 = .ok (.iload 4, 2) := by decide +kernel
theorem dX6_seekChange_150 : decode cX6_seekChange 150 = .ok (.invokevirtual 303, 3) := by decide +kernel
theorem dX6_seekChange_153 : decode cX6_seekChange 153 = .ok (.aload_n 0, 1) := by decide +kernel
theorem dX6_seekChange_154 : decode cX6_seekChange 154 = .ok (.getfield 39, 3) := by decide +kernel
theorem dX6_seekChange_157 : decode cX6_seekChange 157 = .ok (.iload_n 1, 1) := by decide +kernel
theorem dX6_seekChange_158 : decode cX6_seekChange 158 = .ok (.iload_n 2, 1) := by decide +kernel
theorem dX6_seekChange_159 : decode cX6_seekChange 159 = .ok (.invokevirtual 212, 3) := by decide +kernel
theorem dX6_seekChange_162 : decode cX6_seekChange 162 = .ok (.aload_n 0, 1) := by decide +kernel
theorem dX6_seekChange_163 : decode cX6_seekChange 163 = .ok (.getfield 39, 3) := by decide +kernel
theorem dX6_seekChange_166 : decode cX6_seekChange 166 = .ok (.getfield 187, 3) := by decide +kernel
theorem dX6_seekChange_169 : decode cX6_seekChange 169 = .ok (.iload_n 2, 1) := by decide +kernel
theorem dX6_seekChange_170 : decode cX6_seekChange 170 = .ok (.if_icmp .ge 22, 3) := by decide +kernel
theorem dX6_seekChange_173 : decode cX6_seekChange 173 = .ok (.aload_n 0, 1) := by decide +kernel
theorem dX6_seekChange_174 : decode cX6_seekChange 174 = .ok (.getfield 39, 3) := by decide +kernel
theorem dX6_seekChange_177 : decode cX6_seekChange 177 = .ok (.getfield 187, 3) := by decide +kernel
theorem dX6_seekChange_180 : decode cX6_seekChange 180 = .ok (.istore_n 2, 1) := by decide +kernel
theorem dX6_seekChange_181 : decode cX6_seekChange 181 = .ok (.aload_n 0, 1) := by decide +kernel
theorem dX6_seekChange_182 : decode cX6_seekChange 182 = .ok (.iload_n 3, 1) := by decide +kernel
theorem dX6_seekChange_183 : decode cX6_seekChange 183 = .ok (.putfield 221, 3) := by decide +kernel
theorem dX6_seekChange_186 : decode cX6_seekChange 186 = .ok (.aload_n 0, 1) := by decide +kernel
theorem dX6_seekChange_187 : decode cX6_seekChange 187 = .ok (.iload 4, 2) := by decide +kernel
theorem dX6_seekChange_189 : decode cX6_seekChange 189 = .ok (.putfield 224, 3) := by decide +kernel
theorem dX6_seekChange_192 : decode cX6_seekChange 192 = .ok (.iinc 4 1, 3) := by decide +kernel
theorem dX6_seekChange_195 : decode cX6_seekChange 195 = .ok (.goto (-90), 3) := by decide +kernel
theorem dX6_seekChange_198 : decode cX6_seekChange 198 = .ok (.iinc 3 1, 3) := by decide +kernel
theorem dX6_seekChange_201 : decode cX6_seekChange 201 = .ok (.goto (-137), 3) := by decide +kernel
theorem dX6_seekChange_204 : decode cX6_seekChange 204 = .ok (.aload_n 0, 1) := by decide +kernel
theorem dX6_seekChange_205 : decode cX6_seekChange 205 = .ok (.iload_n 2, 1) := by decide +kernel
theorem dX6_seekChange_206 : decode cX6_seekChange 206 = .ok (.putfield 227, 3) := by decide +kernel
theorem dX6_seekChange_209 : decode cX6_seekChange 209 = .ok (.aload_n 0, 1) := by decide +kernel
theorem dX6_seekChange_210 : decode cX6_seekChange 210 = .ok (.iload_n 1, 1) := by decide +kernel
theorem dX6_seekChange_211 : decode cX6_seekChange 211 = .ok (.putfield 215, 3) := by decide +kernel
theorem dX6_seekChange_214 : decode cX6_seekChange 214 = .ok (.return_, 1) := by decide +kernel
theorem dX6_refuse_0 : decode cX6_refuse 0 = .ok (.iload_n 1, 1) := by decide +kernel
theorem dX6_refuse_1 : decode cX6_refuse 1 = .ok (.invokestatic 258, 3) := by decide +kernel
theorem dX6_refuse_4 : decode cX6_refuse 4 = .ok (.ifCond .eq 12, 3) := by decide +kernel
theorem dX6_refuse_7 : decode cX6_refuse 7 = .ok (.iload_n 2, 1) := by decide +kernel
theorem dX6_refuse_8 : decode cX6_refuse 8 = .ok (.iconst 0, 1) := by decide +kernel
theorem dX6_refuse_9 : decode cX6_refuse 9 = .ok (.iconst 2, 1) := by decide +kernel
theorem dX6_refuse_10 : decode cX6_refuse 10 = .ok (.invokestatic 53, 3) := by decide +kernel
theorem dX6_refuse_13 : decode cX6_refuse 13 = .ok (.ifCond .ne 5, 3) := by decide +kernel
theorem dX6_refuse_16 : decode cX6_refuse 16 = .ok (.iconst (-1), 1) := by decide +kernel
theorem dX6_refuse_17 : decode cX6_refuse 17 = .ok (.ireturn, 1) := by decide +kernel
theorem dX6_refuse_18 : decode cX6_refuse 18 = .ok (.aload_n 0, 1) := by decide +kernel
theorem dX6_refuse_19 : decode cX6_refuse 19 = .ok (.getfield 28, 3) := by decide +kernel
theorem dX6_refuse_22 : decode cX6_refuse 22 = .ok (.iload_n 1, 1) := by decide +kernel
theorem dX6_refuse_23 : decode cX6_refuse 23 = .ok (.aaload, 1) := by decide +kernel
theorem dX6_refuse_24 : decode cX6_refuse 24 = .ok (.astore 5, 2) := by decide +kernel
theorem dX6_refuse_26 : decode cX6_refuse 26 = .ok (.aload 5, 2) := by decide +kernel
theorem dX6_refuse_28 : decode cX6_refuse 28 = .ok (.getfield 264, 3) := by decide +kernel
theorem dX6_refuse_31 : decode cX6_refuse 31 = .ok (.ifCond .ne 6, 3) := by decide +kernel
theorem dX6_refuse_34 : decode cX6_refuse 34 = .ok (.bipush (-11), 2) := by decide +kernel
theorem dX6_refuse_36 : decode cX6_refuse 36 = .ok (.ireturn, 1) := by decide +kernel
theorem dX6_refuse_37 : decode cX6_refuse 37 = .ok (.aload 5, 2) := by decide +kernel
theorem dX6_refuse_39 : decode cX6_refuse 39 = .ok (.getfield 270, 3) := by decide +kernel
theorem dX6_refuse_42 : decode cX6_refuse 42 = .ok (.iload_n 2, 1) := by decide +kernel
theorem dX6_refuse_43 : decode cX6_refuse 43 = .ok (.if_icmp .eq 6, 3) := by decide +kernel
theorem dX6_refuse_46 : decode cX6_refuse 46 = .ok (.bipush (-12), 2) := by decide +kernel
theorem dX6_refuse_48 : decode cX6_refuse 48 = .ok (.ireturn, 1) := by decide +kernel
theorem dX6_refuse_49 : decode cX6_refuse 49 = .ok (.aload 5, 2) := by decide +kernel
theorem dX6_refuse_51 : decode cX6_refuse 51 = .ok (.iload_n 3, 1) := by decide +kernel
theorem dX6_refuse_52 : decode cX6_refuse 52 = .ok (.iload 4, 2) := by decide +kernel
theorem dX6_refuse_54 : decode cX6_refuse 54 = .ok (.invokevirtual 273, 3) := by decide +kernel
theorem dX6_refuse_57 : decode cX6_refuse 57 = .ok (.ifCond .eq 7, 3) := by decide +kernel
theorem dX6_refuse_60 : decode cX6_refuse 60 = .ok (.iconst 0, 1) := by decide +kernel
theorem dX6_refuse_61 : decode cX6_refuse 61 = .ok (.goto 5, 3) := by decide +kernel
theorem dX6_refuse_64 : decode cX6_refuse 64 = .ok (.bipush (-13), 2) := by decide +kernel
theorem dX6_refuse_66 : decode cX6_refuse 66 = .ok (.ireturn, 1) := by decide +kernel
theorem dX6_isFilm_0 : decode cX6_isFilm 0 = .ok (.aload_n 1, 1) := by decide +kernel
theorem dX6_isFilm_1 : decode cX6_isFilm 1 = .ok (.iload_n 2, 1) := by decide +kernel
theorem dX6_isFilm_2 : decode cX6_isFilm 2 = .ok (.iload_n 3, 1) := by decide +kernel
theorem dX6_isFilm_3 : decode cX6_isFilm 3 = .ok (.invokevirtual 273, 3) := by decide +kernel
theorem dX6_isFilm_6 : decode cX6_isFilm 6 = .ok (.ifCond .ne 5, 3) := by decide +kernel
theorem dX6_isFilm_9 : decode cX6_isFilm 9 = .ok (.iconst 0, 1) := by decide +kernel
theorem dX6_isFilm_10 : decode cX6_isFilm 10 = .ok (.ireturn, 1) := by decide +kernel
theorem dX6_isFilm_11 : decode cX6_isFilm 11 = .ok (.iconst 0, 1) := by decide +kernel
theorem dX6_isFilm_12 : decode cX6_isFilm 12 = .ok (.istore 4, 2) := by decide +kernel
theorem dX6_isFilm_14 : decode cX6_isFilm 14 = .ok (.iload 4, 2) := by decide +kernel
theorem dX6_isFilm_16 : decode cX6_isFilm 16 = .ok (.iload_n 3, 1) := by decide +kernel
theorem dX6_isFilm_17 : decode cX6_isFilm 17 = .ok (.if_icmp .ge 35, 3) := by decide +kernel
theorem dX6_isFilm_20 : decode cX6_isFilm 20 = .ok (.aload_n 1, 1) := by decide +kernel
theorem dX6_isFilm_21 : decode cX6_isFilm 21 = .ok (.getfield 277, 3) := by decide +kernel
theorem dX6_isFilm_24 : decode cX6_isFilm 24 = .ok (.iload_n 2, 1) := by decide +kernel
theorem dX6_isFilm_25 : decode cX6_isFilm 25 = .ok (.iload 4, 2) := by decide +kernel
theorem dX6_isFilm_27 : decode cX6_isFilm 27 = .ok (.iadd, 1) := by decide +kernel
theorem dX6_isFilm_28 : decode cX6_isFilm 28 = .ok (.iaload, 1) := by decide +kernel
theorem dX6_isFilm_29 : decode cX6_isFilm 29 = .ok (.aload_n 0, 1) := by decide +kernel
theorem dX6_isFilm_30 : decode cX6_isFilm 30 = .ok (.bipush 10, 2) := by decide +kernel
theorem dX6_isFilm_32 : decode cX6_isFilm 32 = .ok (.iload 4, 2) := by decide +kernel
theorem dX6_isFilm_34 : decode cX6_isFilm 34 = .ok (.imul, 1) := by decide +kernel
theorem dX6_isFilm_35 : decode cX6_isFilm 35 = .ok (.bipush 9, 2) := by decide +kernel
theorem dX6_isFilm_37 : decode cX6_isFilm 37 = .ok (.iadd, 1) := by decide +kernel
theorem dX6_isFilm_38 : decode cX6_isFilm 38 = .ok (.invokevirtual 202, 3) := by decide +kernel
theorem dX6_isFilm_41 : decode cX6_isFilm 41 = .ok (.if_icmp .eq 5, 3) := by decide +kernel
theorem dX6_isFilm_44 : decode cX6_isFilm 44 = .ok (.iconst 0, 1) := by decide +kernel
theorem dX6_isFilm_45 : decode cX6_isFilm 45 = .ok (.ireturn, 1) := by decide +kernel
theorem dX6_isFilm_46 : decode cX6_isFilm 46 = .ok (.iinc 4 1, 3) := by decide +kernel
theorem dX6_isFilm_49 : decode cX6_isFilm 49 = .ok (.goto (-35), 3) := by decide +kernel
theorem dX6_isFilm_52 : decode cX6_isFilm 52 = .ok (.iconst 1, 1) := by decide +kernel
theorem dX6_isFilm_53 : decode cX6_isFilm 53 = .ok (.ireturn, 1) := by decide +kernel
