theorem dX7_init_0 : decode cX7_init 0 = .ok (.aload_n 0, 1) := by decide +kernel
theorem dX7_init_1 : decode cX7_init 1 = .ok (.invokespecial 1, 3) := by decide +kernel
theorem dX7_init_4 : decode cX7_init 4 = .ok (.aload_n 0, 1) := by decide +kernel
theorem dX7_init_5 : decode cX7_init 5 = .ok (.sipush 200, 3) := by decide +kernel
theorem dX7_init_8 : decode cX7_init 8 = .ok (.newarray .int, 2) := by decide +kernel
theorem dX7_init_10 : decode cX7_init 10 = .ok (.putfield 7, 3) := by decide +kernel
theorem dX7_init_13 : decode cX7_init 13 = .ok (.aload_n 0, 1) := by decide +kernel
theorem dX7_init_14 : decode cX7_init 14 = .ok (.sipush 160, 3) := by decide +kernel
theorem dX7_init_17 : decode cX7_init 17 = .ok (.newarray .int, 2) := by decide +kernel
theorem dX7_init_19 : decode cX7_init 19 = .ok (.putfield 13, 3) := by decide +kernel
theorem dX7_init_22 : decode cX7_init 22 = .ok (.aload_n 0, 1) := by decide +kernel
theorem dX7_init_23 : decode cX7_init 23 = .ok (.bipush 10, 2) := by decide +kernel
theorem dX7_init_25 : decode cX7_init 25 = .ok (.newarray .int, 2) := by decide +kernel
theorem dX7_init_27 : decode cX7_init 27 = .ok (.putfield 16, 3) := by decide +kernel
theorem dX7_init_30 : decode cX7_init 30 = .ok (.aload_n 0, 1) := by decide +kernel
theorem dX7_init_31 : decode cX7_init 31 = .ok (.bipush 59, 2) := by decide +kernel
theorem dX7_init_33 : decode cX7_init 33 = .ok (.newarray .int, 2) := by decide +kernel
theorem dX7_init_35 : decode cX7_init 35 = .ok (.putfield 19, 3) := by decide +kernel
theorem dX7_init_38 : decode cX7_init 38 = .ok (.aload_n 0, 1) := by decide +kernel
theorem dX7_init_39 : decode cX7_init 39 = .ok (.sipush 472, 3) := by decide +kernel
theorem dX7_init_42 : decode cX7_init 42 = .ok (.newarray .int, 2) := by decide +kernel
theorem dX7_init_44 : decode cX7_init 44 = .ok (.putfield 22, 3) := by decide +kernel
theorem dX7_init_47 : decode cX7_init 47 = .ok (.aload_n 0, 1) := by decide +kernel
theorem dX7_init_48 : decode cX7_init 48 = .ok (.bipush 118, 2) := by decide +kernel
theorem dX7_init_50 : decode cX7_init 50 = .ok (.newarray .int, 2) := by decide +kernel
theorem dX7_init_52 : decode cX7_init 52 = .ok (.putfield 25, 3) := by decide +kernel
theorem dX7_init_55 : decode cX7_init 55 = .ok (.aload_n 0, 1) := by decide +kernel
theorem dX7_init_56 : decode cX7_init 56 = .ok (.bipush 12, 2) := by decide +kernel
theorem dX7_init_58 : decode cX7_init 58 = .ok (.newarray .int, 2) := by decide +kernel
theorem dX7_init_60 : decode cX7_init 60 = .ok (.putfield 28, 3) := by decide +kernel
theorem dX7_init_63 : decode cX7_init 63 = .ok (.aload_n 0, 1) := by decide +kernel
theorem dX7_init_64 : decode cX7_init 64 = .ok (.bipush 6, 2) := by decide +kernel
theorem dX7_init_66 : decode cX7_init 66 = .ok (.newarray .int, 2) := by decide +kernel
theorem dX7_init_68 : decode cX7_init 68 = .ok (.putfield 31, 3) := by decide +kernel
theorem dX7_init_71 : decode cX7_init 71 = .ok (.aload_n 0, 1) := by decide +kernel
theorem dX7_init_72 : decode cX7_init 72 = .ok (.bipush 6, 2) := by decide +kernel
theorem dX7_init_74 : decode cX7_init 74 = .ok (.newarray .int, 2) := by decide +kernel
theorem dX7_init_76 : decode cX7_init 76 = .ok (.putfield 34, 3) := by decide +kernel
theorem dX7_init_79 : decode cX7_init 79 = .ok (.aload_n 0, 1) := by decide +kernel
theorem dX7_init_80 : decode cX7_init 80 = .ok (.iconst 3, 1) := by decide +kernel
theorem dX7_init_81 : decode cX7_init 81 = .ok (.newarray .int, 2) := by decide +kernel
theorem dX7_init_83 : decode cX7_init 83 = .ok (.putfield 37, 3) := by decide +kernel
theorem dX7_init_86 : decode cX7_init 86 = .ok (.aload_n 0, 1) := by decide +kernel
theorem dX7_init_87 : decode cX7_init 87 = .ok (.bipush 100, 2) := by decide +kernel
theorem dX7_init_89 : decode cX7_init 89 = .ok (.newarray .int, 2) := by decide +kernel
theorem dX7_init_91 : decode cX7_init 91 = .ok (.putfield 40, 3) := by decide +kernel
theorem dX7_init_94 : decode cX7_init 94 = .ok (.aload_n 0, 1) := by decide +kernel
theorem dX7_init_95 : decode cX7_init 95 = .ok (.bipush 100, 2) := by decide +kernel
theorem dX7_init_97 : decode cX7_init 97 = .ok (.newarray .int, 2) := by decide +kernel
theorem dX7_init_99 : decode cX7_init 99 = .ok (.putfield 43, 3) := by decide +kernel
theorem dX7_init_102 : decode cX7_init 102 = .ok (.aload_n 0, 1) := by decide +kernel
theorem dX7_init_103 : decode cX7_init 103 = .ok (.bipush 110, 2) := by decide +kernel
theorem dX7_init_105 : decode cX7_init 105 = .ok (.newarray .int, 2) := by decide +kernel
theorem dX7_init_107 : decode cX7_init 107 = .ok (.putfield 46, 3) := by decide +kernel
theorem dX7_init_110 : decode cX7_init 110 = .ok (.aload_n 0, 1) := by decide +kernel
theorem dX7_init_111 : decode cX7_init 111 = .ok (.invokevirtual 49, 3) := by decide +kernel
theorem dX7_init_114 : decode cX7_init 114 = .ok (.aload_n 0, 1) := by decide +kernel
theorem dX7_init_115 : decode cX7_init 115 = .ok (.iconst 0, 1) := by decide +kernel
theorem dX7_init_116 : decode cX7_init 116 = .ok (.invokevirtual 52, 3) := by decide +kernel
theorem dX7_init_119 : decode cX7_init 119 = .ok (.aload_n 0, 1) := by decide +kernel
theorem dX7_init_120 : decode cX7_init 120 = .ok (.iconst 1, 1) := by decide +kernel
theorem dX7_init_121 : decode cX7_init 121 = .ok (.invokevirtual 52, 3) := by decide +kernel
theorem dX7_init_124 : decode cX7_init 124 = .ok (.aload_n 0, 1) := by decide +kernel
theorem dX7_init_125 : decode cX7_init 125 = .ok (.iconst 0, 1) := by decide +kernel
theorem dX7_init_126 : decode cX7_init 126 = .ok (.invokevirtual 52, 3) := by decide +kernel
theorem dX7_init_129 : decode cX7_init 129 = .ok (.aload_n 0, 1) := by decide +kernel
theorem dX7_init_130 : decode cX7_init 130 = .ok (.iconst 3, 1) := by decide +kernel
theorem dX7_init_131 : decode cX7_init 131 = .ok (.invokevirtual 52, 3) := by decide +kernel
theorem dX7_init_134 : decode cX7_init 134 = .ok (.aload_n 0, 1) := by decide +kernel
theorem dX7_init_135 : decode cX7_init 135 = .ok (.iconst 2, 1) := by decide +kernel
theorem dX7_init_136 : decode cX7_init 136 = .ok (.invokevirtual 52, 3) := by decide +kernel
theorem dX7_init_139 : decode cX7_init 139 = .ok (.aload_n 0, 1) := by decide +kernel
theorem dX7_init_140 : decode cX7_init 140 = .ok (.iconst 1, 1) := by decide +kernel
theorem dX7_init_141 : decode cX7_init 141 = .ok (.invokevirtual 52, 3) := by decide +kernel
theorem dX7_init_144 : decode cX7_init 144 = .ok (.aload_n 0, 1) := by decide +kernel
theorem dX7_init_145 : decode cX7_init 145 = .ok (.iconst 0, 1) := by decide +kernel
theorem dX7_init_146 : decode cX7_init 146 = .ok (.invokevirtual 52, 3) := by decide +kernel
theorem dX7_init_149 : decode cX7_init 149 = .ok (.aload_n 0, 1) := by decide +kernel
theorem dX7_init_150 : decode cX7_init 150 = .ok (.iconst 0, 1) := by decide +kernel
theorem dX7_init_151 : decode cX7_init 151 = .ok (.iconst 1, 1) := by decide +kernel
theorem dX7_init_152 : decode cX7_init 152 = .ok (.iconst 1, 1) := by decide +kernel
theorem dX7_init_153 : decode cX7_init 153 = .ok (.invokevirtual 56, 3) := by decide +kernel
theorem dX7_init_156 : decode cX7_init 156 = .ok (.aload_n 0, 1) := by decide +kernel
theorem dX7_init_157 : decode cX7_init 157 = .ok (.iconst 1, 1) := by decide +kernel
theorem dX7_init_158 : decode cX7_init 158 = .ok (.iconst 0, 1) := by decide +kernel
theorem dX7_init_159 : decode cX7_init 159 = .ok (.iconst 3, 1) := by decide +kernel
theorem dX7_init_160 : decode cX7_init 160 = .ok (.invokevirtual 56, 3) := by decide +kernel
theorem dX7_init_163 : decode cX7_init 163 = .ok (.aload_n 0, 1) := by decide +kernel
theorem dX7_init_164 : decode cX7_init 164 = .ok (.iconst 3, 1) := by decide +kernel
theorem dX7_init_165 : decode cX7_init 165 = .ok (.bipush (-2), 2) := by decide +kernel
theorem dX7_init_167 : decode cX7_init 167 = .ok (.iconst 2, 1) := by decide +kernel
theorem dX7_init_168 : decode cX7_init 168 = .ok (.invokevirtual 56, 3) := by decide +kernel
theorem dX7_init_171 : decode cX7_init 171 = .ok (.aload_n 0, 1) := by decide +kernel
theorem dX7_init_172 : decode cX7_init 172 = .ok (.iconst 2, 1) := by decide +kernel
theorem dX7_init_173 : decode cX7_init 173 = .ok (.iconst 1, 1) := by decide +kernel
theorem dX7_init_174 : decode cX7_init 174 = .ok (.iconst 4, 1) := by decide +kernel
theorem dX7_init_175 : decode cX7_init 175 = .ok (.invokevirtual 56, 3) := by decide +kernel
theorem dX7_init_178 : decode cX7_init 178 = .ok (.aload_n 0, 1) := by decide +kernel
theorem dX7_init_179 : decode cX7_init 179 = .ok (.iconst 4, 1) := by decide +kernel
theorem dX7_init_180 : decode cX7_init 180 = .ok (.iconst 2, 1) := by decide +kernel
theorem dX7_init_181 : decode cX7_init 181 = .ok (.iconst 5, 1) := by decide +kernel
theorem dX7_init_182 : decode cX7_init 182 = .ok (.invokevirtual 56, 3) := by decide +kernel
theorem dX7_init_185 : decode cX7_init 185 = .ok (.aload_n 0, 1) := by decide +kernel
theorem dX7_init_186 : decode cX7_init 186 = .ok (.iconst 0, 1) := by decide +kernel
theorem dX7_init_187 : decode cX7_init 187 = .ok (.iconst 3, 1) := by decide +kernel
theorem dX7_init_188 : decode cX7_init 188 = .ok (.iconst 5, 1) := by decide +kernel
theorem dX7_init_189 : decode cX7_init 189 = .ok (.invokevirtual 56, 3) := by decide +kernel
theorem dX7_init_192 : decode cX7_init 192 = .ok (.aload_n 0, 1) := by decide +kernel
theorem dX7_init_193 : decode cX7_init 193 = .ok (.iconst 5, 1) := by decide +kernel
theorem dX7_init_194 : decode cX7_init 194 = .ok (.iconst (-1), 1) := by decide +kernel
theorem dX7_init_195 : decode cX7_init 195 = .ok (.bipush 6, 2) := by decide +kernel
theorem dX7_init_197 : decode cX7_init 197 = .ok (.invokevirtual 56, 3) := by decide +kernel
theorem dX7_init_200 : decode cX7_init 200 = .ok (.aload_n 0, 1) := by decide +kernel
theorem dX7_init_201 : decode cX7_init 201 = .ok (.bipush 6, 2) := by decide +kernel
theorem dX7_init_203 : decode cX7_init 203 = .ok (.iconst 0, 1) := by decide +kernel
theorem dX7_init_204 : decode cX7_init 204 = .ok (.iconst 0, 1) := by decide +kernel
theorem dX7_init_205 : decode cX7_init 205 = .ok (.invokevirtual 56, 3) := by decide +kernel
theorem dX7_init_208 : decode cX7_init 208 = .ok (.aload_n 0, 1) := by decide +kernel
theorem dX7_init_209 : decode cX7_init 209 = .ok (.invokevirtual 60, 3) := by decide +kernel
theorem dX7_init_212 : decode cX7_init 212 = .ok (.return_, 1) := by decide +kernel
theorem dX7_in_0 : decode cX7_in 0 = .ok (.lload_n 0, 1) := by decide +kernel
theorem dX7_in_1 : decode cX7_in 1 = .ok (.lload_n 2, 1) := by decide +kernel
theorem dX7_in_2 : decode cX7_in 2 = .ok (.lcmp, 1) := by decide +kernel
theorem dX7_in_3 : decode cX7_in 3 = .ok (.ifCond .lt 14, 3) := by decide +kernel
theorem dX7_in_6 : decode cX7_in 6 = .ok (.lload_n 0, 1) := by decide +kernel
theorem dX7_in_7 : decode cX7_in 7 = .ok (.lload 4, 2) := by decide +kernel
theorem dX7_in_9 : decode cX7_in 9 = .ok (.lcmp, 1) := by decide +kernel
theorem dX7_in_10 : decode cX7_in 10 = .ok (.ifCond .gt 7, 3) := by decide +kernel
theorem dX7_in_13 : decode cX7_in 13 = .ok (.iconst 1, 1) := by decide +kernel
theorem dX7_in_14 : decode cX7_in 14 = .ok (.goto 4, 3) := by decide +kernel
theorem dX7_in_17 : decode cX7_in 17 = .ok (.iconst 0, 1) := by decide +kernel
theorem dX7_in_18 : decode cX7_in 18 = .ok (.ireturn, 1) := by decide +kernel
theorem dX7_has_0 : decode cX7_has 0 = .ok (.iload_n 0, 1) := by decide +kernel
theorem dX7_has_1 : decode cX7_has 1 = .ok (.iload_n 1, 1) := by decide +kernel
theorem dX7_has_2 : decode cX7_has 2 = .ok (.ishr, 1) := by decide +kernel
theorem dX7_has_3 : decode cX7_has 3 = .ok (.iconst 1, 1) := by decide +kernel
theorem dX7_has_4 : decode cX7_has 4 = .ok (.iand, 1) := by decide +kernel
theorem dX7_has_5 : decode cX7_has 5 = .ok (.iconst 1, 1) := by decide +kernel
theorem dX7_has_6 : decode cX7_has 6 = .ok (.if_icmp .ne 7, 3) := by decide +kernel
theorem dX7_has_9 : decode cX7_has 9 = .ok (.iconst 1, 1) := by decide +kernel
theorem dX7_has_10 : decode cX7_has 10 = .ok (.goto 4, 3) := by decide +kernel
theorem dX7_has_13 : decode cX7_has 13 = .ok (.iconst 0, 1) := by decide +kernel
theorem dX7_has_14 : decode cX7_has 14 = .ok (.ireturn, 1) := by decide +kernel
theorem dX7_readNone_0 : decode cX7_readNone 0 = .ok (.aload_n 0, 1) := by decide +kernel
theorem dX7_readNone_1 : decode cX7_readNone 1 = .ok (.iconst 0, 1) := by decide +kernel
theorem dX7_readNone_2 : decode cX7_readNone 2 = .ok (.putfield 63, 3) := by decide +kernel
theorem dX7_readNone_5 : decode cX7_readNone 5 = .ok (.aload_n 0, 1) := by decide +kernel
theorem dX7_readNone_6 : decode cX7_readNone 6 = .ok (.iconst 0, 1) := by decide +kernel
theorem dX7_readNone_7 : decode cX7_readNone 7 = .ok (.putfield 67, 3) := by decide +kernel
theorem dX7_readNone_10 : decode cX7_readNone 10 = .ok (.return_, 1) := by decide +kernel
theorem dX7_levelIs_0 : decode cX7_levelIs 0 = .ok (.aload_n 0, 1) := by decide +kernel
theorem dX7_levelIs_1 : decode cX7_levelIs 1 = .ok (.getfield 16, 3) := by decide +kernel
theorem dX7_levelIs_4 : decode cX7_levelIs 4 = .ok (.aload_n 0, 1) := by decide +kernel
theorem dX7_levelIs_5 : decode cX7_levelIs 5 = .ok (.getfield 63, 3) := by decide +kernel
theorem dX7_levelIs_8 : decode cX7_levelIs 8 = .ok (.iload_n 1, 1) := by decide +kernel
theorem dX7_levelIs_9 : decode cX7_levelIs 9 = .ok (.iastore, 1) := by decide +kernel
theorem dX7_levelIs_10 : decode cX7_levelIs 10 = .ok (.aload_n 0, 1) := by decide +kernel
theorem dX7_levelIs_11 : decode cX7_levelIs 11 = .ok (.dup, 1) := by decide +kernel
theorem dX7_levelIs_12 : decode cX7_levelIs 12 = .ok (.getfield 63, 3) := by decide +kernel
theorem dX7_levelIs_15 : decode cX7_levelIs 15 = .ok (.iconst 1, 1) := by decide +kernel
theorem dX7_levelIs_16 : decode cX7_levelIs 16 = .ok (.iadd, 1) := by decide +kernel
theorem dX7_levelIs_17 : decode cX7_levelIs 17 = .ok (.putfield 63, 3) := by decide +kernel
theorem dX7_levelIs_20 : decode cX7_levelIs 20 = .ok (.return_, 1) := by decide +kernel
theorem dX7_askedIs_0 : decode cX7_askedIs 0 = .ok (.iconst 4, 1) := by decide +kernel
theorem dX7_askedIs_1 : decode cX7_askedIs 1 = .ok (.aload_n 0, 1) := by decide +kernel
theorem dX7_askedIs_2 : decode cX7_askedIs 2 = .ok (.getfield 67, 3) := by decide +kernel
theorem dX7_askedIs_5 : decode cX7_askedIs 5 = .ok (.imul, 1) := by decide +kernel
theorem dX7_askedIs_6 : decode cX7_askedIs 6 = .ok (.istore 4, 2) := by decide +kernel
theorem dX7_askedIs_8 : decode cX7_askedIs 8 = .ok (.aload_n 0, 1) := by decide +kernel
theorem dX7_askedIs_9 : decode cX7_askedIs 9 = .ok (.getfield 13, 3) := by decide +kernel
theorem dX7_askedIs_12 : decode cX7_askedIs 12 = .ok (.iload 4, 2) := by decide +kernel
theorem dX7_askedIs_14 : decode cX7_askedIs 14 = .ok (.iload_n 1, 1) := by decide +kernel
theorem dX7_askedIs_15 : decode cX7_askedIs 15 = .ok (.iastore, 1) := by decide +kernel
theorem dX7_askedIs_16 : decode cX7_askedIs 16 = .ok (.aload_n 0, 1) := by decide +kernel
theorem dX7_askedIs_17 : decode cX7_askedIs 17 = .ok (.getfield 13, 3) := by decide +kernel
theorem dX7_askedIs_20 : decode cX7_askedIs 20 = .ok (.iload 4, 2) := by decide +kernel
theorem dX7_askedIs_22 : decode cX7_askedIs 22 = .ok (.iconst 1, 1) := by decide +kernel
theorem dX7_askedIs_23 : decode cX7_askedIs 23 = .ok (.iadd, 1) := by decide +kernel
theorem dX7_askedIs_24 : decode cX7_askedIs 24 = .ok (.iload_n 2, 1) := by decide +kernel
theorem dX7_askedIs_25 : decode cX7_askedIs 25 = .ok (.iastore, 1) := by decide +kernel
theorem dX7_askedIs_26 : decode cX7_askedIs 26 = .ok (.aload_n 0, 1) := by decide +kernel
theorem dX7_askedIs_27 : decode cX7_askedIs 27 = .ok (.getfield 13, 3) := by decide +kernel
theorem dX7_askedIs_30 : decode cX7_askedIs 30 = .ok (.iload 4, 2) := by decide +kernel
theorem dX7_askedIs_32 : decode cX7_askedIs 32 = .ok (.iconst 2, 1) := by decide +kernel
theorem dX7_askedIs_33 : decode cX7_askedIs 33 = .ok (.iadd, 1) := by decide +kernel
theorem dX7_askedIs_34 : decode cX7_askedIs 34 = .ok (.iload_n 3, 1) := by decide +kernel
theorem dX7_askedIs_35 : decode cX7_askedIs 35 = .ok (.iastore, 1) := by decide +kernel
theorem dX7_askedIs_36 : decode cX7_askedIs 36 = .ok (.aload_n 0, 1) := by decide +kernel
theorem dX7_askedIs_37 : decode cX7_askedIs 37 = .ok (.dup, 1) := by decide +kernel
theorem dX7_askedIs_38 : decode cX7_askedIs 38 = .ok (.getfield 67, 3) := by decide +kernel
theorem dX7_askedIs_41 : decode cX7_askedIs 41 = .ok (.iconst 1, 1) := by decide +kernel
theorem dX7_askedIs_42 : decode cX7_askedIs 42 = .ok (.iadd, 1) := by decide +kernel
theorem dX7_askedIs_43 : decode cX7_askedIs 43 = .ok (.putfield 67, 3) := by decide +kernel
theorem dX7_askedIs_46 : decode cX7_askedIs 46 = .ok (.return_, 1) := by decide +kernel
theorem dX7_write_0 : decode cX7_write 0 = .ok (.iload_n 1, 1) := by decide +kernel
theorem dX7_write_1 : decode cX7_write 1 = .ok (.i2l, 1) := by decide +kernel
theorem dX7_write_2 : decode cX7_write 2 = .ok (.ldc2_w 70, 3) := by decide +kernel
theorem dX7_write_5 : decode cX7_write 5 = .ok (.ldc2_w 72, 3) := by decide +kernel
theorem dX7_write_8 : decode cX7_write 8 = .ok (.invokestatic 74, 3) := by decide +kernel
theorem dX7_write_11 : decode cX7_write 11 = .ok (.ifCond .ne 5, 3) := by decide +kernel
theorem dX7_write_14 : decode cX7_write 14 = .ok (.iconst (-1), 1) := by decide +kernel
theorem dX7_write_15 : decode cX7_write 15 = .ok (.ireturn, 1) := by decide +kernel
theorem dX7_write_16 : decode cX7_write 16 = .ok (.aload_n 0, 1) := by decide +kernel
theorem dX7_write_17 : decode cX7_write 17 = .ok (.getfield 78, 3) := by decide +kernel
theorem dX7_write_20 : decode cX7_write 20 = .ok (.sipush 200, 3) := by decide +kernel
theorem dX7_write_23 : decode cX7_write 23 = .ok (.if_icmp .ne 6, 3) := by decide +kernel
theorem dX7_write_26 : decode cX7_write 26 = .ok (.bipush (-3), 2) := by decide +kernel
theorem dX7_write_28 : decode cX7_write 28 = .ok (.ireturn, 1) := by decide +kernel
theorem dX7_write_29 : decode cX7_write 29 = .ok (.aload_n 0, 1) := by decide +kernel
theorem dX7_write_30 : decode cX7_write 30 = .ok (.getfield 7, 3) := by decide +kernel
theorem dX7_write_33 : decode cX7_write 33 = .ok (.aload_n 0, 1) := by decide +kernel
theorem dX7_write_34 : decode cX7_write 34 = .ok (.getfield 78, 3) := by decide +kernel
theorem dX7_write_37 : decode cX7_write 37 = .ok (.iload_n 1, 1) := by decide +kernel
theorem dX7_write_38 : decode cX7_write 38 = .ok (.iastore, 1) := by decide +kernel
theorem dX7_write_39 : decode cX7_write 39 = .ok (.aload_n 0, 1) := by decide +kernel
theorem dX7_write_40 : decode cX7_write 40 = .ok (.dup, 1) := by decide +kernel
theorem dX7_write_41 : decode cX7_write 41 = .ok (.getfield 78, 3) := by decide +kernel
theorem dX7_write_44 : decode cX7_write 44 = .ok (.iconst 1, 1) := by decide +kernel
theorem dX7_write_45 : decode cX7_write 45 = .ok (.iadd, 1) := by decide +kernel
theorem dX7_write_46 : decode cX7_write 46 = .ok (.putfield 78, 3) := by decide +kernel
theorem dX7_write_49 : decode cX7_write 49 = .ok (.aload_n 0, 1) := by decide +kernel
theorem dX7_write_50 : decode cX7_write 50 = .ok (.getfield 78, 3) := by decide +kernel
theorem dX7_write_53 : decode cX7_write 53 = .ok (.ireturn, 1) := by decide +kernel
theorem dX7_wipe_0 : decode cX7_wipe 0 = .ok (.aload_n 0, 1) := by decide +kernel
theorem dX7_wipe_1 : decode cX7_wipe 1 = .ok (.getfield 78, 3) := by decide +kernel
theorem dX7_wipe_4 : decode cX7_wipe 4 = .ok (.istore_n 1, 1) := by decide +kernel
theorem dX7_wipe_5 : decode cX7_wipe 5 = .ok (.aload_n 0, 1) := by decide +kernel
theorem dX7_wipe_6 : decode cX7_wipe 6 = .ok (.iconst 0, 1) := by decide +kernel
theorem dX7_wipe_7 : decode cX7_wipe 7 = .ok (.putfield 78, 3) := by decide +kernel
theorem dX7_wipe_10 : decode cX7_wipe 10 = .ok (.iload_n 1, 1) := by decide +kernel
theorem dX7_wipe_11 : decode cX7_wipe 11 = .ok (.ireturn, 1) := by decide +kernel
theorem dX7_letterAt_0 : decode cX7_letterAt 0 = .ok (.iload_n 1, 1) := by decide +kernel
theorem dX7_letterAt_1 : decode cX7_letterAt 1 = .ok (.aload_n 0, 1) := by decide +kernel
theorem dX7_letterAt_2 : decode cX7_letterAt 2 = .ok (.getfield 78, 3) := by decide +kernel
theorem dX7_letterAt_5 : decode cX7_letterAt 5 = .ok (.if_icmp .ge 12, 3) := by decide +kernel
theorem dX7_letterAt_8 : decode cX7_letterAt 8 = .ok (.aload_n 0, 1) := by decide +kernel
theorem dX7_letterAt_9 : decode cX7_letterAt 9 = .ok (.getfield 7, 3) := by decide +kernel
theorem dX7_letterAt_12 : decode cX7_letterAt 12 = .ok (.iload_n 1, 1) := by decide +kernel
theorem dX7_letterAt_13 : decode cX7_letterAt 13 = .ok (.iaload, 1) := by decide +kernel
theorem dX7_letterAt_14 : decode cX7_letterAt 14 = .ok (.goto 4, 3) := by decide +kernel
theorem dX7_letterAt_17 : decode cX7_letterAt 17 = .ok (.iconst 0, 1) := by decide +kernel
theorem dX7_letterAt_18 : decode cX7_letterAt 18 = .ok (.ireturn, 1) := by decide +kernel
theorem dX7_numbers_0 : decode cX7_numbers 0 = .ok (.iconst 0, 1) := by decide +kernel
theorem dX7_numbers_1 : decode cX7_numbers 1 = .ok (.istore_n 2, 1) := by decide +kernel
theorem dX7_numbers_2 : decode cX7_numbers 2 = .ok (.iload_n 2, 1) := by decide +kernel
theorem dX7_numbers_3 : decode cX7_numbers 3 = .ok (.iload_n 1, 1) := by decide +kernel
theorem dX7_numbers_4 : decode cX7_numbers 4 = .ok (.if_icmp .ge 132, 3) := by decide +kernel
theorem dX7_numbers_7 : decode cX7_numbers 7 = .ok (.iconst 0, 1) := by decide +kernel
theorem dX7_numbers_8 : decode cX7_numbers 8 = .ok (.istore_n 3, 1) := by decide +kernel
theorem dX7_numbers_9 : decode cX7_numbers 9 = .ok (.iconst 0, 1) := by decide +kernel
theorem dX7_numbers_10 : decode cX7_numbers 10 = .ok (.istore 4, 2) := by decide +kernel
theorem dX7_numbers_12 : decode cX7_numbers 12 = .ok (.aload_n 0, 1) := by decide +kernel
theorem dX7_numbers_13 : decode cX7_numbers 13 = .ok (.aload_n 0, 1) := by decide +kernel
theorem dX7_numbers_14 : decode cX7_numbers 14 = .ok (.getfield 81, 3) := by decide +kernel
theorem dX7_numbers_17 : decode cX7_numbers 17 = .ok (.invokevirtual 84, 3) := by decide +kernel
theorem dX7_numbers_20 : decode cX7_numbers 20 = .ok (.i2l, 1) := by decide +kernel
theorem dX7_numbers_21 : decode cX7_numbers 21 = .ok (.ldc2_w 88, 3) := by decide +kernel
theorem dX7_numbers_24 : decode cX7_numbers 24 = .ok (.ldc2_w 90, 3) := by decide +kernel
theorem dX7_numbers_27 : decode cX7_numbers 27 = .ok (.invokestatic 74, 3) := by decide +kernel
theorem dX7_numbers_30 : decode cX7_numbers 30 = .ok (.ifCond .eq 43, 3) := by decide +kernel
theorem dX7_numbers_33 : decode cX7_numbers 33 = .ok (.iload_n 3, 1) := by decide +kernel
theorem dX7_numbers_34 : decode cX7_numbers 34 = .ok (.iconst 3, 1) := by decide +kernel
theorem dX7_numbers_35 : decode cX7_numbers 35 = .ok (.if_icmp .ge 38, 3) := by decide +kernel
theorem dX7_numbers_38 : decode cX7_numbers 38 = .ok (.bipush 10, 2) := by decide +kernel
theorem dX7_numbers_40 : decode cX7_numbers 40 = .ok (.iload 4, 2) := by decide +kernel
theorem dX7_numbers_42 : decode cX7_numbers 42 = .ok (.imul, 1) := by decide +kernel
theorem dX7_numbers_43 : decode cX7_numbers 43 = .ok (.aload_n 0, 1) := by decide +kernel
theorem dX7_numbers_44 : decode cX7_numbers 44 = .ok (.aload_n 0, 1) := by decide +kernel
theorem dX7_numbers_45 : decode cX7_numbers 45 = .ok (.getfield 81, 3) := by decide +kernel
theorem dX7_numbers_48 : decode cX7_numbers 48 = .ok (.invokevirtual 84, 3) := by decide +kernel
theorem dX7_numbers_51 : decode cX7_numbers 51 = .ok (.iadd, 1) := by decide +kernel
theorem dX7_numbers_52 : decode cX7_numbers 52 = .ok (.bipush 48, 2) := by decide +kernel
theorem dX7_numbers_54 : decode cX7_numbers 54 = .ok (.isub, 1) := by decide +kernel
theorem dX7_numbers_55 : decode cX7_numbers 55 = .ok (.istore 4, 2) := by decide +kernel
theorem dX7_numbers_57 : decode cX7_numbers 57 = .ok (.iinc 3 1, 3) := by decide +kernel
theorem dX7_numbers_60 : decode cX7_numbers 60 = .ok (.aload_n 0, 1) := by decide +kernel
theorem dX7_numbers_61 : decode cX7_numbers 61 = .ok (.dup, 1) := by decide +kernel
theorem dX7_numbers_62 : decode cX7_numbers 62 = .ok (.getfield 81, 3) := by decide +kernel
theorem dX7_numbers_65 : decode cX7_numbers 65 = .ok (.iconst 1, 1) := by decide +kernel
theorem dX7_numbers_66 : decode cX7_numbers 66 = .ok (.iadd, 1) := by decide +kernel
theorem dX7_numbers_67 : decode cX7_numbers 67 = .ok (.putfield 81, 3) := by decide +kernel
theorem dX7_numbers_70 : decode cX7_numbers 70 = .ok (.goto (-58), 3) := by decide +kernel
theorem dX7_numbers_73 : decode cX7_numbers 73 = .ok (.iload_n 3, 1) := by decide +kernel
theorem dX7_numbers_74 : decode cX7_numbers 74 = .ok (.i2l, 1) := by decide +kernel
theorem dX7_numbers_75 : decode cX7_numbers 75 = .ok (.lconst 1, 1) := by decide +kernel
theorem dX7_numbers_76 : decode cX7_numbers 76 = .ok (.ldc2_w 92, 3) := by decide +kernel
theorem dX7_numbers_79 : decode cX7_numbers 79 = .ok (.invokestatic 74, 3) := by decide +kernel
theorem dX7_numbers_82 : decode cX7_numbers 82 = .ok (.ifCond .eq 28, 3) := by decide +kernel
theorem dX7_numbers_85 : decode cX7_numbers 85 = .ok (.aload_n 0, 1) := by decide +kernel
theorem dX7_numbers_86 : decode cX7_numbers 86 = .ok (.aload_n 0, 1) := by decide +kernel
theorem dX7_numbers_87 : decode cX7_numbers 87 = .ok (.getfield 81, 3) := by decide +kernel
theorem dX7_numbers_90 : decode cX7_numbers 90 = .ok (.invokevirtual 84, 3) := by decide +kernel
theorem dX7_numbers_93 : decode cX7_numbers 93 = .ok (.iload_n 2, 1) := by decide +kernel
theorem dX7_numbers_94 : decode cX7_numbers 94 = .ok (.iload_n 1, 1) := by decide +kernel
theorem dX7_numbers_95 : decode cX7_numbers 95 = .ok (.iconst 1, 1) := by decide +kernel
theorem dX7_numbers_96 : decode cX7_numbers 96 = .ok (.isub, 1) := by decide +kernel
theorem dX7_numbers_97 : decode cX7_numbers 97 = .ok (.if_icmp .ge 8, 3) := by decide +kernel
theorem dX7_numbers_100 : decode cX7_numbers 100 = .ok (.bipush 44, 2) := by decide +kernel
theorem dX7_numbers_102 : decode cX7_numbers 102 = .ok (.goto 5, 3) := by decide +kernel
theorem dX7_numbers_105 : decode cX7_numbers 105 = .ok (.bipush 59, 2) := by decide +kernel
theorem dX7_numbers_107 : decode cX7_numbers 107 = .ok (.if_icmp .eq 5, 3) := by decide +kernel
theorem dX7_numbers_110 : decode cX7_numbers 110 = .ok (.iconst 0, 1) := by decide +kernel
theorem dX7_numbers_111 : decode cX7_numbers 111 = .ok (.ireturn, 1) := by decide +kernel
theorem dX7_numbers_112 : decode cX7_numbers 112 = .ok (.aload_n 0, 1) := by decide +kernel
theorem dX7_numbers_113 : decode cX7_numbers 113 = .ok (.getfield 37, 3) := by decide +kernel
theorem dX7_numbers_116 : decode cX7_numbers 116 = .ok (.iload_n 2, 1) := by decide +kernel
theorem dX7_numbers_117 : decode cX7_numbers 117 = .ok (.iload 4, 2) := by decide +kernel
theorem dX7_numbers_119 : decode cX7_numbers 119 = .ok (.iastore, 1) := by decide +kernel
theorem dX7_numbers_120 : decode cX7_numbers 120 = .ok (.aload_n 0, 1) := by decide +kernel
theorem dX7_numbers_121 : decode cX7_numbers 121 = .ok (.dup, 1) := by decide +kernel
theorem dX7_numbers_122 : decode cX7_numbers 122 = .ok (.getfield 81, 3) := by decide +kernel
theorem dX7_numbers_125 : decode cX7_numbers 125 = .ok (.iconst 1, 1) := by decide +kernel
theorem dX7_numbers_126 : decode cX7_numbers 126 = .ok (.iadd, 1) := by decide +kernel
theorem dX7_numbers_127 : decode cX7_numbers 127 = .ok (.putfield 81, 3) := by decide +kernel
theorem dX7_numbers_130 : decode cX7_numbers 130 = .ok (.iinc 2 1, 3) := by decide +kernel
theorem dX7_numbers_133 : decode cX7_numbers 133 = .ok (.goto (-131), 3) := by decide +kernel
theorem dX7_numbers_136 : decode cX7_numbers 136 = .ok (.iconst 1, 1) := by decide +kernel
theorem dX7_numbers_137 : decode cX7_numbers 137 = .ok (.ireturn, 1) := by decide +kernel
theorem dX7_item_0 : decode cX7_item 0 = .ok (.aload_n 0, 1) := by decide +kernel
theorem dX7_item_1 : decode cX7_item 1 = .ok (.aload_n 0, 1) := by decide +kernel
theorem dX7_item_2 : decode cX7_item 2 = .ok (.getfield 81, 3) := by decide +kernel
theorem dX7_item_5 : decode cX7_item 5 = .ok (.invokevirtual 84, 3) := by decide +kernel
theorem dX7_item_8 : decode cX7_item 8 = .ok (.istore_n 1, 1) := by decide +kernel
theorem dX7_item_9 : decode cX7_item 9 = .ok (.aload_n 0, 1) := by decide +kernel
theorem dX7_item_10 : decode cX7_item 10 = .ok (.dup, 1) := by decide +kernel
theorem dX7_item_11 : decode cX7_item 11 = .ok (.getfield 81, 3) := by decide +kernel
theorem dX7_item_14 : decode cX7_item 14 = .ok (.iconst 1, 1) := by decide +kernel
theorem dX7_item_15 : decode cX7_item 15 = .ok (.iadd, 1) := by decide +kernel
theorem dX7_item_16 : decode cX7_item 16 = .ok (.putfield 81, 3) := by decide +kernel
theorem dX7_item_19 : decode cX7_item 19 = .ok (.iload_n 1, 1) := by decide +kernel
theorem dX7_item_20 : decode cX7_item 20 = .ok (.bipush 118, 2) := by decide +kernel
theorem dX7_item_22 : decode cX7_item 22 = .ok (.if_icmp .ne 44, 3) := by decide +kernel
theorem dX7_item_25 : decode cX7_item 25 = .ok (.aload_n 0, 1) := by decide +kernel
theorem dX7_item_26 : decode cX7_item 26 = .ok (.iconst 1, 1) := by decide +kernel
theorem dX7_item_27 : decode cX7_item 27 = .ok (.invokevirtual 94, 3) := by decide +kernel
theorem dX7_item_30 : decode cX7_item 30 = .ok (.ifCond .eq 22, 3) := by decide +kernel
theorem dX7_item_33 : decode cX7_item 33 = .ok (.aload_n 0, 1) := by decide +kernel
theorem dX7_item_34 : decode cX7_item 34 = .ok (.getfield 63, 3) := by decide +kernel
theorem dX7_item_37 : decode cX7_item 37 = .ok (.bipush 10, 2) := by decide +kernel
theorem dX7_item_39 : decode cX7_item 39 = .ok (.if_icmp .eq 13, 3) := by decide +kernel
theorem dX7_item_42 : decode cX7_item 42 = .ok (.aload_n 0, 1) := by decide +kernel
theorem dX7_item_43 : decode cX7_item 43 = .ok (.getfield 37, 3) := by decide +kernel
theorem dX7_item_46 : decode cX7_item 46 = .ok (.iconst 0, 1) := by decide +kernel
theorem dX7_item_47 : decode cX7_item 47 = .ok (.iaload, 1) := by decide +kernel
theorem dX7_item_48 : decode cX7_item 48 = .ok (.iconst 3, 1) := by decide +kernel
theorem dX7_item_49 : decode cX7_item 49 = .ok (.if_icmp .le 5, 3) := by decide +kernel
theorem dX7_item_52 : decode cX7_item 52 = .ok (.iconst 0, 1) := by decide +kernel
theorem dX7_item_53 : decode cX7_item 53 = .ok (.ireturn, 1) := by decide +kernel
theorem dX7_item_54 : decode cX7_item 54 = .ok (.aload_n 0, 1) := by decide +kernel
theorem dX7_item_55 : decode cX7_item 55 = .ok (.aload_n 0, 1) := by decide +kernel
theorem dX7_item_56 : decode cX7_item 56 = .ok (.getfield 37, 3) := by decide +kernel
theorem dX7_item_59 : decode cX7_item 59 = .ok (.iconst 0, 1) := by decide +kernel
theorem dX7_item_60 : decode cX7_item 60 = .ok (.iaload, 1) := by decide +kernel
theorem dX7_item_61 : decode cX7_item 61 = .ok (.invokevirtual 52, 3) := by decide +kernel
theorem dX7_item_64 : decode cX7_item 64 = .ok (.iconst 1, 1) := by decide +kernel
theorem dX7_item_65 : decode cX7_item 65 = .ok (.ireturn, 1) := by decide +kernel
theorem dX7_item_66 : decode cX7_item 66 = .ok (.iload_n 1, 1) := by decide +kernel
theorem dX7_item_67 : decode cX7_item 67 = .ok (.bipush 99, 2) := by decide +kernel
theorem dX7_item_69 : decode cX7_item 69 = .ok (.if_icmp .eq 9, 3) := by decide +kernel
theorem dX7_item_72 : decode cX7_item 72 = .ok (.iload_n 1, 1) := by decide +kernel
theorem dX7_item_73 : decode cX7_item 73 = .ok (.bipush 100, 2) := by decide +kernel
theorem dX7_item_75 : decode cX7_item 75 = .ok (.if_icmp .ne 11, 3) := by decide +kernel
theorem dX7_item_78 : decode cX7_item 78 = .ok (.aload_n 0, 1) := by decide +kernel
theorem dX7_item_79 : decode cX7_item 79 = .ok (.iconst 3, 1) := by decide +kernel
theorem dX7_item_80 : decode cX7_item 80 = .ok (.invokevirtual 94, 3) := by decide +kernel
theorem dX7_item_83 : decode cX7_item 83 = .ok (.ifCond .ne 5, 3) := by decide +kernel
theorem dX7_item_86 : decode cX7_item 86 = .ok (.iconst 0, 1) := by decide +kernel
theorem dX7_item_87 : decode cX7_item 87 = .ok (.ireturn, 1) := by decide +kernel
theorem dX7_item_88 : decode cX7_item 88 = .ok (.aload_n 0, 1) := by decide +kernel
theorem dX7_item_89 : decode cX7_item 89 = .ok (.getfield 37, 3) := by decide +kernel
theorem dX7_item_92 : decode cX7_item 92 = .ok (.iconst 0, 1) := by decide +kernel
theorem dX7_item_93 : decode cX7_item 93 = .ok (.iaload, 1) := by decide +kernel
theorem dX7_item_94 : decode cX7_item 94 = .ok (.istore_n 2, 1) := by decide +kernel
theorem dX7_item_95 : decode cX7_item 95 = .ok (.iload_n 1, 1) := by decide +kernel
theorem dX7_item_96 : decode cX7_item 96 = .ok (.bipush 99, 2) := by decide +kernel
theorem dX7_item_98 : decode cX7_item 98 = .ok (.if_icmp .ne 12, 3) := by decide +kernel
theorem dX7_item_101 : decode cX7_item 101 = .ok (.aload_n 0, 1) := by decide +kernel
theorem dX7_item_102 : decode cX7_item 102 = .ok (.getfield 37, 3) := by decide +kernel
theorem dX7_item_105 : decode cX7_item 105 = .ok (.iconst 2, 1) := by decide +kernel
theorem dX7_item_106 : decode cX7_item 106 = .ok (.iaload, 1) := by decide +kernel
theorem dX7_item_107 : decode cX7_item 107 = .ok (.goto 9, 3) := by decide +kernel
theorem dX7_item_110 : decode cX7_item 110 = .ok (.aload_n 0, 1) := by decide +kernel
theorem dX7_item_111 : decode cX7_item 111 = .ok (.getfield 37, 3) := by decide +kernel
theorem dX7_item_114 : decode cX7_item 114 = .ok (.iconst 1, 1) := by decide +kernel
theorem dX7_item_115 : decode cX7_item 115 = .ok (.iaload, 1) := by decide +kernel
theorem dX7_item_116 : decode cX7_item 116 = .ok (.istore_n 3, 1) := by decide +kernel
theorem dX7_item_117 : decode cX7_item 117 = .ok (.iload_n 1, 1) := by decide +kernel
theorem dX7_item_118 : decode cX7_item 118 = .ok (.bipush 99, 2) := by decide +kernel
theorem dX7_item_120 : decode cX7_item 120 = .ok (.if_icmp .ne 12, 3) := by decide +kernel
theorem dX7_item_123 : decode cX7_item 123 = .ok (.aload_n 0, 1) := by decide +kernel
theorem dX7_item_124 : decode cX7_item 124 = .ok (.getfield 37, 3) := by decide +kernel
theorem dX7_item_127 : decode cX7_item 127 = .ok (.iconst 1, 1) := by decide +kernel
theorem dX7_item_128 : decode cX7_item 128 = .ok (.iaload, 1) := by decide +kernel
theorem dX7_item_129 : decode cX7_item 129 = .ok (.goto 9, 3) := by decide +kernel
theorem dX7_item_132 : decode cX7_item 132 = .ok (.aload_n 0, 1) := by decide +kernel
theorem dX7_item_133 : decode cX7_item 133 = .ok (.getfield 37, 3) := by decide +kernel
theorem dX7_item_136 : decode cX7_item 136 = .ok (.iconst 2, 1) := by decide +kernel
theorem dX7_item_137 : decode cX7_item 137 = .ok (.iaload, 1) := by decide +kernel
theorem dX7_item_138 : decode cX7_item 138 = .ok (.istore 4, 2) := by decide +kernel
theorem dX7_item_140 : decode cX7_item 140 = .ok (.iload_n 2, 1) := by decide +kernel
theorem dX7_item_141 : decode cX7_item 141 = .ok (.aload_n 0, 1) := by decide +kernel
theorem dX7_item_142 : decode cX7_item 142 = .ok (.getfield 63, 3) := by decide +kernel
theorem dX7_item_145 : decode cX7_item 145 = .ok (.if_icmp .ge 23, 3) := by decide +kernel
theorem dX7_item_148 : decode cX7_item 148 = .ok (.iload_n 3, 1) := by decide +kernel
theorem dX7_item_149 : decode cX7_item 149 = .ok (.aload_n 0, 1) := by decide +kernel
theorem dX7_item_150 : decode cX7_item 150 = .ok (.getfield 63, 3) := by decide +kernel
theorem dX7_item_153 : decode cX7_item 153 = .ok (.if_icmp .ge 15, 3) := by decide +kernel
theorem dX7_item_156 : decode cX7_item 156 = .ok (.iload_n 2, 1) := by decide +kernel
theorem dX7_item_157 : decode cX7_item 157 = .ok (.iload_n 3, 1) := by decide +kernel
theorem dX7_item_158 : decode cX7_item 158 = .ok (.if_icmp .eq 10, 3) := by decide +kernel
theorem dX7_item_161 : decode cX7_item 161 = .ok (.iload 4, 2) := by decide +kernel
theorem dX7_item_163 : decode cX7_item 163 = .ok (.bipush 9, 2) := by decide +kernel
theorem dX7_item_165 : decode cX7_item 165 = .ok (.if_icmp .le 5, 3) := by decide +kernel
theorem dX7_item_168 : decode cX7_item 168 = .ok (.iconst 0, 1) := by decide +kernel
theorem dX7_item_169 : decode cX7_item 169 = .ok (.ireturn, 1) := by decide +kernel
theorem dX7_item_170 : decode cX7_item 170 = .ok (.aload_n 0, 1) := by decide +kernel
theorem dX7_item_171 : decode cX7_item 171 = .ok (.iload_n 2, 1) := by decide +kernel
theorem dX7_item_172 : decode cX7_item 172 = .ok (.iload_n 1, 1) := by decide +kernel
theorem dX7_item_173 : decode cX7_item 173 = .ok (.bipush 99, 2) := by decide +kernel
theorem dX7_item_175 : decode cX7_item 175 = .ok (.if_icmp .ne 8, 3) := by decide +kernel
theorem dX7_item_178 : decode cX7_item 178 = .ok (.iload 4, 2) := by decide +kernel
theorem dX7_item_180 : decode cX7_item 180 = .ok (.goto 6, 3) := by decide +kernel
theorem dX7_item_183 : decode cX7_item 183 = .ok (.iload 4, 2) := by decide +kernel
theorem dX7_item_185 : decode cX7_item 185 = .ok (.ineg, 1) := by decide +kernel
theorem dX7_item_186 : decode cX7_item 186 = .ok (.iload_n 3, 1) := by decide +kernel
theorem dX7_item_187 : decode cX7_item 187 = .ok (.invokevirtual 56, 3) := by decide +kernel
theorem dX7_item_190 : decode cX7_item 190 = .ok (.iconst 1, 1) := by decide +kernel
theorem dX7_item_191 : decode cX7_item 191 = .ok (.ireturn, 1) := by decide +kernel
theorem dX7_readAll_0 : decode cX7_readAll 0 = .ok (.aload_n 0, 1) := by decide +kernel
theorem dX7_readAll_1 : decode cX7_readAll 1 = .ok (.invokevirtual 49, 3) := by decide +kernel
theorem dX7_readAll_4 : decode cX7_readAll 4 = .ok (.aload_n 0, 1) := by decide +kernel
theorem dX7_readAll_5 : decode cX7_readAll 5 = .ok (.iconst 0, 1) := by decide +kernel
theorem dX7_readAll_6 : decode cX7_readAll 6 = .ok (.putfield 81, 3) := by decide +kernel
theorem dX7_readAll_9 : decode cX7_readAll 9 = .ok (.aload_n 0, 1) := by decide +kernel
theorem dX7_readAll_10 : decode cX7_readAll 10 = .ok (.getfield 81, 3) := by decide +kernel
theorem dX7_readAll_13 : decode cX7_readAll 13 = .ok (.aload_n 0, 1) := by decide +kernel
theorem dX7_readAll_14 : decode cX7_readAll 14 = .ok (.getfield 78, 3) := by decide +kernel
theorem dX7_readAll_17 : decode cX7_readAll 17 = .ok (.if_icmp .ge 20, 3) := by decide +kernel
theorem dX7_readAll_20 : decode cX7_readAll 20 = .ok (.aload_n 0, 1) := by decide +kernel
theorem dX7_readAll_21 : decode cX7_readAll 21 = .ok (.getfield 81, 3) := by decide +kernel
theorem dX7_readAll_24 : decode cX7_readAll 24 = .ok (.istore_n 1, 1) := by decide +kernel
theorem dX7_readAll_25 : decode cX7_readAll 25 = .ok (.aload_n 0, 1) := by decide +kernel
theorem dX7_readAll_26 : decode cX7_readAll 26 = .ok (.invokevirtual 98, 3) := by decide +kernel
theorem dX7_readAll_29 : decode cX7_readAll 29 = .ok (.ifCond .ne 5, 3) := by decide +kernel
theorem dX7_readAll_32 : decode cX7_readAll 32 = .ok (.iload_n 1, 1) := by decide +kernel
theorem dX7_readAll_33 : decode cX7_readAll 33 = .ok (.ireturn, 1) := by decide +kernel
theorem dX7_readAll_34 : decode cX7_readAll 34 = .ok (.goto (-25), 3) := by decide +kernel
theorem dX7_readAll_37 : decode cX7_readAll 37 = .ok (.bipush (-4), 2) := by decide +kernel
theorem dX7_readAll_39 : decode cX7_readAll 39 = .ok (.ireturn, 1) := by decide +kernel
theorem dX7_fault_0 : decode cX7_fault 0 = .ok (.aload_n 0, 1) := by decide +kernel
theorem dX7_fault_1 : decode cX7_fault 1 = .ok (.invokevirtual 102, 3) := by decide +kernel
theorem dX7_fault_4 : decode cX7_fault 4 = .ok (.ireturn, 1) := by decide +kernel
theorem dX7_lay_0 : decode cX7_lay 0 = .ok (.aload_n 0, 1) := by decide +kernel
theorem dX7_lay_1 : decode cX7_lay 1 = .ok (.invokevirtual 102, 3) := by decide +kernel
theorem dX7_lay_4 : decode cX7_lay 4 = .ok (.bipush (-4), 2) := by decide +kernel
theorem dX7_lay_6 : decode cX7_lay 6 = .ok (.if_icmp .ne 10, 3) := by decide +kernel
theorem dX7_lay_9 : decode cX7_lay 9 = .ok (.aload_n 0, 1) := by decide +kernel
theorem dX7_lay_10 : decode cX7_lay 10 = .ok (.getfield 63, 3) := by decide +kernel
theorem dX7_lay_13 : decode cX7_lay 13 = .ok (.ifCond .ne 6, 3) := by decide +kernel
theorem dX7_lay_16 : decode cX7_lay 16 = .ok (.bipush (-2), 2) := by decide +kernel
theorem dX7_lay_18 : decode cX7_lay 18 = .ok (.ireturn, 1) := by decide +kernel
theorem dX7_lay_19 : decode cX7_lay 19 = .ok (.aload_n 0, 1) := by decide +kernel
theorem dX7_lay_20 : decode cX7_lay 20 = .ok (.invokevirtual 60, 3) := by decide +kernel
theorem dX7_lay_23 : decode cX7_lay 23 = .ok (.aload_n 0, 1) := by decide +kernel
theorem dX7_lay_24 : decode cX7_lay 24 = .ok (.getfield 19, 3) := by decide +kernel
theorem dX7_lay_27 : decode cX7_lay 27 = .ok (.bipush 10, 2) := by decide +kernel
theorem dX7_lay_29 : decode cX7_lay 29 = .ok (.iaload, 1) := by decide +kernel
theorem dX7_lay_30 : decode cX7_lay 30 = .ok (.ireturn, 1) := by decide +kernel
theorem dX7_begin_0 : decode cX7_begin 0 = .ok (.aload_n 0, 1) := by decide +kernel
theorem dX7_begin_1 : decode cX7_begin 1 = .ok (.aload_n 0, 1) := by decide +kernel
theorem dX7_begin_2 : decode cX7_begin 2 = .ok (.getfield 63, 3) := by decide +kernel
theorem dX7_begin_5 : decode cX7_begin 5 = .ok (.putfield 106, 3) := by decide +kernel
theorem dX7_begin_8 : decode cX7_begin 8 = .ok (.iconst 0, 1) := by decide +kernel
theorem dX7_begin_9 : decode cX7_begin 9 = .ok (.istore_n 1, 1) := by decide +kernel
theorem dX7_begin_10 : decode cX7_begin 10 = .ok (.iload_n 1, 1) := by decide +kernel
theorem dX7_begin_11 : decode cX7_begin 11 = .ok (.bipush 59, 2) := by decide +kernel
theorem dX7_begin_13 : decode cX7_begin 13 = .ok (.if_icmp .ge 33, 3) := by decide +kernel
theorem dX7_begin_16 : decode cX7_begin 16 = .ok (.aload_n 0, 1) := by decide +kernel
theorem dX7_begin_17 : decode cX7_begin 17 = .ok (.getfield 19, 3) := by decide +kernel
theorem dX7_begin_20 : decode cX7_begin 20 = .ok (.iload_n 1, 1) := by decide +kernel
theorem dX7_begin_21 : decode cX7_begin 21 = .ok (.iload_n 1, 1) := by decide +kernel
theorem dX7_begin_22 : decode cX7_begin 22 = .ok (.aload_n 0, 1) := by decide +kernel
theorem dX7_begin_23 : decode cX7_begin 23 = .ok (.getfield 106, 3) := by decide +kernel
theorem dX7_begin_26 : decode cX7_begin 26 = .ok (.if_icmp .ge 12, 3) := by decide +kernel
theorem dX7_begin_29 : decode cX7_begin 29 = .ok (.aload_n 0, 1) := by decide +kernel
theorem dX7_begin_30 : decode cX7_begin 30 = .ok (.getfield 16, 3) := by decide +kernel
theorem dX7_begin_33 : decode cX7_begin 33 = .ok (.iload_n 1, 1) := by decide +kernel
theorem dX7_begin_34 : decode cX7_begin 34 = .ok (.iaload, 1) := by decide +kernel
theorem dX7_begin_35 : decode cX7_begin 35 = .ok (.goto 4, 3) := by decide +kernel
theorem dX7_begin_38 : decode cX7_begin 38 = .ok (.iconst 0, 1) := by decide +kernel
theorem dX7_begin_39 : decode cX7_begin 39 = .ok (.iastore, 1) := by decide +kernel
theorem dX7_begin_40 : decode cX7_begin 40 = .ok (.iinc 1 1, 3) := by decide +kernel
theorem dX7_begin_43 : decode cX7_begin 43 = .ok (.goto (-33), 3) := by decide +kernel
theorem dX7_begin_46 : decode cX7_begin 46 = .ok (.aload_n 0, 1) := by decide +kernel
theorem dX7_begin_47 : decode cX7_begin 47 = .ok (.iconst 0, 1) := by decide +kernel
theorem dX7_begin_48 : decode cX7_begin 48 = .ok (.putfield 109, 3) := by decide +kernel
theorem dX7_begin_51 : decode cX7_begin 51 = .ok (.aload_n 0, 1) := by decide +kernel
theorem dX7_begin_52 : decode cX7_begin 52 = .ok (.iconst 0, 1) := by decide +kernel
theorem dX7_begin_53 : decode cX7_begin 53 = .ok (.putfield 112, 3) := by decide +kernel
theorem dX7_begin_56 : decode cX7_begin 56 = .ok (.iconst 0, 1) := by decide +kernel
theorem dX7_begin_57 : decode cX7_begin 57 = .ok (.istore_n 1, 1) := by decide +kernel
theorem dX7_begin_58 : decode cX7_begin 58 = .ok (.iload_n 1, 1) := by decide +kernel
theorem dX7_begin_59 : decode cX7_begin 59 = .ok (.aload_n 0, 1) := by decide +kernel
theorem dX7_begin_60 : decode cX7_begin 60 = .ok (.getfield 67, 3) := by decide +kernel
theorem dX7_begin_63 : decode cX7_begin 63 = .ok (.if_icmp .ge 88, 3) := by decide +kernel
theorem dX7_begin_66 : decode cX7_begin 66 = .ok (.aload_n 0, 1) := by decide +kernel
theorem dX7_begin_67 : decode cX7_begin 67 = .ok (.aload_n 0, 1) := by decide +kernel
theorem dX7_begin_68 : decode cX7_begin 68 = .ok (.getfield 13, 3) := by decide +kernel
theorem dX7_begin_71 : decode cX7_begin 71 = .ok (.iconst 4, 1) := by decide +kernel
theorem dX7_begin_72 : decode cX7_begin 72 = .ok (.iload_n 1, 1) := by decide +kernel
theorem dX7_begin_73 : decode cX7_begin 73 = .ok (.imul, 1) := by decide +kernel
theorem dX7_begin_74 : decode cX7_begin 74 = .ok (.iaload, 1) := by decide +kernel
theorem dX7_begin_75 : decode cX7_begin 75 = .ok (.aload_n 0, 1) := by decide +kernel
theorem dX7_begin_76 : decode cX7_begin 76 = .ok (.getfield 13, 3) := by decide +kernel
theorem dX7_begin_79 : decode cX7_begin 79 = .ok (.iconst 4, 1) := by decide +kernel
theorem dX7_begin_80 : decode cX7_begin 80 = .ok (.iload_n 1, 1) := by decide +kernel
theorem dX7_begin_81 : decode cX7_begin 81 = .ok (.imul, 1) := by decide +kernel
theorem dX7_begin_82 : decode cX7_begin 82 = .ok (.iconst 1, 1) := by decide +kernel
theorem dX7_begin_83 : decode cX7_begin 83 = .ok (.iadd, 1) := by decide +kernel
theorem dX7_begin_84 : decode cX7_begin 84 = .ok (.iaload, 1) := by decide +kernel
theorem dX7_begin_85 : decode cX7_begin 85 = .ok (.aload_n 0, 1) := by decide +kernel
theorem dX7_begin_86 : decode cX7_begin 86 = .ok (.getfield 13, 3) := by decide +kernel
theorem dX7_begin_89 : decode cX7_begin 89 = .ok (.iconst 4, 1) := by decide +kernel
theorem dX7_begin_90 : decode cX7_begin 90 = .ok (.iload_n 1, 1) := by decide +kernel
theorem dX7_begin_91 : decode cX7_begin 91 = .ok (.imul, 1) := by decide +kernel
theorem dX7_begin_92 : decode cX7_begin 92 = .ok (.iconst 2, 1) := by decide +kernel
theorem dX7_begin_93 : decode cX7_begin 93 = .ok (.iadd, 1) := by decide +kernel
theorem dX7_begin_94 : decode cX7_begin 94 = .ok (.iaload, 1) := by decide +kernel
theorem dX7_begin_95 : decode cX7_begin 95 = .ok (.invokevirtual 115, 3) := by decide +kernel
theorem dX7_begin_98 : decode cX7_begin 98 = .ok (.ifCond .eq 47, 3) := by decide +kernel
theorem dX7_begin_101 : decode cX7_begin 101 = .ok (.aload_n 0, 1) := by decide +kernel
theorem dX7_begin_102 : decode cX7_begin 102 = .ok (.getfield 19, 3) := by decide +kernel
theorem dX7_begin_105 : decode cX7_begin 105 = .ok (.bipush 10, 2) := by decide +kernel
theorem dX7_begin_107 : decode cX7_begin 107 = .ok (.iaload, 1) := by decide +kernel
theorem dX7_begin_108 : decode cX7_begin 108 = .ok (.bipush 16, 2) := by decide +kernel
theorem dX7_begin_110 : decode cX7_begin 110 = .ok (.if_icmp .ge 35, 3) := by decide +kernel
theorem dX7_begin_113 : decode cX7_begin 113 = .ok (.aload_n 0, 1) := by decide +kernel
theorem dX7_begin_114 : decode cX7_begin 114 = .ok (.aload_n 0, 1) := by decide +kernel
theorem dX7_begin_115 : decode cX7_begin 115 = .ok (.getfield 13, 3) := by decide +kernel
theorem dX7_begin_118 : decode cX7_begin 118 = .ok (.iconst 4, 1) := by decide +kernel
theorem dX7_begin_119 : decode cX7_begin 119 = .ok (.iload_n 1, 1) := by decide +kernel
theorem dX7_begin_120 : decode cX7_begin 120 = .ok (.imul, 1) := by decide +kernel
theorem dX7_begin_121 : decode cX7_begin 121 = .ok (.iaload, 1) := by decide +kernel
theorem dX7_begin_122 : decode cX7_begin 122 = .ok (.aload_n 0, 1) := by decide +kernel
theorem dX7_begin_123 : decode cX7_begin 123 = .ok (.getfield 13, 3) := by decide +kernel
theorem dX7_begin_126 : decode cX7_begin 126 = .ok (.iconst 4, 1) := by decide +kernel
theorem dX7_begin_127 : decode cX7_begin 127 = .ok (.iload_n 1, 1) := by decide +kernel
theorem dX7_begin_128 : decode cX7_begin 128 = .ok (.imul, 1) := by decide +kernel
theorem dX7_begin_129 : decode cX7_begin 129 = .ok (.iconst 1, 1) := by decide +kernel
theorem dX7_begin_130 : decode cX7_begin 130 = .ok (.iadd, 1) := by decide +kernel
theorem dX7_begin_131 : decode cX7_begin 131 = .ok (.iaload, 1) := by decide +kernel
theorem dX7_begin_132 : decode cX7_begin 132 = .ok (.aload_n 0, 1) := by decide +kernel
theorem dX7_begin_133 : decode cX7_begin 133 = .ok (.getfield 13, 3) := by decide +kernel
theorem dX7_begin_136 : decode cX7_begin 136 = .ok (.iconst 4, 1) := by decide +kernel
theorem dX7_begin_137 : decode cX7_begin 137 = .ok (.iload_n 1, 1) := by decide +kernel
theorem dX7_begin_138 : decode cX7_begin 138 = .ok (.imul, 1) := by decide +kernel
theorem dX7_begin_139 : decode cX7_begin 139 = .ok (.iconst 2, 1) := by decide +kernel
theorem dX7_begin_140 : decode cX7_begin 140 = .ok (.iadd, 1) := by decide +kernel
theorem dX7_begin_141 : decode cX7_begin 141 = .ok (.iaload, 1) := by decide +kernel
theorem dX7_begin_142 : decode cX7_begin 142 = .ok (.invokevirtual 119, 3) := by decide +kernel
theorem dX7_begin_145 : decode cX7_begin 145 = .ok (.iinc 1 1, 3) := by decide +kernel
theorem dX7_begin_148 : decode cX7_begin 148 = .ok (.goto (-90), 3) := by decide +kernel
theorem dX7_begin_151 : decode cX7_begin 151 = .ok (.aload_n 0, 1) := by decide +kernel
theorem dX7_begin_152 : decode cX7_begin 152 = .ok (.iconst 0, 1) := by decide +kernel
theorem dX7_begin_153 : decode cX7_begin 153 = .ok (.putfield 122, 3) := by decide +kernel
theorem dX7_begin_156 : decode cX7_begin 156 = .ok (.aload_n 0, 1) := by decide +kernel
theorem dX7_begin_157 : decode cX7_begin 157 = .ok (.iconst 0, 1) := by decide +kernel
theorem dX7_begin_158 : decode cX7_begin 158 = .ok (.putfield 125, 3) := by decide +kernel
theorem dX7_begin_161 : decode cX7_begin 161 = .ok (.aload_n 0, 1) := by decide +kernel
theorem dX7_begin_162 : decode cX7_begin 162 = .ok (.iconst 0, 1) := by decide +kernel
theorem dX7_begin_163 : decode cX7_begin 163 = .ok (.putfield 128, 3) := by decide +kernel
theorem dX7_begin_166 : decode cX7_begin 166 = .ok (.return_, 1) := by decide +kernel
theorem dX7_isLevel_0 : decode cX7_isLevel 0 = .ok (.iload_n 1, 1) := by decide +kernel
theorem dX7_isLevel_1 : decode cX7_isLevel 1 = .ok (.i2l, 1) := by decide +kernel
theorem dX7_isLevel_2 : decode cX7_isLevel 2 = .ok (.lconst 0, 1) := by decide +kernel
theorem dX7_isLevel_3 : decode cX7_isLevel 3 = .ok (.aload_n 0, 1) := by decide +kernel
theorem dX7_isLevel_4 : decode cX7_isLevel 4 = .ok (.getfield 106, 3) := by decide +kernel
theorem dX7_isLevel_7 : decode cX7_isLevel 7 = .ok (.iconst 1, 1) := by decide +kernel
theorem dX7_isLevel_8 : decode cX7_isLevel 8 = .ok (.isub, 1) := by decide +kernel
theorem dX7_isLevel_9 : decode cX7_isLevel 9 = .ok (.i2l, 1) := by decide +kernel
theorem dX7_isLevel_10 : decode cX7_isLevel 10 = .ok (.invokestatic 74, 3) := by decide +kernel
theorem dX7_isLevel_13 : decode cX7_isLevel 13 = .ok (.ireturn, 1) := by decide +kernel
theorem dX7_isAdd_0 : decode cX7_isAdd 0 = .ok (.iload_n 0, 1) := by decide +kernel
theorem dX7_isAdd_1 : decode cX7_isAdd 1 = .ok (.i2l, 1) := by decide +kernel
theorem dX7_isAdd_2 : decode cX7_isAdd 2 = .ok (.ldc2_w 131, 3) := by decide +kernel
theorem dX7_isAdd_5 : decode cX7_isAdd 5 = .ok (.ldc2_w 133, 3) := by decide +kernel
theorem dX7_isAdd_8 : decode cX7_isAdd 8 = .ok (.invokestatic 74, 3) := by decide +kernel
theorem dX7_isAdd_11 : decode cX7_isAdd 11 = .ok (.ireturn, 1) := by decide +kernel
theorem dX7_isWay_0 : decode cX7_isWay 0 = .ok (.iload_n 0, 1) := by decide +kernel
theorem dX7_isWay_1 : decode cX7_isWay 1 = .ok (.ldc 135, 2) := by decide +kernel
theorem dX7_isWay_3 : decode cX7_isWay 3 = .ok (.if_icmp .le 7, 3) := by decide +kernel
theorem dX7_isWay_6 : decode cX7_isWay 6 = .ok (.iconst 1, 1) := by decide +kernel
theorem dX7_isWay_7 : decode cX7_isWay 7 = .ok (.goto 4, 3) := by decide +kernel
theorem dX7_isWay_10 : decode cX7_isWay 10 = .ok (.iconst 0, 1) := by decide +kernel
theorem dX7_isWay_11 : decode cX7_isWay 11 = .ok (.ireturn, 1) := by decide +kernel
theorem dX7_findBut_0 : decode cX7_findBut 0 = .ok (.iconst 0, 1) := by decide +kernel
theorem dX7_findBut_1 : decode cX7_findBut 1 = .ok (.istore_n 2, 1) := by decide +kernel
theorem dX7_findBut_2 : decode cX7_findBut 2 = .ok (.iload_n 2, 1) := by decide +kernel
theorem dX7_findBut_3 : decode cX7_findBut 3 = .ok (.bipush 100, 2) := by decide +kernel
theorem dX7_findBut_5 : decode cX7_findBut 5 = .ok (.if_icmp .ge 17, 3) := by decide +kernel
theorem dX7_findBut_8 : decode cX7_findBut 8 = .ok (.aload_n 0, 1) := by decide +kernel
theorem dX7_findBut_9 : decode cX7_findBut 9 = .ok (.getfield 43, 3) := by decide +kernel
theorem dX7_findBut_12 : decode cX7_findBut 12 = .ok (.iload_n 2, 1) := by decide +kernel
theorem dX7_findBut_13 : decode cX7_findBut 13 = .ok (.ldc 136, 2) := by decide +kernel
theorem dX7_findBut_15 : decode cX7_findBut 15 = .ok (.iastore, 1) := by decide +kernel
theorem dX7_findBut_16 : decode cX7_findBut 16 = .ok (.iinc 2 1, 3) := by decide +kernel
theorem dX7_findBut_19 : decode cX7_findBut 19 = .ok (.goto (-17), 3) := by decide +kernel
theorem dX7_findBut_22 : decode cX7_findBut 22 = .ok (.iconst 0, 1) := by decide +kernel
theorem dX7_findBut_23 : decode cX7_findBut 23 = .ok (.istore_n 2, 1) := by decide +kernel
theorem dX7_findBut_24 : decode cX7_findBut 24 = .ok (.iload_n 2, 1) := by decide +kernel
theorem dX7_findBut_25 : decode cX7_findBut 25 = .ok (.aload_n 0, 1) := by decide +kernel
theorem dX7_findBut_26 : decode cX7_findBut 26 = .ok (.getfield 19, 3) := by decide +kernel
theorem dX7_findBut_29 : decode cX7_findBut 29 = .ok (.bipush 10, 2) := by decide +kernel
theorem dX7_findBut_31 : decode cX7_findBut 31 = .ok (.iaload, 1) := by decide +kernel
theorem dX7_findBut_32 : decode cX7_findBut 32 = .ok (.if_icmp .ge 82, 3) := by decide +kernel
theorem dX7_findBut_35 : decode cX7_findBut 35 = .ok (.bipush 10, 2) := by decide +kernel
theorem dX7_findBut_37 : decode cX7_findBut 37 = .ok (.aload_n 0, 1) := by decide +kernel
theorem dX7_findBut_38 : decode cX7_findBut 38 = .ok (.getfield 19, 3) := by decide +kernel
theorem dX7_findBut_41 : decode cX7_findBut 41 = .ok (.bipush 11, 2) := by decide +kernel
theorem dX7_findBut_43 : decode cX7_findBut 43 = .ok (.iload_n 2, 1) := by decide +kernel
theorem dX7_findBut_44 : decode cX7_findBut 44 = .ok (.iadd, 1) := by decide +kernel
theorem dX7_findBut_45 : decode cX7_findBut 45 = .ok (.iaload, 1) := by decide +kernel
theorem dX7_findBut_46 : decode cX7_findBut 46 = .ok (.imul, 1) := by decide +kernel
theorem dX7_findBut_47 : decode cX7_findBut 47 = .ok (.aload_n 0, 1) := by decide +kernel
theorem dX7_findBut_48 : decode cX7_findBut 48 = .ok (.getfield 19, 3) := by decide +kernel
theorem dX7_findBut_51 : decode cX7_findBut 51 = .ok (.bipush 27, 2) := by decide +kernel
theorem dX7_findBut_53 : decode cX7_findBut 53 = .ok (.iload_n 2, 1) := by decide +kernel
theorem dX7_findBut_54 : decode cX7_findBut 54 = .ok (.iadd, 1) := by decide +kernel
theorem dX7_findBut_55 : decode cX7_findBut 55 = .ok (.iaload, 1) := by decide +kernel
theorem dX7_findBut_56 : decode cX7_findBut 56 = .ok (.iadd, 1) := by decide +kernel
theorem dX7_findBut_57 : decode cX7_findBut 57 = .ok (.istore_n 3, 1) := by decide +kernel
theorem dX7_findBut_58 : decode cX7_findBut 58 = .ok (.aload_n 0, 1) := by decide +kernel
theorem dX7_findBut_59 : decode cX7_findBut 59 = .ok (.getfield 43, 3) := by decide +kernel
theorem dX7_findBut_62 : decode cX7_findBut 62 = .ok (.iload_n 3, 1) := by decide +kernel
theorem dX7_findBut_63 : decode cX7_findBut 63 = .ok (.iload_n 1, 1) := by decide +kernel
theorem dX7_findBut_64 : decode cX7_findBut 64 = .ok (.iload_n 2, 1) := by decide +kernel
theorem dX7_findBut_65 : decode cX7_findBut 65 = .ok (.invokestatic 137, 3) := by decide +kernel
theorem dX7_findBut_68 : decode cX7_findBut 68 = .ok (.ifCond .ne 33, 3) := by decide +kernel
theorem dX7_findBut_71 : decode cX7_findBut 71 = .ok (.aload_n 0, 1) := by decide +kernel
theorem dX7_findBut_72 : decode cX7_findBut 72 = .ok (.getfield 19, 3) := by decide +kernel
theorem dX7_findBut_75 : decode cX7_findBut 75 = .ok (.bipush 43, 2) := by decide +kernel
theorem dX7_findBut_77 : decode cX7_findBut 77 = .ok (.iload_n 2, 1) := by decide +kernel
theorem dX7_findBut_78 : decode cX7_findBut 78 = .ok (.iadd, 1) := by decide +kernel
theorem dX7_findBut_79 : decode cX7_findBut 79 = .ok (.iaload, 1) := by decide +kernel
theorem dX7_findBut_80 : decode cX7_findBut 80 = .ok (.aload_n 0, 1) := by decide +kernel
theorem dX7_findBut_81 : decode cX7_findBut 81 = .ok (.getfield 43, 3) := by decide +kernel
theorem dX7_findBut_84 : decode cX7_findBut 84 = .ok (.iload_n 3, 1) := by decide +kernel
theorem dX7_findBut_85 : decode cX7_findBut 85 = .ok (.iaload, 1) := by decide +kernel
theorem dX7_findBut_86 : decode cX7_findBut 86 = .ok (.if_icmp .le 15, 3) := by decide +kernel
theorem dX7_findBut_89 : decode cX7_findBut 89 = .ok (.aload_n 0, 1) := by decide +kernel
theorem dX7_findBut_90 : decode cX7_findBut 90 = .ok (.getfield 19, 3) := by decide +kernel
theorem dX7_findBut_93 : decode cX7_findBut 93 = .ok (.bipush 43, 2) := by decide +kernel
theorem dX7_findBut_95 : decode cX7_findBut 95 = .ok (.iload_n 2, 1) := by decide +kernel
theorem dX7_findBut_96 : decode cX7_findBut 96 = .ok (.iadd, 1) := by decide +kernel
theorem dX7_findBut_97 : decode cX7_findBut 97 = .ok (.iaload, 1) := by decide +kernel
theorem dX7_findBut_98 : decode cX7_findBut 98 = .ok (.goto 9, 3) := by decide +kernel
theorem dX7_findBut_101 : decode cX7_findBut 101 = .ok (.aload_n 0, 1) := by decide +kernel
theorem dX7_findBut_102 : decode cX7_findBut 102 = .ok (.getfield 43, 3) := by decide +kernel
theorem dX7_findBut_105 : decode cX7_findBut 105 = .ok (.iload_n 3, 1) := by decide +kernel
theorem dX7_findBut_106 : decode cX7_findBut 106 = .ok (.iaload, 1) := by decide +kernel
theorem dX7_findBut_107 : decode cX7_findBut 107 = .ok (.iastore, 1) := by decide +kernel
theorem dX7_findBut_108 : decode cX7_findBut 108 = .ok (.iinc 2 1, 3) := by decide +kernel
theorem dX7_findBut_111 : decode cX7_findBut 111 = .ok (.goto (-87), 3) := by decide +kernel
theorem dX7_findBut_114 : decode cX7_findBut 114 = .ok (.iconst 0, 1) := by decide +kernel
theorem dX7_findBut_115 : decode cX7_findBut 115 = .ok (.istore_n 2, 1) := by decide +kernel
theorem dX7_findBut_116 : decode cX7_findBut 116 = .ok (.iload_n 2, 1) := by decide +kernel
theorem dX7_findBut_117 : decode cX7_findBut 117 = .ok (.bipush 100, 2) := by decide +kernel
theorem dX7_findBut_119 : decode cX7_findBut 119 = .ok (.if_icmp .ge 41, 3) := by decide +kernel
theorem dX7_findBut_122 : decode cX7_findBut 122 = .ok (.aload_n 0, 1) := by decide +kernel
theorem dX7_findBut_123 : decode cX7_findBut 123 = .ok (.getfield 40, 3) := by decide +kernel
theorem dX7_findBut_126 : decode cX7_findBut 126 = .ok (.iload_n 2, 1) := by decide +kernel
theorem dX7_findBut_127 : decode cX7_findBut 127 = .ok (.iload_n 2, 1) := by decide +kernel
theorem dX7_findBut_128 : decode cX7_findBut 128 = .ok (.bipush 11, 2) := by decide +kernel
theorem dX7_findBut_130 : decode cX7_findBut 130 = .ok (.irem, 1) := by decide +kernel
theorem dX7_findBut_131 : decode cX7_findBut 131 = .ok (.ifCond .ne 16, 3) := by decide +kernel
theorem dX7_findBut_134 : decode cX7_findBut 134 = .ok (.aload_n 0, 1) := by decide +kernel
theorem dX7_findBut_135 : decode cX7_findBut 135 = .ok (.getfield 43, 3) := by decide +kernel
theorem dX7_findBut_138 : decode cX7_findBut 138 = .ok (.iload_n 2, 1) := by decide +kernel
theorem dX7_findBut_139 : decode cX7_findBut 139 = .ok (.iaload, 1) := by decide +kernel
theorem dX7_findBut_140 : decode cX7_findBut 140 = .ok (.ifCond .ge 7, 3) := by decide +kernel
theorem dX7_findBut_143 : decode cX7_findBut 143 = .ok (.iconst 0, 1) := by decide +kernel
theorem dX7_findBut_144 : decode cX7_findBut 144 = .ok (.goto 9, 3) := by decide +kernel
theorem dX7_findBut_147 : decode cX7_findBut 147 = .ok (.aload_n 0, 1) := by decide +kernel
theorem dX7_findBut_148 : decode cX7_findBut 148 = .ok (.getfield 43, 3) := by decide +kernel
theorem dX7_findBut_151 : decode cX7_findBut 151 = .ok (.iload_n 2, 1) := by decide +kernel
theorem dX7_findBut_152 : decode cX7_findBut 152 = .ok (.iaload, 1) := by decide +kernel
theorem dX7_findBut_153 : decode cX7_findBut 153 = .ok (.iastore, 1) := by decide +kernel
theorem dX7_findBut_154 : decode cX7_findBut 154 = .ok (.iinc 2 1, 3) := by decide +kernel
theorem dX7_findBut_157 : decode cX7_findBut 157 = .ok (.goto (-41), 3) := by decide +kernel
theorem dX7_findBut_160 : decode cX7_findBut 160 = .ok (.iconst 0, 1) := by decide +kernel
theorem dX7_findBut_161 : decode cX7_findBut 161 = .ok (.istore_n 2, 1) := by decide +kernel
theorem dX7_findBut_162 : decode cX7_findBut 162 = .ok (.iload_n 2, 1) := by decide +kernel
theorem dX7_findBut_163 : decode cX7_findBut 163 = .ok (.aload_n 0, 1) := by decide +kernel
theorem dX7_findBut_164 : decode cX7_findBut 164 = .ok (.getfield 106, 3) := by decide +kernel
theorem dX7_findBut_167 : decode cX7_findBut 167 = .ok (.if_icmp .ge 123, 3) := by decide +kernel
theorem dX7_findBut_170 : decode cX7_findBut 170 = .ok (.iconst 0, 1) := by decide +kernel
theorem dX7_findBut_171 : decode cX7_findBut 171 = .ok (.istore_n 3, 1) := by decide +kernel
theorem dX7_findBut_172 : decode cX7_findBut 172 = .ok (.iload_n 3, 1) := by decide +kernel
theorem dX7_findBut_173 : decode cX7_findBut 173 = .ok (.aload_n 0, 1) := by decide +kernel
theorem dX7_findBut_174 : decode cX7_findBut 174 = .ok (.getfield 106, 3) := by decide +kernel
theorem dX7_findBut_177 : decode cX7_findBut 177 = .ok (.if_icmp .ge 107, 3) := by decide +kernel
theorem dX7_findBut_180 : decode cX7_findBut 180 = .ok (.iconst 0, 1) := by decide +kernel
theorem dX7_findBut_181 : decode cX7_findBut 181 = .ok (.istore 4, 2) := by decide +kernel
theorem dX7_findBut_183 : decode cX7_findBut 183 = .ok (.iload 4, 2) := by decide +kernel
theorem dX7_findBut_185 : decode cX7_findBut 185 = .ok (.aload_n 0, 1) := by decide +kernel
theorem dX7_findBut_186 : decode cX7_findBut 186 = .ok (.getfield 106, 3) := by decide +kernel
theorem dX7_findBut_189 : decode cX7_findBut 189 = .ok (.if_icmp .ge 89, 3) := by decide +kernel
theorem dX7_findBut_192 : decode cX7_findBut 192 = .ok (.aload_n 0, 1) := by decide +kernel
theorem dX7_findBut_193 : decode cX7_findBut 193 = .ok (.getfield 40, 3) := by decide +kernel
theorem dX7_findBut_196 : decode cX7_findBut 196 = .ok (.bipush 10, 2) := by decide +kernel
theorem dX7_findBut_198 : decode cX7_findBut 198 = .ok (.iload_n 3, 1) := by decide +kernel
theorem dX7_findBut_199 : decode cX7_findBut 199 = .ok (.imul, 1) := by decide +kernel
theorem dX7_findBut_200 : decode cX7_findBut 200 = .ok (.iload_n 2, 1) := by decide +kernel
theorem dX7_findBut_201 : decode cX7_findBut 201 = .ok (.iadd, 1) := by decide +kernel
theorem dX7_findBut_202 : decode cX7_findBut 202 = .ok (.iaload, 1) := by decide +kernel
theorem dX7_findBut_203 : decode cX7_findBut 203 = .ok (.istore 5, 2) := by decide +kernel
theorem dX7_findBut_205 : decode cX7_findBut 205 = .ok (.aload_n 0, 1) := by decide +kernel
theorem dX7_findBut_206 : decode cX7_findBut 206 = .ok (.getfield 40, 3) := by decide +kernel
theorem dX7_findBut_209 : decode cX7_findBut 209 = .ok (.bipush 10, 2) := by decide +kernel
theorem dX7_findBut_211 : decode cX7_findBut 211 = .ok (.iload_n 2, 1) := by decide +kernel
theorem dX7_findBut_212 : decode cX7_findBut 212 = .ok (.imul, 1) := by decide +kernel
theorem dX7_findBut_213 : decode cX7_findBut 213 = .ok (.iload 4, 2) := by decide +kernel
theorem dX7_findBut_215 : decode cX7_findBut 215 = .ok (.iadd, 1) := by decide +kernel
theorem dX7_findBut_216 : decode cX7_findBut 216 = .ok (.iaload, 1) := by decide +kernel
theorem dX7_findBut_217 : decode cX7_findBut 217 = .ok (.istore 6, 2) := by decide +kernel
theorem dX7_findBut_219 : decode cX7_findBut 219 = .ok (.iload 5, 2) := by decide +kernel
theorem dX7_findBut_221 : decode cX7_findBut 221 = .ok (.invokestatic 141, 3) := by decide +kernel
theorem dX7_findBut_224 : decode cX7_findBut 224 = .ok (.ifCond .eq 48, 3) := by decide +kernel
theorem dX7_findBut_227 : decode cX7_findBut 227 = .ok (.iload 6, 2) := by decide +kernel
theorem dX7_findBut_229 : decode cX7_findBut 229 = .ok (.invokestatic 141, 3) := by decide +kernel
theorem dX7_findBut_232 : decode cX7_findBut 232 = .ok (.ifCond .eq 40, 3) := by decide +kernel
theorem dX7_findBut_235 : decode cX7_findBut 235 = .ok (.iload 5, 2) := by decide +kernel
theorem dX7_findBut_237 : decode cX7_findBut 237 = .ok (.iload 6, 2) := by decide +kernel
theorem dX7_findBut_239 : decode cX7_findBut 239 = .ok (.iadd, 1) := by decide +kernel
theorem dX7_findBut_240 : decode cX7_findBut 240 = .ok (.aload_n 0, 1) := by decide +kernel
theorem dX7_findBut_241 : decode cX7_findBut 241 = .ok (.getfield 40, 3) := by decide +kernel
theorem dX7_findBut_244 : decode cX7_findBut 244 = .ok (.bipush 10, 2) := by decide +kernel
theorem dX7_findBut_246 : decode cX7_findBut 246 = .ok (.iload_n 3, 1) := by decide +kernel
theorem dX7_findBut_247 : decode cX7_findBut 247 = .ok (.imul, 1) := by decide +kernel
theorem dX7_findBut_248 : decode cX7_findBut 248 = .ok (.iload 4, 2) := by decide +kernel
theorem dX7_findBut_250 : decode cX7_findBut 250 = .ok (.iadd, 1) := by decide +kernel
theorem dX7_findBut_251 : decode cX7_findBut 251 = .ok (.iaload, 1) := by decide +kernel
theorem dX7_findBut_252 : decode cX7_findBut 252 = .ok (.if_icmp .le 20, 3) := by decide +kernel
theorem dX7_findBut_255 : decode cX7_findBut 255 = .ok (.aload_n 0, 1) := by decide +kernel
theorem dX7_findBut_256 : decode cX7_findBut 256 = .ok (.getfield 40, 3) := by decide +kernel
theorem dX7_findBut_259 : decode cX7_findBut 259 = .ok (.bipush 10, 2) := by decide +kernel
theorem dX7_findBut_261 : decode cX7_findBut 261 = .ok (.iload_n 3, 1) := by decide +kernel
theorem dX7_findBut_262 : decode cX7_findBut 262 = .ok (.imul, 1) := by decide +kernel
theorem dX7_findBut_263 : decode cX7_findBut 263 = .ok (.iload 4, 2) := by decide +kernel
theorem dX7_findBut_265 : decode cX7_findBut 265 = .ok (.iadd, 1) := by decide +kernel
theorem dX7_findBut_266 : decode cX7_findBut 266 = .ok (.iload 5, 2) := by decide +kernel
theorem dX7_findBut_268 : decode cX7_findBut 268 = .ok (.iload 6, 2) := by decide +kernel
theorem dX7_findBut_270 : decode cX7_findBut 270 = .ok (.iadd, 1) := by decide +kernel
theorem dX7_findBut_271 : decode cX7_findBut 271 = .ok (.iastore, 1) := by decide +kernel
theorem dX7_findBut_272 : decode cX7_findBut 272 = .ok (.iinc 4 1, 3) := by decide +kernel
theorem dX7_findBut_275 : decode cX7_findBut 275 = .ok (.goto (-92), 3) := by decide +kernel
theorem dX7_findBut_278 : decode cX7_findBut 278 = .ok (.iinc 3 1, 3) := by decide +kernel
theorem dX7_findBut_281 : decode cX7_findBut 281 = .ok (.goto (-109), 3) := by decide +kernel
theorem dX7_findBut_284 : decode cX7_findBut 284 = .ok (.iinc 2 1, 3) := by decide +kernel
theorem dX7_findBut_287 : decode cX7_findBut 287 = .ok (.goto (-125), 3) := by decide +kernel
theorem dX7_findBut_290 : decode cX7_findBut 290 = .ok (.return_, 1) := by decide +kernel
theorem dX7_find_0 : decode cX7_find 0 = .ok (.aload_n 0, 1) := by decide +kernel
theorem dX7_find_1 : decode cX7_find 1 = .ok (.iconst 0, 1) := by decide +kernel
theorem dX7_find_2 : decode cX7_find 2 = .ok (.invokevirtual 144, 3) := by decide +kernel
theorem dX7_find_5 : decode cX7_find 5 = .ok (.return_, 1) := by decide +kernel
theorem dX7_weightTo_0 : decode cX7_weightTo 0 = .ok (.aload_n 0, 1) := by decide +kernel
theorem dX7_weightTo_1 : decode cX7_weightTo 1 = .ok (.getfield 19, 3) := by decide +kernel
theorem dX7_weightTo_4 : decode cX7_weightTo 4 = .ok (.iload_n 2, 1) := by decide +kernel
theorem dX7_weightTo_5 : decode cX7_weightTo 5 = .ok (.iaload, 1) := by decide +kernel
theorem dX7_weightTo_6 : decode cX7_weightTo 6 = .ok (.iconst 2, 1) := by decide +kernel
theorem dX7_weightTo_7 : decode cX7_weightTo 7 = .ok (.if_icmp .ne 9, 3) := by decide +kernel
theorem dX7_weightTo_10 : decode cX7_weightTo 10 = .ok (.iload_n 1, 1) := by decide +kernel
theorem dX7_weightTo_11 : decode cX7_weightTo 11 = .ok (.iconst 1, 1) := by decide +kernel
theorem dX7_weightTo_12 : decode cX7_weightTo 12 = .ok (.iadd, 1) := by decide +kernel
theorem dX7_weightTo_13 : decode cX7_weightTo 13 = .ok (.goto 20, 3) := by decide +kernel
theorem dX7_weightTo_16 : decode cX7_weightTo 16 = .ok (.aload_n 0, 1) := by decide +kernel
theorem dX7_weightTo_17 : decode cX7_weightTo 17 = .ok (.getfield 19, 3) := by decide +kernel
theorem dX7_weightTo_20 : decode cX7_weightTo 20 = .ok (.iload_n 2, 1) := by decide +kernel
theorem dX7_weightTo_21 : decode cX7_weightTo 21 = .ok (.iaload, 1) := by decide +kernel
theorem dX7_weightTo_22 : decode cX7_weightTo 22 = .ok (.iconst 3, 1) := by decide +kernel
theorem dX7_weightTo_23 : decode cX7_weightTo 23 = .ok (.if_icmp .ne 9, 3) := by decide +kernel
theorem dX7_weightTo_26 : decode cX7_weightTo 26 = .ok (.iload_n 1, 1) := by decide +kernel
theorem dX7_weightTo_27 : decode cX7_weightTo 27 = .ok (.iconst 1, 1) := by decide +kernel
theorem dX7_weightTo_28 : decode cX7_weightTo 28 = .ok (.isub, 1) := by decide +kernel
theorem dX7_weightTo_29 : decode cX7_weightTo 29 = .ok (.goto 4, 3) := by decide +kernel
theorem dX7_weightTo_32 : decode cX7_weightTo 32 = .ok (.iload_n 1, 1) := by decide +kernel
theorem dX7_weightTo_33 : decode cX7_weightTo 33 = .ok (.ireturn, 1) := by decide +kernel
theorem dX7_clashes_0 : decode cX7_clashes 0 = .ok (.iload_n 0, 1) := by decide +kernel
theorem dX7_clashes_1 : decode cX7_clashes 1 = .ok (.invokestatic 141, 3) := by decide +kernel
theorem dX7_clashes_4 : decode cX7_clashes 4 = .ok (.ifCond .eq 13, 3) := by decide +kernel
theorem dX7_clashes_7 : decode cX7_clashes 7 = .ok (.iload_n 0, 1) := by decide +kernel
theorem dX7_clashes_8 : decode cX7_clashes 8 = .ok (.iload_n 1, 1) := by decide +kernel
theorem dX7_clashes_9 : decode cX7_clashes 9 = .ok (.iadd, 1) := by decide +kernel
theorem dX7_clashes_10 : decode cX7_clashes 10 = .ok (.ifCond .le 7, 3) := by decide +kernel
theorem dX7_clashes_13 : decode cX7_clashes 13 = .ok (.iconst 1, 1) := by decide +kernel
theorem dX7_clashes_14 : decode cX7_clashes 14 = .ok (.goto 4, 3) := by decide +kernel
theorem dX7_clashes_17 : decode cX7_clashes 17 = .ok (.iconst 0, 1) := by decide +kernel
theorem dX7_clashes_18 : decode cX7_clashes 18 = .ok (.ireturn, 1) := by decide +kernel
theorem dX7_findRound_0 : decode cX7_findRound 0 = .ok (.iconst 0, 1) := by decide +kernel
theorem dX7_findRound_1 : decode cX7_findRound 1 = .ok (.istore 4, 2) := by decide +kernel
theorem dX7_findRound_3 : decode cX7_findRound 3 = .ok (.iload 4, 2) := by decide +kernel
theorem dX7_findRound_5 : decode cX7_findRound 5 = .ok (.bipush 110, 2) := by decide +kernel
theorem dX7_findRound_7 : decode cX7_findRound 7 = .ok (.if_icmp .ge 28, 3) := by decide +kernel
theorem dX7_findRound_10 : decode cX7_findRound 10 = .ok (.aload_n 0, 1) := by decide +kernel
theorem dX7_findRound_11 : decode cX7_findRound 11 = .ok (.getfield 46, 3) := by decide +kernel
theorem dX7_findRound_14 : decode cX7_findRound 14 = .ok (.iload 4, 2) := by decide +kernel
theorem dX7_findRound_16 : decode cX7_findRound 16 = .ok (.iload 4, 2) := by decide +kernel
theorem dX7_findRound_18 : decode cX7_findRound 18 = .ok (.iload_n 2, 1) := by decide +kernel
theorem dX7_findRound_19 : decode cX7_findRound 19 = .ok (.if_icmp .ne 7, 3) := by decide +kernel
theorem dX7_findRound_22 : decode cX7_findRound 22 = .ok (.iconst 0, 1) := by decide +kernel
theorem dX7_findRound_23 : decode cX7_findRound 23 = .ok (.goto 5, 3) := by decide +kernel
theorem dX7_findRound_26 : decode cX7_findRound 26 = .ok (.ldc 136, 2) := by decide +kernel
theorem dX7_findRound_28 : decode cX7_findRound 28 = .ok (.iastore, 1) := by decide +kernel
theorem dX7_findRound_29 : decode cX7_findRound 29 = .ok (.iinc 4 1, 3) := by decide +kernel
theorem dX7_findRound_32 : decode cX7_findRound 32 = .ok (.goto (-29), 3) := by decide +kernel
theorem dX7_findRound_35 : decode cX7_findRound 35 = .ok (.iconst 0, 1) := by decide +kernel
theorem dX7_findRound_36 : decode cX7_findRound 36 = .ok (.istore 4, 2) := by decide +kernel
theorem dX7_findRound_38 : decode cX7_findRound 38 = .ok (.aload_n 0, 1) := by decide +kernel
theorem dX7_findRound_39 : decode cX7_findRound 39 = .ok (.getfield 46, 3) := by decide +kernel
theorem dX7_findRound_42 : decode cX7_findRound 42 = .ok (.bipush 10, 2) := by decide +kernel
theorem dX7_findRound_44 : decode cX7_findRound 44 = .ok (.iload 4, 2) := by decide +kernel
theorem dX7_findRound_46 : decode cX7_findRound 46 = .ok (.imul, 1) := by decide +kernel
theorem dX7_findRound_47 : decode cX7_findRound 47 = .ok (.iload_n 1, 1) := by decide +kernel
theorem dX7_findRound_48 : decode cX7_findRound 48 = .ok (.iadd, 1) := by decide +kernel
theorem dX7_findRound_49 : decode cX7_findRound 49 = .ok (.iaload, 1) := by decide +kernel
theorem dX7_findRound_50 : decode cX7_findRound 50 = .ok (.aload_n 0, 1) := by decide +kernel
theorem dX7_findRound_51 : decode cX7_findRound 51 = .ok (.getfield 40, 3) := by decide +kernel
theorem dX7_findRound_54 : decode cX7_findRound 54 = .ok (.bipush 10, 2) := by decide +kernel
theorem dX7_findRound_56 : decode cX7_findRound 56 = .ok (.iload_n 1, 1) := by decide +kernel
theorem dX7_findRound_57 : decode cX7_findRound 57 = .ok (.imul, 1) := by decide +kernel
theorem dX7_findRound_58 : decode cX7_findRound 58 = .ok (.iload_n 2, 1) := by decide +kernel
theorem dX7_findRound_59 : decode cX7_findRound 59 = .ok (.iadd, 1) := by decide +kernel
theorem dX7_findRound_60 : decode cX7_findRound 60 = .ok (.iaload, 1) := by decide +kernel
theorem dX7_findRound_61 : decode cX7_findRound 61 = .ok (.if_icmp .eq 133, 3) := by decide +kernel
theorem dX7_findRound_64 : decode cX7_findRound 64 = .ok (.iinc 4 1, 3) := by decide +kernel
theorem dX7_findRound_67 : decode cX7_findRound 67 = .ok (.iconst 0, 1) := by decide +kernel
theorem dX7_findRound_68 : decode cX7_findRound 68 = .ok (.istore 5, 2) := by decide +kernel
theorem dX7_findRound_70 : decode cX7_findRound 70 = .ok (.iload 5, 2) := by decide +kernel
theorem dX7_findRound_72 : decode cX7_findRound 72 = .ok (.aload_n 0, 1) := by decide +kernel
theorem dX7_findRound_73 : decode cX7_findRound 73 = .ok (.getfield 106, 3) := by decide +kernel
theorem dX7_findRound_76 : decode cX7_findRound 76 = .ok (.if_icmp .ge 115, 3) := by decide +kernel
theorem dX7_findRound_79 : decode cX7_findRound 79 = .ok (.iconst 0, 1) := by decide +kernel
theorem dX7_findRound_80 : decode cX7_findRound 80 = .ok (.istore 6, 2) := by decide +kernel
theorem dX7_findRound_82 : decode cX7_findRound 82 = .ok (.iload 6, 2) := by decide +kernel
theorem dX7_findRound_84 : decode cX7_findRound 84 = .ok (.aload_n 0, 1) := by decide +kernel
theorem dX7_findRound_85 : decode cX7_findRound 85 = .ok (.getfield 106, 3) := by decide +kernel
theorem dX7_findRound_88 : decode cX7_findRound 88 = .ok (.if_icmp .ge 97, 3) := by decide +kernel
theorem dX7_findRound_91 : decode cX7_findRound 91 = .ok (.aload_n 0, 1) := by decide +kernel
theorem dX7_findRound_92 : decode cX7_findRound 92 = .ok (.getfield 43, 3) := by decide +kernel
theorem dX7_findRound_95 : decode cX7_findRound 95 = .ok (.bipush 10, 2) := by decide +kernel
theorem dX7_findRound_97 : decode cX7_findRound 97 = .ok (.iload 5, 2) := by decide +kernel
theorem dX7_findRound_99 : decode cX7_findRound 99 = .ok (.imul, 1) := by decide +kernel
theorem dX7_findRound_100 : decode cX7_findRound 100 = .ok (.iload 6, 2) := by decide +kernel
theorem dX7_findRound_102 : decode cX7_findRound 102 = .ok (.iadd, 1) := by decide +kernel
theorem dX7_findRound_103 : decode cX7_findRound 103 = .ok (.iaload, 1) := by decide +kernel
theorem dX7_findRound_104 : decode cX7_findRound 104 = .ok (.istore 7, 2) := by decide +kernel
theorem dX7_findRound_106 : decode cX7_findRound 106 = .ok (.aload_n 0, 1) := by decide +kernel
theorem dX7_findRound_107 : decode cX7_findRound 107 = .ok (.getfield 46, 3) := by decide +kernel
theorem dX7_findRound_110 : decode cX7_findRound 110 = .ok (.bipush 10, 2) := by decide +kernel
theorem dX7_findRound_112 : decode cX7_findRound 112 = .ok (.iload 4, 2) := by decide +kernel
theorem dX7_findRound_114 : decode cX7_findRound 114 = .ok (.imul, 1) := by decide +kernel
theorem dX7_findRound_115 : decode cX7_findRound 115 = .ok (.bipush 10, 2) := by decide +kernel
theorem dX7_findRound_117 : decode cX7_findRound 117 = .ok (.isub, 1) := by decide +kernel
theorem dX7_findRound_118 : decode cX7_findRound 118 = .ok (.iload 6, 2) := by decide +kernel
theorem dX7_findRound_120 : decode cX7_findRound 120 = .ok (.iadd, 1) := by decide +kernel
theorem dX7_findRound_121 : decode cX7_findRound 121 = .ok (.iaload, 1) := by decide +kernel
theorem dX7_findRound_122 : decode cX7_findRound 122 = .ok (.istore 8, 2) := by decide +kernel
theorem dX7_findRound_124 : decode cX7_findRound 124 = .ok (.iload 7, 2) := by decide +kernel
theorem dX7_findRound_126 : decode cX7_findRound 126 = .ok (.invokestatic 141, 3) := by decide +kernel
theorem dX7_findRound_129 : decode cX7_findRound 129 = .ok (.ifCond .eq 50, 3) := by decide +kernel
theorem dX7_findRound_132 : decode cX7_findRound 132 = .ok (.iload 8, 2) := by decide +kernel
theorem dX7_findRound_134 : decode cX7_findRound 134 = .ok (.invokestatic 141, 3) := by decide +kernel
theorem dX7_findRound_137 : decode cX7_findRound 137 = .ok (.ifCond .eq 42, 3) := by decide +kernel
theorem dX7_findRound_140 : decode cX7_findRound 140 = .ok (.iload 7, 2) := by decide +kernel
theorem dX7_findRound_142 : decode cX7_findRound 142 = .ok (.iload 8, 2) := by decide +kernel
theorem dX7_findRound_144 : decode cX7_findRound 144 = .ok (.iadd, 1) := by decide +kernel
theorem dX7_findRound_145 : decode cX7_findRound 145 = .ok (.aload_n 0, 1) := by decide +kernel
theorem dX7_findRound_146 : decode cX7_findRound 146 = .ok (.getfield 46, 3) := by decide +kernel
theorem dX7_findRound_149 : decode cX7_findRound 149 = .ok (.bipush 10, 2) := by decide +kernel
theorem dX7_findRound_151 : decode cX7_findRound 151 = .ok (.iload 4, 2) := by decide +kernel
theorem dX7_findRound_153 : decode cX7_findRound 153 = .ok (.imul, 1) := by decide +kernel
theorem dX7_findRound_154 : decode cX7_findRound 154 = .ok (.iload 5, 2) := by decide +kernel
theorem dX7_findRound_156 : decode cX7_findRound 156 = .ok (.iadd, 1) := by decide +kernel
theorem dX7_findRound_157 : decode cX7_findRound 157 = .ok (.iaload, 1) := by decide +kernel
theorem dX7_findRound_158 : decode cX7_findRound 158 = .ok (.if_icmp .le 21, 3) := by decide +kernel
theorem dX7_findRound_161 : decode cX7_findRound 161 = .ok (.aload_n 0, 1) := by decide +kernel
theorem dX7_findRound_162 : decode cX7_findRound 162 = .ok (.getfield 46, 3) := by decide +kernel
theorem dX7_findRound_165 : decode cX7_findRound 165 = .ok (.bipush 10, 2) := by decide +kernel
theorem dX7_findRound_167 : decode cX7_findRound 167 = .ok (.iload 4, 2) := by decide +kernel
theorem dX7_findRound_169 : decode cX7_findRound 169 = .ok (.imul, 1) := by decide +kernel
theorem dX7_findRound_170 : decode cX7_findRound 170 = .ok (.iload 5, 2) := by decide +kernel
theorem dX7_findRound_172 : decode cX7_findRound 172 = .ok (.iadd, 1) := by decide +kernel
theorem dX7_findRound_173 : decode cX7_findRound 173 = .ok (.iload 7, 2) := by decide +kernel
theorem dX7_findRound_175 : decode cX7_findRound 175 = .ok (.iload 8, 2) := by decide +kernel
theorem dX7_findRound_177 : decode cX7_findRound 177 = .ok (.iadd, 1) := by decide +kernel
theorem dX7_findRound_178 : decode cX7_findRound 178 = .ok (.iastore, 1) := by decide +kernel
theorem dX7_findRound_179 : decode cX7_findRound 179 = .ok (.iinc 6 1, 3) := by decide +kernel
theorem dX7_findRound_182 : decode cX7_findRound 182 = .ok (.goto (-100), 3) := by decide +kernel
theorem dX7_findRound_185 : decode cX7_findRound 185 = .ok (.iinc 5 1, 3) := by decide +kernel
theorem dX7_findRound_188 : decode cX7_findRound 188 = .ok (.goto (-118), 3) := by decide +kernel
theorem dX7_findRound_191 : decode cX7_findRound 191 = .ok (.goto (-153), 3) := by decide +kernel
theorem dX7_findRound_194 : decode cX7_findRound 194 = .ok (.aload_n 0, 1) := by decide +kernel
theorem dX7_findRound_195 : decode cX7_findRound 195 = .ok (.iconst 1, 1) := by decide +kernel
theorem dX7_findRound_196 : decode cX7_findRound 196 = .ok (.putfield 112, 3) := by decide +kernel
theorem dX7_findRound_199 : decode cX7_findRound 199 = .ok (.aload_n 0, 1) := by decide +kernel
theorem dX7_findRound_200 : decode cX7_findRound 200 = .ok (.getfield 28, 3) := by decide +kernel
theorem dX7_findRound_203 : decode cX7_findRound 203 = .ok (.iconst 0, 1) := by decide +kernel
theorem dX7_findRound_204 : decode cX7_findRound 204 = .ok (.iload_n 1, 1) := by decide +kernel
theorem dX7_findRound_205 : decode cX7_findRound 205 = .ok (.iastore, 1) := by decide +kernel
theorem dX7_findRound_206 : decode cX7_findRound 206 = .ok (.iload_n 1, 1) := by decide +kernel
theorem dX7_findRound_207 : decode cX7_findRound 207 = .ok (.istore 5, 2) := by decide +kernel
theorem dX7_findRound_209 : decode cX7_findRound 209 = .ok (.iload 4, 2) := by decide +kernel
theorem dX7_findRound_211 : decode cX7_findRound 211 = .ok (.istore 6, 2) := by decide +kernel
theorem dX7_findRound_213 : decode cX7_findRound 213 = .ok (.iload 6, 2) := by decide +kernel
theorem dX7_findRound_215 : decode cX7_findRound 215 = .ok (.ifCond .le 108, 3) := by decide +kernel
theorem dX7_findRound_218 : decode cX7_findRound 218 = .ok (.iconst 0, 1) := by decide +kernel
theorem dX7_findRound_219 : decode cX7_findRound 219 = .ok (.istore 7, 2) := by decide +kernel
theorem dX7_findRound_221 : decode cX7_findRound 221 = .ok (.aload_n 0, 1) := by decide +kernel
theorem dX7_findRound_222 : decode cX7_findRound 222 = .ok (.getfield 43, 3) := by decide +kernel
theorem dX7_findRound_225 : decode cX7_findRound 225 = .ok (.bipush 10, 2) := by decide +kernel
theorem dX7_findRound_227 : decode cX7_findRound 227 = .ok (.iload 5, 2) := by decide +kernel
theorem dX7_findRound_229 : decode cX7_findRound 229 = .ok (.imul, 1) := by decide +kernel
theorem dX7_findRound_230 : decode cX7_findRound 230 = .ok (.iload 7, 2) := by decide +kernel
theorem dX7_findRound_232 : decode cX7_findRound 232 = .ok (.iadd, 1) := by decide +kernel
theorem dX7_findRound_233 : decode cX7_findRound 233 = .ok (.iaload, 1) := by decide +kernel
theorem dX7_findRound_234 : decode cX7_findRound 234 = .ok (.invokestatic 141, 3) := by decide +kernel
theorem dX7_findRound_237 : decode cX7_findRound 237 = .ok (.ifCond .eq 49, 3) := by decide +kernel
theorem dX7_findRound_240 : decode cX7_findRound 240 = .ok (.aload_n 0, 1) := by decide +kernel
theorem dX7_findRound_241 : decode cX7_findRound 241 = .ok (.getfield 43, 3) := by decide +kernel
theorem dX7_findRound_244 : decode cX7_findRound 244 = .ok (.bipush 10, 2) := by decide +kernel
theorem dX7_findRound_246 : decode cX7_findRound 246 = .ok (.iload 5, 2) := by decide +kernel
theorem dX7_findRound_248 : decode cX7_findRound 248 = .ok (.imul, 1) := by decide +kernel
theorem dX7_findRound_249 : decode cX7_findRound 249 = .ok (.iload 7, 2) := by decide +kernel
theorem dX7_findRound_251 : decode cX7_findRound 251 = .ok (.iadd, 1) := by decide +kernel
theorem dX7_findRound_252 : decode cX7_findRound 252 = .ok (.iaload, 1) := by decide +kernel
theorem dX7_findRound_253 : decode cX7_findRound 253 = .ok (.aload_n 0, 1) := by decide +kernel
theorem dX7_findRound_254 : decode cX7_findRound 254 = .ok (.getfield 46, 3) := by decide +kernel
theorem dX7_findRound_257 : decode cX7_findRound 257 = .ok (.bipush 10, 2) := by decide +kernel
theorem dX7_findRound_259 : decode cX7_findRound 259 = .ok (.iload 6, 2) := by decide +kernel
theorem dX7_findRound_261 : decode cX7_findRound 261 = .ok (.imul, 1) := by decide +kernel
theorem dX7_findRound_262 : decode cX7_findRound 262 = .ok (.bipush 10, 2) := by decide +kernel
theorem dX7_findRound_264 : decode cX7_findRound 264 = .ok (.isub, 1) := by decide +kernel
theorem dX7_findRound_265 : decode cX7_findRound 265 = .ok (.iload 7, 2) := by decide +kernel
theorem dX7_findRound_267 : decode cX7_findRound 267 = .ok (.iadd, 1) := by decide +kernel
theorem dX7_findRound_268 : decode cX7_findRound 268 = .ok (.iaload, 1) := by decide +kernel
theorem dX7_findRound_269 : decode cX7_findRound 269 = .ok (.iadd, 1) := by decide +kernel
theorem dX7_findRound_270 : decode cX7_findRound 270 = .ok (.aload_n 0, 1) := by decide +kernel
theorem dX7_findRound_271 : decode cX7_findRound 271 = .ok (.getfield 46, 3) := by decide +kernel
theorem dX7_findRound_274 : decode cX7_findRound 274 = .ok (.bipush 10, 2) := by decide +kernel
theorem dX7_findRound_276 : decode cX7_findRound 276 = .ok (.iload 6, 2) := by decide +kernel
theorem dX7_findRound_278 : decode cX7_findRound 278 = .ok (.imul, 1) := by decide +kernel
theorem dX7_findRound_279 : decode cX7_findRound 279 = .ok (.iload 5, 2) := by decide +kernel
theorem dX7_findRound_281 : decode cX7_findRound 281 = .ok (.iadd, 1) := by decide +kernel
theorem dX7_findRound_282 : decode cX7_findRound 282 = .ok (.iaload, 1) := by decide +kernel
theorem dX7_findRound_283 : decode cX7_findRound 283 = .ok (.if_icmp .eq 9, 3) := by decide +kernel
theorem dX7_findRound_286 : decode cX7_findRound 286 = .ok (.iinc 7 1, 3) := by decide +kernel
theorem dX7_findRound_289 : decode cX7_findRound 289 = .ok (.goto (-68), 3) := by decide +kernel
theorem dX7_findRound_292 : decode cX7_findRound 292 = .ok (.iload 7, 2) := by decide +kernel
theorem dX7_findRound_294 : decode cX7_findRound 294 = .ok (.istore 5, 2) := by decide +kernel
theorem dX7_findRound_296 : decode cX7_findRound 296 = .ok (.aload_n 0, 1) := by decide +kernel
theorem dX7_findRound_297 : decode cX7_findRound 297 = .ok (.getfield 28, 3) := by decide +kernel
theorem dX7_findRound_300 : decode cX7_findRound 300 = .ok (.aload_n 0, 1) := by decide +kernel
theorem dX7_findRound_301 : decode cX7_findRound 301 = .ok (.getfield 112, 3) := by decide +kernel
theorem dX7_findRound_304 : decode cX7_findRound 304 = .ok (.iload 5, 2) := by decide +kernel
theorem dX7_findRound_306 : decode cX7_findRound 306 = .ok (.iastore, 1) := by decide +kernel
theorem dX7_findRound_307 : decode cX7_findRound 307 = .ok (.aload_n 0, 1) := by decide +kernel
theorem dX7_findRound_308 : decode cX7_findRound 308 = .ok (.dup, 1) := by decide +kernel
theorem dX7_findRound_309 : decode cX7_findRound 309 = .ok (.getfield 112, 3) := by decide +kernel
theorem dX7_findRound_312 : decode cX7_findRound 312 = .ok (.iconst 1, 1) := by decide +kernel
theorem dX7_findRound_313 : decode cX7_findRound 313 = .ok (.iadd, 1) := by decide +kernel
theorem dX7_findRound_314 : decode cX7_findRound 314 = .ok (.putfield 112, 3) := by decide +kernel
theorem dX7_findRound_317 : decode cX7_findRound 317 = .ok (.iinc 6 (-1), 3) := by decide +kernel
theorem dX7_findRound_320 : decode cX7_findRound 320 = .ok (.goto (-107), 3) := by decide +kernel
theorem dX7_findRound_323 : decode cX7_findRound 323 = .ok (.aload_n 0, 1) := by decide +kernel
theorem dX7_findRound_324 : decode cX7_findRound 324 = .ok (.aload_n 0, 1) := by decide +kernel
theorem dX7_findRound_325 : decode cX7_findRound 325 = .ok (.getfield 40, 3) := by decide +kernel
theorem dX7_findRound_328 : decode cX7_findRound 328 = .ok (.bipush 10, 2) := by decide +kernel
theorem dX7_findRound_330 : decode cX7_findRound 330 = .ok (.iload_n 1, 1) := by decide +kernel
theorem dX7_findRound_331 : decode cX7_findRound 331 = .ok (.imul, 1) := by decide +kernel
theorem dX7_findRound_332 : decode cX7_findRound 332 = .ok (.iload_n 2, 1) := by decide +kernel
theorem dX7_findRound_333 : decode cX7_findRound 333 = .ok (.iadd, 1) := by decide +kernel
theorem dX7_findRound_334 : decode cX7_findRound 334 = .ok (.iaload, 1) := by decide +kernel
theorem dX7_findRound_335 : decode cX7_findRound 335 = .ok (.iload_n 3, 1) := by decide +kernel
theorem dX7_findRound_336 : decode cX7_findRound 336 = .ok (.iadd, 1) := by decide +kernel
theorem dX7_findRound_337 : decode cX7_findRound 337 = .ok (.putfield 147, 3) := by decide +kernel
theorem dX7_findRound_340 : decode cX7_findRound 340 = .ok (.return_, 1) := by decide +kernel
theorem dX7_mayTake_0 : decode cX7_mayTake 0 = .ok (.aload_n 0, 1) := by decide +kernel
theorem dX7_mayTake_1 : decode cX7_mayTake 1 = .ok (.iload_n 2, 1) := by decide +kernel
theorem dX7_mayTake_2 : decode cX7_mayTake 2 = .ok (.iload_n 3, 1) := by decide +kernel
theorem dX7_mayTake_3 : decode cX7_mayTake 3 = .ok (.invokevirtual 150, 3) := by decide +kernel
theorem dX7_mayTake_6 : decode cX7_mayTake 6 = .ok (.istore 4, 2) := by decide +kernel
theorem dX7_mayTake_8 : decode cX7_mayTake 8 = .ok (.aload_n 0, 1) := by decide +kernel
theorem dX7_mayTake_9 : decode cX7_mayTake 9 = .ok (.invokevirtual 154, 3) := by decide +kernel
theorem dX7_mayTake_12 : decode cX7_mayTake 12 = .ok (.aload_n 0, 1) := by decide +kernel
theorem dX7_mayTake_13 : decode cX7_mayTake 13 = .ok (.getfield 40, 3) := by decide +kernel
theorem dX7_mayTake_16 : decode cX7_mayTake 16 = .ok (.bipush 10, 2) := by decide +kernel
theorem dX7_mayTake_18 : decode cX7_mayTake 18 = .ok (.iload_n 3, 1) := by decide +kernel
theorem dX7_mayTake_19 : decode cX7_mayTake 19 = .ok (.imul, 1) := by decide +kernel
theorem dX7_mayTake_20 : decode cX7_mayTake 20 = .ok (.iload_n 1, 1) := by decide +kernel
theorem dX7_mayTake_21 : decode cX7_mayTake 21 = .ok (.iadd, 1) := by decide +kernel
theorem dX7_mayTake_22 : decode cX7_mayTake 22 = .ok (.iaload, 1) := by decide +kernel
theorem dX7_mayTake_23 : decode cX7_mayTake 23 = .ok (.iload 4, 2) := by decide +kernel
theorem dX7_mayTake_25 : decode cX7_mayTake 25 = .ok (.invokestatic 157, 3) := by decide +kernel
theorem dX7_mayTake_28 : decode cX7_mayTake 28 = .ok (.ifCond .ne 5, 3) := by decide +kernel
theorem dX7_mayTake_31 : decode cX7_mayTake 31 = .ok (.iconst 1, 1) := by decide +kernel
theorem dX7_mayTake_32 : decode cX7_mayTake 32 = .ok (.ireturn, 1) := by decide +kernel
theorem dX7_mayTake_33 : decode cX7_mayTake 33 = .ok (.aload_n 0, 1) := by decide +kernel
theorem dX7_mayTake_34 : decode cX7_mayTake 34 = .ok (.dup, 1) := by decide +kernel
theorem dX7_mayTake_35 : decode cX7_mayTake 35 = .ok (.getfield 109, 3) := by decide +kernel
theorem dX7_mayTake_38 : decode cX7_mayTake 38 = .ok (.iconst 1, 1) := by decide +kernel
theorem dX7_mayTake_39 : decode cX7_mayTake 39 = .ok (.iadd, 1) := by decide +kernel
theorem dX7_mayTake_40 : decode cX7_mayTake 40 = .ok (.putfield 109, 3) := by decide +kernel
theorem dX7_mayTake_43 : decode cX7_mayTake 43 = .ok (.aload_n 0, 1) := by decide +kernel
theorem dX7_mayTake_44 : decode cX7_mayTake 44 = .ok (.iload_n 3, 1) := by decide +kernel
theorem dX7_mayTake_45 : decode cX7_mayTake 45 = .ok (.iload_n 1, 1) := by decide +kernel
theorem dX7_mayTake_46 : decode cX7_mayTake 46 = .ok (.iload 4, 2) := by decide +kernel
theorem dX7_mayTake_48 : decode cX7_mayTake 48 = .ok (.invokevirtual 160, 3) := by decide +kernel
theorem dX7_mayTake_51 : decode cX7_mayTake 51 = .ok (.iconst 0, 1) := by decide +kernel
theorem dX7_mayTake_52 : decode cX7_mayTake 52 = .ok (.ireturn, 1) := by decide +kernel
theorem dX7_takeBound_0 : decode cX7_takeBound 0 = .ok (.aload_n 0, 1) := by decide +kernel
theorem dX7_takeBound_1 : decode cX7_takeBound 1 = .ok (.getfield 19, 3) := by decide +kernel
theorem dX7_takeBound_4 : decode cX7_takeBound 4 = .ok (.bipush 10, 2) := by decide +kernel
theorem dX7_takeBound_6 : decode cX7_takeBound 6 = .ok (.iaload, 1) := by decide +kernel
theorem dX7_takeBound_7 : decode cX7_takeBound 7 = .ok (.istore 4, 2) := by decide +kernel
theorem dX7_takeBound_9 : decode cX7_takeBound 9 = .ok (.aload_n 0, 1) := by decide +kernel
theorem dX7_takeBound_10 : decode cX7_takeBound 10 = .ok (.getfield 19, 3) := by decide +kernel
theorem dX7_takeBound_13 : decode cX7_takeBound 13 = .ok (.bipush 11, 2) := by decide +kernel
theorem dX7_takeBound_15 : decode cX7_takeBound 15 = .ok (.iload 4, 2) := by decide +kernel
theorem dX7_takeBound_17 : decode cX7_takeBound 17 = .ok (.iadd, 1) := by decide +kernel
theorem dX7_takeBound_18 : decode cX7_takeBound 18 = .ok (.iload_n 1, 1) := by decide +kernel
theorem dX7_takeBound_19 : decode cX7_takeBound 19 = .ok (.iastore, 1) := by decide +kernel
theorem dX7_takeBound_20 : decode cX7_takeBound 20 = .ok (.aload_n 0, 1) := by decide +kernel
theorem dX7_takeBound_21 : decode cX7_takeBound 21 = .ok (.getfield 19, 3) := by decide +kernel
theorem dX7_takeBound_24 : decode cX7_takeBound 24 = .ok (.bipush 27, 2) := by decide +kernel
theorem dX7_takeBound_26 : decode cX7_takeBound 26 = .ok (.iload 4, 2) := by decide +kernel
theorem dX7_takeBound_28 : decode cX7_takeBound 28 = .ok (.iadd, 1) := by decide +kernel
theorem dX7_takeBound_29 : decode cX7_takeBound 29 = .ok (.iload_n 3, 1) := by decide +kernel
theorem dX7_takeBound_30 : decode cX7_takeBound 30 = .ok (.iastore, 1) := by decide +kernel
theorem dX7_takeBound_31 : decode cX7_takeBound 31 = .ok (.aload_n 0, 1) := by decide +kernel
theorem dX7_takeBound_32 : decode cX7_takeBound 32 = .ok (.getfield 19, 3) := by decide +kernel
theorem dX7_takeBound_35 : decode cX7_takeBound 35 = .ok (.bipush 43, 2) := by decide +kernel
theorem dX7_takeBound_37 : decode cX7_takeBound 37 = .ok (.iload 4, 2) := by decide +kernel
theorem dX7_takeBound_39 : decode cX7_takeBound 39 = .ok (.iadd, 1) := by decide +kernel
theorem dX7_takeBound_40 : decode cX7_takeBound 40 = .ok (.aload_n 0, 1) := by decide +kernel
theorem dX7_takeBound_41 : decode cX7_takeBound 41 = .ok (.iload_n 2, 1) := by decide +kernel
theorem dX7_takeBound_42 : decode cX7_takeBound 42 = .ok (.iload_n 3, 1) := by decide +kernel
theorem dX7_takeBound_43 : decode cX7_takeBound 43 = .ok (.invokevirtual 150, 3) := by decide +kernel
theorem dX7_takeBound_46 : decode cX7_takeBound 46 = .ok (.iastore, 1) := by decide +kernel
theorem dX7_takeBound_47 : decode cX7_takeBound 47 = .ok (.aload_n 0, 1) := by decide +kernel
theorem dX7_takeBound_48 : decode cX7_takeBound 48 = .ok (.getfield 19, 3) := by decide +kernel
theorem dX7_takeBound_51 : decode cX7_takeBound 51 = .ok (.bipush 10, 2) := by decide +kernel
theorem dX7_takeBound_53 : decode cX7_takeBound 53 = .ok (.dup2, 1) := by decide +kernel
theorem dX7_takeBound_54 : decode cX7_takeBound 54 = .ok (.iaload, 1) := by decide +kernel
theorem dX7_takeBound_55 : decode cX7_takeBound 55 = .ok (.iconst 1, 1) := by decide +kernel
theorem dX7_takeBound_56 : decode cX7_takeBound 56 = .ok (.iadd, 1) := by decide +kernel
theorem dX7_takeBound_57 : decode cX7_takeBound 57 = .ok (.iastore, 1) := by decide +kernel
theorem dX7_takeBound_58 : decode cX7_takeBound 58 = .ok (.return_, 1) := by decide +kernel
theorem dX7_valueOf_0 : decode cX7_valueOf 0 = .ok (.iconst 0, 1) := by decide +kernel
theorem dX7_valueOf_1 : decode cX7_valueOf 1 = .ok (.istore_n 2, 1) := by decide +kernel
theorem dX7_valueOf_2 : decode cX7_valueOf 2 = .ok (.iconst 0, 1) := by decide +kernel
theorem dX7_valueOf_3 : decode cX7_valueOf 3 = .ok (.istore_n 3, 1) := by decide +kernel
theorem dX7_valueOf_4 : decode cX7_valueOf 4 = .ok (.iload_n 3, 1) := by decide +kernel
theorem dX7_valueOf_5 : decode cX7_valueOf 5 = .ok (.aload_n 0, 1) := by decide +kernel
theorem dX7_valueOf_6 : decode cX7_valueOf 6 = .ok (.getfield 106, 3) := by decide +kernel
theorem dX7_valueOf_9 : decode cX7_valueOf 9 = .ok (.if_icmp .ge 40, 3) := by decide +kernel
theorem dX7_valueOf_12 : decode cX7_valueOf 12 = .ok (.aload_n 0, 1) := by decide +kernel
theorem dX7_valueOf_13 : decode cX7_valueOf 13 = .ok (.getfield 40, 3) := by decide +kernel
theorem dX7_valueOf_16 : decode cX7_valueOf 16 = .ok (.bipush 10, 2) := by decide +kernel
theorem dX7_valueOf_18 : decode cX7_valueOf 18 = .ok (.iload_n 3, 1) := by decide +kernel
theorem dX7_valueOf_19 : decode cX7_valueOf 19 = .ok (.imul, 1) := by decide +kernel
theorem dX7_valueOf_20 : decode cX7_valueOf 20 = .ok (.iload_n 1, 1) := by decide +kernel
theorem dX7_valueOf_21 : decode cX7_valueOf 21 = .ok (.iadd, 1) := by decide +kernel
theorem dX7_valueOf_22 : decode cX7_valueOf 22 = .ok (.iaload, 1) := by decide +kernel
theorem dX7_valueOf_23 : decode cX7_valueOf 23 = .ok (.iload_n 2, 1) := by decide +kernel
theorem dX7_valueOf_24 : decode cX7_valueOf 24 = .ok (.if_icmp .le 17, 3) := by decide +kernel
theorem dX7_valueOf_27 : decode cX7_valueOf 27 = .ok (.aload_n 0, 1) := by decide +kernel
theorem dX7_valueOf_28 : decode cX7_valueOf 28 = .ok (.getfield 40, 3) := by decide +kernel
theorem dX7_valueOf_31 : decode cX7_valueOf 31 = .ok (.bipush 10, 2) := by decide +kernel
theorem dX7_valueOf_33 : decode cX7_valueOf 33 = .ok (.iload_n 3, 1) := by decide +kernel
theorem dX7_valueOf_34 : decode cX7_valueOf 34 = .ok (.imul, 1) := by decide +kernel
theorem dX7_valueOf_35 : decode cX7_valueOf 35 = .ok (.iload_n 1, 1) := by decide +kernel
theorem dX7_valueOf_36 : decode cX7_valueOf 36 = .ok (.iadd, 1) := by decide +kernel
theorem dX7_valueOf_37 : decode cX7_valueOf 37 = .ok (.iaload, 1) := by decide +kernel
theorem dX7_valueOf_38 : decode cX7_valueOf 38 = .ok (.goto 4, 3) := by decide +kernel
theorem dX7_valueOf_41 : decode cX7_valueOf 41 = .ok (.iload_n 2, 1) := by decide +kernel
theorem dX7_valueOf_42 : decode cX7_valueOf 42 = .ok (.istore_n 2, 1) := by decide +kernel
theorem dX7_valueOf_43 : decode cX7_valueOf 43 = .ok (.iinc 3 1, 3) := by decide +kernel
theorem dX7_valueOf_46 : decode cX7_valueOf 46 = .ok (.goto (-42), 3) := by decide +kernel
theorem dX7_valueOf_49 : decode cX7_valueOf 49 = .ok (.iload_n 2, 1) := by decide +kernel
theorem dX7_valueOf_50 : decode cX7_valueOf 50 = .ok (.ireturn, 1) := by decide +kernel
theorem dX7_areSame_0 : decode cX7_areSame 0 = .ok (.aload_n 0, 1) := by decide +kernel
theorem dX7_areSame_1 : decode cX7_areSame 1 = .ok (.getfield 40, 3) := by decide +kernel
theorem dX7_areSame_4 : decode cX7_areSame 4 = .ok (.bipush 10, 2) := by decide +kernel
theorem dX7_areSame_6 : decode cX7_areSame 6 = .ok (.iload_n 1, 1) := by decide +kernel
theorem dX7_areSame_7 : decode cX7_areSame 7 = .ok (.imul, 1) := by decide +kernel
theorem dX7_areSame_8 : decode cX7_areSame 8 = .ok (.iload_n 2, 1) := by decide +kernel
theorem dX7_areSame_9 : decode cX7_areSame 9 = .ok (.iadd, 1) := by decide +kernel
theorem dX7_areSame_10 : decode cX7_areSame 10 = .ok (.iaload, 1) := by decide +kernel
theorem dX7_areSame_11 : decode cX7_areSame 11 = .ok (.ifCond .ne 21, 3) := by decide +kernel
theorem dX7_areSame_14 : decode cX7_areSame 14 = .ok (.aload_n 0, 1) := by decide +kernel
theorem dX7_areSame_15 : decode cX7_areSame 15 = .ok (.getfield 40, 3) := by decide +kernel
theorem dX7_areSame_18 : decode cX7_areSame 18 = .ok (.bipush 10, 2) := by decide +kernel
theorem dX7_areSame_20 : decode cX7_areSame 20 = .ok (.iload_n 2, 1) := by decide +kernel
theorem dX7_areSame_21 : decode cX7_areSame 21 = .ok (.imul, 1) := by decide +kernel
theorem dX7_areSame_22 : decode cX7_areSame 22 = .ok (.iload_n 1, 1) := by decide +kernel
theorem dX7_areSame_23 : decode cX7_areSame 23 = .ok (.iadd, 1) := by decide +kernel
theorem dX7_areSame_24 : decode cX7_areSame 24 = .ok (.iaload, 1) := by decide +kernel
theorem dX7_areSame_25 : decode cX7_areSame 25 = .ok (.ifCond .ne 7, 3) := by decide +kernel
theorem dX7_areSame_28 : decode cX7_areSame 28 = .ok (.iconst 1, 1) := by decide +kernel
theorem dX7_areSame_29 : decode cX7_areSame 29 = .ok (.goto 4, 3) := by decide +kernel
theorem dX7_areSame_32 : decode cX7_areSame 32 = .ok (.iconst 0, 1) := by decide +kernel
theorem dX7_areSame_33 : decode cX7_areSame 33 = .ok (.ireturn, 1) := by decide +kernel
theorem dX7_isFloating_0 : decode cX7_isFloating 0 = .ok (.aload_n 0, 1) := by decide +kernel
theorem dX7_isFloating_1 : decode cX7_isFloating 1 = .ok (.getfield 19, 3) := by decide +kernel
theorem dX7_isFloating_4 : decode cX7_isFloating 4 = .ok (.iload_n 1, 1) := by decide +kernel
theorem dX7_isFloating_5 : decode cX7_isFloating 5 = .ok (.iaload, 1) := by decide +kernel
theorem dX7_isFloating_6 : decode cX7_isFloating 6 = .ok (.iconst 1, 1) := by decide +kernel
theorem dX7_isFloating_7 : decode cX7_isFloating 7 = .ok (.if_icmp .eq 13, 3) := by decide +kernel
theorem dX7_isFloating_10 : decode cX7_isFloating 10 = .ok (.aload_n 0, 1) := by decide +kernel
theorem dX7_isFloating_11 : decode cX7_isFloating 11 = .ok (.getfield 19, 3) := by decide +kernel
theorem dX7_isFloating_14 : decode cX7_isFloating 14 = .ok (.iload_n 1, 1) := by decide +kernel
theorem dX7_isFloating_15 : decode cX7_isFloating 15 = .ok (.iaload, 1) := by decide +kernel
theorem dX7_isFloating_16 : decode cX7_isFloating 16 = .ok (.iconst 3, 1) := by decide +kernel
theorem dX7_isFloating_17 : decode cX7_isFloating 17 = .ok (.if_icmp .ne 7, 3) := by decide +kernel
theorem dX7_isFloating_20 : decode cX7_isFloating 20 = .ok (.iconst 1, 1) := by decide +kernel
theorem dX7_isFloating_21 : decode cX7_isFloating 21 = .ok (.goto 4, 3) := by decide +kernel
theorem dX7_isFloating_24 : decode cX7_isFloating 24 = .ok (.iconst 0, 1) := by decide +kernel
theorem dX7_isFloating_25 : decode cX7_isFloating 25 = .ok (.ireturn, 1) := by decide +kernel
theorem dX7_level_0 : decode cX7_level 0 = .ok (.aload_n 0, 1) := by decide +kernel
theorem dX7_level_1 : decode cX7_level 1 = .ok (.iload_n 1, 1) := by decide +kernel
theorem dX7_level_2 : decode cX7_level 2 = .ok (.invokevirtual 163, 3) := by decide +kernel
theorem dX7_level_5 : decode cX7_level 5 = .ok (.ifCond .eq 15, 3) := by decide +kernel
theorem dX7_level_8 : decode cX7_level 8 = .ok (.iload_n 2, 1) := by decide +kernel
theorem dX7_level_9 : decode cX7_level 9 = .ok (.i2l, 1) := by decide +kernel
theorem dX7_level_10 : decode cX7_level 10 = .ok (.lconst 0, 1) := by decide +kernel
theorem dX7_level_11 : decode cX7_level 11 = .ok (.ldc2_w 166, 3) := by decide +kernel
theorem dX7_level_14 : decode cX7_level 14 = .ok (.invokestatic 74, 3) := by decide +kernel
theorem dX7_level_17 : decode cX7_level 17 = .ok (.ifCond .ne 5, 3) := by decide +kernel
theorem dX7_level_20 : decode cX7_level 20 = .ok (.iconst (-1), 1) := by decide +kernel
theorem dX7_level_21 : decode cX7_level 21 = .ok (.ireturn, 1) := by decide +kernel
theorem dX7_level_22 : decode cX7_level 22 = .ok (.aload_n 0, 1) := by decide +kernel
theorem dX7_level_23 : decode cX7_level 23 = .ok (.invokevirtual 154, 3) := by decide +kernel
theorem dX7_level_26 : decode cX7_level 26 = .ok (.iload_n 2, 1) := by decide +kernel
theorem dX7_level_27 : decode cX7_level 27 = .ok (.tableswitch 153 0 3 #[29, 36, 42, 106], 29) := by decide +kernel
theorem dX7_level_56 : decode cX7_level 56 = .ok (.aload_n 0, 1) := by decide +kernel
theorem dX7_level_57 : decode cX7_level 57 = .ok (.getfield 19, 3) := by decide +kernel
theorem dX7_level_60 : decode cX7_level 60 = .ok (.iload_n 1, 1) := by decide +kernel
theorem dX7_level_61 : decode cX7_level 61 = .ok (.iaload, 1) := by decide +kernel
theorem dX7_level_62 : decode cX7_level 62 = .ok (.ireturn, 1) := by decide +kernel
theorem dX7_level_63 : decode cX7_level 63 = .ok (.aload_n 0, 1) := by decide +kernel
theorem dX7_level_64 : decode cX7_level 64 = .ok (.iload_n 1, 1) := by decide +kernel
theorem dX7_level_65 : decode cX7_level 65 = .ok (.invokevirtual 168, 3) := by decide +kernel
theorem dX7_level_68 : decode cX7_level 68 = .ok (.ireturn, 1) := by decide +kernel
theorem dX7_level_69 : decode cX7_level 69 = .ok (.iconst 0, 1) := by decide +kernel
theorem dX7_level_70 : decode cX7_level 70 = .ok (.istore_n 3, 1) := by decide +kernel
theorem dX7_level_71 : decode cX7_level 71 = .ok (.iconst 0, 1) := by decide +kernel
theorem dX7_level_72 : decode cX7_level 72 = .ok (.istore 4, 2) := by decide +kernel
theorem dX7_level_74 : decode cX7_level 74 = .ok (.iload 4, 2) := by decide +kernel
theorem dX7_level_76 : decode cX7_level 76 = .ok (.aload_n 0, 1) := by decide +kernel
theorem dX7_level_77 : decode cX7_level 77 = .ok (.getfield 106, 3) := by decide +kernel
theorem dX7_level_80 : decode cX7_level 80 = .ok (.if_icmp .ge 51, 3) := by decide +kernel
theorem dX7_level_83 : decode cX7_level 83 = .ok (.iload_n 3, 1) := by decide +kernel
theorem dX7_level_84 : decode cX7_level 84 = .ok (.aload_n 0, 1) := by decide +kernel
theorem dX7_level_85 : decode cX7_level 85 = .ok (.iload 4, 2) := by decide +kernel
theorem dX7_level_87 : decode cX7_level 87 = .ok (.invokevirtual 168, 3) := by decide +kernel
theorem dX7_level_90 : decode cX7_level 90 = .ok (.aload_n 0, 1) := by decide +kernel
theorem dX7_level_91 : decode cX7_level 91 = .ok (.iload_n 1, 1) := by decide +kernel
theorem dX7_level_92 : decode cX7_level 92 = .ok (.invokevirtual 168, 3) := by decide +kernel
theorem dX7_level_95 : decode cX7_level 95 = .ok (.if_icmp .lt 23, 3) := by decide +kernel
theorem dX7_level_98 : decode cX7_level 98 = .ok (.aload_n 0, 1) := by decide +kernel
theorem dX7_level_99 : decode cX7_level 99 = .ok (.iload 4, 2) := by decide +kernel
theorem dX7_level_101 : decode cX7_level 101 = .ok (.invokevirtual 168, 3) := by decide +kernel
theorem dX7_level_104 : decode cX7_level 104 = .ok (.aload_n 0, 1) := by decide +kernel
theorem dX7_level_105 : decode cX7_level 105 = .ok (.iload_n 1, 1) := by decide +kernel
theorem dX7_level_106 : decode cX7_level 106 = .ok (.invokevirtual 168, 3) := by decide +kernel
theorem dX7_level_109 : decode cX7_level 109 = .ok (.if_icmp .ne 13, 3) := by decide +kernel
theorem dX7_level_112 : decode cX7_level 112 = .ok (.iload 4, 2) := by decide +kernel
theorem dX7_level_114 : decode cX7_level 114 = .ok (.iload_n 1, 1) := by decide +kernel
theorem dX7_level_115 : decode cX7_level 115 = .ok (.if_icmp .ge 7, 3) := by decide +kernel
theorem dX7_level_118 : decode cX7_level 118 = .ok (.iconst 1, 1) := by decide +kernel
theorem dX7_level_119 : decode cX7_level 119 = .ok (.goto 4, 3) := by decide +kernel
theorem dX7_level_122 : decode cX7_level 122 = .ok (.iconst 0, 1) := by decide +kernel
theorem dX7_level_123 : decode cX7_level 123 = .ok (.iadd, 1) := by decide +kernel
theorem dX7_level_124 : decode cX7_level 124 = .ok (.istore_n 3, 1) := by decide +kernel
theorem dX7_level_125 : decode cX7_level 125 = .ok (.iinc 4 1, 3) := by decide +kernel
theorem dX7_level_128 : decode cX7_level 128 = .ok (.goto (-54), 3) := by decide +kernel
theorem dX7_level_131 : decode cX7_level 131 = .ok (.iload_n 3, 1) := by decide +kernel
theorem dX7_level_132 : decode cX7_level 132 = .ok (.ireturn, 1) := by decide +kernel
theorem dX7_level_133 : decode cX7_level 133 = .ok (.iconst 0, 1) := by decide +kernel
theorem dX7_level_134 : decode cX7_level 134 = .ok (.istore 4, 2) := by decide +kernel
theorem dX7_level_136 : decode cX7_level 136 = .ok (.iconst 0, 1) := by decide +kernel
theorem dX7_level_137 : decode cX7_level 137 = .ok (.istore 5, 2) := by decide +kernel
theorem dX7_level_139 : decode cX7_level 139 = .ok (.iload 5, 2) := by decide +kernel
theorem dX7_level_141 : decode cX7_level 141 = .ok (.aload_n 0, 1) := by decide +kernel
theorem dX7_level_142 : decode cX7_level 142 = .ok (.getfield 106, 3) := by decide +kernel
theorem dX7_level_145 : decode cX7_level 145 = .ok (.if_icmp .ge 32, 3) := by decide +kernel
theorem dX7_level_148 : decode cX7_level 148 = .ok (.iload 4, 2) := by decide +kernel
theorem dX7_level_150 : decode cX7_level 150 = .ok (.aload_n 0, 1) := by decide +kernel
theorem dX7_level_151 : decode cX7_level 151 = .ok (.iload_n 1, 1) := by decide +kernel
theorem dX7_level_152 : decode cX7_level 152 = .ok (.iload 5, 2) := by decide +kernel
theorem dX7_level_154 : decode cX7_level 154 = .ok (.invokevirtual 171, 3) := by decide +kernel
theorem dX7_level_157 : decode cX7_level 157 = .ok (.ifCond .eq 10, 3) := by decide +kernel
theorem dX7_level_160 : decode cX7_level 160 = .ok (.iconst 1, 1) := by decide +kernel
theorem dX7_level_161 : decode cX7_level 161 = .ok (.iload 5, 2) := by decide +kernel
theorem dX7_level_163 : decode cX7_level 163 = .ok (.ishl, 1) := by decide +kernel
theorem dX7_level_164 : decode cX7_level 164 = .ok (.goto 4, 3) := by decide +kernel
theorem dX7_level_167 : decode cX7_level 167 = .ok (.iconst 0, 1) := by decide +kernel
theorem dX7_level_168 : decode cX7_level 168 = .ok (.ior, 1) := by decide +kernel
theorem dX7_level_169 : decode cX7_level 169 = .ok (.istore 4, 2) := by decide +kernel
theorem dX7_level_171 : decode cX7_level 171 = .ok (.iinc 5 1, 3) := by decide +kernel
theorem dX7_level_174 : decode cX7_level 174 = .ok (.goto (-35), 3) := by decide +kernel
theorem dX7_level_177 : decode cX7_level 177 = .ok (.iload 4, 2) := by decide +kernel
theorem dX7_level_179 : decode cX7_level 179 = .ok (.ireturn, 1) := by decide +kernel
theorem dX7_level_180 : decode cX7_level 180 = .ok (.aload_n 0, 1) := by decide +kernel
theorem dX7_level_181 : decode cX7_level 181 = .ok (.iload_n 1, 1) := by decide +kernel
theorem dX7_level_182 : decode cX7_level 182 = .ok (.invokevirtual 174, 3) := by decide +kernel
theorem dX7_level_185 : decode cX7_level 185 = .ok (.ifCond .eq 7, 3) := by decide +kernel
theorem dX7_level_188 : decode cX7_level 188 = .ok (.iconst 1, 1) := by decide +kernel
theorem dX7_level_189 : decode cX7_level 189 = .ok (.goto 4, 3) := by decide +kernel
theorem dX7_level_192 : decode cX7_level 192 = .ok (.iconst 0, 1) := by decide +kernel
theorem dX7_level_193 : decode cX7_level 193 = .ok (.ireturn, 1) := by decide +kernel
theorem dX7_bound_0 : decode cX7_bound 0 = .ok (.iload_n 1, 1) := by decide +kernel
theorem dX7_bound_1 : decode cX7_bound 1 = .ok (.i2l, 1) := by decide +kernel
theorem dX7_bound_2 : decode cX7_bound 2 = .ok (.lconst 0, 1) := by decide +kernel
theorem dX7_bound_3 : decode cX7_bound 3 = .ok (.aload_n 0, 1) := by decide +kernel
theorem dX7_bound_4 : decode cX7_bound 4 = .ok (.getfield 19, 3) := by decide +kernel
theorem dX7_bound_7 : decode cX7_bound 7 = .ok (.bipush 10, 2) := by decide +kernel
theorem dX7_bound_9 : decode cX7_bound 9 = .ok (.iaload, 1) := by decide +kernel
theorem dX7_bound_10 : decode cX7_bound 10 = .ok (.iconst 1, 1) := by decide +kernel
theorem dX7_bound_11 : decode cX7_bound 11 = .ok (.isub, 1) := by decide +kernel
theorem dX7_bound_12 : decode cX7_bound 12 = .ok (.i2l, 1) := by decide +kernel
theorem dX7_bound_13 : decode cX7_bound 13 = .ok (.invokestatic 74, 3) := by decide +kernel
theorem dX7_bound_16 : decode cX7_bound 16 = .ok (.ifCond .eq 15, 3) := by decide +kernel
theorem dX7_bound_19 : decode cX7_bound 19 = .ok (.iload_n 2, 1) := by decide +kernel
theorem dX7_bound_20 : decode cX7_bound 20 = .ok (.i2l, 1) := by decide +kernel
theorem dX7_bound_21 : decode cX7_bound 21 = .ok (.lconst 0, 1) := by decide +kernel
theorem dX7_bound_22 : decode cX7_bound 22 = .ok (.ldc2_w 166, 3) := by decide +kernel
theorem dX7_bound_25 : decode cX7_bound 25 = .ok (.invokestatic 74, 3) := by decide +kernel
theorem dX7_bound_28 : decode cX7_bound 28 = .ok (.ifCond .ne 5, 3) := by decide +kernel
theorem dX7_bound_31 : decode cX7_bound 31 = .ok (.iconst (-1), 1) := by decide +kernel
theorem dX7_bound_32 : decode cX7_bound 32 = .ok (.ireturn, 1) := by decide +kernel
theorem dX7_bound_33 : decode cX7_bound 33 = .ok (.aload_n 0, 1) := by decide +kernel
theorem dX7_bound_34 : decode cX7_bound 34 = .ok (.getfield 19, 3) := by decide +kernel
theorem dX7_bound_37 : decode cX7_bound 37 = .ok (.bipush 11, 2) := by decide +kernel
theorem dX7_bound_39 : decode cX7_bound 39 = .ok (.iload_n 1, 1) := by decide +kernel
theorem dX7_bound_40 : decode cX7_bound 40 = .ok (.iadd, 1) := by decide +kernel
theorem dX7_bound_41 : decode cX7_bound 41 = .ok (.iaload, 1) := by decide +kernel
theorem dX7_bound_42 : decode cX7_bound 42 = .ok (.istore_n 3, 1) := by decide +kernel
theorem dX7_bound_43 : decode cX7_bound 43 = .ok (.aload_n 0, 1) := by decide +kernel
theorem dX7_bound_44 : decode cX7_bound 44 = .ok (.getfield 19, 3) := by decide +kernel
theorem dX7_bound_47 : decode cX7_bound 47 = .ok (.bipush 27, 2) := by decide +kernel
theorem dX7_bound_49 : decode cX7_bound 49 = .ok (.iload_n 1, 1) := by decide +kernel
theorem dX7_bound_50 : decode cX7_bound 50 = .ok (.iadd, 1) := by decide +kernel
theorem dX7_bound_51 : decode cX7_bound 51 = .ok (.iaload, 1) := by decide +kernel
theorem dX7_bound_52 : decode cX7_bound 52 = .ok (.istore 4, 2) := by decide +kernel
theorem dX7_bound_54 : decode cX7_bound 54 = .ok (.aload_n 0, 1) := by decide +kernel
theorem dX7_bound_55 : decode cX7_bound 55 = .ok (.getfield 19, 3) := by decide +kernel
theorem dX7_bound_58 : decode cX7_bound 58 = .ok (.bipush 43, 2) := by decide +kernel
theorem dX7_bound_60 : decode cX7_bound 60 = .ok (.iload_n 1, 1) := by decide +kernel
theorem dX7_bound_61 : decode cX7_bound 61 = .ok (.iadd, 1) := by decide +kernel
theorem dX7_bound_62 : decode cX7_bound 62 = .ok (.iaload, 1) := by decide +kernel
theorem dX7_bound_63 : decode cX7_bound 63 = .ok (.istore 5, 2) := by decide +kernel
theorem dX7_bound_65 : decode cX7_bound 65 = .ok (.aload_n 0, 1) := by decide +kernel
theorem dX7_bound_66 : decode cX7_bound 66 = .ok (.iconst 1, 1) := by decide +kernel
theorem dX7_bound_67 : decode cX7_bound 67 = .ok (.iload_n 1, 1) := by decide +kernel
theorem dX7_bound_68 : decode cX7_bound 68 = .ok (.ishl, 1) := by decide +kernel
theorem dX7_bound_69 : decode cX7_bound 69 = .ok (.invokevirtual 144, 3) := by decide +kernel
theorem dX7_bound_72 : decode cX7_bound 72 = .ok (.iload_n 2, 1) := by decide +kernel
theorem dX7_bound_73 : decode cX7_bound 73 = .ok (.tableswitch 83 0 3 #[31, 33, 36, 42], 31) := by decide +kernel
theorem dX7_bound_104 : decode cX7_bound 104 = .ok (.iload_n 3, 1) := by decide +kernel
theorem dX7_bound_105 : decode cX7_bound 105 = .ok (.ireturn, 1) := by decide +kernel
theorem dX7_bound_106 : decode cX7_bound 106 = .ok (.iload 4, 2) := by decide +kernel
theorem dX7_bound_108 : decode cX7_bound 108 = .ok (.ireturn, 1) := by decide +kernel
theorem dX7_bound_109 : decode cX7_bound 109 = .ok (.iload 5, 2) := by decide +kernel
theorem dX7_bound_111 : decode cX7_bound 111 = .ok (.bipush 100, 2) := by decide +kernel
theorem dX7_bound_113 : decode cX7_bound 113 = .ok (.iadd, 1) := by decide +kernel
theorem dX7_bound_114 : decode cX7_bound 114 = .ok (.ireturn, 1) := by decide +kernel
theorem dX7_bound_115 : decode cX7_bound 115 = .ok (.aload_n 0, 1) := by decide +kernel
theorem dX7_bound_116 : decode cX7_bound 116 = .ok (.getfield 40, 3) := by decide +kernel
theorem dX7_bound_119 : decode cX7_bound 119 = .ok (.bipush 10, 2) := by decide +kernel
theorem dX7_bound_121 : decode cX7_bound 121 = .ok (.iload_n 3, 1) := by decide +kernel
theorem dX7_bound_122 : decode cX7_bound 122 = .ok (.imul, 1) := by decide +kernel
theorem dX7_bound_123 : decode cX7_bound 123 = .ok (.iload 4, 2) := by decide +kernel
theorem dX7_bound_125 : decode cX7_bound 125 = .ok (.iadd, 1) := by decide +kernel
theorem dX7_bound_126 : decode cX7_bound 126 = .ok (.iaload, 1) := by decide +kernel
theorem dX7_bound_127 : decode cX7_bound 127 = .ok (.invokestatic 141, 3) := by decide +kernel
theorem dX7_bound_130 : decode cX7_bound 130 = .ok (.ifCond .eq 24, 3) := by decide +kernel
theorem dX7_bound_133 : decode cX7_bound 133 = .ok (.aload_n 0, 1) := by decide +kernel
theorem dX7_bound_134 : decode cX7_bound 134 = .ok (.getfield 40, 3) := by decide +kernel
theorem dX7_bound_137 : decode cX7_bound 137 = .ok (.bipush 10, 2) := by decide +kernel
theorem dX7_bound_139 : decode cX7_bound 139 = .ok (.iload_n 3, 1) := by decide +kernel
theorem dX7_bound_140 : decode cX7_bound 140 = .ok (.imul, 1) := by decide +kernel
theorem dX7_bound_141 : decode cX7_bound 141 = .ok (.iload 4, 2) := by decide +kernel
theorem dX7_bound_143 : decode cX7_bound 143 = .ok (.iadd, 1) := by decide +kernel
theorem dX7_bound_144 : decode cX7_bound 144 = .ok (.iaload, 1) := by decide +kernel
theorem dX7_bound_145 : decode cX7_bound 145 = .ok (.iload 5, 2) := by decide +kernel
theorem dX7_bound_147 : decode cX7_bound 147 = .ok (.if_icmp .lt 7, 3) := by decide +kernel
theorem dX7_bound_150 : decode cX7_bound 150 = .ok (.iconst 1, 1) := by decide +kernel
theorem dX7_bound_151 : decode cX7_bound 151 = .ok (.goto 4, 3) := by decide +kernel
theorem dX7_bound_154 : decode cX7_bound 154 = .ok (.iconst 0, 1) := by decide +kernel
