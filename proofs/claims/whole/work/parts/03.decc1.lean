theorem dX7_bound_155 : decode cX7_bound 155 = .ok (.ireturn, 1) := by decide +kernel
theorem dX7_bound_156 : decode cX7_bound 156 = .ok (.aload_n 0, 1) := by decide +kernel
theorem dX7_bound_157 : decode cX7_bound 157 = .ok (.getfield 40, 3) := by decide +kernel
theorem dX7_bound_160 : decode cX7_bound 160 = .ok (.bipush 10, 2) := by decide +kernel
theorem dX7_bound_162 : decode cX7_bound 162 = .ok (.iload 4, 2) := by decide +kernel
theorem dX7_bound_164 : decode cX7_bound 164 = .ok (.imul, 1) := by decide +kernel
theorem dX7_bound_165 : decode cX7_bound 165 = .ok (.iload_n 3, 1) := by decide +kernel
theorem dX7_bound_166 : decode cX7_bound 166 = .ok (.iadd, 1) := by decide +kernel
theorem dX7_bound_167 : decode cX7_bound 167 = .ok (.iaload, 1) := by decide +kernel
theorem dX7_bound_168 : decode cX7_bound 168 = .ok (.invokestatic 141, 3) := by decide +kernel
theorem dX7_bound_171 : decode cX7_bound 171 = .ok (.ifCond .eq 22, 3) := by decide +kernel
theorem dX7_bound_174 : decode cX7_bound 174 = .ok (.iload 5, 2) := by decide +kernel
theorem dX7_bound_176 : decode cX7_bound 176 = .ok (.ineg, 1) := by decide +kernel
theorem dX7_bound_177 : decode cX7_bound 177 = .ok (.aload_n 0, 1) := by decide +kernel
theorem dX7_bound_178 : decode cX7_bound 178 = .ok (.getfield 40, 3) := by decide +kernel
theorem dX7_bound_181 : decode cX7_bound 181 = .ok (.bipush 10, 2) := by decide +kernel
theorem dX7_bound_183 : decode cX7_bound 183 = .ok (.iload 4, 2) := by decide +kernel
theorem dX7_bound_185 : decode cX7_bound 185 = .ok (.imul, 1) := by decide +kernel
theorem dX7_bound_186 : decode cX7_bound 186 = .ok (.iload_n 3, 1) := by decide +kernel
theorem dX7_bound_187 : decode cX7_bound 187 = .ok (.iadd, 1) := by decide +kernel
theorem dX7_bound_188 : decode cX7_bound 188 = .ok (.iaload, 1) := by decide +kernel
theorem dX7_bound_189 : decode cX7_bound 189 = .ok (.isub, 1) := by decide +kernel
theorem dX7_bound_190 : decode cX7_bound 190 = .ok (.goto 5, 3) := by decide +kernel
theorem dX7_bound_193 : decode cX7_bound 193 = .ok (.bipush (-4), 2) := by decide +kernel
theorem dX7_bound_195 : decode cX7_bound 195 = .ok (.ireturn, 1) := by decide +kernel
theorem dX7_reach_0 : decode cX7_reach 0 = .ok (.aload_n 0, 1) := by decide +kernel
theorem dX7_reach_1 : decode cX7_reach 1 = .ok (.iload_n 1, 1) := by decide +kernel
theorem dX7_reach_2 : decode cX7_reach 2 = .ok (.invokevirtual 163, 3) := by decide +kernel
theorem dX7_reach_5 : decode cX7_reach 5 = .ok (.ifCond .eq 11, 3) := by decide +kernel
theorem dX7_reach_8 : decode cX7_reach 8 = .ok (.aload_n 0, 1) := by decide +kernel
theorem dX7_reach_9 : decode cX7_reach 9 = .ok (.iload_n 2, 1) := by decide +kernel
theorem dX7_reach_10 : decode cX7_reach 10 = .ok (.invokevirtual 163, 3) := by decide +kernel
theorem dX7_reach_13 : decode cX7_reach 13 = .ok (.ifCond .ne 5, 3) := by decide +kernel
theorem dX7_reach_16 : decode cX7_reach 16 = .ok (.iconst (-1), 1) := by decide +kernel
theorem dX7_reach_17 : decode cX7_reach 17 = .ok (.ireturn, 1) := by decide +kernel
theorem dX7_reach_18 : decode cX7_reach 18 = .ok (.aload_n 0, 1) := by decide +kernel
theorem dX7_reach_19 : decode cX7_reach 19 = .ok (.invokevirtual 154, 3) := by decide +kernel
theorem dX7_reach_22 : decode cX7_reach 22 = .ok (.aload_n 0, 1) := by decide +kernel
theorem dX7_reach_23 : decode cX7_reach 23 = .ok (.getfield 40, 3) := by decide +kernel
theorem dX7_reach_26 : decode cX7_reach 26 = .ok (.bipush 10, 2) := by decide +kernel
theorem dX7_reach_28 : decode cX7_reach 28 = .ok (.iload_n 1, 1) := by decide +kernel
theorem dX7_reach_29 : decode cX7_reach 29 = .ok (.imul, 1) := by decide +kernel
theorem dX7_reach_30 : decode cX7_reach 30 = .ok (.iload_n 2, 1) := by decide +kernel
theorem dX7_reach_31 : decode cX7_reach 31 = .ok (.iadd, 1) := by decide +kernel
theorem dX7_reach_32 : decode cX7_reach 32 = .ok (.iaload, 1) := by decide +kernel
theorem dX7_reach_33 : decode cX7_reach 33 = .ok (.invokestatic 141, 3) := by decide +kernel
theorem dX7_reach_36 : decode cX7_reach 36 = .ok (.ifCond .eq 21, 3) := by decide +kernel
theorem dX7_reach_39 : decode cX7_reach 39 = .ok (.aload_n 0, 1) := by decide +kernel
theorem dX7_reach_40 : decode cX7_reach 40 = .ok (.getfield 40, 3) := by decide +kernel
theorem dX7_reach_43 : decode cX7_reach 43 = .ok (.bipush 10, 2) := by decide +kernel
theorem dX7_reach_45 : decode cX7_reach 45 = .ok (.iload_n 1, 1) := by decide +kernel
theorem dX7_reach_46 : decode cX7_reach 46 = .ok (.imul, 1) := by decide +kernel
theorem dX7_reach_47 : decode cX7_reach 47 = .ok (.iload_n 2, 1) := by decide +kernel
theorem dX7_reach_48 : decode cX7_reach 48 = .ok (.iadd, 1) := by decide +kernel
theorem dX7_reach_49 : decode cX7_reach 49 = .ok (.iaload, 1) := by decide +kernel
theorem dX7_reach_50 : decode cX7_reach 50 = .ok (.sipush 1000, 3) := by decide +kernel
theorem dX7_reach_53 : decode cX7_reach 53 = .ok (.iadd, 1) := by decide +kernel
theorem dX7_reach_54 : decode cX7_reach 54 = .ok (.goto 5, 3) := by decide +kernel
theorem dX7_reach_57 : decode cX7_reach 57 = .ok (.bipush (-4), 2) := by decide +kernel
theorem dX7_reach_59 : decode cX7_reach 59 = .ok (.ireturn, 1) := by decide +kernel
theorem dX7_note_0 : decode cX7_note 0 = .ok (.aload_n 0, 1) := by decide +kernel
theorem dX7_note_1 : decode cX7_note 1 = .ok (.getfield 125, 3) := by decide +kernel
theorem dX7_note_4 : decode cX7_note 4 = .ok (.bipush 8, 2) := by decide +kernel
theorem dX7_note_6 : decode cX7_note 6 = .ok (.if_icmp .ne 43, 3) := by decide +kernel
theorem dX7_note_9 : decode cX7_note 9 = .ok (.iconst 0, 1) := by decide +kernel
theorem dX7_note_10 : decode cX7_note 10 = .ok (.istore_n 1, 1) := by decide +kernel
theorem dX7_note_11 : decode cX7_note 11 = .ok (.iload_n 1, 1) := by decide +kernel
theorem dX7_note_12 : decode cX7_note 12 = .ok (.sipush 413, 3) := by decide +kernel
theorem dX7_note_15 : decode cX7_note 15 = .ok (.if_icmp .ge 24, 3) := by decide +kernel
theorem dX7_note_18 : decode cX7_note 18 = .ok (.aload_n 0, 1) := by decide +kernel
theorem dX7_note_19 : decode cX7_note 19 = .ok (.getfield 22, 3) := by decide +kernel
theorem dX7_note_22 : decode cX7_note 22 = .ok (.iload_n 1, 1) := by decide +kernel
theorem dX7_note_23 : decode cX7_note 23 = .ok (.aload_n 0, 1) := by decide +kernel
theorem dX7_note_24 : decode cX7_note 24 = .ok (.getfield 22, 3) := by decide +kernel
theorem dX7_note_27 : decode cX7_note 27 = .ok (.bipush 59, 2) := by decide +kernel
theorem dX7_note_29 : decode cX7_note 29 = .ok (.iload_n 1, 1) := by decide +kernel
theorem dX7_note_30 : decode cX7_note 30 = .ok (.iadd, 1) := by decide +kernel
theorem dX7_note_31 : decode cX7_note 31 = .ok (.iaload, 1) := by decide +kernel
theorem dX7_note_32 : decode cX7_note 32 = .ok (.iastore, 1) := by decide +kernel
theorem dX7_note_33 : decode cX7_note 33 = .ok (.iinc 1 1, 3) := by decide +kernel
theorem dX7_note_36 : decode cX7_note 36 = .ok (.goto (-25), 3) := by decide +kernel
theorem dX7_note_39 : decode cX7_note 39 = .ok (.aload_n 0, 1) := by decide +kernel
theorem dX7_note_40 : decode cX7_note 40 = .ok (.dup, 1) := by decide +kernel
theorem dX7_note_41 : decode cX7_note 41 = .ok (.getfield 125, 3) := by decide +kernel
theorem dX7_note_44 : decode cX7_note 44 = .ok (.iconst 1, 1) := by decide +kernel
theorem dX7_note_45 : decode cX7_note 45 = .ok (.isub, 1) := by decide +kernel
theorem dX7_note_46 : decode cX7_note 46 = .ok (.putfield 125, 3) := by decide +kernel
theorem dX7_note_49 : decode cX7_note 49 = .ok (.iconst 0, 1) := by decide +kernel
theorem dX7_note_50 : decode cX7_note 50 = .ok (.istore_n 1, 1) := by decide +kernel
theorem dX7_note_51 : decode cX7_note 51 = .ok (.iload_n 1, 1) := by decide +kernel
theorem dX7_note_52 : decode cX7_note 52 = .ok (.bipush 59, 2) := by decide +kernel
theorem dX7_note_54 : decode cX7_note 54 = .ok (.if_icmp .ge 29, 3) := by decide +kernel
theorem dX7_note_57 : decode cX7_note 57 = .ok (.aload_n 0, 1) := by decide +kernel
theorem dX7_note_58 : decode cX7_note 58 = .ok (.getfield 22, 3) := by decide +kernel
theorem dX7_note_61 : decode cX7_note 61 = .ok (.bipush 59, 2) := by decide +kernel
theorem dX7_note_63 : decode cX7_note 63 = .ok (.aload_n 0, 1) := by decide +kernel
theorem dX7_note_64 : decode cX7_note 64 = .ok (.getfield 125, 3) := by decide +kernel
theorem dX7_note_67 : decode cX7_note 67 = .ok (.imul, 1) := by decide +kernel
theorem dX7_note_68 : decode cX7_note 68 = .ok (.iload_n 1, 1) := by decide +kernel
theorem dX7_note_69 : decode cX7_note 69 = .ok (.iadd, 1) := by decide +kernel
theorem dX7_note_70 : decode cX7_note 70 = .ok (.aload_n 0, 1) := by decide +kernel
theorem dX7_note_71 : decode cX7_note 71 = .ok (.getfield 19, 3) := by decide +kernel
theorem dX7_note_74 : decode cX7_note 74 = .ok (.iload_n 1, 1) := by decide +kernel
theorem dX7_note_75 : decode cX7_note 75 = .ok (.iaload, 1) := by decide +kernel
theorem dX7_note_76 : decode cX7_note 76 = .ok (.iastore, 1) := by decide +kernel
theorem dX7_note_77 : decode cX7_note 77 = .ok (.iinc 1 1, 3) := by decide +kernel
theorem dX7_note_80 : decode cX7_note 80 = .ok (.goto (-29), 3) := by decide +kernel
theorem dX7_note_83 : decode cX7_note 83 = .ok (.aload_n 0, 1) := by decide +kernel
theorem dX7_note_84 : decode cX7_note 84 = .ok (.dup, 1) := by decide +kernel
theorem dX7_note_85 : decode cX7_note 85 = .ok (.getfield 125, 3) := by decide +kernel
theorem dX7_note_88 : decode cX7_note 88 = .ok (.iconst 1, 1) := by decide +kernel
theorem dX7_note_89 : decode cX7_note 89 = .ok (.iadd, 1) := by decide +kernel
theorem dX7_note_90 : decode cX7_note 90 = .ok (.putfield 125, 3) := by decide +kernel
theorem dX7_note_93 : decode cX7_note 93 = .ok (.return_, 1) := by decide +kernel
theorem dX7_ask_0 : decode cX7_ask 0 = .ok (.aload_n 0, 1) := by decide +kernel
theorem dX7_ask_1 : decode cX7_ask 1 = .ok (.iload_n 1, 1) := by decide +kernel
theorem dX7_ask_2 : decode cX7_ask 2 = .ok (.invokevirtual 163, 3) := by decide +kernel
theorem dX7_ask_5 : decode cX7_ask 5 = .ok (.ifCond .eq 23, 3) := by decide +kernel
theorem dX7_ask_8 : decode cX7_ask 8 = .ok (.iload_n 2, 1) := by decide +kernel
theorem dX7_ask_9 : decode cX7_ask 9 = .ok (.invokestatic 177, 3) := by decide +kernel
theorem dX7_ask_12 : decode cX7_ask 12 = .ok (.ifCond .eq 16, 3) := by decide +kernel
theorem dX7_ask_15 : decode cX7_ask 15 = .ok (.aload_n 0, 1) := by decide +kernel
theorem dX7_ask_16 : decode cX7_ask 16 = .ok (.iload_n 3, 1) := by decide +kernel
theorem dX7_ask_17 : decode cX7_ask 17 = .ok (.invokevirtual 163, 3) := by decide +kernel
theorem dX7_ask_20 : decode cX7_ask 20 = .ok (.ifCond .eq 8, 3) := by decide +kernel
theorem dX7_ask_23 : decode cX7_ask 23 = .ok (.iload_n 1, 1) := by decide +kernel
theorem dX7_ask_24 : decode cX7_ask 24 = .ok (.iload_n 3, 1) := by decide +kernel
theorem dX7_ask_25 : decode cX7_ask 25 = .ok (.if_icmp .ne 5, 3) := by decide +kernel
theorem dX7_ask_28 : decode cX7_ask 28 = .ok (.iconst (-1), 1) := by decide +kernel
theorem dX7_ask_29 : decode cX7_ask 29 = .ok (.ireturn, 1) := by decide +kernel
theorem dX7_ask_30 : decode cX7_ask 30 = .ok (.aload_n 0, 1) := by decide +kernel
theorem dX7_ask_31 : decode cX7_ask 31 = .ok (.iload_n 1, 1) := by decide +kernel
theorem dX7_ask_32 : decode cX7_ask 32 = .ok (.iload_n 2, 1) := by decide +kernel
theorem dX7_ask_33 : decode cX7_ask 33 = .ok (.iload_n 3, 1) := by decide +kernel
theorem dX7_ask_34 : decode cX7_ask 34 = .ok (.invokevirtual 115, 3) := by decide +kernel
theorem dX7_ask_37 : decode cX7_ask 37 = .ok (.ifCond .ne 6, 3) := by decide +kernel
theorem dX7_ask_40 : decode cX7_ask 40 = .ok (.bipush (-2), 2) := by decide +kernel
theorem dX7_ask_42 : decode cX7_ask 42 = .ok (.ireturn, 1) := by decide +kernel
theorem dX7_ask_43 : decode cX7_ask 43 = .ok (.aload_n 0, 1) := by decide +kernel
theorem dX7_ask_44 : decode cX7_ask 44 = .ok (.getfield 19, 3) := by decide +kernel
theorem dX7_ask_47 : decode cX7_ask 47 = .ok (.bipush 10, 2) := by decide +kernel
theorem dX7_ask_49 : decode cX7_ask 49 = .ok (.iaload, 1) := by decide +kernel
theorem dX7_ask_50 : decode cX7_ask 50 = .ok (.bipush 16, 2) := by decide +kernel
theorem dX7_ask_52 : decode cX7_ask 52 = .ok (.if_icmp .ne 6, 3) := by decide +kernel
theorem dX7_ask_55 : decode cX7_ask 55 = .ok (.bipush (-3), 2) := by decide +kernel
theorem dX7_ask_57 : decode cX7_ask 57 = .ok (.ireturn, 1) := by decide +kernel
theorem dX7_ask_58 : decode cX7_ask 58 = .ok (.aload_n 0, 1) := by decide +kernel
theorem dX7_ask_59 : decode cX7_ask 59 = .ok (.invokevirtual 180, 3) := by decide +kernel
theorem dX7_ask_62 : decode cX7_ask 62 = .ok (.aload_n 0, 1) := by decide +kernel
theorem dX7_ask_63 : decode cX7_ask 63 = .ok (.iload_n 1, 1) := by decide +kernel
theorem dX7_ask_64 : decode cX7_ask 64 = .ok (.iload_n 2, 1) := by decide +kernel
theorem dX7_ask_65 : decode cX7_ask 65 = .ok (.iload_n 3, 1) := by decide +kernel
theorem dX7_ask_66 : decode cX7_ask 66 = .ok (.invokevirtual 119, 3) := by decide +kernel
theorem dX7_ask_69 : decode cX7_ask 69 = .ok (.aload_n 0, 1) := by decide +kernel
theorem dX7_ask_70 : decode cX7_ask 70 = .ok (.getfield 19, 3) := by decide +kernel
theorem dX7_ask_73 : decode cX7_ask 73 = .ok (.bipush 10, 2) := by decide +kernel
theorem dX7_ask_75 : decode cX7_ask 75 = .ok (.iaload, 1) := by decide +kernel
theorem dX7_ask_76 : decode cX7_ask 76 = .ok (.iconst 1, 1) := by decide +kernel
theorem dX7_ask_77 : decode cX7_ask 77 = .ok (.isub, 1) := by decide +kernel
theorem dX7_ask_78 : decode cX7_ask 78 = .ok (.ireturn, 1) := by decide +kernel
theorem dX7_retract_0 : decode cX7_retract 0 = .ok (.iload_n 1, 1) := by decide +kernel
theorem dX7_retract_1 : decode cX7_retract 1 = .ok (.i2l, 1) := by decide +kernel
theorem dX7_retract_2 : decode cX7_retract 2 = .ok (.lconst 0, 1) := by decide +kernel
theorem dX7_retract_3 : decode cX7_retract 3 = .ok (.aload_n 0, 1) := by decide +kernel
theorem dX7_retract_4 : decode cX7_retract 4 = .ok (.getfield 19, 3) := by decide +kernel
theorem dX7_retract_7 : decode cX7_retract 7 = .ok (.bipush 10, 2) := by decide +kernel
theorem dX7_retract_9 : decode cX7_retract 9 = .ok (.iaload, 1) := by decide +kernel
theorem dX7_retract_10 : decode cX7_retract 10 = .ok (.iconst 1, 1) := by decide +kernel
theorem dX7_retract_11 : decode cX7_retract 11 = .ok (.isub, 1) := by decide +kernel
theorem dX7_retract_12 : decode cX7_retract 12 = .ok (.i2l, 1) := by decide +kernel
theorem dX7_retract_13 : decode cX7_retract 13 = .ok (.invokestatic 74, 3) := by decide +kernel
theorem dX7_retract_16 : decode cX7_retract 16 = .ok (.ifCond .ne 5, 3) := by decide +kernel
theorem dX7_retract_19 : decode cX7_retract 19 = .ok (.iconst (-1), 1) := by decide +kernel
theorem dX7_retract_20 : decode cX7_retract 20 = .ok (.ireturn, 1) := by decide +kernel
theorem dX7_retract_21 : decode cX7_retract 21 = .ok (.aload_n 0, 1) := by decide +kernel
theorem dX7_retract_22 : decode cX7_retract 22 = .ok (.invokevirtual 180, 3) := by decide +kernel
theorem dX7_retract_25 : decode cX7_retract 25 = .ok (.aload_n 0, 1) := by decide +kernel
theorem dX7_retract_26 : decode cX7_retract 26 = .ok (.getfield 19, 3) := by decide +kernel
theorem dX7_retract_29 : decode cX7_retract 29 = .ok (.bipush 10, 2) := by decide +kernel
theorem dX7_retract_31 : decode cX7_retract 31 = .ok (.dup2, 1) := by decide +kernel
theorem dX7_retract_32 : decode cX7_retract 32 = .ok (.iaload, 1) := by decide +kernel
theorem dX7_retract_33 : decode cX7_retract 33 = .ok (.iconst 1, 1) := by decide +kernel
theorem dX7_retract_34 : decode cX7_retract 34 = .ok (.isub, 1) := by decide +kernel
theorem dX7_retract_35 : decode cX7_retract 35 = .ok (.iastore, 1) := by decide +kernel
theorem dX7_retract_36 : decode cX7_retract 36 = .ok (.iload_n 1, 1) := by decide +kernel
theorem dX7_retract_37 : decode cX7_retract 37 = .ok (.istore_n 2, 1) := by decide +kernel
theorem dX7_retract_38 : decode cX7_retract 38 = .ok (.iload_n 2, 1) := by decide +kernel
theorem dX7_retract_39 : decode cX7_retract 39 = .ok (.aload_n 0, 1) := by decide +kernel
theorem dX7_retract_40 : decode cX7_retract 40 = .ok (.getfield 19, 3) := by decide +kernel
theorem dX7_retract_43 : decode cX7_retract 43 = .ok (.bipush 10, 2) := by decide +kernel
theorem dX7_retract_45 : decode cX7_retract 45 = .ok (.iaload, 1) := by decide +kernel
theorem dX7_retract_46 : decode cX7_retract 46 = .ok (.if_icmp .ge 69, 3) := by decide +kernel
theorem dX7_retract_49 : decode cX7_retract 49 = .ok (.aload_n 0, 1) := by decide +kernel
theorem dX7_retract_50 : decode cX7_retract 50 = .ok (.getfield 19, 3) := by decide +kernel
theorem dX7_retract_53 : decode cX7_retract 53 = .ok (.bipush 11, 2) := by decide +kernel
theorem dX7_retract_55 : decode cX7_retract 55 = .ok (.iload_n 2, 1) := by decide +kernel
theorem dX7_retract_56 : decode cX7_retract 56 = .ok (.iadd, 1) := by decide +kernel
theorem dX7_retract_57 : decode cX7_retract 57 = .ok (.aload_n 0, 1) := by decide +kernel
theorem dX7_retract_58 : decode cX7_retract 58 = .ok (.getfield 19, 3) := by decide +kernel
theorem dX7_retract_61 : decode cX7_retract 61 = .ok (.bipush 11, 2) := by decide +kernel
theorem dX7_retract_63 : decode cX7_retract 63 = .ok (.iload_n 2, 1) := by decide +kernel
theorem dX7_retract_64 : decode cX7_retract 64 = .ok (.iadd, 1) := by decide +kernel
theorem dX7_retract_65 : decode cX7_retract 65 = .ok (.iconst 1, 1) := by decide +kernel
theorem dX7_retract_66 : decode cX7_retract 66 = .ok (.iadd, 1) := by decide +kernel
theorem dX7_retract_67 : decode cX7_retract 67 = .ok (.iaload, 1) := by decide +kernel
theorem dX7_retract_68 : decode cX7_retract 68 = .ok (.iastore, 1) := by decide +kernel
theorem dX7_retract_69 : decode cX7_retract 69 = .ok (.aload_n 0, 1) := by decide +kernel
theorem dX7_retract_70 : decode cX7_retract 70 = .ok (.getfield 19, 3) := by decide +kernel
theorem dX7_retract_73 : decode cX7_retract 73 = .ok (.bipush 27, 2) := by decide +kernel
theorem dX7_retract_75 : decode cX7_retract 75 = .ok (.iload_n 2, 1) := by decide +kernel
theorem dX7_retract_76 : decode cX7_retract 76 = .ok (.iadd, 1) := by decide +kernel
theorem dX7_retract_77 : decode cX7_retract 77 = .ok (.aload_n 0, 1) := by decide +kernel
theorem dX7_retract_78 : decode cX7_retract 78 = .ok (.getfield 19, 3) := by decide +kernel
theorem dX7_retract_81 : decode cX7_retract 81 = .ok (.bipush 27, 2) := by decide +kernel
theorem dX7_retract_83 : decode cX7_retract 83 = .ok (.iload_n 2, 1) := by decide +kernel
theorem dX7_retract_84 : decode cX7_retract 84 = .ok (.iadd, 1) := by decide +kernel
theorem dX7_retract_85 : decode cX7_retract 85 = .ok (.iconst 1, 1) := by decide +kernel
theorem dX7_retract_86 : decode cX7_retract 86 = .ok (.iadd, 1) := by decide +kernel
theorem dX7_retract_87 : decode cX7_retract 87 = .ok (.iaload, 1) := by decide +kernel
theorem dX7_retract_88 : decode cX7_retract 88 = .ok (.iastore, 1) := by decide +kernel
theorem dX7_retract_89 : decode cX7_retract 89 = .ok (.aload_n 0, 1) := by decide +kernel
theorem dX7_retract_90 : decode cX7_retract 90 = .ok (.getfield 19, 3) := by decide +kernel
theorem dX7_retract_93 : decode cX7_retract 93 = .ok (.bipush 43, 2) := by decide +kernel
theorem dX7_retract_95 : decode cX7_retract 95 = .ok (.iload_n 2, 1) := by decide +kernel
theorem dX7_retract_96 : decode cX7_retract 96 = .ok (.iadd, 1) := by decide +kernel
theorem dX7_retract_97 : decode cX7_retract 97 = .ok (.aload_n 0, 1) := by decide +kernel
theorem dX7_retract_98 : decode cX7_retract 98 = .ok (.getfield 19, 3) := by decide +kernel
theorem dX7_retract_101 : decode cX7_retract 101 = .ok (.bipush 43, 2) := by decide +kernel
theorem dX7_retract_103 : decode cX7_retract 103 = .ok (.iload_n 2, 1) := by decide +kernel
theorem dX7_retract_104 : decode cX7_retract 104 = .ok (.iadd, 1) := by decide +kernel
theorem dX7_retract_105 : decode cX7_retract 105 = .ok (.iconst 1, 1) := by decide +kernel
theorem dX7_retract_106 : decode cX7_retract 106 = .ok (.iadd, 1) := by decide +kernel
theorem dX7_retract_107 : decode cX7_retract 107 = .ok (.iaload, 1) := by decide +kernel
theorem dX7_retract_108 : decode cX7_retract 108 = .ok (.iastore, 1) := by decide +kernel
theorem dX7_retract_109 : decode cX7_retract 109 = .ok (.iinc 2 1, 3) := by decide +kernel
theorem dX7_retract_112 : decode cX7_retract 112 = .ok (.goto (-74), 3) := by decide +kernel
theorem dX7_retract_115 : decode cX7_retract 115 = .ok (.aload_n 0, 1) := by decide +kernel
theorem dX7_retract_116 : decode cX7_retract 116 = .ok (.getfield 19, 3) := by decide +kernel
theorem dX7_retract_119 : decode cX7_retract 119 = .ok (.bipush 10, 2) := by decide +kernel
theorem dX7_retract_121 : decode cX7_retract 121 = .ok (.iaload, 1) := by decide +kernel
theorem dX7_retract_122 : decode cX7_retract 122 = .ok (.ireturn, 1) := by decide +kernel
theorem dX7_rename_0 : decode cX7_rename 0 = .ok (.aload_n 0, 1) := by decide +kernel
theorem dX7_rename_1 : decode cX7_rename 1 = .ok (.iload_n 1, 1) := by decide +kernel
theorem dX7_rename_2 : decode cX7_rename 2 = .ok (.invokevirtual 163, 3) := by decide +kernel
theorem dX7_rename_5 : decode cX7_rename 5 = .ok (.ifCond .eq 15, 3) := by decide +kernel
theorem dX7_rename_8 : decode cX7_rename 8 = .ok (.iload_n 2, 1) := by decide +kernel
theorem dX7_rename_9 : decode cX7_rename 9 = .ok (.i2l, 1) := by decide +kernel
theorem dX7_rename_10 : decode cX7_rename 10 = .ok (.lconst 0, 1) := by decide +kernel
theorem dX7_rename_11 : decode cX7_rename 11 = .ok (.ldc2_w 183, 3) := by decide +kernel
theorem dX7_rename_14 : decode cX7_rename 14 = .ok (.invokestatic 74, 3) := by decide +kernel
theorem dX7_rename_17 : decode cX7_rename 17 = .ok (.ifCond .ne 5, 3) := by decide +kernel
theorem dX7_rename_20 : decode cX7_rename 20 = .ok (.iconst (-1), 1) := by decide +kernel
theorem dX7_rename_21 : decode cX7_rename 21 = .ok (.ireturn, 1) := by decide +kernel
theorem dX7_rename_22 : decode cX7_rename 22 = .ok (.aload_n 0, 1) := by decide +kernel
theorem dX7_rename_23 : decode cX7_rename 23 = .ok (.getfield 19, 3) := by decide +kernel
theorem dX7_rename_26 : decode cX7_rename 26 = .ok (.iload_n 1, 1) := by decide +kernel
theorem dX7_rename_27 : decode cX7_rename 27 = .ok (.iaload, 1) := by decide +kernel
theorem dX7_rename_28 : decode cX7_rename 28 = .ok (.istore_n 3, 1) := by decide +kernel
theorem dX7_rename_29 : decode cX7_rename 29 = .ok (.iload_n 3, 1) := by decide +kernel
theorem dX7_rename_30 : decode cX7_rename 30 = .ok (.iload_n 2, 1) := by decide +kernel
theorem dX7_rename_31 : decode cX7_rename 31 = .ok (.if_icmp .ne 6, 3) := by decide +kernel
theorem dX7_rename_34 : decode cX7_rename 34 = .ok (.bipush (-2), 2) := by decide +kernel
theorem dX7_rename_36 : decode cX7_rename 36 = .ok (.ireturn, 1) := by decide +kernel
theorem dX7_rename_37 : decode cX7_rename 37 = .ok (.aload_n 0, 1) := by decide +kernel
theorem dX7_rename_38 : decode cX7_rename 38 = .ok (.invokevirtual 180, 3) := by decide +kernel
theorem dX7_rename_41 : decode cX7_rename 41 = .ok (.aload_n 0, 1) := by decide +kernel
theorem dX7_rename_42 : decode cX7_rename 42 = .ok (.getfield 19, 3) := by decide +kernel
theorem dX7_rename_45 : decode cX7_rename 45 = .ok (.iload_n 1, 1) := by decide +kernel
theorem dX7_rename_46 : decode cX7_rename 46 = .ok (.iload_n 2, 1) := by decide +kernel
theorem dX7_rename_47 : decode cX7_rename 47 = .ok (.iastore, 1) := by decide +kernel
theorem dX7_rename_48 : decode cX7_rename 48 = .ok (.iload_n 3, 1) := by decide +kernel
theorem dX7_rename_49 : decode cX7_rename 49 = .ok (.ireturn, 1) := by decide +kernel
theorem dX7_undo_0 : decode cX7_undo 0 = .ok (.aload_n 0, 1) := by decide +kernel
theorem dX7_undo_1 : decode cX7_undo 1 = .ok (.getfield 125, 3) := by decide +kernel
theorem dX7_undo_4 : decode cX7_undo 4 = .ok (.ifCond .ne 6, 3) := by decide +kernel
theorem dX7_undo_7 : decode cX7_undo 7 = .ok (.bipush (-2), 2) := by decide +kernel
theorem dX7_undo_9 : decode cX7_undo 9 = .ok (.ireturn, 1) := by decide +kernel
theorem dX7_undo_10 : decode cX7_undo 10 = .ok (.aload_n 0, 1) := by decide +kernel
theorem dX7_undo_11 : decode cX7_undo 11 = .ok (.dup, 1) := by decide +kernel
theorem dX7_undo_12 : decode cX7_undo 12 = .ok (.getfield 125, 3) := by decide +kernel
theorem dX7_undo_15 : decode cX7_undo 15 = .ok (.iconst 1, 1) := by decide +kernel
theorem dX7_undo_16 : decode cX7_undo 16 = .ok (.isub, 1) := by decide +kernel
theorem dX7_undo_17 : decode cX7_undo 17 = .ok (.putfield 125, 3) := by decide +kernel
theorem dX7_undo_20 : decode cX7_undo 20 = .ok (.iconst 0, 1) := by decide +kernel
theorem dX7_undo_21 : decode cX7_undo 21 = .ok (.istore_n 1, 1) := by decide +kernel
theorem dX7_undo_22 : decode cX7_undo 22 = .ok (.iload_n 1, 1) := by decide +kernel
theorem dX7_undo_23 : decode cX7_undo 23 = .ok (.bipush 59, 2) := by decide +kernel
theorem dX7_undo_25 : decode cX7_undo 25 = .ok (.if_icmp .ge 29, 3) := by decide +kernel
theorem dX7_undo_28 : decode cX7_undo 28 = .ok (.aload_n 0, 1) := by decide +kernel
theorem dX7_undo_29 : decode cX7_undo 29 = .ok (.getfield 19, 3) := by decide +kernel
theorem dX7_undo_32 : decode cX7_undo 32 = .ok (.iload_n 1, 1) := by decide +kernel
theorem dX7_undo_33 : decode cX7_undo 33 = .ok (.aload_n 0, 1) := by decide +kernel
theorem dX7_undo_34 : decode cX7_undo 34 = .ok (.getfield 22, 3) := by decide +kernel
theorem dX7_undo_37 : decode cX7_undo 37 = .ok (.bipush 59, 2) := by decide +kernel
theorem dX7_undo_39 : decode cX7_undo 39 = .ok (.aload_n 0, 1) := by decide +kernel
theorem dX7_undo_40 : decode cX7_undo 40 = .ok (.getfield 125, 3) := by decide +kernel
theorem dX7_undo_43 : decode cX7_undo 43 = .ok (.imul, 1) := by decide +kernel
theorem dX7_undo_44 : decode cX7_undo 44 = .ok (.iload_n 1, 1) := by decide +kernel
theorem dX7_undo_45 : decode cX7_undo 45 = .ok (.iadd, 1) := by decide +kernel
theorem dX7_undo_46 : decode cX7_undo 46 = .ok (.iaload, 1) := by decide +kernel
theorem dX7_undo_47 : decode cX7_undo 47 = .ok (.iastore, 1) := by decide +kernel
theorem dX7_undo_48 : decode cX7_undo 48 = .ok (.iinc 1 1, 3) := by decide +kernel
theorem dX7_undo_51 : decode cX7_undo 51 = .ok (.goto (-29), 3) := by decide +kernel
theorem dX7_undo_54 : decode cX7_undo 54 = .ok (.aload_n 0, 1) := by decide +kernel
theorem dX7_undo_55 : decode cX7_undo 55 = .ok (.getfield 125, 3) := by decide +kernel
theorem dX7_undo_58 : decode cX7_undo 58 = .ok (.ireturn, 1) := by decide +kernel
theorem dX7_round_0 : decode cX7_round 0 = .ok (.iload_n 1, 1) := by decide +kernel
theorem dX7_round_1 : decode cX7_round 1 = .ok (.i2l, 1) := by decide +kernel
theorem dX7_round_2 : decode cX7_round 2 = .ok (.ldc2_w 185, 3) := by decide +kernel
theorem dX7_round_5 : decode cX7_round 5 = .ok (.ldc2_w 187, 3) := by decide +kernel
theorem dX7_round_8 : decode cX7_round 8 = .ok (.invokestatic 74, 3) := by decide +kernel
theorem dX7_round_11 : decode cX7_round 11 = .ok (.ifCond .ne 5, 3) := by decide +kernel
theorem dX7_round_14 : decode cX7_round 14 = .ok (.iconst (-1), 1) := by decide +kernel
theorem dX7_round_15 : decode cX7_round 15 = .ok (.ireturn, 1) := by decide +kernel
theorem dX7_round_16 : decode cX7_round 16 = .ok (.aload_n 0, 1) := by decide +kernel
theorem dX7_round_17 : decode cX7_round 17 = .ok (.getfield 112, 3) := by decide +kernel
theorem dX7_round_20 : decode cX7_round 20 = .ok (.ifCond .ne 6, 3) := by decide +kernel
theorem dX7_round_23 : decode cX7_round 23 = .ok (.bipush (-4), 2) := by decide +kernel
theorem dX7_round_25 : decode cX7_round 25 = .ok (.ireturn, 1) := by decide +kernel
theorem dX7_round_26 : decode cX7_round 26 = .ok (.iload_n 1, 1) := by decide +kernel
theorem dX7_round_27 : decode cX7_round 27 = .ok (.ifCond .ge 10, 3) := by decide +kernel
theorem dX7_round_30 : decode cX7_round 30 = .ok (.aload_n 0, 1) := by decide +kernel
theorem dX7_round_31 : decode cX7_round 31 = .ok (.getfield 112, 3) := by decide +kernel
theorem dX7_round_34 : decode cX7_round 34 = .ok (.goto 35, 3) := by decide +kernel
theorem dX7_round_37 : decode cX7_round 37 = .ok (.iload_n 1, 1) := by decide +kernel
theorem dX7_round_38 : decode cX7_round 38 = .ok (.bipush 10, 2) := by decide +kernel
theorem dX7_round_40 : decode cX7_round 40 = .ok (.if_icmp .ne 10, 3) := by decide +kernel
theorem dX7_round_43 : decode cX7_round 43 = .ok (.aload_n 0, 1) := by decide +kernel
theorem dX7_round_44 : decode cX7_round 44 = .ok (.getfield 147, 3) := by decide +kernel
theorem dX7_round_47 : decode cX7_round 47 = .ok (.goto 22, 3) := by decide +kernel
theorem dX7_round_50 : decode cX7_round 50 = .ok (.iload_n 1, 1) := by decide +kernel
theorem dX7_round_51 : decode cX7_round 51 = .ok (.aload_n 0, 1) := by decide +kernel
theorem dX7_round_52 : decode cX7_round 52 = .ok (.getfield 112, 3) := by decide +kernel
theorem dX7_round_55 : decode cX7_round 55 = .ok (.if_icmp .ge 12, 3) := by decide +kernel
theorem dX7_round_58 : decode cX7_round 58 = .ok (.aload_n 0, 1) := by decide +kernel
theorem dX7_round_59 : decode cX7_round 59 = .ok (.getfield 28, 3) := by decide +kernel
theorem dX7_round_62 : decode cX7_round 62 = .ok (.iload_n 1, 1) := by decide +kernel
theorem dX7_round_63 : decode cX7_round 63 = .ok (.iaload, 1) := by decide +kernel
theorem dX7_round_64 : decode cX7_round 64 = .ok (.goto 5, 3) := by decide +kernel
theorem dX7_round_67 : decode cX7_round 67 = .ok (.bipush (-4), 2) := by decide +kernel
theorem dX7_round_69 : decode cX7_round 69 = .ok (.ireturn, 1) := by decide +kernel
theorem dX7_isSo_0 : decode cX7_isSo 0 = .ok (.aload_n 0, 1) := by decide +kernel
theorem dX7_isSo_1 : decode cX7_isSo 1 = .ok (.getfield 40, 3) := by decide +kernel
theorem dX7_isSo_4 : decode cX7_isSo 4 = .ok (.bipush 10, 2) := by decide +kernel
theorem dX7_isSo_6 : decode cX7_isSo 6 = .ok (.iload_n 1, 1) := by decide +kernel
theorem dX7_isSo_7 : decode cX7_isSo 7 = .ok (.imul, 1) := by decide +kernel
theorem dX7_isSo_8 : decode cX7_isSo 8 = .ok (.iload_n 3, 1) := by decide +kernel
theorem dX7_isSo_9 : decode cX7_isSo 9 = .ok (.iadd, 1) := by decide +kernel
theorem dX7_isSo_10 : decode cX7_isSo 10 = .ok (.iaload, 1) := by decide +kernel
theorem dX7_isSo_11 : decode cX7_isSo 11 = .ok (.invokestatic 141, 3) := by decide +kernel
theorem dX7_isSo_14 : decode cX7_isSo 14 = .ok (.ifCond .eq 22, 3) := by decide +kernel
theorem dX7_isSo_17 : decode cX7_isSo 17 = .ok (.aload_n 0, 1) := by decide +kernel
theorem dX7_isSo_18 : decode cX7_isSo 18 = .ok (.getfield 40, 3) := by decide +kernel
theorem dX7_isSo_21 : decode cX7_isSo 21 = .ok (.bipush 10, 2) := by decide +kernel
theorem dX7_isSo_23 : decode cX7_isSo 23 = .ok (.iload_n 1, 1) := by decide +kernel
theorem dX7_isSo_24 : decode cX7_isSo 24 = .ok (.imul, 1) := by decide +kernel
theorem dX7_isSo_25 : decode cX7_isSo 25 = .ok (.iload_n 3, 1) := by decide +kernel
theorem dX7_isSo_26 : decode cX7_isSo 26 = .ok (.iadd, 1) := by decide +kernel
theorem dX7_isSo_27 : decode cX7_isSo 27 = .ok (.iaload, 1) := by decide +kernel
theorem dX7_isSo_28 : decode cX7_isSo 28 = .ok (.iload_n 2, 1) := by decide +kernel
theorem dX7_isSo_29 : decode cX7_isSo 29 = .ok (.if_icmp .lt 7, 3) := by decide +kernel
theorem dX7_isSo_32 : decode cX7_isSo 32 = .ok (.iconst 1, 1) := by decide +kernel
theorem dX7_isSo_33 : decode cX7_isSo 33 = .ok (.goto 4, 3) := by decide +kernel
theorem dX7_isSo_36 : decode cX7_isSo 36 = .ok (.iconst 0, 1) := by decide +kernel
theorem dX7_isSo_37 : decode cX7_isSo 37 = .ok (.ireturn, 1) := by decide +kernel
theorem dX7_follows_0 : decode cX7_follows 0 = .ok (.aload_n 0, 1) := by decide +kernel
theorem dX7_follows_1 : decode cX7_follows 1 = .ok (.iload_n 1, 1) := by decide +kernel
theorem dX7_follows_2 : decode cX7_follows 2 = .ok (.invokevirtual 163, 3) := by decide +kernel
theorem dX7_follows_5 : decode cX7_follows 5 = .ok (.ifCond .eq 18, 3) := by decide +kernel
theorem dX7_follows_8 : decode cX7_follows 8 = .ok (.iload_n 2, 1) := by decide +kernel
theorem dX7_follows_9 : decode cX7_follows 9 = .ok (.invokestatic 177, 3) := by decide +kernel
theorem dX7_follows_12 : decode cX7_follows 12 = .ok (.ifCond .eq 11, 3) := by decide +kernel
theorem dX7_follows_15 : decode cX7_follows 15 = .ok (.aload_n 0, 1) := by decide +kernel
theorem dX7_follows_16 : decode cX7_follows 16 = .ok (.iload_n 3, 1) := by decide +kernel
theorem dX7_follows_17 : decode cX7_follows 17 = .ok (.invokevirtual 163, 3) := by decide +kernel
theorem dX7_follows_20 : decode cX7_follows 20 = .ok (.ifCond .ne 5, 3) := by decide +kernel
theorem dX7_follows_23 : decode cX7_follows 23 = .ok (.iconst (-1), 1) := by decide +kernel
theorem dX7_follows_24 : decode cX7_follows 24 = .ok (.ireturn, 1) := by decide +kernel
theorem dX7_follows_25 : decode cX7_follows 25 = .ok (.aload_n 0, 1) := by decide +kernel
theorem dX7_follows_26 : decode cX7_follows 26 = .ok (.invokevirtual 154, 3) := by decide +kernel
theorem dX7_follows_29 : decode cX7_follows 29 = .ok (.aload_n 0, 1) := by decide +kernel
theorem dX7_follows_30 : decode cX7_follows 30 = .ok (.iload_n 1, 1) := by decide +kernel
theorem dX7_follows_31 : decode cX7_follows 31 = .ok (.iload_n 2, 1) := by decide +kernel
theorem dX7_follows_32 : decode cX7_follows 32 = .ok (.iload_n 3, 1) := by decide +kernel
theorem dX7_follows_33 : decode cX7_follows 33 = .ok (.invokevirtual 189, 3) := by decide +kernel
theorem dX7_follows_36 : decode cX7_follows 36 = .ok (.ifCond .eq 7, 3) := by decide +kernel
theorem dX7_follows_39 : decode cX7_follows 39 = .ok (.iconst 1, 1) := by decide +kernel
theorem dX7_follows_40 : decode cX7_follows 40 = .ok (.goto 4, 3) := by decide +kernel
theorem dX7_follows_43 : decode cX7_follows 43 = .ok (.iconst 0, 1) := by decide +kernel
theorem dX7_follows_44 : decode cX7_follows 44 = .ok (.ireturn, 1) := by decide +kernel
theorem dX7_raised_0 : decode cX7_raised 0 = .ok (.aload_n 0, 1) := by decide +kernel
theorem dX7_raised_1 : decode cX7_raised 1 = .ok (.iload_n 1, 1) := by decide +kernel
theorem dX7_raised_2 : decode cX7_raised 2 = .ok (.invokevirtual 163, 3) := by decide +kernel
theorem dX7_raised_5 : decode cX7_raised 5 = .ok (.ifCond .eq 23, 3) := by decide +kernel
theorem dX7_raised_8 : decode cX7_raised 8 = .ok (.iload_n 2, 1) := by decide +kernel
theorem dX7_raised_9 : decode cX7_raised 9 = .ok (.i2l, 1) := by decide +kernel
theorem dX7_raised_10 : decode cX7_raised 10 = .ok (.lconst 0, 1) := by decide +kernel
theorem dX7_raised_11 : decode cX7_raised 11 = .ok (.ldc2_w 192, 3) := by decide +kernel
theorem dX7_raised_14 : decode cX7_raised 14 = .ok (.invokestatic 74, 3) := by decide +kernel
theorem dX7_raised_17 : decode cX7_raised 17 = .ok (.ifCond .eq 11, 3) := by decide +kernel
theorem dX7_raised_20 : decode cX7_raised 20 = .ok (.aload_n 0, 1) := by decide +kernel
theorem dX7_raised_21 : decode cX7_raised 21 = .ok (.iload_n 3, 1) := by decide +kernel
theorem dX7_raised_22 : decode cX7_raised 22 = .ok (.invokevirtual 163, 3) := by decide +kernel
theorem dX7_raised_25 : decode cX7_raised 25 = .ok (.ifCond .ne 5, 3) := by decide +kernel
theorem dX7_raised_28 : decode cX7_raised 28 = .ok (.iconst (-1), 1) := by decide +kernel
theorem dX7_raised_29 : decode cX7_raised 29 = .ok (.ireturn, 1) := by decide +kernel
theorem dX7_raised_30 : decode cX7_raised 30 = .ok (.aload_n 0, 1) := by decide +kernel
theorem dX7_raised_31 : decode cX7_raised 31 = .ok (.invokevirtual 154, 3) := by decide +kernel
theorem dX7_raised_34 : decode cX7_raised 34 = .ok (.aload_n 0, 1) := by decide +kernel
theorem dX7_raised_35 : decode cX7_raised 35 = .ok (.iload_n 3, 1) := by decide +kernel
theorem dX7_raised_36 : decode cX7_raised 36 = .ok (.invokevirtual 168, 3) := by decide +kernel
theorem dX7_raised_39 : decode cX7_raised 39 = .ok (.istore 4, 2) := by decide +kernel
theorem dX7_raised_41 : decode cX7_raised 41 = .ok (.aload_n 0, 1) := by decide +kernel
theorem dX7_raised_42 : decode cX7_raised 42 = .ok (.getfield 40, 3) := by decide +kernel
theorem dX7_raised_45 : decode cX7_raised 45 = .ok (.bipush 10, 2) := by decide +kernel
theorem dX7_raised_47 : decode cX7_raised 47 = .ok (.iload_n 1, 1) := by decide +kernel
theorem dX7_raised_48 : decode cX7_raised 48 = .ok (.imul, 1) := by decide +kernel
theorem dX7_raised_49 : decode cX7_raised 49 = .ok (.iload_n 3, 1) := by decide +kernel
theorem dX7_raised_50 : decode cX7_raised 50 = .ok (.iadd, 1) := by decide +kernel
theorem dX7_raised_51 : decode cX7_raised 51 = .ok (.iaload, 1) := by decide +kernel
theorem dX7_raised_52 : decode cX7_raised 52 = .ok (.istore 5, 2) := by decide +kernel
theorem dX7_raised_54 : decode cX7_raised 54 = .ok (.iload 5, 2) := by decide +kernel
theorem dX7_raised_56 : decode cX7_raised 56 = .ok (.invokestatic 141, 3) := by decide +kernel
theorem dX7_raised_59 : decode cX7_raised 59 = .ok (.ifCond .eq 19, 3) := by decide +kernel
theorem dX7_raised_62 : decode cX7_raised 62 = .ok (.iload_n 2, 1) := by decide +kernel
theorem dX7_raised_63 : decode cX7_raised 63 = .ok (.iload 5, 2) := by decide +kernel
theorem dX7_raised_65 : decode cX7_raised 65 = .ok (.iadd, 1) := by decide +kernel
theorem dX7_raised_66 : decode cX7_raised 66 = .ok (.iload 4, 2) := by decide +kernel
theorem dX7_raised_68 : decode cX7_raised 68 = .ok (.if_icmp .le 10, 3) := by decide +kernel
theorem dX7_raised_71 : decode cX7_raised 71 = .ok (.iload_n 2, 1) := by decide +kernel
theorem dX7_raised_72 : decode cX7_raised 72 = .ok (.iload 5, 2) := by decide +kernel
theorem dX7_raised_74 : decode cX7_raised 74 = .ok (.iadd, 1) := by decide +kernel
theorem dX7_raised_75 : decode cX7_raised 75 = .ok (.goto 5, 3) := by decide +kernel
theorem dX7_raised_78 : decode cX7_raised 78 = .ok (.iload 4, 2) := by decide +kernel
theorem dX7_raised_80 : decode cX7_raised 80 = .ok (.ireturn, 1) := by decide +kernel
theorem dX7_top_0 : decode cX7_top 0 = .ok (.aload_n 0, 1) := by decide +kernel
theorem dX7_top_1 : decode cX7_top 1 = .ok (.iload_n 1, 1) := by decide +kernel
theorem dX7_top_2 : decode cX7_top 2 = .ok (.invokevirtual 163, 3) := by decide +kernel
theorem dX7_top_5 : decode cX7_top 5 = .ok (.ifCond .eq 23, 3) := by decide +kernel
theorem dX7_top_8 : decode cX7_top 8 = .ok (.iload_n 2, 1) := by decide +kernel
theorem dX7_top_9 : decode cX7_top 9 = .ok (.i2l, 1) := by decide +kernel
theorem dX7_top_10 : decode cX7_top 10 = .ok (.lconst 0, 1) := by decide +kernel
theorem dX7_top_11 : decode cX7_top 11 = .ok (.ldc2_w 192, 3) := by decide +kernel
theorem dX7_top_14 : decode cX7_top 14 = .ok (.invokestatic 74, 3) := by decide +kernel
theorem dX7_top_17 : decode cX7_top 17 = .ok (.ifCond .eq 11, 3) := by decide +kernel
theorem dX7_top_20 : decode cX7_top 20 = .ok (.aload_n 0, 1) := by decide +kernel
theorem dX7_top_21 : decode cX7_top 21 = .ok (.iload_n 3, 1) := by decide +kernel
theorem dX7_top_22 : decode cX7_top 22 = .ok (.invokevirtual 163, 3) := by decide +kernel
theorem dX7_top_25 : decode cX7_top 25 = .ok (.ifCond .ne 5, 3) := by decide +kernel
theorem dX7_top_28 : decode cX7_top 28 = .ok (.iconst (-1), 1) := by decide +kernel
theorem dX7_top_29 : decode cX7_top 29 = .ok (.ireturn, 1) := by decide +kernel
theorem dX7_top_30 : decode cX7_top 30 = .ok (.aload_n 0, 1) := by decide +kernel
theorem dX7_top_31 : decode cX7_top 31 = .ok (.invokevirtual 154, 3) := by decide +kernel
theorem dX7_top_34 : decode cX7_top 34 = .ok (.aload_n 0, 1) := by decide +kernel
theorem dX7_top_35 : decode cX7_top 35 = .ok (.getfield 40, 3) := by decide +kernel
theorem dX7_top_38 : decode cX7_top 38 = .ok (.bipush 10, 2) := by decide +kernel
theorem dX7_top_40 : decode cX7_top 40 = .ok (.iload_n 3, 1) := by decide +kernel
theorem dX7_top_41 : decode cX7_top 41 = .ok (.imul, 1) := by decide +kernel
theorem dX7_top_42 : decode cX7_top 42 = .ok (.iload_n 1, 1) := by decide +kernel
theorem dX7_top_43 : decode cX7_top 43 = .ok (.iadd, 1) := by decide +kernel
theorem dX7_top_44 : decode cX7_top 44 = .ok (.iaload, 1) := by decide +kernel
theorem dX7_top_45 : decode cX7_top 45 = .ok (.istore 4, 2) := by decide +kernel
theorem dX7_top_47 : decode cX7_top 47 = .ok (.iload 4, 2) := by decide +kernel
theorem dX7_top_49 : decode cX7_top 49 = .ok (.invokestatic 141, 3) := by decide +kernel
theorem dX7_top_52 : decode cX7_top 52 = .ok (.ifCond .eq 12, 3) := by decide +kernel
theorem dX7_top_55 : decode cX7_top 55 = .ok (.aload_n 0, 1) := by decide +kernel
theorem dX7_top_56 : decode cX7_top 56 = .ok (.iload_n 1, 1) := by decide +kernel
theorem dX7_top_57 : decode cX7_top 57 = .ok (.invokevirtual 168, 3) := by decide +kernel
theorem dX7_top_60 : decode cX7_top 60 = .ok (.iload_n 2, 1) := by decide +kernel
theorem dX7_top_61 : decode cX7_top 61 = .ok (.if_icmp .le 8, 3) := by decide +kernel
theorem dX7_top_64 : decode cX7_top 64 = .ok (.bipush (-4), 2) := by decide +kernel
theorem dX7_top_66 : decode cX7_top 66 = .ok (.goto 11, 3) := by decide +kernel
theorem dX7_top_69 : decode cX7_top 69 = .ok (.iload_n 2, 1) := by decide +kernel
theorem dX7_top_70 : decode cX7_top 70 = .ok (.iload 4, 2) := by decide +kernel
theorem dX7_top_72 : decode cX7_top 72 = .ok (.isub, 1) := by decide +kernel
theorem dX7_top_73 : decode cX7_top 73 = .ok (.sipush 1000, 3) := by decide +kernel
theorem dX7_top_76 : decode cX7_top 76 = .ok (.iadd, 1) := by decide +kernel
theorem dX7_top_77 : decode cX7_top 77 = .ok (.ireturn, 1) := by decide +kernel
theorem dX7_ones_0 : decode cX7_ones 0 = .ok (.iconst 0, 1) := by decide +kernel
theorem dX7_ones_1 : decode cX7_ones 1 = .ok (.istore_n 1, 1) := by decide +kernel
theorem dX7_ones_2 : decode cX7_ones 2 = .ok (.iload_n 0, 1) := by decide +kernel
theorem dX7_ones_3 : decode cX7_ones 3 = .ok (.istore_n 2, 1) := by decide +kernel
theorem dX7_ones_4 : decode cX7_ones 4 = .ok (.iload_n 2, 1) := by decide +kernel
theorem dX7_ones_5 : decode cX7_ones 5 = .ok (.ifCond .eq 15, 3) := by decide +kernel
theorem dX7_ones_8 : decode cX7_ones 8 = .ok (.iinc 1 1, 3) := by decide +kernel
theorem dX7_ones_11 : decode cX7_ones 11 = .ok (.iload_n 2, 1) := by decide +kernel
theorem dX7_ones_12 : decode cX7_ones 12 = .ok (.iload_n 2, 1) := by decide +kernel
theorem dX7_ones_13 : decode cX7_ones 13 = .ok (.iconst 1, 1) := by decide +kernel
theorem dX7_ones_14 : decode cX7_ones 14 = .ok (.isub, 1) := by decide +kernel
theorem dX7_ones_15 : decode cX7_ones 15 = .ok (.iand, 1) := by decide +kernel
theorem dX7_ones_16 : decode cX7_ones 16 = .ok (.istore_n 2, 1) := by decide +kernel
theorem dX7_ones_17 : decode cX7_ones 17 = .ok (.goto (-13), 3) := by decide +kernel
theorem dX7_ones_20 : decode cX7_ones 20 = .ok (.iload_n 1, 1) := by decide +kernel
theorem dX7_ones_21 : decode cX7_ones 21 = .ok (.ireturn, 1) := by decide +kernel
theorem dX7_nth_0 : decode cX7_nth 0 = .ok (.iload_n 0, 1) := by decide +kernel
theorem dX7_nth_1 : decode cX7_nth 1 = .ok (.istore_n 2, 1) := by decide +kernel
theorem dX7_nth_2 : decode cX7_nth 2 = .ok (.iconst 0, 1) := by decide +kernel
theorem dX7_nth_3 : decode cX7_nth 3 = .ok (.istore_n 3, 1) := by decide +kernel
theorem dX7_nth_4 : decode cX7_nth 4 = .ok (.iload_n 3, 1) := by decide +kernel
theorem dX7_nth_5 : decode cX7_nth 5 = .ok (.iload_n 1, 1) := by decide +kernel
theorem dX7_nth_6 : decode cX7_nth 6 = .ok (.if_icmp .ge 15, 3) := by decide +kernel
theorem dX7_nth_9 : decode cX7_nth 9 = .ok (.iload_n 2, 1) := by decide +kernel
theorem dX7_nth_10 : decode cX7_nth 10 = .ok (.iload_n 2, 1) := by decide +kernel
theorem dX7_nth_11 : decode cX7_nth 11 = .ok (.iconst 1, 1) := by decide +kernel
theorem dX7_nth_12 : decode cX7_nth 12 = .ok (.isub, 1) := by decide +kernel
theorem dX7_nth_13 : decode cX7_nth 13 = .ok (.iand, 1) := by decide +kernel
theorem dX7_nth_14 : decode cX7_nth 14 = .ok (.istore_n 2, 1) := by decide +kernel
theorem dX7_nth_15 : decode cX7_nth 15 = .ok (.iinc 3 1, 3) := by decide +kernel
theorem dX7_nth_18 : decode cX7_nth 18 = .ok (.goto (-14), 3) := by decide +kernel
theorem dX7_nth_21 : decode cX7_nth 21 = .ok (.iconst 0, 1) := by decide +kernel
theorem dX7_nth_22 : decode cX7_nth 22 = .ok (.istore_n 3, 1) := by decide +kernel
theorem dX7_nth_23 : decode cX7_nth 23 = .ok (.iload_n 2, 1) := by decide +kernel
theorem dX7_nth_24 : decode cX7_nth 24 = .ok (.iload_n 3, 1) := by decide +kernel
theorem dX7_nth_25 : decode cX7_nth 25 = .ok (.invokestatic 137, 3) := by decide +kernel
theorem dX7_nth_28 : decode cX7_nth 28 = .ok (.ifCond .ne 9, 3) := by decide +kernel
theorem dX7_nth_31 : decode cX7_nth 31 = .ok (.iinc 3 1, 3) := by decide +kernel
theorem dX7_nth_34 : decode cX7_nth 34 = .ok (.goto (-11), 3) := by decide +kernel
theorem dX7_nth_37 : decode cX7_nth 37 = .ok (.iload_n 3, 1) := by decide +kernel
theorem dX7_nth_38 : decode cX7_nth 38 = .ok (.ireturn, 1) := by decide +kernel
theorem dX7_isAhead_0 : decode cX7_isAhead 0 = .ok (.iload_n 0, 1) := by decide +kernel
theorem dX7_isAhead_1 : decode cX7_isAhead 1 = .ok (.iload_n 1, 1) := by decide +kernel
theorem dX7_isAhead_2 : decode cX7_isAhead 2 = .ok (.ixor, 1) := by decide +kernel
theorem dX7_isAhead_3 : decode cX7_isAhead 3 = .ok (.iload_n 0, 1) := by decide +kernel
theorem dX7_isAhead_4 : decode cX7_isAhead 4 = .ok (.iload_n 1, 1) := by decide +kernel
theorem dX7_isAhead_5 : decode cX7_isAhead 5 = .ok (.ixor, 1) := by decide +kernel
theorem dX7_isAhead_6 : decode cX7_isAhead 6 = .ok (.ineg, 1) := by decide +kernel
theorem dX7_isAhead_7 : decode cX7_isAhead 7 = .ok (.iand, 1) := by decide +kernel
theorem dX7_isAhead_8 : decode cX7_isAhead 8 = .ok (.istore_n 2, 1) := by decide +kernel
theorem dX7_isAhead_9 : decode cX7_isAhead 9 = .ok (.iload_n 0, 1) := by decide +kernel
theorem dX7_isAhead_10 : decode cX7_isAhead 10 = .ok (.iload_n 2, 1) := by decide +kernel
theorem dX7_isAhead_11 : decode cX7_isAhead 11 = .ok (.iand, 1) := by decide +kernel
theorem dX7_isAhead_12 : decode cX7_isAhead 12 = .ok (.ifCond .eq 7, 3) := by decide +kernel
theorem dX7_isAhead_15 : decode cX7_isAhead 15 = .ok (.iconst 1, 1) := by decide +kernel
theorem dX7_isAhead_16 : decode cX7_isAhead 16 = .ok (.goto 4, 3) := by decide +kernel
theorem dX7_isAhead_19 : decode cX7_isAhead 19 = .ok (.iconst 0, 1) := by decide +kernel
theorem dX7_isAhead_20 : decode cX7_isAhead 20 = .ok (.ireturn, 1) := by decide +kernel
theorem dX7_stands_0 : decode cX7_stands 0 = .ok (.aload_n 0, 1) := by decide +kernel
theorem dX7_stands_1 : decode cX7_stands 1 = .ok (.iload_n 1, 1) := by decide +kernel
theorem dX7_stands_2 : decode cX7_stands 2 = .ok (.invokevirtual 163, 3) := by decide +kernel
theorem dX7_stands_5 : decode cX7_stands 5 = .ok (.ifCond .eq 38, 3) := by decide +kernel
theorem dX7_stands_8 : decode cX7_stands 8 = .ok (.iload_n 2, 1) := by decide +kernel
theorem dX7_stands_9 : decode cX7_stands 9 = .ok (.invokestatic 177, 3) := by decide +kernel
theorem dX7_stands_12 : decode cX7_stands 12 = .ok (.ifCond .eq 31, 3) := by decide +kernel
theorem dX7_stands_15 : decode cX7_stands 15 = .ok (.aload_n 0, 1) := by decide +kernel
theorem dX7_stands_16 : decode cX7_stands 16 = .ok (.iload_n 3, 1) := by decide +kernel
theorem dX7_stands_17 : decode cX7_stands 17 = .ok (.invokevirtual 163, 3) := by decide +kernel
theorem dX7_stands_20 : decode cX7_stands 20 = .ok (.ifCond .eq 23, 3) := by decide +kernel
theorem dX7_stands_23 : decode cX7_stands 23 = .ok (.iload_n 1, 1) := by decide +kernel
theorem dX7_stands_24 : decode cX7_stands 24 = .ok (.iload_n 3, 1) := by decide +kernel
theorem dX7_stands_25 : decode cX7_stands 25 = .ok (.if_icmp .eq 18, 3) := by decide +kernel
theorem dX7_stands_28 : decode cX7_stands 28 = .ok (.iload 4, 2) := by decide +kernel
theorem dX7_stands_30 : decode cX7_stands 30 = .ok (.i2l, 1) := by decide +kernel
theorem dX7_stands_31 : decode cX7_stands 31 = .ok (.ldc2_w 185, 3) := by decide +kernel
theorem dX7_stands_34 : decode cX7_stands 34 = .ok (.ldc2_w 92, 3) := by decide +kernel
theorem dX7_stands_37 : decode cX7_stands 37 = .ok (.invokestatic 74, 3) := by decide +kernel
theorem dX7_stands_40 : decode cX7_stands 40 = .ok (.ifCond .ne 5, 3) := by decide +kernel
theorem dX7_stands_43 : decode cX7_stands 43 = .ok (.iconst (-1), 1) := by decide +kernel
theorem dX7_stands_44 : decode cX7_stands 44 = .ok (.ireturn, 1) := by decide +kernel
theorem dX7_stands_45 : decode cX7_stands 45 = .ok (.aload_n 0, 1) := by decide +kernel
theorem dX7_stands_46 : decode cX7_stands 46 = .ok (.iload_n 2, 1) := by decide +kernel
theorem dX7_stands_47 : decode cX7_stands 47 = .ok (.iload_n 3, 1) := by decide +kernel
theorem dX7_stands_48 : decode cX7_stands 48 = .ok (.invokevirtual 150, 3) := by decide +kernel
theorem dX7_stands_51 : decode cX7_stands 51 = .ok (.istore 5, 2) := by decide +kernel
theorem dX7_stands_53 : decode cX7_stands 53 = .ok (.bipush (-4), 2) := by decide +kernel
theorem dX7_stands_55 : decode cX7_stands 55 = .ok (.istore 6, 2) := by decide +kernel
theorem dX7_stands_57 : decode cX7_stands 57 = .ok (.iconst 0, 1) := by decide +kernel
theorem dX7_stands_58 : decode cX7_stands 58 = .ok (.istore 7, 2) := by decide +kernel
theorem dX7_stands_60 : decode cX7_stands 60 = .ok (.iload 7, 2) := by decide +kernel
theorem dX7_stands_62 : decode cX7_stands 62 = .ok (.iconst 1, 1) := by decide +kernel
theorem dX7_stands_63 : decode cX7_stands 63 = .ok (.aload_n 0, 1) := by decide +kernel
theorem dX7_stands_64 : decode cX7_stands 64 = .ok (.getfield 19, 3) := by decide +kernel
theorem dX7_stands_67 : decode cX7_stands 67 = .ok (.bipush 10, 2) := by decide +kernel
theorem dX7_stands_69 : decode cX7_stands 69 = .ok (.iaload, 1) := by decide +kernel
theorem dX7_stands_70 : decode cX7_stands 70 = .ok (.ishl, 1) := by decide +kernel
theorem dX7_stands_71 : decode cX7_stands 71 = .ok (.if_icmp .ge 105, 3) := by decide +kernel
theorem dX7_stands_74 : decode cX7_stands 74 = .ok (.iload 7, 2) := by decide +kernel
theorem dX7_stands_76 : decode cX7_stands 76 = .ok (.invokestatic 194, 3) := by decide +kernel
theorem dX7_stands_79 : decode cX7_stands 79 = .ok (.istore 8, 2) := by decide +kernel
theorem dX7_stands_81 : decode cX7_stands 81 = .ok (.iload 8, 2) := by decide +kernel
theorem dX7_stands_83 : decode cX7_stands 83 = .ok (.iconst 4, 1) := by decide +kernel
theorem dX7_stands_84 : decode cX7_stands 84 = .ok (.if_icmp .ge 44, 3) := by decide +kernel
theorem dX7_stands_87 : decode cX7_stands 87 = .ok (.iload 6, 2) := by decide +kernel
theorem dX7_stands_89 : decode cX7_stands 89 = .ok (.bipush (-4), 2) := by decide +kernel
theorem dX7_stands_91 : decode cX7_stands 91 = .ok (.if_icmp .eq 33, 3) := by decide +kernel
theorem dX7_stands_94 : decode cX7_stands 94 = .ok (.iload 8, 2) := by decide +kernel
theorem dX7_stands_96 : decode cX7_stands 96 = .ok (.iload 6, 2) := by decide +kernel
theorem dX7_stands_98 : decode cX7_stands 98 = .ok (.invokestatic 194, 3) := by decide +kernel
theorem dX7_stands_101 : decode cX7_stands 101 = .ok (.if_icmp .lt 23, 3) := by decide +kernel
theorem dX7_stands_104 : decode cX7_stands 104 = .ok (.iload 8, 2) := by decide +kernel
theorem dX7_stands_106 : decode cX7_stands 106 = .ok (.iload 6, 2) := by decide +kernel
theorem dX7_stands_108 : decode cX7_stands 108 = .ok (.invokestatic 194, 3) := by decide +kernel
theorem dX7_stands_111 : decode cX7_stands 111 = .ok (.if_icmp .ne 17, 3) := by decide +kernel
theorem dX7_stands_114 : decode cX7_stands 114 = .ok (.iload 7, 2) := by decide +kernel
theorem dX7_stands_116 : decode cX7_stands 116 = .ok (.iload 6, 2) := by decide +kernel
theorem dX7_stands_118 : decode cX7_stands 118 = .ok (.invokestatic 197, 3) := by decide +kernel
theorem dX7_stands_121 : decode cX7_stands 121 = .ok (.ifCond .eq 7, 3) := by decide +kernel
theorem dX7_stands_124 : decode cX7_stands 124 = .ok (.iconst 1, 1) := by decide +kernel
theorem dX7_stands_125 : decode cX7_stands 125 = .ok (.goto 4, 3) := by decide +kernel
theorem dX7_stands_128 : decode cX7_stands 128 = .ok (.iconst 0, 1) := by decide +kernel
theorem dX7_stands_129 : decode cX7_stands 129 = .ok (.istore 9, 2) := by decide +kernel
theorem dX7_stands_131 : decode cX7_stands 131 = .ok (.iload 9, 2) := by decide +kernel
theorem dX7_stands_133 : decode cX7_stands 133 = .ok (.ifCond .eq 37, 3) := by decide +kernel
theorem dX7_stands_136 : decode cX7_stands 136 = .ok (.aload_n 0, 1) := by decide +kernel
theorem dX7_stands_137 : decode cX7_stands 137 = .ok (.iload 7, 2) := by decide +kernel
theorem dX7_stands_139 : decode cX7_stands 139 = .ok (.invokevirtual 144, 3) := by decide +kernel
theorem dX7_stands_142 : decode cX7_stands 142 = .ok (.aload_n 0, 1) := by decide +kernel
theorem dX7_stands_143 : decode cX7_stands 143 = .ok (.getfield 40, 3) := by decide +kernel
theorem dX7_stands_146 : decode cX7_stands 146 = .ok (.bipush 10, 2) := by decide +kernel
theorem dX7_stands_148 : decode cX7_stands 148 = .ok (.iload_n 3, 1) := by decide +kernel
theorem dX7_stands_149 : decode cX7_stands 149 = .ok (.imul, 1) := by decide +kernel
theorem dX7_stands_150 : decode cX7_stands 150 = .ok (.iload_n 1, 1) := by decide +kernel
theorem dX7_stands_151 : decode cX7_stands 151 = .ok (.iadd, 1) := by decide +kernel
theorem dX7_stands_152 : decode cX7_stands 152 = .ok (.iaload, 1) := by decide +kernel
theorem dX7_stands_153 : decode cX7_stands 153 = .ok (.iload 5, 2) := by decide +kernel
theorem dX7_stands_155 : decode cX7_stands 155 = .ok (.invokestatic 157, 3) := by decide +kernel
theorem dX7_stands_158 : decode cX7_stands 158 = .ok (.ifCond .eq 8, 3) := by decide +kernel
theorem dX7_stands_161 : decode cX7_stands 161 = .ok (.iload 6, 2) := by decide +kernel
theorem dX7_stands_163 : decode cX7_stands 163 = .ok (.goto 5, 3) := by decide +kernel
theorem dX7_stands_166 : decode cX7_stands 166 = .ok (.iload 7, 2) := by decide +kernel
theorem dX7_stands_168 : decode cX7_stands 168 = .ok (.istore 6, 2) := by decide +kernel
theorem dX7_stands_170 : decode cX7_stands 170 = .ok (.iinc 7 1, 3) := by decide +kernel
theorem dX7_stands_173 : decode cX7_stands 173 = .ok (.goto (-113), 3) := by decide +kernel
theorem dX7_stands_176 : decode cX7_stands 176 = .ok (.iload 6, 2) := by decide +kernel
theorem dX7_stands_178 : decode cX7_stands 178 = .ok (.bipush (-4), 2) := by decide +kernel
theorem dX7_stands_180 : decode cX7_stands 180 = .ok (.if_icmp .ne 6, 3) := by decide +kernel
theorem dX7_stands_183 : decode cX7_stands 183 = .ok (.bipush (-4), 2) := by decide +kernel
theorem dX7_stands_185 : decode cX7_stands 185 = .ok (.ireturn, 1) := by decide +kernel
theorem dX7_stands_186 : decode cX7_stands 186 = .ok (.iload 4, 2) := by decide +kernel
theorem dX7_stands_188 : decode cX7_stands 188 = .ok (.ifCond .ge 11, 3) := by decide +kernel
theorem dX7_stands_191 : decode cX7_stands 191 = .ok (.iload 6, 2) := by decide +kernel
theorem dX7_stands_193 : decode cX7_stands 193 = .ok (.invokestatic 194, 3) := by decide +kernel
theorem dX7_stands_196 : decode cX7_stands 196 = .ok (.goto 25, 3) := by decide +kernel
theorem dX7_stands_199 : decode cX7_stands 199 = .ok (.iload 4, 2) := by decide +kernel
theorem dX7_stands_201 : decode cX7_stands 201 = .ok (.iload 6, 2) := by decide +kernel
theorem dX7_stands_203 : decode cX7_stands 203 = .ok (.invokestatic 194, 3) := by decide +kernel
theorem dX7_stands_206 : decode cX7_stands 206 = .ok (.if_icmp .ge 13, 3) := by decide +kernel
theorem dX7_stands_209 : decode cX7_stands 209 = .ok (.iload 6, 2) := by decide +kernel
theorem dX7_stands_211 : decode cX7_stands 211 = .ok (.iload 4, 2) := by decide +kernel
theorem dX7_stands_213 : decode cX7_stands 213 = .ok (.invokestatic 200, 3) := by decide +kernel
theorem dX7_stands_216 : decode cX7_stands 216 = .ok (.goto 5, 3) := by decide +kernel
theorem dX7_stands_219 : decode cX7_stands 219 = .ok (.bipush (-4), 2) := by decide +kernel
theorem dX7_stands_221 : decode cX7_stands 221 = .ok (.ireturn, 1) := by decide +kernel
theorem dX7_term_0 : decode cX7_term 0 = .ok (.aload_n 0, 1) := by decide +kernel
theorem dX7_term_1 : decode cX7_term 1 = .ok (.iload_n 1, 1) := by decide +kernel
theorem dX7_term_2 : decode cX7_term 2 = .ok (.invokevirtual 163, 3) := by decide +kernel
theorem dX7_term_5 : decode cX7_term 5 = .ok (.ifCond .eq 10, 3) := by decide +kernel
theorem dX7_term_8 : decode cX7_term 8 = .ok (.iload_n 2, 1) := by decide +kernel
theorem dX7_term_9 : decode cX7_term 9 = .ok (.invokestatic 177, 3) := by decide +kernel
theorem dX7_term_12 : decode cX7_term 12 = .ok (.ifCond .ne 5, 3) := by decide +kernel
theorem dX7_term_15 : decode cX7_term 15 = .ok (.iconst (-1), 1) := by decide +kernel
theorem dX7_term_16 : decode cX7_term 16 = .ok (.ireturn, 1) := by decide +kernel
theorem dX7_term_17 : decode cX7_term 17 = .ok (.aload_n 0, 1) := by decide +kernel
theorem dX7_term_18 : decode cX7_term 18 = .ok (.getfield 122, 3) := by decide +kernel
theorem dX7_term_21 : decode cX7_term 21 = .ok (.bipush 6, 2) := by decide +kernel
theorem dX7_term_23 : decode cX7_term 23 = .ok (.if_icmp .ne 6, 3) := by decide +kernel
theorem dX7_term_26 : decode cX7_term 26 = .ok (.bipush (-3), 2) := by decide +kernel
theorem dX7_term_28 : decode cX7_term 28 = .ok (.ireturn, 1) := by decide +kernel
theorem dX7_term_29 : decode cX7_term 29 = .ok (.aload_n 0, 1) := by decide +kernel
theorem dX7_term_30 : decode cX7_term 30 = .ok (.getfield 31, 3) := by decide +kernel
theorem dX7_term_33 : decode cX7_term 33 = .ok (.aload_n 0, 1) := by decide +kernel
theorem dX7_term_34 : decode cX7_term 34 = .ok (.getfield 122, 3) := by decide +kernel
theorem dX7_term_37 : decode cX7_term 37 = .ok (.iload_n 1, 1) := by decide +kernel
theorem dX7_term_38 : decode cX7_term 38 = .ok (.iastore, 1) := by decide +kernel
theorem dX7_term_39 : decode cX7_term 39 = .ok (.aload_n 0, 1) := by decide +kernel
theorem dX7_term_40 : decode cX7_term 40 = .ok (.getfield 34, 3) := by decide +kernel
theorem dX7_term_43 : decode cX7_term 43 = .ok (.aload_n 0, 1) := by decide +kernel
theorem dX7_term_44 : decode cX7_term 44 = .ok (.getfield 122, 3) := by decide +kernel
theorem dX7_term_47 : decode cX7_term 47 = .ok (.iload_n 2, 1) := by decide +kernel
theorem dX7_term_48 : decode cX7_term 48 = .ok (.iastore, 1) := by decide +kernel
theorem dX7_term_49 : decode cX7_term 49 = .ok (.aload_n 0, 1) := by decide +kernel
theorem dX7_term_50 : decode cX7_term 50 = .ok (.dup, 1) := by decide +kernel
theorem dX7_term_51 : decode cX7_term 51 = .ok (.getfield 122, 3) := by decide +kernel
theorem dX7_term_54 : decode cX7_term 54 = .ok (.iconst 1, 1) := by decide +kernel
theorem dX7_term_55 : decode cX7_term 55 = .ok (.iadd, 1) := by decide +kernel
theorem dX7_term_56 : decode cX7_term 56 = .ok (.putfield 122, 3) := by decide +kernel
theorem dX7_term_59 : decode cX7_term 59 = .ok (.aload_n 0, 1) := by decide +kernel
theorem dX7_term_60 : decode cX7_term 60 = .ok (.getfield 122, 3) := by decide +kernel
theorem dX7_term_63 : decode cX7_term 63 = .ok (.ireturn, 1) := by decide +kernel
theorem dX7_empty_0 : decode cX7_empty 0 = .ok (.aload_n 0, 1) := by decide +kernel
theorem dX7_empty_1 : decode cX7_empty 1 = .ok (.getfield 122, 3) := by decide +kernel
theorem dX7_empty_4 : decode cX7_empty 4 = .ok (.istore_n 1, 1) := by decide +kernel
theorem dX7_empty_5 : decode cX7_empty 5 = .ok (.aload_n 0, 1) := by decide +kernel
theorem dX7_empty_6 : decode cX7_empty 6 = .ok (.iconst 0, 1) := by decide +kernel
theorem dX7_empty_7 : decode cX7_empty 7 = .ok (.putfield 122, 3) := by decide +kernel
theorem dX7_empty_10 : decode cX7_empty 10 = .ok (.iload_n 1, 1) := by decide +kernel
theorem dX7_empty_11 : decode cX7_empty 11 = .ok (.ireturn, 1) := by decide +kernel
theorem dX7_isNoMore_0 : decode cX7_isNoMore 0 = .ok (.aload_n 0, 1) := by decide +kernel
theorem dX7_isNoMore_1 : decode cX7_isNoMore 1 = .ok (.aload_n 0, 1) := by decide +kernel
theorem dX7_isNoMore_2 : decode cX7_isNoMore 2 = .ok (.getfield 31, 3) := by decide +kernel
theorem dX7_isNoMore_5 : decode cX7_isNoMore 5 = .ok (.iload_n 1, 1) := by decide +kernel
theorem dX7_isNoMore_6 : decode cX7_isNoMore 6 = .ok (.iaload, 1) := by decide +kernel
theorem dX7_isNoMore_7 : decode cX7_isNoMore 7 = .ok (.aload_n 0, 1) := by decide +kernel
theorem dX7_isNoMore_8 : decode cX7_isNoMore 8 = .ok (.getfield 34, 3) := by decide +kernel
theorem dX7_isNoMore_11 : decode cX7_isNoMore 11 = .ok (.iload_n 1, 1) := by decide +kernel
theorem dX7_isNoMore_12 : decode cX7_isNoMore 12 = .ok (.iaload, 1) := by decide +kernel
theorem dX7_isNoMore_13 : decode cX7_isNoMore 13 = .ok (.aload_n 0, 1) := by decide +kernel
theorem dX7_isNoMore_14 : decode cX7_isNoMore 14 = .ok (.getfield 34, 3) := by decide +kernel
theorem dX7_isNoMore_17 : decode cX7_isNoMore 17 = .ok (.iload_n 2, 1) := by decide +kernel
theorem dX7_isNoMore_18 : decode cX7_isNoMore 18 = .ok (.iaload, 1) := by decide +kernel
theorem dX7_isNoMore_19 : decode cX7_isNoMore 19 = .ok (.isub, 1) := by decide +kernel
theorem dX7_isNoMore_20 : decode cX7_isNoMore 20 = .ok (.aload_n 0, 1) := by decide +kernel
theorem dX7_isNoMore_21 : decode cX7_isNoMore 21 = .ok (.getfield 31, 3) := by decide +kernel
theorem dX7_isNoMore_24 : decode cX7_isNoMore 24 = .ok (.iload_n 2, 1) := by decide +kernel
theorem dX7_isNoMore_25 : decode cX7_isNoMore 25 = .ok (.iaload, 1) := by decide +kernel
theorem dX7_isNoMore_26 : decode cX7_isNoMore 26 = .ok (.invokevirtual 189, 3) := by decide +kernel
theorem dX7_isNoMore_29 : decode cX7_isNoMore 29 = .ok (.ireturn, 1) := by decide +kernel
theorem dX7_brief_0 : decode cX7_brief 0 = .ok (.aload_n 0, 1) := by decide +kernel
theorem dX7_brief_1 : decode cX7_brief 1 = .ok (.invokevirtual 154, 3) := by decide +kernel
theorem dX7_brief_4 : decode cX7_brief 4 = .ok (.iconst 0, 1) := by decide +kernel
theorem dX7_brief_5 : decode cX7_brief 5 = .ok (.istore_n 1, 1) := by decide +kernel
theorem dX7_brief_6 : decode cX7_brief 6 = .ok (.iconst 0, 1) := by decide +kernel
theorem dX7_brief_7 : decode cX7_brief 7 = .ok (.istore_n 2, 1) := by decide +kernel
theorem dX7_brief_8 : decode cX7_brief 8 = .ok (.iload_n 2, 1) := by decide +kernel
theorem dX7_brief_9 : decode cX7_brief 9 = .ok (.aload_n 0, 1) := by decide +kernel
theorem dX7_brief_10 : decode cX7_brief 10 = .ok (.getfield 122, 3) := by decide +kernel
theorem dX7_brief_13 : decode cX7_brief 13 = .ok (.if_icmp .ge 85, 3) := by decide +kernel
theorem dX7_brief_16 : decode cX7_brief 16 = .ok (.iconst 0, 1) := by decide +kernel
theorem dX7_brief_17 : decode cX7_brief 17 = .ok (.istore_n 3, 1) := by decide +kernel
theorem dX7_brief_18 : decode cX7_brief 18 = .ok (.iconst 0, 1) := by decide +kernel
theorem dX7_brief_19 : decode cX7_brief 19 = .ok (.istore 4, 2) := by decide +kernel
theorem dX7_brief_21 : decode cX7_brief 21 = .ok (.iload 4, 2) := by decide +kernel
theorem dX7_brief_23 : decode cX7_brief 23 = .ok (.aload_n 0, 1) := by decide +kernel
theorem dX7_brief_24 : decode cX7_brief 24 = .ok (.getfield 122, 3) := by decide +kernel
theorem dX7_brief_27 : decode cX7_brief 27 = .ok (.if_icmp .ge 51, 3) := by decide +kernel
theorem dX7_brief_30 : decode cX7_brief 30 = .ok (.iload_n 3, 1) := by decide +kernel
theorem dX7_brief_31 : decode cX7_brief 31 = .ok (.ifCond .ne 35, 3) := by decide +kernel
theorem dX7_brief_34 : decode cX7_brief 34 = .ok (.iload_n 2, 1) := by decide +kernel
theorem dX7_brief_35 : decode cX7_brief 35 = .ok (.iload 4, 2) := by decide +kernel
theorem dX7_brief_37 : decode cX7_brief 37 = .ok (.if_icmp .eq 33, 3) := by decide +kernel
theorem dX7_brief_40 : decode cX7_brief 40 = .ok (.aload_n 0, 1) := by decide +kernel
theorem dX7_brief_41 : decode cX7_brief 41 = .ok (.iload_n 2, 1) := by decide +kernel
theorem dX7_brief_42 : decode cX7_brief 42 = .ok (.iload 4, 2) := by decide +kernel
theorem dX7_brief_44 : decode cX7_brief 44 = .ok (.invokevirtual 203, 3) := by decide +kernel
theorem dX7_brief_47 : decode cX7_brief 47 = .ok (.ifCond .eq 23, 3) := by decide +kernel
theorem dX7_brief_50 : decode cX7_brief 50 = .ok (.iload 4, 2) := by decide +kernel
theorem dX7_brief_52 : decode cX7_brief 52 = .ok (.iload_n 2, 1) := by decide +kernel
theorem dX7_brief_53 : decode cX7_brief 53 = .ok (.if_icmp .lt 13, 3) := by decide +kernel
theorem dX7_brief_56 : decode cX7_brief 56 = .ok (.aload_n 0, 1) := by decide +kernel
theorem dX7_brief_57 : decode cX7_brief 57 = .ok (.iload 4, 2) := by decide +kernel
theorem dX7_brief_59 : decode cX7_brief 59 = .ok (.iload_n 2, 1) := by decide +kernel
theorem dX7_brief_60 : decode cX7_brief 60 = .ok (.invokevirtual 203, 3) := by decide +kernel
theorem dX7_brief_63 : decode cX7_brief 63 = .ok (.ifCond .ne 7, 3) := by decide +kernel
theorem dX7_brief_66 : decode cX7_brief 66 = .ok (.iconst 1, 1) := by decide +kernel
theorem dX7_brief_67 : decode cX7_brief 67 = .ok (.goto 4, 3) := by decide +kernel
theorem dX7_brief_70 : decode cX7_brief 70 = .ok (.iconst 0, 1) := by decide +kernel
theorem dX7_brief_71 : decode cX7_brief 71 = .ok (.istore_n 3, 1) := by decide +kernel
theorem dX7_brief_72 : decode cX7_brief 72 = .ok (.iinc 4 1, 3) := by decide +kernel
theorem dX7_brief_75 : decode cX7_brief 75 = .ok (.goto (-54), 3) := by decide +kernel
theorem dX7_brief_78 : decode cX7_brief 78 = .ok (.iload_n 1, 1) := by decide +kernel
theorem dX7_brief_79 : decode cX7_brief 79 = .ok (.iload_n 3, 1) := by decide +kernel
theorem dX7_brief_80 : decode cX7_brief 80 = .ok (.ifCond .eq 7, 3) := by decide +kernel
theorem dX7_brief_83 : decode cX7_brief 83 = .ok (.iconst 0, 1) := by decide +kernel
theorem dX7_brief_84 : decode cX7_brief 84 = .ok (.goto 6, 3) := by decide +kernel
theorem dX7_brief_87 : decode cX7_brief 87 = .ok (.iconst 1, 1) := by decide +kernel
theorem dX7_brief_88 : decode cX7_brief 88 = .ok (.iload_n 2, 1) := by decide +kernel
theorem dX7_brief_89 : decode cX7_brief 89 = .ok (.ishl, 1) := by decide +kernel
theorem dX7_brief_90 : decode cX7_brief 90 = .ok (.ior, 1) := by decide +kernel
theorem dX7_brief_91 : decode cX7_brief 91 = .ok (.istore_n 1, 1) := by decide +kernel
theorem dX7_brief_92 : decode cX7_brief 92 = .ok (.iinc 2 1, 3) := by decide +kernel
theorem dX7_brief_95 : decode cX7_brief 95 = .ok (.goto (-87), 3) := by decide +kernel
theorem dX7_brief_98 : decode cX7_brief 98 = .ok (.iload_n 1, 1) := by decide +kernel
theorem dX7_brief_99 : decode cX7_brief 99 = .ok (.ireturn, 1) := by decide +kernel
theorem dX7_below_0 : decode cX7_below 0 = .ok (.aload_n 0, 1) := by decide +kernel
theorem dX7_below_1 : decode cX7_below 1 = .ok (.iload_n 1, 1) := by decide +kernel
theorem dX7_below_2 : decode cX7_below 2 = .ok (.invokevirtual 163, 3) := by decide +kernel
theorem dX7_below_5 : decode cX7_below 5 = .ok (.ifCond .eq 10, 3) := by decide +kernel
theorem dX7_below_8 : decode cX7_below 8 = .ok (.iload_n 2, 1) := by decide +kernel
theorem dX7_below_9 : decode cX7_below 9 = .ok (.invokestatic 177, 3) := by decide +kernel
theorem dX7_below_12 : decode cX7_below 12 = .ok (.ifCond .ne 5, 3) := by decide +kernel
theorem dX7_below_15 : decode cX7_below 15 = .ok (.iconst (-1), 1) := by decide +kernel
theorem dX7_below_16 : decode cX7_below 16 = .ok (.ireturn, 1) := by decide +kernel
theorem dX7_below_17 : decode cX7_below 17 = .ok (.aload_n 0, 1) := by decide +kernel
theorem dX7_below_18 : decode cX7_below 18 = .ok (.invokevirtual 154, 3) := by decide +kernel
theorem dX7_below_21 : decode cX7_below 21 = .ok (.iconst 1, 1) := by decide +kernel
theorem dX7_below_22 : decode cX7_below 22 = .ok (.istore_n 3, 1) := by decide +kernel
theorem dX7_below_23 : decode cX7_below 23 = .ok (.iconst 0, 1) := by decide +kernel
theorem dX7_below_24 : decode cX7_below 24 = .ok (.istore 4, 2) := by decide +kernel
theorem dX7_below_26 : decode cX7_below 26 = .ok (.iload 4, 2) := by decide +kernel
theorem dX7_below_28 : decode cX7_below 28 = .ok (.aload_n 0, 1) := by decide +kernel
theorem dX7_below_29 : decode cX7_below 29 = .ok (.getfield 122, 3) := by decide +kernel
theorem dX7_below_32 : decode cX7_below 32 = .ok (.if_icmp .ge 43, 3) := by decide +kernel
theorem dX7_below_35 : decode cX7_below 35 = .ok (.iload_n 3, 1) := by decide +kernel
theorem dX7_below_36 : decode cX7_below 36 = .ok (.ifCond .eq 31, 3) := by decide +kernel
theorem dX7_below_39 : decode cX7_below 39 = .ok (.aload_n 0, 1) := by decide +kernel
theorem dX7_below_40 : decode cX7_below 40 = .ok (.aload_n 0, 1) := by decide +kernel
theorem dX7_below_41 : decode cX7_below 41 = .ok (.getfield 31, 3) := by decide +kernel
theorem dX7_below_44 : decode cX7_below 44 = .ok (.iload 4, 2) := by decide +kernel
theorem dX7_below_46 : decode cX7_below 46 = .ok (.iaload, 1) := by decide +kernel
theorem dX7_below_47 : decode cX7_below 47 = .ok (.aload_n 0, 1) := by decide +kernel
theorem dX7_below_48 : decode cX7_below 48 = .ok (.getfield 34, 3) := by decide +kernel
theorem dX7_below_51 : decode cX7_below 51 = .ok (.iload 4, 2) := by decide +kernel
theorem dX7_below_53 : decode cX7_below 53 = .ok (.iaload, 1) := by decide +kernel
theorem dX7_below_54 : decode cX7_below 54 = .ok (.iload_n 2, 1) := by decide +kernel
theorem dX7_below_55 : decode cX7_below 55 = .ok (.isub, 1) := by decide +kernel
theorem dX7_below_56 : decode cX7_below 56 = .ok (.iload_n 1, 1) := by decide +kernel
theorem dX7_below_57 : decode cX7_below 57 = .ok (.invokevirtual 189, 3) := by decide +kernel
theorem dX7_below_60 : decode cX7_below 60 = .ok (.ifCond .eq 7, 3) := by decide +kernel
theorem dX7_below_63 : decode cX7_below 63 = .ok (.iconst 1, 1) := by decide +kernel
theorem dX7_below_64 : decode cX7_below 64 = .ok (.goto 4, 3) := by decide +kernel
theorem dX7_below_67 : decode cX7_below 67 = .ok (.iconst 0, 1) := by decide +kernel
theorem dX7_below_68 : decode cX7_below 68 = .ok (.istore_n 3, 1) := by decide +kernel
theorem dX7_below_69 : decode cX7_below 69 = .ok (.iinc 4 1, 3) := by decide +kernel
theorem dX7_below_72 : decode cX7_below 72 = .ok (.goto (-46), 3) := by decide +kernel
theorem dX7_below_75 : decode cX7_below 75 = .ok (.iload_n 3, 1) := by decide +kernel
theorem dX7_below_76 : decode cX7_below 76 = .ok (.ifCond .eq 7, 3) := by decide +kernel
theorem dX7_below_79 : decode cX7_below 79 = .ok (.iconst 1, 1) := by decide +kernel
theorem dX7_below_80 : decode cX7_below 80 = .ok (.goto 4, 3) := by decide +kernel
theorem dX7_below_83 : decode cX7_below 83 = .ok (.iconst 0, 1) := by decide +kernel
theorem dX7_below_84 : decode cX7_below 84 = .ok (.ireturn, 1) := by decide +kernel
theorem dX7_worth_0 : decode cX7_worth 0 = .ok (.aload_n 0, 1) := by decide +kernel
theorem dX7_worth_1 : decode cX7_worth 1 = .ok (.invokevirtual 154, 3) := by decide +kernel
theorem dX7_worth_4 : decode cX7_worth 4 = .ok (.iconst 0, 1) := by decide +kernel
theorem dX7_worth_5 : decode cX7_worth 5 = .ok (.istore_n 1, 1) := by decide +kernel
theorem dX7_worth_6 : decode cX7_worth 6 = .ok (.iconst 0, 1) := by decide +kernel
theorem dX7_worth_7 : decode cX7_worth 7 = .ok (.istore_n 2, 1) := by decide +kernel
theorem dX7_worth_8 : decode cX7_worth 8 = .ok (.iload_n 2, 1) := by decide +kernel
theorem dX7_worth_9 : decode cX7_worth 9 = .ok (.aload_n 0, 1) := by decide +kernel
theorem dX7_worth_10 : decode cX7_worth 10 = .ok (.getfield 122, 3) := by decide +kernel
theorem dX7_worth_13 : decode cX7_worth 13 = .ok (.if_icmp .ge 38, 3) := by decide +kernel
theorem dX7_worth_16 : decode cX7_worth 16 = .ok (.aload_n 0, 1) := by decide +kernel
theorem dX7_worth_17 : decode cX7_worth 17 = .ok (.aload_n 0, 1) := by decide +kernel
theorem dX7_worth_18 : decode cX7_worth 18 = .ok (.getfield 31, 3) := by decide +kernel
theorem dX7_worth_21 : decode cX7_worth 21 = .ok (.iload_n 2, 1) := by decide +kernel
theorem dX7_worth_22 : decode cX7_worth 22 = .ok (.iaload, 1) := by decide +kernel
theorem dX7_worth_23 : decode cX7_worth 23 = .ok (.invokevirtual 168, 3) := by decide +kernel
theorem dX7_worth_26 : decode cX7_worth 26 = .ok (.aload_n 0, 1) := by decide +kernel
theorem dX7_worth_27 : decode cX7_worth 27 = .ok (.getfield 34, 3) := by decide +kernel
theorem dX7_worth_30 : decode cX7_worth 30 = .ok (.iload_n 2, 1) := by decide +kernel
theorem dX7_worth_31 : decode cX7_worth 31 = .ok (.iaload, 1) := by decide +kernel
theorem dX7_worth_32 : decode cX7_worth 32 = .ok (.iadd, 1) := by decide +kernel
theorem dX7_worth_33 : decode cX7_worth 33 = .ok (.istore_n 3, 1) := by decide +kernel
theorem dX7_worth_34 : decode cX7_worth 34 = .ok (.iload_n 3, 1) := by decide +kernel
theorem dX7_worth_35 : decode cX7_worth 35 = .ok (.iload_n 1, 1) := by decide +kernel
theorem dX7_worth_36 : decode cX7_worth 36 = .ok (.if_icmp .le 7, 3) := by decide +kernel
theorem dX7_worth_39 : decode cX7_worth 39 = .ok (.iload_n 3, 1) := by decide +kernel
theorem dX7_worth_40 : decode cX7_worth 40 = .ok (.goto 4, 3) := by decide +kernel
theorem dX7_worth_43 : decode cX7_worth 43 = .ok (.iload_n 1, 1) := by decide +kernel
theorem dX7_worth_44 : decode cX7_worth 44 = .ok (.istore_n 1, 1) := by decide +kernel
theorem dX7_worth_45 : decode cX7_worth 45 = .ok (.iinc 2 1, 3) := by decide +kernel
theorem dX7_worth_48 : decode cX7_worth 48 = .ok (.goto (-40), 3) := by decide +kernel
theorem dX7_worth_51 : decode cX7_worth 51 = .ok (.iload_n 1, 1) := by decide +kernel
theorem dX7_worth_52 : decode cX7_worth 52 = .ok (.ireturn, 1) := by decide +kernel
theorem dX7_isRoot_0 : decode cX7_isRoot 0 = .ok (.aload_n 0, 1) := by decide +kernel
theorem dX7_isRoot_1 : decode cX7_isRoot 1 = .ok (.iload_n 1, 1) := by decide +kernel
theorem dX7_isRoot_2 : decode cX7_isRoot 2 = .ok (.invokevirtual 174, 3) := by decide +kernel
theorem dX7_isRoot_5 : decode cX7_isRoot 5 = .ok (.ifCond .ne 24, 3) := by decide +kernel
theorem dX7_isRoot_8 : decode cX7_isRoot 8 = .ok (.aload_n 0, 1) := by decide +kernel
theorem dX7_isRoot_9 : decode cX7_isRoot 9 = .ok (.getfield 40, 3) := by decide +kernel
theorem dX7_isRoot_12 : decode cX7_isRoot 12 = .ok (.bipush 10, 2) := by decide +kernel
theorem dX7_isRoot_14 : decode cX7_isRoot 14 = .ok (.iload_n 1, 1) := by decide +kernel
theorem dX7_isRoot_15 : decode cX7_isRoot 15 = .ok (.imul, 1) := by decide +kernel
theorem dX7_isRoot_16 : decode cX7_isRoot 16 = .ok (.iload_n 2, 1) := by decide +kernel
theorem dX7_isRoot_17 : decode cX7_isRoot 17 = .ok (.iadd, 1) := by decide +kernel
theorem dX7_isRoot_18 : decode cX7_isRoot 18 = .ok (.iaload, 1) := by decide +kernel
theorem dX7_isRoot_19 : decode cX7_isRoot 19 = .ok (.invokestatic 141, 3) := by decide +kernel
theorem dX7_isRoot_22 : decode cX7_isRoot 22 = .ok (.ifCond .eq 7, 3) := by decide +kernel
theorem dX7_isRoot_25 : decode cX7_isRoot 25 = .ok (.iconst 1, 1) := by decide +kernel
theorem dX7_isRoot_26 : decode cX7_isRoot 26 = .ok (.goto 4, 3) := by decide +kernel
theorem dX7_isRoot_29 : decode cX7_isRoot 29 = .ok (.iconst 0, 1) := by decide +kernel
theorem dX7_isRoot_30 : decode cX7_isRoot 30 = .ok (.ireturn, 1) := by decide +kernel
theorem dX7_roots_0 : decode cX7_roots 0 = .ok (.aload_n 0, 1) := by decide +kernel
theorem dX7_roots_1 : decode cX7_roots 1 = .ok (.iload_n 1, 1) := by decide +kernel
theorem dX7_roots_2 : decode cX7_roots 2 = .ok (.invokevirtual 163, 3) := by decide +kernel
theorem dX7_roots_5 : decode cX7_roots 5 = .ok (.ifCond .ne 5, 3) := by decide +kernel
theorem dX7_roots_8 : decode cX7_roots 8 = .ok (.iconst (-1), 1) := by decide +kernel
theorem dX7_roots_9 : decode cX7_roots 9 = .ok (.ireturn, 1) := by decide +kernel
theorem dX7_roots_10 : decode cX7_roots 10 = .ok (.aload_n 0, 1) := by decide +kernel
theorem dX7_roots_11 : decode cX7_roots 11 = .ok (.iload_n 1, 1) := by decide +kernel
theorem dX7_roots_12 : decode cX7_roots 12 = .ok (.invokevirtual 174, 3) := by decide +kernel
theorem dX7_roots_15 : decode cX7_roots 15 = .ok (.ifCond .ne 6, 3) := by decide +kernel
theorem dX7_roots_18 : decode cX7_roots 18 = .ok (.bipush (-2), 2) := by decide +kernel
theorem dX7_roots_20 : decode cX7_roots 20 = .ok (.ireturn, 1) := by decide +kernel
theorem dX7_roots_21 : decode cX7_roots 21 = .ok (.aload_n 0, 1) := by decide +kernel
theorem dX7_roots_22 : decode cX7_roots 22 = .ok (.invokevirtual 154, 3) := by decide +kernel
theorem dX7_roots_25 : decode cX7_roots 25 = .ok (.iconst 0, 1) := by decide +kernel
theorem dX7_roots_26 : decode cX7_roots 26 = .ok (.istore_n 2, 1) := by decide +kernel
theorem dX7_roots_27 : decode cX7_roots 27 = .ok (.iconst 0, 1) := by decide +kernel
theorem dX7_roots_28 : decode cX7_roots 28 = .ok (.istore_n 3, 1) := by decide +kernel
theorem dX7_roots_29 : decode cX7_roots 29 = .ok (.iload_n 3, 1) := by decide +kernel
theorem dX7_roots_30 : decode cX7_roots 30 = .ok (.aload_n 0, 1) := by decide +kernel
theorem dX7_roots_31 : decode cX7_roots 31 = .ok (.getfield 106, 3) := by decide +kernel
theorem dX7_roots_34 : decode cX7_roots 34 = .ok (.if_icmp .ge 144, 3) := by decide +kernel
theorem dX7_roots_37 : decode cX7_roots 37 = .ok (.aload_n 0, 1) := by decide +kernel
theorem dX7_roots_38 : decode cX7_roots 38 = .ok (.iload_n 3, 1) := by decide +kernel
theorem dX7_roots_39 : decode cX7_roots 39 = .ok (.iload_n 1, 1) := by decide +kernel
theorem dX7_roots_40 : decode cX7_roots 40 = .ok (.invokevirtual 206, 3) := by decide +kernel
theorem dX7_roots_43 : decode cX7_roots 43 = .ok (.istore 4, 2) := by decide +kernel
theorem dX7_roots_45 : decode cX7_roots 45 = .ok (.iconst 0, 1) := by decide +kernel
theorem dX7_roots_46 : decode cX7_roots 46 = .ok (.istore 5, 2) := by decide +kernel
theorem dX7_roots_48 : decode cX7_roots 48 = .ok (.iload 5, 2) := by decide +kernel
theorem dX7_roots_50 : decode cX7_roots 50 = .ok (.aload_n 0, 1) := by decide +kernel
theorem dX7_roots_51 : decode cX7_roots 51 = .ok (.getfield 106, 3) := by decide +kernel
theorem dX7_roots_54 : decode cX7_roots 54 = .ok (.if_icmp .ge 103, 3) := by decide +kernel
theorem dX7_roots_57 : decode cX7_roots 57 = .ok (.iload 5, 2) := by decide +kernel
theorem dX7_roots_59 : decode cX7_roots 59 = .ok (.iload_n 3, 1) := by decide +kernel
theorem dX7_roots_60 : decode cX7_roots 60 = .ok (.if_icmp .eq 91, 3) := by decide +kernel
theorem dX7_roots_63 : decode cX7_roots 63 = .ok (.aload_n 0, 1) := by decide +kernel
theorem dX7_roots_64 : decode cX7_roots 64 = .ok (.iload 5, 2) := by decide +kernel
theorem dX7_roots_66 : decode cX7_roots 66 = .ok (.iload_n 1, 1) := by decide +kernel
theorem dX7_roots_67 : decode cX7_roots 67 = .ok (.invokevirtual 206, 3) := by decide +kernel
theorem dX7_roots_70 : decode cX7_roots 70 = .ok (.ifCond .eq 81, 3) := by decide +kernel
theorem dX7_roots_73 : decode cX7_roots 73 = .ok (.aload_n 0, 1) := by decide +kernel
theorem dX7_roots_74 : decode cX7_roots 74 = .ok (.iload_n 3, 1) := by decide +kernel
theorem dX7_roots_75 : decode cX7_roots 75 = .ok (.iload_n 1, 1) := by decide +kernel
theorem dX7_roots_76 : decode cX7_roots 76 = .ok (.invokevirtual 206, 3) := by decide +kernel
theorem dX7_roots_79 : decode cX7_roots 79 = .ok (.ifCond .eq 72, 3) := by decide +kernel
theorem dX7_roots_82 : decode cX7_roots 82 = .ok (.aload_n 0, 1) := by decide +kernel
theorem dX7_roots_83 : decode cX7_roots 83 = .ok (.getfield 40, 3) := by decide +kernel
theorem dX7_roots_86 : decode cX7_roots 86 = .ok (.bipush 10, 2) := by decide +kernel
theorem dX7_roots_88 : decode cX7_roots 88 = .ok (.iload_n 3, 1) := by decide +kernel
theorem dX7_roots_89 : decode cX7_roots 89 = .ok (.imul, 1) := by decide +kernel
theorem dX7_roots_90 : decode cX7_roots 90 = .ok (.iload_n 1, 1) := by decide +kernel
theorem dX7_roots_91 : decode cX7_roots 91 = .ok (.iadd, 1) := by decide +kernel
theorem dX7_roots_92 : decode cX7_roots 92 = .ok (.iaload, 1) := by decide +kernel
theorem dX7_roots_93 : decode cX7_roots 93 = .ok (.aload_n 0, 1) := by decide +kernel
theorem dX7_roots_94 : decode cX7_roots 94 = .ok (.getfield 40, 3) := by decide +kernel
theorem dX7_roots_97 : decode cX7_roots 97 = .ok (.bipush 10, 2) := by decide +kernel
theorem dX7_roots_99 : decode cX7_roots 99 = .ok (.iload 5, 2) := by decide +kernel
theorem dX7_roots_101 : decode cX7_roots 101 = .ok (.imul, 1) := by decide +kernel
theorem dX7_roots_102 : decode cX7_roots 102 = .ok (.iload_n 1, 1) := by decide +kernel
theorem dX7_roots_103 : decode cX7_roots 103 = .ok (.iadd, 1) := by decide +kernel
theorem dX7_roots_104 : decode cX7_roots 104 = .ok (.iaload, 1) := by decide +kernel
theorem dX7_roots_105 : decode cX7_roots 105 = .ok (.isub, 1) := by decide +kernel
theorem dX7_roots_106 : decode cX7_roots 106 = .ok (.istore 6, 2) := by decide +kernel
theorem dX7_roots_108 : decode cX7_roots 108 = .ok (.iload 4, 2) := by decide +kernel
theorem dX7_roots_110 : decode cX7_roots 110 = .ok (.ifCond .eq 38, 3) := by decide +kernel
theorem dX7_roots_113 : decode cX7_roots 113 = .ok (.aload_n 0, 1) := by decide +kernel
theorem dX7_roots_114 : decode cX7_roots 114 = .ok (.iload_n 3, 1) := by decide +kernel
theorem dX7_roots_115 : decode cX7_roots 115 = .ok (.iload 6, 2) := by decide +kernel
theorem dX7_roots_117 : decode cX7_roots 117 = .ok (.iload 5, 2) := by decide +kernel
theorem dX7_roots_119 : decode cX7_roots 119 = .ok (.invokevirtual 189, 3) := by decide +kernel
theorem dX7_roots_122 : decode cX7_roots 122 = .ok (.ifCond .eq 22, 3) := by decide +kernel
theorem dX7_roots_125 : decode cX7_roots 125 = .ok (.iload 5, 2) := by decide +kernel
theorem dX7_roots_127 : decode cX7_roots 127 = .ok (.iload_n 3, 1) := by decide +kernel
theorem dX7_roots_128 : decode cX7_roots 128 = .ok (.if_icmp .lt 20, 3) := by decide +kernel
theorem dX7_roots_131 : decode cX7_roots 131 = .ok (.aload_n 0, 1) := by decide +kernel
theorem dX7_roots_132 : decode cX7_roots 132 = .ok (.iload 5, 2) := by decide +kernel
theorem dX7_roots_134 : decode cX7_roots 134 = .ok (.iload 6, 2) := by decide +kernel
theorem dX7_roots_136 : decode cX7_roots 136 = .ok (.ineg, 1) := by decide +kernel
theorem dX7_roots_137 : decode cX7_roots 137 = .ok (.iload_n 3, 1) := by decide +kernel
theorem dX7_roots_138 : decode cX7_roots 138 = .ok (.invokevirtual 189, 3) := by decide +kernel
theorem dX7_roots_141 : decode cX7_roots 141 = .ok (.ifCond .eq 7, 3) := by decide +kernel
theorem dX7_roots_144 : decode cX7_roots 144 = .ok (.iconst 1, 1) := by decide +kernel
theorem dX7_roots_145 : decode cX7_roots 145 = .ok (.goto 4, 3) := by decide +kernel
theorem dX7_roots_148 : decode cX7_roots 148 = .ok (.iconst 0, 1) := by decide +kernel
theorem dX7_roots_149 : decode cX7_roots 149 = .ok (.istore 4, 2) := by decide +kernel
theorem dX7_roots_151 : decode cX7_roots 151 = .ok (.iinc 5 1, 3) := by decide +kernel
theorem dX7_roots_154 : decode cX7_roots 154 = .ok (.goto (-106), 3) := by decide +kernel
theorem dX7_roots_157 : decode cX7_roots 157 = .ok (.iload_n 2, 1) := by decide +kernel
theorem dX7_roots_158 : decode cX7_roots 158 = .ok (.iload 4, 2) := by decide +kernel
theorem dX7_roots_160 : decode cX7_roots 160 = .ok (.ifCond .eq 9, 3) := by decide +kernel
theorem dX7_roots_163 : decode cX7_roots 163 = .ok (.iconst 1, 1) := by decide +kernel
theorem dX7_roots_164 : decode cX7_roots 164 = .ok (.iload_n 3, 1) := by decide +kernel
theorem dX7_roots_165 : decode cX7_roots 165 = .ok (.ishl, 1) := by decide +kernel
theorem dX7_roots_166 : decode cX7_roots 166 = .ok (.goto 4, 3) := by decide +kernel
theorem dX7_roots_169 : decode cX7_roots 169 = .ok (.iconst 0, 1) := by decide +kernel
theorem dX7_roots_170 : decode cX7_roots 170 = .ok (.ior, 1) := by decide +kernel
theorem dX7_roots_171 : decode cX7_roots 171 = .ok (.istore_n 2, 1) := by decide +kernel
theorem dX7_roots_172 : decode cX7_roots 172 = .ok (.iinc 3 1, 3) := by decide +kernel
theorem dX7_roots_175 : decode cX7_roots 175 = .ok (.goto (-146), 3) := by decide +kernel
theorem dX7_roots_178 : decode cX7_roots 178 = .ok (.iload_n 2, 1) := by decide +kernel
theorem dX7_roots_179 : decode cX7_roots 179 = .ok (.ireturn, 1) := by decide +kernel
theorem dX7_loose_0 : decode cX7_loose 0 = .ok (.aload_n 0, 1) := by decide +kernel
theorem dX7_loose_1 : decode cX7_loose 1 = .ok (.iload_n 1, 1) := by decide +kernel
theorem dX7_loose_2 : decode cX7_loose 2 = .ok (.invokevirtual 163, 3) := by decide +kernel
theorem dX7_loose_5 : decode cX7_loose 5 = .ok (.ifCond .eq 13, 3) := by decide +kernel
theorem dX7_loose_8 : decode cX7_loose 8 = .ok (.iload_n 2, 1) := by decide +kernel
theorem dX7_loose_9 : decode cX7_loose 9 = .ok (.i2l, 1) := by decide +kernel
theorem dX7_loose_10 : decode cX7_loose 10 = .ok (.lconst 0, 1) := by decide +kernel
theorem dX7_loose_11 : decode cX7_loose 11 = .ok (.lconst 1, 1) := by decide +kernel
theorem dX7_loose_12 : decode cX7_loose 12 = .ok (.invokestatic 74, 3) := by decide +kernel
theorem dX7_loose_15 : decode cX7_loose 15 = .ok (.ifCond .ne 5, 3) := by decide +kernel
theorem dX7_loose_18 : decode cX7_loose 18 = .ok (.iconst (-1), 1) := by decide +kernel
theorem dX7_loose_19 : decode cX7_loose 19 = .ok (.ireturn, 1) := by decide +kernel
theorem dX7_loose_20 : decode cX7_loose 20 = .ok (.aload_n 0, 1) := by decide +kernel
theorem dX7_loose_21 : decode cX7_loose 21 = .ok (.iload_n 1, 1) := by decide +kernel
theorem dX7_loose_22 : decode cX7_loose 22 = .ok (.invokevirtual 174, 3) := by decide +kernel
theorem dX7_loose_25 : decode cX7_loose 25 = .ok (.ifCond .ne 6, 3) := by decide +kernel
theorem dX7_loose_28 : decode cX7_loose 28 = .ok (.bipush (-2), 2) := by decide +kernel
theorem dX7_loose_30 : decode cX7_loose 30 = .ok (.ireturn, 1) := by decide +kernel
theorem dX7_loose_31 : decode cX7_loose 31 = .ok (.aload_n 0, 1) := by decide +kernel
theorem dX7_loose_32 : decode cX7_loose 32 = .ok (.invokevirtual 154, 3) := by decide +kernel
theorem dX7_loose_35 : decode cX7_loose 35 = .ok (.iconst 1, 1) := by decide +kernel
theorem dX7_loose_36 : decode cX7_loose 36 = .ok (.istore_n 3, 1) := by decide +kernel
theorem dX7_loose_37 : decode cX7_loose 37 = .ok (.iconst 0, 1) := by decide +kernel
theorem dX7_loose_38 : decode cX7_loose 38 = .ok (.istore 4, 2) := by decide +kernel
theorem dX7_loose_40 : decode cX7_loose 40 = .ok (.iconst 0, 1) := by decide +kernel
theorem dX7_loose_41 : decode cX7_loose 41 = .ok (.istore 5, 2) := by decide +kernel
theorem dX7_loose_43 : decode cX7_loose 43 = .ok (.iload 5, 2) := by decide +kernel
theorem dX7_loose_45 : decode cX7_loose 45 = .ok (.aload_n 0, 1) := by decide +kernel
theorem dX7_loose_46 : decode cX7_loose 46 = .ok (.getfield 106, 3) := by decide +kernel
theorem dX7_loose_49 : decode cX7_loose 49 = .ok (.if_icmp .ge 106, 3) := by decide +kernel
theorem dX7_loose_52 : decode cX7_loose 52 = .ok (.iload_n 3, 1) := by decide +kernel
theorem dX7_loose_53 : decode cX7_loose 53 = .ok (.ifCond .eq 44, 3) := by decide +kernel
theorem dX7_loose_56 : decode cX7_loose 56 = .ok (.aload_n 0, 1) := by decide +kernel
theorem dX7_loose_57 : decode cX7_loose 57 = .ok (.iload 5, 2) := by decide +kernel
theorem dX7_loose_59 : decode cX7_loose 59 = .ok (.iload_n 1, 1) := by decide +kernel
theorem dX7_loose_60 : decode cX7_loose 60 = .ok (.invokevirtual 206, 3) := by decide +kernel
theorem dX7_loose_63 : decode cX7_loose 63 = .ok (.ifCond .ne 34, 3) := by decide +kernel
theorem dX7_loose_66 : decode cX7_loose 66 = .ok (.aload_n 0, 1) := by decide +kernel
theorem dX7_loose_67 : decode cX7_loose 67 = .ok (.iload 5, 2) := by decide +kernel
theorem dX7_loose_69 : decode cX7_loose 69 = .ok (.invokevirtual 174, 3) := by decide +kernel
theorem dX7_loose_72 : decode cX7_loose 72 = .ok (.ifCond .ne 21, 3) := by decide +kernel
theorem dX7_loose_75 : decode cX7_loose 75 = .ok (.aload_n 0, 1) := by decide +kernel
theorem dX7_loose_76 : decode cX7_loose 76 = .ok (.getfield 40, 3) := by decide +kernel
theorem dX7_loose_79 : decode cX7_loose 79 = .ok (.bipush 10, 2) := by decide +kernel
theorem dX7_loose_81 : decode cX7_loose 81 = .ok (.iload_n 1, 1) := by decide +kernel
theorem dX7_loose_82 : decode cX7_loose 82 = .ok (.imul, 1) := by decide +kernel
theorem dX7_loose_83 : decode cX7_loose 83 = .ok (.iload 5, 2) := by decide +kernel
theorem dX7_loose_85 : decode cX7_loose 85 = .ok (.iadd, 1) := by decide +kernel
theorem dX7_loose_86 : decode cX7_loose 86 = .ok (.iaload, 1) := by decide +kernel
theorem dX7_loose_87 : decode cX7_loose 87 = .ok (.invokestatic 141, 3) := by decide +kernel
theorem dX7_loose_90 : decode cX7_loose 90 = .ok (.ifCond .ne 7, 3) := by decide +kernel
theorem dX7_loose_93 : decode cX7_loose 93 = .ok (.iconst 1, 1) := by decide +kernel
theorem dX7_loose_94 : decode cX7_loose 94 = .ok (.goto 4, 3) := by decide +kernel
theorem dX7_loose_97 : decode cX7_loose 97 = .ok (.iconst 0, 1) := by decide +kernel
theorem dX7_loose_98 : decode cX7_loose 98 = .ok (.istore_n 3, 1) := by decide +kernel
theorem dX7_loose_99 : decode cX7_loose 99 = .ok (.iload 4, 2) := by decide +kernel
theorem dX7_loose_101 : decode cX7_loose 101 = .ok (.ifCond .ne 41, 3) := by decide +kernel
theorem dX7_loose_104 : decode cX7_loose 104 = .ok (.aload_n 0, 1) := by decide +kernel
theorem dX7_loose_105 : decode cX7_loose 105 = .ok (.iload 5, 2) := by decide +kernel
theorem dX7_loose_107 : decode cX7_loose 107 = .ok (.iload_n 1, 1) := by decide +kernel
theorem dX7_loose_108 : decode cX7_loose 108 = .ok (.invokevirtual 206, 3) := by decide +kernel
theorem dX7_loose_111 : decode cX7_loose 111 = .ok (.ifCond .eq 35, 3) := by decide +kernel
theorem dX7_loose_114 : decode cX7_loose 114 = .ok (.aload_n 0, 1) := by decide +kernel
theorem dX7_loose_115 : decode cX7_loose 115 = .ok (.getfield 40, 3) := by decide +kernel
theorem dX7_loose_118 : decode cX7_loose 118 = .ok (.bipush 10, 2) := by decide +kernel
theorem dX7_loose_120 : decode cX7_loose 120 = .ok (.iload 5, 2) := by decide +kernel
theorem dX7_loose_122 : decode cX7_loose 122 = .ok (.imul, 1) := by decide +kernel
theorem dX7_loose_123 : decode cX7_loose 123 = .ok (.iload_n 1, 1) := by decide +kernel
theorem dX7_loose_124 : decode cX7_loose 124 = .ok (.iadd, 1) := by decide +kernel
theorem dX7_loose_125 : decode cX7_loose 125 = .ok (.iaload, 1) := by decide +kernel
theorem dX7_loose_126 : decode cX7_loose 126 = .ok (.aload_n 0, 1) := by decide +kernel
theorem dX7_loose_127 : decode cX7_loose 127 = .ok (.getfield 40, 3) := by decide +kernel
theorem dX7_loose_130 : decode cX7_loose 130 = .ok (.bipush 10, 2) := by decide +kernel
theorem dX7_loose_132 : decode cX7_loose 132 = .ok (.iload_n 1, 1) := by decide +kernel
theorem dX7_loose_133 : decode cX7_loose 133 = .ok (.imul, 1) := by decide +kernel
theorem dX7_loose_134 : decode cX7_loose 134 = .ok (.iload 5, 2) := by decide +kernel
theorem dX7_loose_136 : decode cX7_loose 136 = .ok (.iadd, 1) := by decide +kernel
theorem dX7_loose_137 : decode cX7_loose 137 = .ok (.iaload, 1) := by decide +kernel
theorem dX7_loose_138 : decode cX7_loose 138 = .ok (.iadd, 1) := by decide +kernel
theorem dX7_loose_139 : decode cX7_loose 139 = .ok (.ifCond .ne 7, 3) := by decide +kernel
theorem dX7_loose_142 : decode cX7_loose 142 = .ok (.iconst 1, 1) := by decide +kernel
theorem dX7_loose_143 : decode cX7_loose 143 = .ok (.goto 4, 3) := by decide +kernel
theorem dX7_loose_146 : decode cX7_loose 146 = .ok (.iconst 0, 1) := by decide +kernel
theorem dX7_loose_147 : decode cX7_loose 147 = .ok (.istore 4, 2) := by decide +kernel
theorem dX7_loose_149 : decode cX7_loose 149 = .ok (.iinc 5 1, 3) := by decide +kernel
theorem dX7_loose_152 : decode cX7_loose 152 = .ok (.goto (-109), 3) := by decide +kernel
theorem dX7_loose_155 : decode cX7_loose 155 = .ok (.iload_n 2, 1) := by decide +kernel
theorem dX7_loose_156 : decode cX7_loose 156 = .ok (.ifCond .ne 15, 3) := by decide +kernel
theorem dX7_loose_159 : decode cX7_loose 159 = .ok (.iload_n 3, 1) := by decide +kernel
theorem dX7_loose_160 : decode cX7_loose 160 = .ok (.ifCond .eq 7, 3) := by decide +kernel
theorem dX7_loose_163 : decode cX7_loose 163 = .ok (.iconst 1, 1) := by decide +kernel
theorem dX7_loose_164 : decode cX7_loose 164 = .ok (.goto 17, 3) := by decide +kernel
theorem dX7_loose_167 : decode cX7_loose 167 = .ok (.iconst 0, 1) := by decide +kernel
theorem dX7_loose_168 : decode cX7_loose 168 = .ok (.goto 13, 3) := by decide +kernel
theorem dX7_loose_171 : decode cX7_loose 171 = .ok (.iload 4, 2) := by decide +kernel
theorem dX7_loose_173 : decode cX7_loose 173 = .ok (.ifCond .eq 7, 3) := by decide +kernel
theorem dX7_loose_176 : decode cX7_loose 176 = .ok (.iconst 1, 1) := by decide +kernel
theorem dX7_loose_177 : decode cX7_loose 177 = .ok (.goto 4, 3) := by decide +kernel
theorem dX7_loose_180 : decode cX7_loose 180 = .ok (.iconst 0, 1) := by decide +kernel
theorem dX7_loose_181 : decode cX7_loose 181 = .ok (.ireturn, 1) := by decide +kernel
theorem dX7_keep_0 : decode cX7_keep 0 = .ok (.aload_n 0, 1) := by decide +kernel
theorem dX7_keep_1 : decode cX7_keep 1 = .ok (.getfield 128, 3) := by decide +kernel
theorem dX7_keep_4 : decode cX7_keep 4 = .ok (.iconst 2, 1) := by decide +kernel
theorem dX7_keep_5 : decode cX7_keep 5 = .ok (.if_icmp .ne 6, 3) := by decide +kernel
theorem dX7_keep_8 : decode cX7_keep 8 = .ok (.bipush (-3), 2) := by decide +kernel
theorem dX7_keep_10 : decode cX7_keep 10 = .ok (.ireturn, 1) := by decide +kernel
theorem dX7_keep_11 : decode cX7_keep 11 = .ok (.iconst 0, 1) := by decide +kernel
theorem dX7_keep_12 : decode cX7_keep 12 = .ok (.istore_n 1, 1) := by decide +kernel
theorem dX7_keep_13 : decode cX7_keep 13 = .ok (.iload_n 1, 1) := by decide +kernel
theorem dX7_keep_14 : decode cX7_keep 14 = .ok (.bipush 59, 2) := by decide +kernel
theorem dX7_keep_16 : decode cX7_keep 16 = .ok (.if_icmp .ge 29, 3) := by decide +kernel
theorem dX7_keep_19 : decode cX7_keep 19 = .ok (.aload_n 0, 1) := by decide +kernel
theorem dX7_keep_20 : decode cX7_keep 20 = .ok (.getfield 25, 3) := by decide +kernel
theorem dX7_keep_23 : decode cX7_keep 23 = .ok (.bipush 59, 2) := by decide +kernel
theorem dX7_keep_25 : decode cX7_keep 25 = .ok (.aload_n 0, 1) := by decide +kernel
theorem dX7_keep_26 : decode cX7_keep 26 = .ok (.getfield 128, 3) := by decide +kernel
theorem dX7_keep_29 : decode cX7_keep 29 = .ok (.imul, 1) := by decide +kernel
theorem dX7_keep_30 : decode cX7_keep 30 = .ok (.iload_n 1, 1) := by decide +kernel
theorem dX7_keep_31 : decode cX7_keep 31 = .ok (.iadd, 1) := by decide +kernel
theorem dX7_keep_32 : decode cX7_keep 32 = .ok (.aload_n 0, 1) := by decide +kernel
theorem dX7_keep_33 : decode cX7_keep 33 = .ok (.getfield 19, 3) := by decide +kernel
theorem dX7_keep_36 : decode cX7_keep 36 = .ok (.iload_n 1, 1) := by decide +kernel
theorem dX7_keep_37 : decode cX7_keep 37 = .ok (.iaload, 1) := by decide +kernel
theorem dX7_keep_38 : decode cX7_keep 38 = .ok (.iastore, 1) := by decide +kernel
theorem dX7_keep_39 : decode cX7_keep 39 = .ok (.iinc 1 1, 3) := by decide +kernel
theorem dX7_keep_42 : decode cX7_keep 42 = .ok (.goto (-29), 3) := by decide +kernel
theorem dX7_keep_45 : decode cX7_keep 45 = .ok (.aload_n 0, 1) := by decide +kernel
theorem dX7_keep_46 : decode cX7_keep 46 = .ok (.dup, 1) := by decide +kernel
theorem dX7_keep_47 : decode cX7_keep 47 = .ok (.getfield 128, 3) := by decide +kernel
theorem dX7_keep_50 : decode cX7_keep 50 = .ok (.iconst 1, 1) := by decide +kernel
theorem dX7_keep_51 : decode cX7_keep 51 = .ok (.iadd, 1) := by decide +kernel
theorem dX7_keep_52 : decode cX7_keep 52 = .ok (.putfield 128, 3) := by decide +kernel
theorem dX7_keep_55 : decode cX7_keep 55 = .ok (.aload_n 0, 1) := by decide +kernel
theorem dX7_keep_56 : decode cX7_keep 56 = .ok (.getfield 128, 3) := by decide +kernel
theorem dX7_keep_59 : decode cX7_keep 59 = .ok (.ireturn, 1) := by decide +kernel
theorem dX7_back_0 : decode cX7_back 0 = .ok (.aload_n 0, 1) := by decide +kernel
theorem dX7_back_1 : decode cX7_back 1 = .ok (.getfield 128, 3) := by decide +kernel
theorem dX7_back_4 : decode cX7_back 4 = .ok (.ifCond .ne 6, 3) := by decide +kernel
theorem dX7_back_7 : decode cX7_back 7 = .ok (.bipush (-2), 2) := by decide +kernel
theorem dX7_back_9 : decode cX7_back 9 = .ok (.ireturn, 1) := by decide +kernel
theorem dX7_back_10 : decode cX7_back 10 = .ok (.aload_n 0, 1) := by decide +kernel
theorem dX7_back_11 : decode cX7_back 11 = .ok (.dup, 1) := by decide +kernel
theorem dX7_back_12 : decode cX7_back 12 = .ok (.getfield 128, 3) := by decide +kernel
theorem dX7_back_15 : decode cX7_back 15 = .ok (.iconst 1, 1) := by decide +kernel
theorem dX7_back_16 : decode cX7_back 16 = .ok (.isub, 1) := by decide +kernel
theorem dX7_back_17 : decode cX7_back 17 = .ok (.putfield 128, 3) := by decide +kernel
theorem dX7_back_20 : decode cX7_back 20 = .ok (.iconst 0, 1) := by decide +kernel
theorem dX7_back_21 : decode cX7_back 21 = .ok (.istore_n 1, 1) := by decide +kernel
theorem dX7_back_22 : decode cX7_back 22 = .ok (.iload_n 1, 1) := by decide +kernel
theorem dX7_back_23 : decode cX7_back 23 = .ok (.bipush 59, 2) := by decide +kernel
theorem dX7_back_25 : decode cX7_back 25 = .ok (.if_icmp .ge 29, 3) := by decide +kernel
theorem dX7_back_28 : decode cX7_back 28 = .ok (.aload_n 0, 1) := by decide +kernel
theorem dX7_back_29 : decode cX7_back 29 = .ok (.getfield 19, 3) := by decide +kernel
theorem dX7_back_32 : decode cX7_back 32 = .ok (.iload_n 1, 1) := by decide +kernel
theorem dX7_back_33 : decode cX7_back 33 = .ok (.aload_n 0, 1) := by decide +kernel
theorem dX7_back_34 : decode cX7_back 34 = .ok (.getfield 25, 3) := by decide +kernel
theorem dX7_back_37 : decode cX7_back 37 = .ok (.bipush 59, 2) := by decide +kernel
theorem dX7_back_39 : decode cX7_back 39 = .ok (.aload_n 0, 1) := by decide +kernel
theorem dX7_back_40 : decode cX7_back 40 = .ok (.getfield 128, 3) := by decide +kernel
theorem dX7_back_43 : decode cX7_back 43 = .ok (.imul, 1) := by decide +kernel
theorem dX7_back_44 : decode cX7_back 44 = .ok (.iload_n 1, 1) := by decide +kernel
theorem dX7_back_45 : decode cX7_back 45 = .ok (.iadd, 1) := by decide +kernel
theorem dX7_back_46 : decode cX7_back 46 = .ok (.iaload, 1) := by decide +kernel
theorem dX7_back_47 : decode cX7_back 47 = .ok (.iastore, 1) := by decide +kernel
theorem dX7_back_48 : decode cX7_back 48 = .ok (.iinc 1 1, 3) := by decide +kernel
theorem dX7_back_51 : decode cX7_back 51 = .ok (.goto (-29), 3) := by decide +kernel
theorem dX7_back_54 : decode cX7_back 54 = .ok (.aload_n 0, 1) := by decide +kernel
theorem dX7_back_55 : decode cX7_back 55 = .ok (.iconst 0, 1) := by decide +kernel
theorem dX7_back_56 : decode cX7_back 56 = .ok (.putfield 125, 3) := by decide +kernel
theorem dX7_back_59 : decode cX7_back 59 = .ok (.aload_n 0, 1) := by decide +kernel
theorem dX7_back_60 : decode cX7_back 60 = .ok (.getfield 128, 3) := by decide +kernel
theorem dX7_back_63 : decode cX7_back 63 = .ok (.ireturn, 1) := by decide +kernel
theorem dX7_greatest_0 : decode cX7_greatest 0 = .ok (.iconst 0, 1) := by decide +kernel
theorem dX7_greatest_1 : decode cX7_greatest 1 = .ok (.istore_n 1, 1) := by decide +kernel
theorem dX7_greatest_2 : decode cX7_greatest 2 = .ok (.iconst 0, 1) := by decide +kernel
theorem dX7_greatest_3 : decode cX7_greatest 3 = .ok (.istore_n 2, 1) := by decide +kernel
theorem dX7_greatest_4 : decode cX7_greatest 4 = .ok (.iload_n 2, 1) := by decide +kernel
theorem dX7_greatest_5 : decode cX7_greatest 5 = .ok (.aload_n 0, 1) := by decide +kernel
theorem dX7_greatest_6 : decode cX7_greatest 6 = .ok (.getfield 106, 3) := by decide +kernel
theorem dX7_greatest_9 : decode cX7_greatest 9 = .ok (.if_icmp .ge 28, 3) := by decide +kernel
theorem dX7_greatest_12 : decode cX7_greatest 12 = .ok (.aload_n 0, 1) := by decide +kernel
theorem dX7_greatest_13 : decode cX7_greatest 13 = .ok (.iload_n 2, 1) := by decide +kernel
theorem dX7_greatest_14 : decode cX7_greatest 14 = .ok (.invokevirtual 168, 3) := by decide +kernel
theorem dX7_greatest_17 : decode cX7_greatest 17 = .ok (.iload_n 1, 1) := by decide +kernel
theorem dX7_greatest_18 : decode cX7_greatest 18 = .ok (.if_icmp .le 11, 3) := by decide +kernel
theorem dX7_greatest_21 : decode cX7_greatest 21 = .ok (.aload_n 0, 1) := by decide +kernel
theorem dX7_greatest_22 : decode cX7_greatest 22 = .ok (.iload_n 2, 1) := by decide +kernel
theorem dX7_greatest_23 : decode cX7_greatest 23 = .ok (.invokevirtual 168, 3) := by decide +kernel
theorem dX7_greatest_26 : decode cX7_greatest 26 = .ok (.goto 4, 3) := by decide +kernel
theorem dX7_greatest_29 : decode cX7_greatest 29 = .ok (.iload_n 1, 1) := by decide +kernel
theorem dX7_greatest_30 : decode cX7_greatest 30 = .ok (.istore_n 1, 1) := by decide +kernel
theorem dX7_greatest_31 : decode cX7_greatest 31 = .ok (.iinc 2 1, 3) := by decide +kernel
theorem dX7_greatest_34 : decode cX7_greatest 34 = .ok (.goto (-30), 3) := by decide +kernel
theorem dX7_greatest_37 : decode cX7_greatest 37 = .ok (.iload_n 1, 1) := by decide +kernel
theorem dX7_greatest_38 : decode cX7_greatest 38 = .ok (.ireturn, 1) := by decide +kernel
theorem dX7_pairs_0 : decode cX7_pairs 0 = .ok (.iconst 0, 1) := by decide +kernel
theorem dX7_pairs_1 : decode cX7_pairs 1 = .ok (.istore_n 1, 1) := by decide +kernel
theorem dX7_pairs_2 : decode cX7_pairs 2 = .ok (.iconst 0, 1) := by decide +kernel
theorem dX7_pairs_3 : decode cX7_pairs 3 = .ok (.istore_n 2, 1) := by decide +kernel
theorem dX7_pairs_4 : decode cX7_pairs 4 = .ok (.iload_n 2, 1) := by decide +kernel
theorem dX7_pairs_5 : decode cX7_pairs 5 = .ok (.aload_n 0, 1) := by decide +kernel
theorem dX7_pairs_6 : decode cX7_pairs 6 = .ok (.getfield 106, 3) := by decide +kernel
theorem dX7_pairs_9 : decode cX7_pairs 9 = .ok (.if_icmp .ge 55, 3) := by decide +kernel
theorem dX7_pairs_12 : decode cX7_pairs 12 = .ok (.iconst 0, 1) := by decide +kernel
theorem dX7_pairs_13 : decode cX7_pairs 13 = .ok (.istore_n 3, 1) := by decide +kernel
theorem dX7_pairs_14 : decode cX7_pairs 14 = .ok (.iload_n 3, 1) := by decide +kernel
theorem dX7_pairs_15 : decode cX7_pairs 15 = .ok (.aload_n 0, 1) := by decide +kernel
theorem dX7_pairs_16 : decode cX7_pairs 16 = .ok (.getfield 106, 3) := by decide +kernel
theorem dX7_pairs_19 : decode cX7_pairs 19 = .ok (.if_icmp .ge 39, 3) := by decide +kernel
theorem dX7_pairs_22 : decode cX7_pairs 22 = .ok (.iload_n 1, 1) := by decide +kernel
theorem dX7_pairs_23 : decode cX7_pairs 23 = .ok (.iload_n 2, 1) := by decide +kernel
theorem dX7_pairs_24 : decode cX7_pairs 24 = .ok (.iload_n 3, 1) := by decide +kernel
theorem dX7_pairs_25 : decode cX7_pairs 25 = .ok (.if_icmp .eq 24, 3) := by decide +kernel
theorem dX7_pairs_28 : decode cX7_pairs 28 = .ok (.aload_n 0, 1) := by decide +kernel
theorem dX7_pairs_29 : decode cX7_pairs 29 = .ok (.getfield 40, 3) := by decide +kernel
theorem dX7_pairs_32 : decode cX7_pairs 32 = .ok (.bipush 10, 2) := by decide +kernel
theorem dX7_pairs_34 : decode cX7_pairs 34 = .ok (.iload_n 2, 1) := by decide +kernel
theorem dX7_pairs_35 : decode cX7_pairs 35 = .ok (.imul, 1) := by decide +kernel
theorem dX7_pairs_36 : decode cX7_pairs 36 = .ok (.iload_n 3, 1) := by decide +kernel
theorem dX7_pairs_37 : decode cX7_pairs 37 = .ok (.iadd, 1) := by decide +kernel
theorem dX7_pairs_38 : decode cX7_pairs 38 = .ok (.iaload, 1) := by decide +kernel
theorem dX7_pairs_39 : decode cX7_pairs 39 = .ok (.invokestatic 141, 3) := by decide +kernel
theorem dX7_pairs_42 : decode cX7_pairs 42 = .ok (.ifCond .eq 7, 3) := by decide +kernel
theorem dX7_pairs_45 : decode cX7_pairs 45 = .ok (.iconst 1, 1) := by decide +kernel
theorem dX7_pairs_46 : decode cX7_pairs 46 = .ok (.goto 4, 3) := by decide +kernel
theorem dX7_pairs_49 : decode cX7_pairs 49 = .ok (.iconst 0, 1) := by decide +kernel
theorem dX7_pairs_50 : decode cX7_pairs 50 = .ok (.iadd, 1) := by decide +kernel
theorem dX7_pairs_51 : decode cX7_pairs 51 = .ok (.istore_n 1, 1) := by decide +kernel
theorem dX7_pairs_52 : decode cX7_pairs 52 = .ok (.iinc 3 1, 3) := by decide +kernel
theorem dX7_pairs_55 : decode cX7_pairs 55 = .ok (.goto (-41), 3) := by decide +kernel
theorem dX7_pairs_58 : decode cX7_pairs 58 = .ok (.iinc 2 1, 3) := by decide +kernel
theorem dX7_pairs_61 : decode cX7_pairs 61 = .ok (.goto (-57), 3) := by decide +kernel
theorem dX7_pairs_64 : decode cX7_pairs 64 = .ok (.iload_n 1, 1) := by decide +kernel
theorem dX7_pairs_65 : decode cX7_pairs 65 = .ok (.ireturn, 1) := by decide +kernel
theorem dX7_floatingMany_0 : decode cX7_floatingMany 0 = .ok (.iconst 0, 1) := by decide +kernel
theorem dX7_floatingMany_1 : decode cX7_floatingMany 1 = .ok (.istore_n 1, 1) := by decide +kernel
theorem dX7_floatingMany_2 : decode cX7_floatingMany 2 = .ok (.iconst 0, 1) := by decide +kernel
theorem dX7_floatingMany_3 : decode cX7_floatingMany 3 = .ok (.istore_n 2, 1) := by decide +kernel
theorem dX7_floatingMany_4 : decode cX7_floatingMany 4 = .ok (.iload_n 2, 1) := by decide +kernel
theorem dX7_floatingMany_5 : decode cX7_floatingMany 5 = .ok (.aload_n 0, 1) := by decide +kernel
theorem dX7_floatingMany_6 : decode cX7_floatingMany 6 = .ok (.getfield 106, 3) := by decide +kernel
theorem dX7_floatingMany_9 : decode cX7_floatingMany 9 = .ok (.if_icmp .ge 25, 3) := by decide +kernel
theorem dX7_floatingMany_12 : decode cX7_floatingMany 12 = .ok (.iload_n 1, 1) := by decide +kernel
theorem dX7_floatingMany_13 : decode cX7_floatingMany 13 = .ok (.aload_n 0, 1) := by decide +kernel
theorem dX7_floatingMany_14 : decode cX7_floatingMany 14 = .ok (.iload_n 2, 1) := by decide +kernel
theorem dX7_floatingMany_15 : decode cX7_floatingMany 15 = .ok (.invokevirtual 174, 3) := by decide +kernel
theorem dX7_floatingMany_18 : decode cX7_floatingMany 18 = .ok (.ifCond .eq 7, 3) := by decide +kernel
theorem dX7_floatingMany_21 : decode cX7_floatingMany 21 = .ok (.iconst 1, 1) := by decide +kernel
theorem dX7_floatingMany_22 : decode cX7_floatingMany 22 = .ok (.goto 4, 3) := by decide +kernel
theorem dX7_floatingMany_25 : decode cX7_floatingMany 25 = .ok (.iconst 0, 1) := by decide +kernel
theorem dX7_floatingMany_26 : decode cX7_floatingMany 26 = .ok (.iadd, 1) := by decide +kernel
theorem dX7_floatingMany_27 : decode cX7_floatingMany 27 = .ok (.istore_n 1, 1) := by decide +kernel
theorem dX7_floatingMany_28 : decode cX7_floatingMany 28 = .ok (.iinc 2 1, 3) := by decide +kernel
theorem dX7_floatingMany_31 : decode cX7_floatingMany 31 = .ok (.goto (-27), 3) := by decide +kernel
theorem dX7_floatingMany_34 : decode cX7_floatingMany 34 = .ok (.iload_n 1, 1) := by decide +kernel
theorem dX7_floatingMany_35 : decode cX7_floatingMany 35 = .ok (.ireturn, 1) := by decide +kernel
theorem dX7_count_0 : decode cX7_count 0 = .ok (.aload_n 0, 1) := by decide +kernel
theorem dX7_count_1 : decode cX7_count 1 = .ok (.invokevirtual 154, 3) := by decide +kernel
theorem dX7_count_4 : decode cX7_count 4 = .ok (.iload_n 1, 1) := by decide +kernel
theorem dX7_count_5 : decode cX7_count 5 = .ok (.tableswitch 108 0 9 #[55, 60, 68, 73, 78, 83, 88, 93, 98, 103], 55) := by decide +kernel
theorem dX7_count_60 : decode cX7_count 60 = .ok (.aload_n 0, 1) := by decide +kernel
theorem dX7_count_61 : decode cX7_count 61 = .ok (.getfield 106, 3) := by decide +kernel
theorem dX7_count_64 : decode cX7_count 64 = .ok (.ireturn, 1) := by decide +kernel
theorem dX7_count_65 : decode cX7_count 65 = .ok (.aload_n 0, 1) := by decide +kernel
theorem dX7_count_66 : decode cX7_count 66 = .ok (.getfield 19, 3) := by decide +kernel
theorem dX7_count_69 : decode cX7_count 69 = .ok (.bipush 10, 2) := by decide +kernel
theorem dX7_count_71 : decode cX7_count 71 = .ok (.iaload, 1) := by decide +kernel
theorem dX7_count_72 : decode cX7_count 72 = .ok (.ireturn, 1) := by decide +kernel
theorem dX7_count_73 : decode cX7_count 73 = .ok (.aload_n 0, 1) := by decide +kernel
theorem dX7_count_74 : decode cX7_count 74 = .ok (.getfield 109, 3) := by decide +kernel
theorem dX7_count_77 : decode cX7_count 77 = .ok (.ireturn, 1) := by decide +kernel
theorem dX7_count_78 : decode cX7_count 78 = .ok (.aload_n 0, 1) := by decide +kernel
theorem dX7_count_79 : decode cX7_count 79 = .ok (.invokevirtual 209, 3) := by decide +kernel
theorem dX7_count_82 : decode cX7_count 82 = .ok (.ireturn, 1) := by decide +kernel
theorem dX7_count_83 : decode cX7_count 83 = .ok (.aload_n 0, 1) := by decide +kernel
theorem dX7_count_84 : decode cX7_count 84 = .ok (.invokevirtual 212, 3) := by decide +kernel
theorem dX7_count_87 : decode cX7_count 87 = .ok (.ireturn, 1) := by decide +kernel
theorem dX7_count_88 : decode cX7_count 88 = .ok (.aload_n 0, 1) := by decide +kernel
theorem dX7_count_89 : decode cX7_count 89 = .ok (.getfield 122, 3) := by decide +kernel
theorem dX7_count_92 : decode cX7_count 92 = .ok (.ireturn, 1) := by decide +kernel
theorem dX7_count_93 : decode cX7_count 93 = .ok (.aload_n 0, 1) := by decide +kernel
theorem dX7_count_94 : decode cX7_count 94 = .ok (.getfield 125, 3) := by decide +kernel
theorem dX7_count_97 : decode cX7_count 97 = .ok (.ireturn, 1) := by decide +kernel
theorem dX7_count_98 : decode cX7_count 98 = .ok (.aload_n 0, 1) := by decide +kernel
theorem dX7_count_99 : decode cX7_count 99 = .ok (.getfield 128, 3) := by decide +kernel
theorem dX7_count_102 : decode cX7_count 102 = .ok (.ireturn, 1) := by decide +kernel
theorem dX7_count_103 : decode cX7_count 103 = .ok (.aload_n 0, 1) := by decide +kernel
theorem dX7_count_104 : decode cX7_count 104 = .ok (.getfield 78, 3) := by decide +kernel
theorem dX7_count_107 : decode cX7_count 107 = .ok (.ireturn, 1) := by decide +kernel
theorem dX7_count_108 : decode cX7_count 108 = .ok (.aload_n 0, 1) := by decide +kernel
theorem dX7_count_109 : decode cX7_count 109 = .ok (.invokevirtual 215, 3) := by decide +kernel
theorem dX7_count_112 : decode cX7_count 112 = .ok (.ireturn, 1) := by decide +kernel
theorem dX7_count_113 : decode cX7_count 113 = .ok (.iconst (-1), 1) := by decide +kernel
theorem dX7_count_114 : decode cX7_count 114 = .ok (.ireturn, 1) := by decide +kernel
