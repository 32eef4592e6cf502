theorem dX6_init_0 : decode cX6_init 0 = .ok (.aload_n 0, 1) := by decide +kernel
theorem dX6_init_1 : decode cX6_init 1 = .ok (.invokespecial 1, 3) := by decide +kernel
theorem dX6_init_4 : decode cX6_init 4 = .ok (.aload_n 0, 1) := by decide +kernel
theorem dX6_init_5 : decode cX6_init 5 = .ok (.new 7, 3) := by decide +kernel
theorem dX6_init_8 : decode cX6_init 8 = .ok (.dup, 1) := by decide +kernel
theorem dX6_init_9 : decode cX6_init 9 = .ok (.invokespecial 9, 3) := by decide +kernel
theorem dX6_init_12 : decode cX6_init 12 = .ok (.putfield 10, 3) := by decide +kernel
theorem dX6_init_15 : decode cX6_init 15 = .ok (.aload_n 0, 1) := by decide +kernel
theorem dX6_init_16 : decode cX6_init 16 = .ok (.new 16, 3) := by decide +kernel
theorem dX6_init_19 : decode cX6_init 19 = .ok (.dup, 1) := by decide +kernel
theorem dX6_init_20 : decode cX6_init 20 = .ok (.invokespecial 18, 3) := by decide +kernel
theorem dX6_init_23 : decode cX6_init 23 = .ok (.putfield 19, 3) := by decide +kernel
theorem dX6_init_26 : decode cX6_init 26 = .ok (.aload_n 0, 1) := by decide +kernel
theorem dX6_init_27 : decode cX6_init 27 = .ok (.bipush 8, 2) := by decide +kernel
theorem dX6_init_29 : decode cX6_init 29 = .ok (.anewarray 16, 3) := by decide +kernel
theorem dX6_init_32 : decode cX6_init 32 = .ok (.putfield 23, 3) := by decide +kernel
theorem dX6_init_35 : decode cX6_init 35 = .ok (.iconst 0, 1) := by decide +kernel
theorem dX6_init_36 : decode cX6_init 36 = .ok (.istore_n 1, 1) := by decide +kernel
theorem dX6_init_37 : decode cX6_init 37 = .ok (.iload_n 1, 1) := by decide +kernel
theorem dX6_init_38 : decode cX6_init 38 = .ok (.bipush 8, 2) := by decide +kernel
theorem dX6_init_40 : decode cX6_init 40 = .ok (.if_icmp .ge 22, 3) := by decide +kernel
theorem dX6_init_43 : decode cX6_init 43 = .ok (.aload_n 0, 1) := by decide +kernel
theorem dX6_init_44 : decode cX6_init 44 = .ok (.getfield 23, 3) := by decide +kernel
theorem dX6_init_47 : decode cX6_init 47 = .ok (.iload_n 1, 1) := by decide +kernel
theorem dX6_init_48 : decode cX6_init 48 = .ok (.new 16, 3) := by decide +kernel
theorem dX6_init_51 : decode cX6_init 51 = .ok (.dup, 1) := by decide +kernel
theorem dX6_init_52 : decode cX6_init 52 = .ok (.invokespecial 18, 3) := by decide +kernel
theorem dX6_init_55 : decode cX6_init 55 = .ok (.aastore, 1) := by decide +kernel
theorem dX6_init_56 : decode cX6_init 56 = .ok (.iinc 1 1, 3) := by decide +kernel
theorem dX6_init_59 : decode cX6_init 59 = .ok (.goto (-22), 3) := by decide +kernel
theorem dX6_init_62 : decode cX6_init 62 = .ok (.aload_n 0, 1) := by decide +kernel
theorem dX6_init_63 : decode cX6_init 63 = .ok (.iconst 2, 1) := by decide +kernel
theorem dX6_init_64 : decode cX6_init 64 = .ok (.anewarray 16, 3) := by decide +kernel
theorem dX6_init_67 : decode cX6_init 67 = .ok (.putfield 27, 3) := by decide +kernel
theorem dX6_init_70 : decode cX6_init 70 = .ok (.iconst 0, 1) := by decide +kernel
theorem dX6_init_71 : decode cX6_init 71 = .ok (.istore_n 1, 1) := by decide +kernel
theorem dX6_init_72 : decode cX6_init 72 = .ok (.iload_n 1, 1) := by decide +kernel
theorem dX6_init_73 : decode cX6_init 73 = .ok (.iconst 2, 1) := by decide +kernel
theorem dX6_init_74 : decode cX6_init 74 = .ok (.if_icmp .ge 22, 3) := by decide +kernel
theorem dX6_init_77 : decode cX6_init 77 = .ok (.aload_n 0, 1) := by decide +kernel
theorem dX6_init_78 : decode cX6_init 78 = .ok (.getfield 27, 3) := by decide +kernel
theorem dX6_init_81 : decode cX6_init 81 = .ok (.iload_n 1, 1) := by decide +kernel
theorem dX6_init_82 : decode cX6_init 82 = .ok (.new 16, 3) := by decide +kernel
theorem dX6_init_85 : decode cX6_init 85 = .ok (.dup, 1) := by decide +kernel
theorem dX6_init_86 : decode cX6_init 86 = .ok (.invokespecial 18, 3) := by decide +kernel
theorem dX6_init_89 : decode cX6_init 89 = .ok (.aastore, 1) := by decide +kernel
theorem dX6_init_90 : decode cX6_init 90 = .ok (.iinc 1 1, 3) := by decide +kernel
theorem dX6_init_93 : decode cX6_init 93 = .ok (.goto (-21), 3) := by decide +kernel
theorem dX6_init_96 : decode cX6_init 96 = .ok (.aload_n 0, 1) := by decide +kernel
theorem dX6_init_97 : decode cX6_init 97 = .ok (.new 30, 3) := by decide +kernel
theorem dX6_init_100 : decode cX6_init 100 = .ok (.dup, 1) := by decide +kernel
theorem dX6_init_101 : decode cX6_init 101 = .ok (.invokespecial 32, 3) := by decide +kernel
theorem dX6_init_104 : decode cX6_init 104 = .ok (.putfield 33, 3) := by decide +kernel
theorem dX6_init_107 : decode cX6_init 107 = .ok (.aload_n 0, 1) := by decide +kernel
theorem dX6_init_108 : decode cX6_init 108 = .ok (.bipush 10, 2) := by decide +kernel
theorem dX6_init_110 : decode cX6_init 110 = .ok (.newarray .int, 2) := by decide +kernel
theorem dX6_init_112 : decode cX6_init 112 = .ok (.putfield 37, 3) := by decide +kernel
theorem dX6_init_115 : decode cX6_init 115 = .ok (.aload_n 0, 1) := by decide +kernel
theorem dX6_init_116 : decode cX6_init 116 = .ok (.new 41, 3) := by decide +kernel
theorem dX6_init_119 : decode cX6_init 119 = .ok (.dup, 1) := by decide +kernel
theorem dX6_init_120 : decode cX6_init 120 = .ok (.invokespecial 43, 3) := by decide +kernel
theorem dX6_init_123 : decode cX6_init 123 = .ok (.putfield 44, 3) := by decide +kernel
theorem dX6_init_126 : decode cX6_init 126 = .ok (.aload_n 0, 1) := by decide +kernel
theorem dX6_init_127 : decode cX6_init 127 = .ok (.new 48, 3) := by decide +kernel
theorem dX6_init_130 : decode cX6_init 130 = .ok (.dup, 1) := by decide +kernel
theorem dX6_init_131 : decode cX6_init 131 = .ok (.invokespecial 50, 3) := by decide +kernel
theorem dX6_init_134 : decode cX6_init 134 = .ok (.putfield 51, 3) := by decide +kernel
theorem dX6_init_137 : decode cX6_init 137 = .ok (.aload_n 0, 1) := by decide +kernel
theorem dX6_init_138 : decode cX6_init 138 = .ok (.new 48, 3) := by decide +kernel
theorem dX6_init_141 : decode cX6_init 141 = .ok (.dup, 1) := by decide +kernel
theorem dX6_init_142 : decode cX6_init 142 = .ok (.invokespecial 50, 3) := by decide +kernel
theorem dX6_init_145 : decode cX6_init 145 = .ok (.putfield 55, 3) := by decide +kernel
theorem dX6_init_148 : decode cX6_init 148 = .ok (.aload_n 0, 1) := by decide +kernel
theorem dX6_init_149 : decode cX6_init 149 = .ok (.new 58, 3) := by decide +kernel
theorem dX6_init_152 : decode cX6_init 152 = .ok (.dup, 1) := by decide +kernel
theorem dX6_init_153 : decode cX6_init 153 = .ok (.invokespecial 60, 3) := by decide +kernel
theorem dX6_init_156 : decode cX6_init 156 = .ok (.putfield 61, 3) := by decide +kernel
theorem dX6_init_159 : decode cX6_init 159 = .ok (.iconst 0, 1) := by decide +kernel
theorem dX6_init_160 : decode cX6_init 160 = .ok (.istore_n 1, 1) := by decide +kernel
theorem dX6_init_161 : decode cX6_init 161 = .ok (.iload_n 1, 1) := by decide +kernel
theorem dX6_init_162 : decode cX6_init 162 = .ok (.ldc 65, 2) := by decide +kernel
theorem dX6_init_164 : decode cX6_init 164 = .ok (.invokevirtual 67, 3) := by decide +kernel
theorem dX6_init_167 : decode cX6_init 167 = .ok (.if_icmp .ge 23, 3) := by decide +kernel
theorem dX6_init_170 : decode cX6_init 170 = .ok (.aload_n 0, 1) := by decide +kernel
theorem dX6_init_171 : decode cX6_init 171 = .ok (.getfield 10, 3) := by decide +kernel
theorem dX6_init_174 : decode cX6_init 174 = .ok (.ldc 65, 2) := by decide +kernel
theorem dX6_init_176 : decode cX6_init 176 = .ok (.iload_n 1, 1) := by decide +kernel
theorem dX6_init_177 : decode cX6_init 177 = .ok (.invokevirtual 73, 3) := by decide +kernel
theorem dX6_init_180 : decode cX6_init 180 = .ok (.invokevirtual 77, 3) := by decide +kernel
theorem dX6_init_183 : decode cX6_init 183 = .ok (.pop, 1) := by decide +kernel
theorem dX6_init_184 : decode cX6_init 184 = .ok (.iinc 1 1, 3) := by decide +kernel
theorem dX6_init_187 : decode cX6_init 187 = .ok (.goto (-26), 3) := by decide +kernel
theorem dX6_init_190 : decode cX6_init 190 = .ok (.aload_n 0, 1) := by decide +kernel
theorem dX6_init_191 : decode cX6_init 191 = .ok (.invokevirtual 81, 3) := by decide +kernel
theorem dX6_init_194 : decode cX6_init 194 = .ok (.aload_n 0, 1) := by decide +kernel
theorem dX6_init_195 : decode cX6_init 195 = .ok (.getfield 10, 3) := by decide +kernel
theorem dX6_init_198 : decode cX6_init 198 = .ok (.iconst 0, 1) := by decide +kernel
theorem dX6_init_199 : decode cX6_init 199 = .ok (.putfield 84, 3) := by decide +kernel
theorem dX6_init_202 : decode cX6_init 202 = .ok (.return_, 1) := by decide +kernel
theorem dX6_write_0 : decode cX6_write 0 = .ok (.iload_n 1, 1) := by decide +kernel
theorem dX6_write_1 : decode cX6_write 1 = .ok (.bipush 32, 2) := by decide +kernel
theorem dX6_write_3 : decode cX6_write 3 = .ok (.if_icmp .lt 9, 3) := by decide +kernel
theorem dX6_write_6 : decode cX6_write 6 = .ok (.iload_n 1, 1) := by decide +kernel
theorem dX6_write_7 : decode cX6_write 7 = .ok (.bipush 126, 2) := by decide +kernel
theorem dX6_write_9 : decode cX6_write 9 = .ok (.if_icmp .le 5, 3) := by decide +kernel
theorem dX6_write_12 : decode cX6_write 12 = .ok (.iconst (-1), 1) := by decide +kernel
theorem dX6_write_13 : decode cX6_write 13 = .ok (.ireturn, 1) := by decide +kernel
theorem dX6_write_14 : decode cX6_write 14 = .ok (.aload_n 0, 1) := by decide +kernel
theorem dX6_write_15 : decode cX6_write 15 = .ok (.getfield 10, 3) := by decide +kernel
theorem dX6_write_18 : decode cX6_write 18 = .ok (.iload_n 1, 1) := by decide +kernel
theorem dX6_write_19 : decode cX6_write 19 = .ok (.invokevirtual 77, 3) := by decide +kernel
theorem dX6_write_22 : decode cX6_write 22 = .ok (.ifCond .eq 13, 3) := by decide +kernel
theorem dX6_write_25 : decode cX6_write 25 = .ok (.aload_n 0, 1) := by decide +kernel
theorem dX6_write_26 : decode cX6_write 26 = .ok (.getfield 10, 3) := by decide +kernel
theorem dX6_write_29 : decode cX6_write 29 = .ok (.getfield 84, 3) := by decide +kernel
theorem dX6_write_32 : decode cX6_write 32 = .ok (.goto 5, 3) := by decide +kernel
theorem dX6_write_35 : decode cX6_write 35 = .ok (.bipush (-3), 2) := by decide +kernel
theorem dX6_write_37 : decode cX6_write 37 = .ok (.ireturn, 1) := by decide +kernel
theorem dX6_wipe_0 : decode cX6_wipe 0 = .ok (.aload_n 0, 1) := by decide +kernel
theorem dX6_wipe_1 : decode cX6_wipe 1 = .ok (.getfield 10, 3) := by decide +kernel
theorem dX6_wipe_4 : decode cX6_wipe 4 = .ok (.getfield 84, 3) := by decide +kernel
theorem dX6_wipe_7 : decode cX6_wipe 7 = .ok (.istore_n 1, 1) := by decide +kernel
theorem dX6_wipe_8 : decode cX6_wipe 8 = .ok (.aload_n 0, 1) := by decide +kernel
theorem dX6_wipe_9 : decode cX6_wipe 9 = .ok (.getfield 10, 3) := by decide +kernel
theorem dX6_wipe_12 : decode cX6_wipe 12 = .ok (.iconst 0, 1) := by decide +kernel
theorem dX6_wipe_13 : decode cX6_wipe 13 = .ok (.putfield 84, 3) := by decide +kernel
theorem dX6_wipe_16 : decode cX6_wipe 16 = .ok (.iload_n 1, 1) := by decide +kernel
theorem dX6_wipe_17 : decode cX6_wipe 17 = .ok (.ireturn, 1) := by decide +kernel
theorem dX6_fault_0 : decode cX6_fault 0 = .ok (.aload_n 0, 1) := by decide +kernel
theorem dX6_fault_1 : decode cX6_fault 1 = .ok (.getfield 10, 3) := by decide +kernel
theorem dX6_fault_4 : decode cX6_fault 4 = .ok (.invokevirtual 87, 3) := by decide +kernel
theorem dX6_fault_7 : decode cX6_fault 7 = .ok (.ireturn, 1) := by decide +kernel
theorem dX6_lay_0 : decode cX6_lay 0 = .ok (.aload_n 0, 1) := by decide +kernel
theorem dX6_lay_1 : decode cX6_lay 1 = .ok (.getfield 10, 3) := by decide +kernel
theorem dX6_lay_4 : decode cX6_lay 4 = .ok (.getfield 84, 3) := by decide +kernel
theorem dX6_lay_7 : decode cX6_lay 7 = .ok (.ifCond .eq 15, 3) := by decide +kernel
theorem dX6_lay_10 : decode cX6_lay 10 = .ok (.aload_n 0, 1) := by decide +kernel
theorem dX6_lay_11 : decode cX6_lay 11 = .ok (.getfield 10, 3) := by decide +kernel
theorem dX6_lay_14 : decode cX6_lay 14 = .ok (.invokevirtual 87, 3) := by decide +kernel
theorem dX6_lay_17 : decode cX6_lay 17 = .ok (.bipush (-4), 2) := by decide +kernel
theorem dX6_lay_19 : decode cX6_lay 19 = .ok (.if_icmp .eq 6, 3) := by decide +kernel
theorem dX6_lay_22 : decode cX6_lay 22 = .ok (.bipush (-2), 2) := by decide +kernel
theorem dX6_lay_24 : decode cX6_lay 24 = .ok (.ireturn, 1) := by decide +kernel
theorem dX6_lay_25 : decode cX6_lay 25 = .ok (.aload_n 0, 1) := by decide +kernel
theorem dX6_lay_26 : decode cX6_lay 26 = .ok (.invokevirtual 81, 3) := by decide +kernel
theorem dX6_lay_29 : decode cX6_lay 29 = .ok (.aload_n 0, 1) := by decide +kernel
theorem dX6_lay_30 : decode cX6_lay 30 = .ok (.getfield 19, 3) := by decide +kernel
theorem dX6_lay_33 : decode cX6_lay 33 = .ok (.getfield 90, 3) := by decide +kernel
theorem dX6_lay_36 : decode cX6_lay 36 = .ok (.ireturn, 1) := by decide +kernel
theorem dX6_level_0 : decode cX6_level 0 = .ok (.aload_n 0, 1) := by decide +kernel
theorem dX6_level_1 : decode cX6_level 1 = .ok (.iload_n 1, 1) := by decide +kernel
theorem dX6_level_2 : decode cX6_level 2 = .ok (.invokevirtual 93, 3) := by decide +kernel
theorem dX6_level_5 : decode cX6_level 5 = .ok (.ifCond .ne 5, 3) := by decide +kernel
theorem dX6_level_8 : decode cX6_level 8 = .ok (.iconst (-1), 1) := by decide +kernel
theorem dX6_level_9 : decode cX6_level 9 = .ok (.ireturn, 1) := by decide +kernel
theorem dX6_level_10 : decode cX6_level 10 = .ok (.iload_n 2, 1) := by decide +kernel
theorem dX6_level_11 : decode cX6_level 11 = .ok (.tableswitch 81 0 4 #[33, 43, 52, 58, 64], 33) := by decide +kernel
theorem dX6_level_44 : decode cX6_level 44 = .ok (.aload_n 0, 1) := by decide +kernel
theorem dX6_level_45 : decode cX6_level 45 = .ok (.getfield 19, 3) := by decide +kernel
theorem dX6_level_48 : decode cX6_level 48 = .ok (.getfield 96, 3) := by decide +kernel
theorem dX6_level_51 : decode cX6_level 51 = .ok (.iload_n 1, 1) := by decide +kernel
theorem dX6_level_52 : decode cX6_level 52 = .ok (.iaload, 1) := by decide +kernel
theorem dX6_level_53 : decode cX6_level 53 = .ok (.ireturn, 1) := by decide +kernel
theorem dX6_level_54 : decode cX6_level 54 = .ok (.aload_n 0, 1) := by decide +kernel
theorem dX6_level_55 : decode cX6_level 55 = .ok (.getfield 33, 3) := by decide +kernel
theorem dX6_level_58 : decode cX6_level 58 = .ok (.iload_n 1, 1) := by decide +kernel
theorem dX6_level_59 : decode cX6_level 59 = .ok (.invokevirtual 99, 3) := by decide +kernel
theorem dX6_level_62 : decode cX6_level 62 = .ok (.ireturn, 1) := by decide +kernel
theorem dX6_level_63 : decode cX6_level 63 = .ok (.aload_n 0, 1) := by decide +kernel
theorem dX6_level_64 : decode cX6_level 64 = .ok (.iload_n 1, 1) := by decide +kernel
theorem dX6_level_65 : decode cX6_level 65 = .ok (.invokevirtual 103, 3) := by decide +kernel
theorem dX6_level_68 : decode cX6_level 68 = .ok (.ireturn, 1) := by decide +kernel
theorem dX6_level_69 : decode cX6_level 69 = .ok (.aload_n 0, 1) := by decide +kernel
theorem dX6_level_70 : decode cX6_level 70 = .ok (.iload_n 1, 1) := by decide +kernel
theorem dX6_level_71 : decode cX6_level 71 = .ok (.invokevirtual 106, 3) := by decide +kernel
theorem dX6_level_74 : decode cX6_level 74 = .ok (.ireturn, 1) := by decide +kernel
theorem dX6_level_75 : decode cX6_level 75 = .ok (.aload_n 0, 1) := by decide +kernel
theorem dX6_level_76 : decode cX6_level 76 = .ok (.getfield 19, 3) := by decide +kernel
theorem dX6_level_79 : decode cX6_level 79 = .ok (.iload_n 1, 1) := by decide +kernel
theorem dX6_level_80 : decode cX6_level 80 = .ok (.invokevirtual 109, 3) := by decide +kernel
theorem dX6_level_83 : decode cX6_level 83 = .ok (.ifCond .eq 7, 3) := by decide +kernel
theorem dX6_level_86 : decode cX6_level 86 = .ok (.iconst 1, 1) := by decide +kernel
theorem dX6_level_87 : decode cX6_level 87 = .ok (.goto 4, 3) := by decide +kernel
theorem dX6_level_90 : decode cX6_level 90 = .ok (.iconst 0, 1) := by decide +kernel
theorem dX6_level_91 : decode cX6_level 91 = .ok (.ireturn, 1) := by decide +kernel
theorem dX6_level_92 : decode cX6_level 92 = .ok (.iconst (-1), 1) := by decide +kernel
theorem dX6_level_93 : decode cX6_level 93 = .ok (.ireturn, 1) := by decide +kernel
theorem dX6_bound_0 : decode cX6_bound 0 = .ok (.aload_n 0, 1) := by decide +kernel
theorem dX6_bound_1 : decode cX6_bound 1 = .ok (.iload_n 1, 1) := by decide +kernel
theorem dX6_bound_2 : decode cX6_bound 2 = .ok (.invokevirtual 112, 3) := by decide +kernel
theorem dX6_bound_5 : decode cX6_bound 5 = .ok (.ifCond .ne 5, 3) := by decide +kernel
theorem dX6_bound_8 : decode cX6_bound 8 = .ok (.iconst (-1), 1) := by decide +kernel
theorem dX6_bound_9 : decode cX6_bound 9 = .ok (.ireturn, 1) := by decide +kernel
theorem dX6_bound_10 : decode cX6_bound 10 = .ok (.iload_n 2, 1) := by decide +kernel
theorem dX6_bound_11 : decode cX6_bound 11 = .ok (.tableswitch 86 0 4 #[33, 43, 53, 66, 80], 33) := by decide +kernel
theorem dX6_bound_44 : decode cX6_bound 44 = .ok (.aload_n 0, 1) := by decide +kernel
theorem dX6_bound_45 : decode cX6_bound 45 = .ok (.getfield 19, 3) := by decide +kernel
theorem dX6_bound_48 : decode cX6_bound 48 = .ok (.getfield 115, 3) := by decide +kernel
theorem dX6_bound_51 : decode cX6_bound 51 = .ok (.iload_n 1, 1) := by decide +kernel
theorem dX6_bound_52 : decode cX6_bound 52 = .ok (.iaload, 1) := by decide +kernel
theorem dX6_bound_53 : decode cX6_bound 53 = .ok (.ireturn, 1) := by decide +kernel
theorem dX6_bound_54 : decode cX6_bound 54 = .ok (.aload_n 0, 1) := by decide +kernel
theorem dX6_bound_55 : decode cX6_bound 55 = .ok (.getfield 19, 3) := by decide +kernel
theorem dX6_bound_58 : decode cX6_bound 58 = .ok (.getfield 118, 3) := by decide +kernel
theorem dX6_bound_61 : decode cX6_bound 61 = .ok (.iload_n 1, 1) := by decide +kernel
theorem dX6_bound_62 : decode cX6_bound 62 = .ok (.iaload, 1) := by decide +kernel
theorem dX6_bound_63 : decode cX6_bound 63 = .ok (.ireturn, 1) := by decide +kernel
theorem dX6_bound_64 : decode cX6_bound 64 = .ok (.aload_n 0, 1) := by decide +kernel
theorem dX6_bound_65 : decode cX6_bound 65 = .ok (.getfield 19, 3) := by decide +kernel
theorem dX6_bound_68 : decode cX6_bound 68 = .ok (.getfield 121, 3) := by decide +kernel
theorem dX6_bound_71 : decode cX6_bound 71 = .ok (.iload_n 1, 1) := by decide +kernel
theorem dX6_bound_72 : decode cX6_bound 72 = .ok (.iaload, 1) := by decide +kernel
theorem dX6_bound_73 : decode cX6_bound 73 = .ok (.bipush 100, 2) := by decide +kernel
theorem dX6_bound_75 : decode cX6_bound 75 = .ok (.iadd, 1) := by decide +kernel
theorem dX6_bound_76 : decode cX6_bound 76 = .ok (.ireturn, 1) := by decide +kernel
theorem dX6_bound_77 : decode cX6_bound 77 = .ok (.aload_n 0, 1) := by decide +kernel
theorem dX6_bound_78 : decode cX6_bound 78 = .ok (.iload_n 1, 1) := by decide +kernel
theorem dX6_bound_79 : decode cX6_bound 79 = .ok (.invokevirtual 124, 3) := by decide +kernel
theorem dX6_bound_82 : decode cX6_bound 82 = .ok (.ifCond .eq 7, 3) := by decide +kernel
theorem dX6_bound_85 : decode cX6_bound 85 = .ok (.iconst 1, 1) := by decide +kernel
theorem dX6_bound_86 : decode cX6_bound 86 = .ok (.goto 4, 3) := by decide +kernel
theorem dX6_bound_89 : decode cX6_bound 89 = .ok (.iconst 0, 1) := by decide +kernel
theorem dX6_bound_90 : decode cX6_bound 90 = .ok (.ireturn, 1) := by decide +kernel
theorem dX6_bound_91 : decode cX6_bound 91 = .ok (.aload_n 0, 1) := by decide +kernel
theorem dX6_bound_92 : decode cX6_bound 92 = .ok (.iload_n 1, 1) := by decide +kernel
theorem dX6_bound_93 : decode cX6_bound 93 = .ok (.invokevirtual 127, 3) := by decide +kernel
theorem dX6_bound_96 : decode cX6_bound 96 = .ok (.ireturn, 1) := by decide +kernel
theorem dX6_bound_97 : decode cX6_bound 97 = .ok (.iconst (-1), 1) := by decide +kernel
theorem dX6_bound_98 : decode cX6_bound 98 = .ok (.ireturn, 1) := by decide +kernel
theorem dX6_reach_0 : decode cX6_reach 0 = .ok (.aload_n 0, 1) := by decide +kernel
theorem dX6_reach_1 : decode cX6_reach 1 = .ok (.iload_n 1, 1) := by decide +kernel
theorem dX6_reach_2 : decode cX6_reach 2 = .ok (.invokevirtual 93, 3) := by decide +kernel
theorem dX6_reach_5 : decode cX6_reach 5 = .ok (.ifCond .eq 11, 3) := by decide +kernel
theorem dX6_reach_8 : decode cX6_reach 8 = .ok (.aload_n 0, 1) := by decide +kernel
theorem dX6_reach_9 : decode cX6_reach 9 = .ok (.iload_n 2, 1) := by decide +kernel
theorem dX6_reach_10 : decode cX6_reach 10 = .ok (.invokevirtual 93, 3) := by decide +kernel
theorem dX6_reach_13 : decode cX6_reach 13 = .ok (.ifCond .ne 5, 3) := by decide +kernel
theorem dX6_reach_16 : decode cX6_reach 16 = .ok (.iconst (-1), 1) := by decide +kernel
theorem dX6_reach_17 : decode cX6_reach 17 = .ok (.ireturn, 1) := by decide +kernel
theorem dX6_reach_18 : decode cX6_reach 18 = .ok (.aload_n 0, 1) := by decide +kernel
theorem dX6_reach_19 : decode cX6_reach 19 = .ok (.getfield 33, 3) := by decide +kernel
theorem dX6_reach_22 : decode cX6_reach 22 = .ok (.iload_n 1, 1) := by decide +kernel
theorem dX6_reach_23 : decode cX6_reach 23 = .ok (.iload_n 2, 1) := by decide +kernel
theorem dX6_reach_24 : decode cX6_reach 24 = .ok (.invokevirtual 130, 3) := by decide +kernel
theorem dX6_reach_27 : decode cX6_reach 27 = .ok (.ifCond .eq 21, 3) := by decide +kernel
theorem dX6_reach_30 : decode cX6_reach 30 = .ok (.aload_n 0, 1) := by decide +kernel
theorem dX6_reach_31 : decode cX6_reach 31 = .ok (.getfield 33, 3) := by decide +kernel
theorem dX6_reach_34 : decode cX6_reach 34 = .ok (.getfield 134, 3) := by decide +kernel
theorem dX6_reach_37 : decode cX6_reach 37 = .ok (.iload_n 1, 1) := by decide +kernel
theorem dX6_reach_38 : decode cX6_reach 38 = .ok (.aaload, 1) := by decide +kernel
theorem dX6_reach_39 : decode cX6_reach 39 = .ok (.iload_n 2, 1) := by decide +kernel
theorem dX6_reach_40 : decode cX6_reach 40 = .ok (.iaload, 1) := by decide +kernel
theorem dX6_reach_41 : decode cX6_reach 41 = .ok (.sipush 1000, 3) := by decide +kernel
theorem dX6_reach_44 : decode cX6_reach 44 = .ok (.iadd, 1) := by decide +kernel
theorem dX6_reach_45 : decode cX6_reach 45 = .ok (.goto 5, 3) := by decide +kernel
theorem dX6_reach_48 : decode cX6_reach 48 = .ok (.bipush (-4), 2) := by decide +kernel
theorem dX6_reach_50 : decode cX6_reach 50 = .ok (.ireturn, 1) := by decide +kernel
theorem dX6_ask_0 : decode cX6_ask 0 = .ok (.aload_n 0, 1) := by decide +kernel
theorem dX6_ask_1 : decode cX6_ask 1 = .ok (.iload_n 1, 1) := by decide +kernel
theorem dX6_ask_2 : decode cX6_ask 2 = .ok (.iload_n 3, 1) := by decide +kernel
theorem dX6_ask_3 : decode cX6_ask 3 = .ok (.invokevirtual 138, 3) := by decide +kernel
theorem dX6_ask_6 : decode cX6_ask 6 = .ok (.ifCond .eq 10, 3) := by decide +kernel
theorem dX6_ask_9 : decode cX6_ask 9 = .ok (.iload_n 2, 1) := by decide +kernel
theorem dX6_ask_10 : decode cX6_ask 10 = .ok (.invokestatic 141, 3) := by decide +kernel
theorem dX6_ask_13 : decode cX6_ask 13 = .ok (.ifCond .ne 5, 3) := by decide +kernel
theorem dX6_ask_16 : decode cX6_ask 16 = .ok (.iconst (-1), 1) := by decide +kernel
theorem dX6_ask_17 : decode cX6_ask 17 = .ok (.ireturn, 1) := by decide +kernel
theorem dX6_ask_18 : decode cX6_ask 18 = .ok (.aload_n 0, 1) := by decide +kernel
theorem dX6_ask_19 : decode cX6_ask 19 = .ok (.iload_n 1, 1) := by decide +kernel
theorem dX6_ask_20 : decode cX6_ask 20 = .ok (.iload_n 2, 1) := by decide +kernel
theorem dX6_ask_21 : decode cX6_ask 21 = .ok (.iload_n 3, 1) := by decide +kernel
theorem dX6_ask_22 : decode cX6_ask 22 = .ok (.invokevirtual 144, 3) := by decide +kernel
theorem dX6_ask_25 : decode cX6_ask 25 = .ok (.ireturn, 1) := by decide +kernel
theorem dX6_retract_0 : decode cX6_retract 0 = .ok (.aload_n 0, 1) := by decide +kernel
theorem dX6_retract_1 : decode cX6_retract 1 = .ok (.iload_n 1, 1) := by decide +kernel
theorem dX6_retract_2 : decode cX6_retract 2 = .ok (.invokevirtual 112, 3) := by decide +kernel
theorem dX6_retract_5 : decode cX6_retract 5 = .ok (.ifCond .ne 5, 3) := by decide +kernel
theorem dX6_retract_8 : decode cX6_retract 8 = .ok (.iconst (-1), 1) := by decide +kernel
theorem dX6_retract_9 : decode cX6_retract 9 = .ok (.ireturn, 1) := by decide +kernel
theorem dX6_retract_10 : decode cX6_retract 10 = .ok (.aload_n 0, 1) := by decide +kernel
theorem dX6_retract_11 : decode cX6_retract 11 = .ok (.invokevirtual 148, 3) := by decide +kernel
theorem dX6_retract_14 : decode cX6_retract 14 = .ok (.aload_n 0, 1) := by decide +kernel
theorem dX6_retract_15 : decode cX6_retract 15 = .ok (.getfield 19, 3) := by decide +kernel
theorem dX6_retract_18 : decode cX6_retract 18 = .ok (.iload_n 1, 1) := by decide +kernel
theorem dX6_retract_19 : decode cX6_retract 19 = .ok (.invokevirtual 151, 3) := by decide +kernel
theorem dX6_retract_22 : decode cX6_retract 22 = .ok (.aload_n 0, 1) := by decide +kernel
theorem dX6_retract_23 : decode cX6_retract 23 = .ok (.getfield 33, 3) := by decide +kernel
theorem dX6_retract_26 : decode cX6_retract 26 = .ok (.aload_n 0, 1) := by decide +kernel
theorem dX6_retract_27 : decode cX6_retract 27 = .ok (.getfield 19, 3) := by decide +kernel
theorem dX6_retract_30 : decode cX6_retract 30 = .ok (.invokevirtual 155, 3) := by decide +kernel
theorem dX6_retract_33 : decode cX6_retract 33 = .ok (.aload_n 0, 1) := by decide +kernel
theorem dX6_retract_34 : decode cX6_retract 34 = .ok (.getfield 19, 3) := by decide +kernel
theorem dX6_retract_37 : decode cX6_retract 37 = .ok (.getfield 90, 3) := by decide +kernel
theorem dX6_retract_40 : decode cX6_retract 40 = .ok (.ireturn, 1) := by decide +kernel
theorem dX6_rename_0 : decode cX6_rename 0 = .ok (.aload_n 0, 1) := by decide +kernel
theorem dX6_rename_1 : decode cX6_rename 1 = .ok (.iload_n 1, 1) := by decide +kernel
theorem dX6_rename_2 : decode cX6_rename 2 = .ok (.invokevirtual 93, 3) := by decide +kernel
theorem dX6_rename_5 : decode cX6_rename 5 = .ok (.ifCond .eq 12, 3) := by decide +kernel
theorem dX6_rename_8 : decode cX6_rename 8 = .ok (.iload_n 2, 1) := by decide +kernel
theorem dX6_rename_9 : decode cX6_rename 9 = .ok (.ifCond .lt 8, 3) := by decide +kernel
theorem dX6_rename_12 : decode cX6_rename 12 = .ok (.iload_n 2, 1) := by decide +kernel
theorem dX6_rename_13 : decode cX6_rename 13 = .ok (.iconst 3, 1) := by decide +kernel
theorem dX6_rename_14 : decode cX6_rename 14 = .ok (.if_icmp .le 5, 3) := by decide +kernel
theorem dX6_rename_17 : decode cX6_rename 17 = .ok (.iconst (-1), 1) := by decide +kernel
theorem dX6_rename_18 : decode cX6_rename 18 = .ok (.ireturn, 1) := by decide +kernel
theorem dX6_rename_19 : decode cX6_rename 19 = .ok (.aload_n 0, 1) := by decide +kernel
theorem dX6_rename_20 : decode cX6_rename 20 = .ok (.getfield 19, 3) := by decide +kernel
theorem dX6_rename_23 : decode cX6_rename 23 = .ok (.getfield 96, 3) := by decide +kernel
theorem dX6_rename_26 : decode cX6_rename 26 = .ok (.iload_n 1, 1) := by decide +kernel
theorem dX6_rename_27 : decode cX6_rename 27 = .ok (.iaload, 1) := by decide +kernel
theorem dX6_rename_28 : decode cX6_rename 28 = .ok (.istore_n 3, 1) := by decide +kernel
theorem dX6_rename_29 : decode cX6_rename 29 = .ok (.iload_n 3, 1) := by decide +kernel
theorem dX6_rename_30 : decode cX6_rename 30 = .ok (.iload_n 2, 1) := by decide +kernel
theorem dX6_rename_31 : decode cX6_rename 31 = .ok (.if_icmp .ne 6, 3) := by decide +kernel
theorem dX6_rename_34 : decode cX6_rename 34 = .ok (.bipush (-2), 2) := by decide +kernel
theorem dX6_rename_36 : decode cX6_rename 36 = .ok (.ireturn, 1) := by decide +kernel
theorem dX6_rename_37 : decode cX6_rename 37 = .ok (.aload_n 0, 1) := by decide +kernel
theorem dX6_rename_38 : decode cX6_rename 38 = .ok (.invokevirtual 148, 3) := by decide +kernel
theorem dX6_rename_41 : decode cX6_rename 41 = .ok (.aload_n 0, 1) := by decide +kernel
theorem dX6_rename_42 : decode cX6_rename 42 = .ok (.getfield 19, 3) := by decide +kernel
theorem dX6_rename_45 : decode cX6_rename 45 = .ok (.getfield 96, 3) := by decide +kernel
theorem dX6_rename_48 : decode cX6_rename 48 = .ok (.iload_n 1, 1) := by decide +kernel
theorem dX6_rename_49 : decode cX6_rename 49 = .ok (.iload_n 2, 1) := by decide +kernel
theorem dX6_rename_50 : decode cX6_rename 50 = .ok (.iastore, 1) := by decide +kernel
theorem dX6_rename_51 : decode cX6_rename 51 = .ok (.iload_n 3, 1) := by decide +kernel
theorem dX6_rename_52 : decode cX6_rename 52 = .ok (.ireturn, 1) := by decide +kernel
theorem dX6_undo_0 : decode cX6_undo 0 = .ok (.aload_n 0, 1) := by decide +kernel
theorem dX6_undo_1 : decode cX6_undo 1 = .ok (.getfield 159, 3) := by decide +kernel
theorem dX6_undo_4 : decode cX6_undo 4 = .ok (.ifCond .gt 6, 3) := by decide +kernel
theorem dX6_undo_7 : decode cX6_undo 7 = .ok (.bipush (-2), 2) := by decide +kernel
theorem dX6_undo_9 : decode cX6_undo 9 = .ok (.ireturn, 1) := by decide +kernel
theorem dX6_undo_10 : decode cX6_undo 10 = .ok (.aload_n 0, 1) := by decide +kernel
theorem dX6_undo_11 : decode cX6_undo 11 = .ok (.dup, 1) := by decide +kernel
theorem dX6_undo_12 : decode cX6_undo 12 = .ok (.getfield 159, 3) := by decide +kernel
theorem dX6_undo_15 : decode cX6_undo 15 = .ok (.iconst 1, 1) := by decide +kernel
theorem dX6_undo_16 : decode cX6_undo 16 = .ok (.isub, 1) := by decide +kernel
theorem dX6_undo_17 : decode cX6_undo 17 = .ok (.putfield 159, 3) := by decide +kernel
theorem dX6_undo_20 : decode cX6_undo 20 = .ok (.aload_n 0, 1) := by decide +kernel
theorem dX6_undo_21 : decode cX6_undo 21 = .ok (.aload_n 0, 1) := by decide +kernel
theorem dX6_undo_22 : decode cX6_undo 22 = .ok (.getfield 23, 3) := by decide +kernel
theorem dX6_undo_25 : decode cX6_undo 25 = .ok (.aload_n 0, 1) := by decide +kernel
theorem dX6_undo_26 : decode cX6_undo 26 = .ok (.getfield 159, 3) := by decide +kernel
theorem dX6_undo_29 : decode cX6_undo 29 = .ok (.aaload, 1) := by decide +kernel
theorem dX6_undo_30 : decode cX6_undo 30 = .ok (.invokevirtual 162, 3) := by decide +kernel
theorem dX6_undo_33 : decode cX6_undo 33 = .ok (.aload_n 0, 1) := by decide +kernel
theorem dX6_undo_34 : decode cX6_undo 34 = .ok (.getfield 159, 3) := by decide +kernel
theorem dX6_undo_37 : decode cX6_undo 37 = .ok (.ireturn, 1) := by decide +kernel
theorem dX6_round_0 : decode cX6_round 0 = .ok (.iload_n 1, 1) := by decide +kernel
theorem dX6_round_1 : decode cX6_round 1 = .ok (.iconst (-1), 1) := by decide +kernel
theorem dX6_round_2 : decode cX6_round 2 = .ok (.if_icmp .lt 9, 3) := by decide +kernel
theorem dX6_round_5 : decode cX6_round 5 = .ok (.iload_n 1, 1) := by decide +kernel
theorem dX6_round_6 : decode cX6_round 6 = .ok (.bipush 10, 2) := by decide +kernel
theorem dX6_round_8 : decode cX6_round 8 = .ok (.if_icmp .le 5, 3) := by decide +kernel
theorem dX6_round_11 : decode cX6_round 11 = .ok (.iconst (-1), 1) := by decide +kernel
theorem dX6_round_12 : decode cX6_round 12 = .ok (.ireturn, 1) := by decide +kernel
theorem dX6_round_13 : decode cX6_round 13 = .ok (.aload_n 0, 1) := by decide +kernel
theorem dX6_round_14 : decode cX6_round 14 = .ok (.getfield 61, 3) := by decide +kernel
theorem dX6_round_17 : decode cX6_round 17 = .ok (.getfield 165, 3) := by decide +kernel
theorem dX6_round_20 : decode cX6_round 20 = .ok (.ifCond .ne 6, 3) := by decide +kernel
theorem dX6_round_23 : decode cX6_round 23 = .ok (.bipush (-4), 2) := by decide +kernel
theorem dX6_round_25 : decode cX6_round 25 = .ok (.ireturn, 1) := by decide +kernel
theorem dX6_round_26 : decode cX6_round 26 = .ok (.iload_n 1, 1) := by decide +kernel
theorem dX6_round_27 : decode cX6_round 27 = .ok (.iconst (-1), 1) := by decide +kernel
theorem dX6_round_28 : decode cX6_round 28 = .ok (.if_icmp .ne 11, 3) := by decide +kernel
theorem dX6_round_31 : decode cX6_round 31 = .ok (.aload_n 0, 1) := by decide +kernel
theorem dX6_round_32 : decode cX6_round 32 = .ok (.getfield 61, 3) := by decide +kernel
theorem dX6_round_35 : decode cX6_round 35 = .ok (.getfield 165, 3) := by decide +kernel
theorem dX6_round_38 : decode cX6_round 38 = .ok (.ireturn, 1) := by decide +kernel
theorem dX6_round_39 : decode cX6_round 39 = .ok (.iload_n 1, 1) := by decide +kernel
theorem dX6_round_40 : decode cX6_round 40 = .ok (.bipush 10, 2) := by decide +kernel
theorem dX6_round_42 : decode cX6_round 42 = .ok (.if_icmp .ne 11, 3) := by decide +kernel
theorem dX6_round_45 : decode cX6_round 45 = .ok (.aload_n 0, 1) := by decide +kernel
theorem dX6_round_46 : decode cX6_round 46 = .ok (.getfield 61, 3) := by decide +kernel
theorem dX6_round_49 : decode cX6_round 49 = .ok (.getfield 168, 3) := by decide +kernel
theorem dX6_round_52 : decode cX6_round 52 = .ok (.ireturn, 1) := by decide +kernel
theorem dX6_round_53 : decode cX6_round 53 = .ok (.iload_n 1, 1) := by decide +kernel
theorem dX6_round_54 : decode cX6_round 54 = .ok (.aload_n 0, 1) := by decide +kernel
theorem dX6_round_55 : decode cX6_round 55 = .ok (.getfield 61, 3) := by decide +kernel
theorem dX6_round_58 : decode cX6_round 58 = .ok (.getfield 165, 3) := by decide +kernel
theorem dX6_round_61 : decode cX6_round 61 = .ok (.if_icmp .ge 15, 3) := by decide +kernel
theorem dX6_round_64 : decode cX6_round 64 = .ok (.aload_n 0, 1) := by decide +kernel
theorem dX6_round_65 : decode cX6_round 65 = .ok (.getfield 61, 3) := by decide +kernel
theorem dX6_round_68 : decode cX6_round 68 = .ok (.getfield 171, 3) := by decide +kernel
theorem dX6_round_71 : decode cX6_round 71 = .ok (.iload_n 1, 1) := by decide +kernel
theorem dX6_round_72 : decode cX6_round 72 = .ok (.iaload, 1) := by decide +kernel
theorem dX6_round_73 : decode cX6_round 73 = .ok (.goto 5, 3) := by decide +kernel
theorem dX6_round_76 : decode cX6_round 76 = .ok (.bipush (-4), 2) := by decide +kernel
theorem dX6_round_78 : decode cX6_round 78 = .ok (.ireturn, 1) := by decide +kernel
theorem dX6_follows_0 : decode cX6_follows 0 = .ok (.aload_n 0, 1) := by decide +kernel
theorem dX6_follows_1 : decode cX6_follows 1 = .ok (.iload_n 1, 1) := by decide +kernel
theorem dX6_follows_2 : decode cX6_follows 2 = .ok (.invokevirtual 93, 3) := by decide +kernel
theorem dX6_follows_5 : decode cX6_follows 5 = .ok (.ifCond .eq 18, 3) := by decide +kernel
theorem dX6_follows_8 : decode cX6_follows 8 = .ok (.iload_n 2, 1) := by decide +kernel
theorem dX6_follows_9 : decode cX6_follows 9 = .ok (.invokestatic 141, 3) := by decide +kernel
theorem dX6_follows_12 : decode cX6_follows 12 = .ok (.ifCond .eq 11, 3) := by decide +kernel
theorem dX6_follows_15 : decode cX6_follows 15 = .ok (.aload_n 0, 1) := by decide +kernel
theorem dX6_follows_16 : decode cX6_follows 16 = .ok (.iload_n 3, 1) := by decide +kernel
theorem dX6_follows_17 : decode cX6_follows 17 = .ok (.invokevirtual 93, 3) := by decide +kernel
theorem dX6_follows_20 : decode cX6_follows 20 = .ok (.ifCond .ne 5, 3) := by decide +kernel
theorem dX6_follows_23 : decode cX6_follows 23 = .ok (.iconst (-1), 1) := by decide +kernel
theorem dX6_follows_24 : decode cX6_follows 24 = .ok (.ireturn, 1) := by decide +kernel
theorem dX6_follows_25 : decode cX6_follows 25 = .ok (.aload_n 0, 1) := by decide +kernel
theorem dX6_follows_26 : decode cX6_follows 26 = .ok (.getfield 33, 3) := by decide +kernel
theorem dX6_follows_29 : decode cX6_follows 29 = .ok (.iload_n 1, 1) := by decide +kernel
theorem dX6_follows_30 : decode cX6_follows 30 = .ok (.iload_n 2, 1) := by decide +kernel
theorem dX6_follows_31 : decode cX6_follows 31 = .ok (.iload_n 3, 1) := by decide +kernel
theorem dX6_follows_32 : decode cX6_follows 32 = .ok (.invokevirtual 174, 3) := by decide +kernel
theorem dX6_follows_35 : decode cX6_follows 35 = .ok (.ifCond .eq 7, 3) := by decide +kernel
theorem dX6_follows_38 : decode cX6_follows 38 = .ok (.iconst 1, 1) := by decide +kernel
theorem dX6_follows_39 : decode cX6_follows 39 = .ok (.goto 4, 3) := by decide +kernel
theorem dX6_follows_42 : decode cX6_follows 42 = .ok (.iconst 0, 1) := by decide +kernel
theorem dX6_follows_43 : decode cX6_follows 43 = .ok (.ireturn, 1) := by decide +kernel
theorem dX6_raised_0 : decode cX6_raised 0 = .ok (.aload_n 0, 1) := by decide +kernel
theorem dX6_raised_1 : decode cX6_raised 1 = .ok (.iload_n 1, 1) := by decide +kernel
theorem dX6_raised_2 : decode cX6_raised 2 = .ok (.invokevirtual 93, 3) := by decide +kernel
theorem dX6_raised_5 : decode cX6_raised 5 = .ok (.ifCond .eq 18, 3) := by decide +kernel
theorem dX6_raised_8 : decode cX6_raised 8 = .ok (.iload_n 2, 1) := by decide +kernel
theorem dX6_raised_9 : decode cX6_raised 9 = .ok (.invokestatic 178, 3) := by decide +kernel
theorem dX6_raised_12 : decode cX6_raised 12 = .ok (.ifCond .eq 11, 3) := by decide +kernel
theorem dX6_raised_15 : decode cX6_raised 15 = .ok (.aload_n 0, 1) := by decide +kernel
theorem dX6_raised_16 : decode cX6_raised 16 = .ok (.iload_n 3, 1) := by decide +kernel
theorem dX6_raised_17 : decode cX6_raised 17 = .ok (.invokevirtual 93, 3) := by decide +kernel
theorem dX6_raised_20 : decode cX6_raised 20 = .ok (.ifCond .ne 5, 3) := by decide +kernel
theorem dX6_raised_23 : decode cX6_raised 23 = .ok (.iconst (-1), 1) := by decide +kernel
theorem dX6_raised_24 : decode cX6_raised 24 = .ok (.ireturn, 1) := by decide +kernel
theorem dX6_raised_25 : decode cX6_raised 25 = .ok (.aload_n 0, 1) := by decide +kernel
theorem dX6_raised_26 : decode cX6_raised 26 = .ok (.getfield 33, 3) := by decide +kernel
theorem dX6_raised_29 : decode cX6_raised 29 = .ok (.iload_n 3, 1) := by decide +kernel
theorem dX6_raised_30 : decode cX6_raised 30 = .ok (.invokevirtual 99, 3) := by decide +kernel
theorem dX6_raised_33 : decode cX6_raised 33 = .ok (.istore 4, 2) := by decide +kernel
theorem dX6_raised_35 : decode cX6_raised 35 = .ok (.aload_n 0, 1) := by decide +kernel
theorem dX6_raised_36 : decode cX6_raised 36 = .ok (.getfield 33, 3) := by decide +kernel
theorem dX6_raised_39 : decode cX6_raised 39 = .ok (.iload_n 1, 1) := by decide +kernel
theorem dX6_raised_40 : decode cX6_raised 40 = .ok (.iload_n 3, 1) := by decide +kernel
theorem dX6_raised_41 : decode cX6_raised 41 = .ok (.invokevirtual 130, 3) := by decide +kernel
theorem dX6_raised_44 : decode cX6_raised 44 = .ok (.ifCond .eq 24, 3) := by decide +kernel
theorem dX6_raised_47 : decode cX6_raised 47 = .ok (.iload 4, 2) := by decide +kernel
theorem dX6_raised_49 : decode cX6_raised 49 = .ok (.iload_n 2, 1) := by decide +kernel
theorem dX6_raised_50 : decode cX6_raised 50 = .ok (.aload_n 0, 1) := by decide +kernel
theorem dX6_raised_51 : decode cX6_raised 51 = .ok (.getfield 33, 3) := by decide +kernel
theorem dX6_raised_54 : decode cX6_raised 54 = .ok (.getfield 134, 3) := by decide +kernel
theorem dX6_raised_57 : decode cX6_raised 57 = .ok (.iload_n 1, 1) := by decide +kernel
theorem dX6_raised_58 : decode cX6_raised 58 = .ok (.aaload, 1) := by decide +kernel
theorem dX6_raised_59 : decode cX6_raised 59 = .ok (.iload_n 3, 1) := by decide +kernel
theorem dX6_raised_60 : decode cX6_raised 60 = .ok (.iaload, 1) := by decide +kernel
theorem dX6_raised_61 : decode cX6_raised 61 = .ok (.iadd, 1) := by decide +kernel
theorem dX6_raised_62 : decode cX6_raised 62 = .ok (.invokestatic 181, 3) := by decide +kernel
theorem dX6_raised_65 : decode cX6_raised 65 = .ok (.goto 5, 3) := by decide +kernel
theorem dX6_raised_68 : decode cX6_raised 68 = .ok (.iload 4, 2) := by decide +kernel
theorem dX6_raised_70 : decode cX6_raised 70 = .ok (.ireturn, 1) := by decide +kernel
theorem dX6_top_0 : decode cX6_top 0 = .ok (.aload_n 0, 1) := by decide +kernel
theorem dX6_top_1 : decode cX6_top 1 = .ok (.iload_n 1, 1) := by decide +kernel
theorem dX6_top_2 : decode cX6_top 2 = .ok (.invokevirtual 93, 3) := by decide +kernel
theorem dX6_top_5 : decode cX6_top 5 = .ok (.ifCond .eq 18, 3) := by decide +kernel
theorem dX6_top_8 : decode cX6_top 8 = .ok (.iload_n 2, 1) := by decide +kernel
theorem dX6_top_9 : decode cX6_top 9 = .ok (.invokestatic 178, 3) := by decide +kernel
theorem dX6_top_12 : decode cX6_top 12 = .ok (.ifCond .eq 11, 3) := by decide +kernel
theorem dX6_top_15 : decode cX6_top 15 = .ok (.aload_n 0, 1) := by decide +kernel
theorem dX6_top_16 : decode cX6_top 16 = .ok (.iload_n 3, 1) := by decide +kernel
theorem dX6_top_17 : decode cX6_top 17 = .ok (.invokevirtual 93, 3) := by decide +kernel
theorem dX6_top_20 : decode cX6_top 20 = .ok (.ifCond .ne 5, 3) := by decide +kernel
theorem dX6_top_23 : decode cX6_top 23 = .ok (.iconst (-1), 1) := by decide +kernel
theorem dX6_top_24 : decode cX6_top 24 = .ok (.ireturn, 1) := by decide +kernel
theorem dX6_top_25 : decode cX6_top 25 = .ok (.aload_n 0, 1) := by decide +kernel
theorem dX6_top_26 : decode cX6_top 26 = .ok (.getfield 33, 3) := by decide +kernel
theorem dX6_top_29 : decode cX6_top 29 = .ok (.iload_n 3, 1) := by decide +kernel
theorem dX6_top_30 : decode cX6_top 30 = .ok (.iload_n 1, 1) := by decide +kernel
theorem dX6_top_31 : decode cX6_top 31 = .ok (.invokevirtual 130, 3) := by decide +kernel
theorem dX6_top_34 : decode cX6_top 34 = .ok (.ifCond .eq 15, 3) := by decide +kernel
theorem dX6_top_37 : decode cX6_top 37 = .ok (.aload_n 0, 1) := by decide +kernel
theorem dX6_top_38 : decode cX6_top 38 = .ok (.getfield 33, 3) := by decide +kernel
theorem dX6_top_41 : decode cX6_top 41 = .ok (.iload_n 1, 1) := by decide +kernel
theorem dX6_top_42 : decode cX6_top 42 = .ok (.invokevirtual 99, 3) := by decide +kernel
theorem dX6_top_45 : decode cX6_top 45 = .ok (.iload_n 2, 1) := by decide +kernel
theorem dX6_top_46 : decode cX6_top 46 = .ok (.if_icmp .le 6, 3) := by decide +kernel
theorem dX6_top_49 : decode cX6_top 49 = .ok (.bipush (-4), 2) := by decide +kernel
theorem dX6_top_51 : decode cX6_top 51 = .ok (.ireturn, 1) := by decide +kernel
theorem dX6_top_52 : decode cX6_top 52 = .ok (.iload_n 2, 1) := by decide +kernel
theorem dX6_top_53 : decode cX6_top 53 = .ok (.aload_n 0, 1) := by decide +kernel
theorem dX6_top_54 : decode cX6_top 54 = .ok (.getfield 33, 3) := by decide +kernel
theorem dX6_top_57 : decode cX6_top 57 = .ok (.getfield 134, 3) := by decide +kernel
theorem dX6_top_60 : decode cX6_top 60 = .ok (.iload_n 3, 1) := by decide +kernel
theorem dX6_top_61 : decode cX6_top 61 = .ok (.aaload, 1) := by decide +kernel
theorem dX6_top_62 : decode cX6_top 62 = .ok (.iload_n 1, 1) := by decide +kernel
theorem dX6_top_63 : decode cX6_top 63 = .ok (.iaload, 1) := by decide +kernel
theorem dX6_top_64 : decode cX6_top 64 = .ok (.isub, 1) := by decide +kernel
theorem dX6_top_65 : decode cX6_top 65 = .ok (.sipush 1000, 3) := by decide +kernel
theorem dX6_top_68 : decode cX6_top 68 = .ok (.iadd, 1) := by decide +kernel
theorem dX6_top_69 : decode cX6_top 69 = .ok (.ireturn, 1) := by decide +kernel
theorem dX6_stands_0 : decode cX6_stands 0 = .ok (.aload_n 0, 1) := by decide +kernel
theorem dX6_stands_1 : decode cX6_stands 1 = .ok (.iload_n 1, 1) := by decide +kernel
theorem dX6_stands_2 : decode cX6_stands 2 = .ok (.iload_n 3, 1) := by decide +kernel
theorem dX6_stands_3 : decode cX6_stands 3 = .ok (.invokevirtual 138, 3) := by decide +kernel
theorem dX6_stands_6 : decode cX6_stands 6 = .ok (.ifCond .eq 22, 3) := by decide +kernel
theorem dX6_stands_9 : decode cX6_stands 9 = .ok (.iload_n 2, 1) := by decide +kernel
theorem dX6_stands_10 : decode cX6_stands 10 = .ok (.invokestatic 141, 3) := by decide +kernel
theorem dX6_stands_13 : decode cX6_stands 13 = .ok (.ifCond .eq 15, 3) := by decide +kernel
theorem dX6_stands_16 : decode cX6_stands 16 = .ok (.iload 4, 2) := by decide +kernel
theorem dX6_stands_18 : decode cX6_stands 18 = .ok (.iconst (-1), 1) := by decide +kernel
theorem dX6_stands_19 : decode cX6_stands 19 = .ok (.if_icmp .lt 9, 3) := by decide +kernel
theorem dX6_stands_22 : decode cX6_stands 22 = .ok (.iload 4, 2) := by decide +kernel
theorem dX6_stands_24 : decode cX6_stands 24 = .ok (.iconst 3, 1) := by decide +kernel
theorem dX6_stands_25 : decode cX6_stands 25 = .ok (.if_icmp .lt 5, 3) := by decide +kernel
theorem dX6_stands_28 : decode cX6_stands 28 = .ok (.iconst (-1), 1) := by decide +kernel
theorem dX6_stands_29 : decode cX6_stands 29 = .ok (.ireturn, 1) := by decide +kernel
theorem dX6_stands_30 : decode cX6_stands 30 = .ok (.aload_n 0, 1) := by decide +kernel
theorem dX6_stands_31 : decode cX6_stands 31 = .ok (.getfield 44, 3) := by decide +kernel
theorem dX6_stands_34 : decode cX6_stands 34 = .ok (.aload_n 0, 1) := by decide +kernel
theorem dX6_stands_35 : decode cX6_stands 35 = .ok (.getfield 19, 3) := by decide +kernel
theorem dX6_stands_38 : decode cX6_stands 38 = .ok (.aload_n 0, 1) := by decide +kernel
theorem dX6_stands_39 : decode cX6_stands 39 = .ok (.getfield 33, 3) := by decide +kernel
theorem dX6_stands_42 : decode cX6_stands 42 = .ok (.iload_n 1, 1) := by decide +kernel
theorem dX6_stands_43 : decode cX6_stands 43 = .ok (.aload_n 0, 1) := by decide +kernel
theorem dX6_stands_44 : decode cX6_stands 44 = .ok (.getfield 19, 3) := by decide +kernel
theorem dX6_stands_47 : decode cX6_stands 47 = .ok (.iload_n 3, 1) := by decide +kernel
theorem dX6_stands_48 : decode cX6_stands 48 = .ok (.iload_n 2, 1) := by decide +kernel
theorem dX6_stands_49 : decode cX6_stands 49 = .ok (.invokevirtual 186, 3) := by decide +kernel
theorem dX6_stands_52 : decode cX6_stands 52 = .ok (.iload_n 3, 1) := by decide +kernel
theorem dX6_stands_53 : decode cX6_stands 53 = .ok (.invokevirtual 189, 3) := by decide +kernel
theorem dX6_stands_56 : decode cX6_stands 56 = .ok (.istore 5, 2) := by decide +kernel
theorem dX6_stands_58 : decode cX6_stands 58 = .ok (.iload 4, 2) := by decide +kernel
theorem dX6_stands_60 : decode cX6_stands 60 = .ok (.iconst (-1), 1) := by decide +kernel
theorem dX6_stands_61 : decode cX6_stands 61 = .ok (.if_icmp .eq 10, 3) := by decide +kernel
theorem dX6_stands_64 : decode cX6_stands 64 = .ok (.iload 5, 2) := by decide +kernel
theorem dX6_stands_66 : decode cX6_stands 66 = .ok (.bipush (-4), 2) := by decide +kernel
theorem dX6_stands_68 : decode cX6_stands 68 = .ok (.if_icmp .ne 6, 3) := by decide +kernel
theorem dX6_stands_71 : decode cX6_stands 71 = .ok (.iload 5, 2) := by decide +kernel
theorem dX6_stands_73 : decode cX6_stands 73 = .ok (.ireturn, 1) := by decide +kernel
theorem dX6_stands_74 : decode cX6_stands 74 = .ok (.iload 4, 2) := by decide +kernel
theorem dX6_stands_76 : decode cX6_stands 76 = .ok (.iload 5, 2) := by decide +kernel
theorem dX6_stands_78 : decode cX6_stands 78 = .ok (.if_icmp .ge 15, 3) := by decide +kernel
theorem dX6_stands_81 : decode cX6_stands 81 = .ok (.aload_n 0, 1) := by decide +kernel
theorem dX6_stands_82 : decode cX6_stands 82 = .ok (.getfield 44, 3) := by decide +kernel
theorem dX6_stands_85 : decode cX6_stands 85 = .ok (.iload 4, 2) := by decide +kernel
theorem dX6_stands_87 : decode cX6_stands 87 = .ok (.invokevirtual 193, 3) := by decide +kernel
theorem dX6_stands_90 : decode cX6_stands 90 = .ok (.goto 5, 3) := by decide +kernel
theorem dX6_stands_93 : decode cX6_stands 93 = .ok (.bipush (-4), 2) := by decide +kernel
theorem dX6_stands_95 : decode cX6_stands 95 = .ok (.ireturn, 1) := by decide +kernel
theorem dX6_term_0 : decode cX6_term 0 = .ok (.aload_n 0, 1) := by decide +kernel
theorem dX6_term_1 : decode cX6_term 1 = .ok (.iload_n 1, 1) := by decide +kernel
theorem dX6_term_2 : decode cX6_term 2 = .ok (.invokevirtual 93, 3) := by decide +kernel
theorem dX6_term_5 : decode cX6_term 5 = .ok (.ifCond .eq 10, 3) := by decide +kernel
theorem dX6_term_8 : decode cX6_term 8 = .ok (.iload_n 2, 1) := by decide +kernel
theorem dX6_term_9 : decode cX6_term 9 = .ok (.invokestatic 141, 3) := by decide +kernel
theorem dX6_term_12 : decode cX6_term 12 = .ok (.ifCond .ne 5, 3) := by decide +kernel
theorem dX6_term_15 : decode cX6_term 15 = .ok (.iconst (-1), 1) := by decide +kernel
theorem dX6_term_16 : decode cX6_term 16 = .ok (.ireturn, 1) := by decide +kernel
theorem dX6_term_17 : decode cX6_term 17 = .ok (.aload_n 0, 1) := by decide +kernel
theorem dX6_term_18 : decode cX6_term 18 = .ok (.getfield 51, 3) := by decide +kernel
theorem dX6_term_21 : decode cX6_term 21 = .ok (.getfield 196, 3) := by decide +kernel
theorem dX6_term_24 : decode cX6_term 24 = .ok (.bipush 6, 2) := by decide +kernel
theorem dX6_term_26 : decode cX6_term 26 = .ok (.if_icmp .lt 6, 3) := by decide +kernel
theorem dX6_term_29 : decode cX6_term 29 = .ok (.bipush (-3), 2) := by decide +kernel
theorem dX6_term_31 : decode cX6_term 31 = .ok (.ireturn, 1) := by decide +kernel
theorem dX6_term_32 : decode cX6_term 32 = .ok (.aload_n 0, 1) := by decide +kernel
theorem dX6_term_33 : decode cX6_term 33 = .ok (.getfield 51, 3) := by decide +kernel
theorem dX6_term_36 : decode cX6_term 36 = .ok (.iload_n 1, 1) := by decide +kernel
theorem dX6_term_37 : decode cX6_term 37 = .ok (.iload_n 2, 1) := by decide +kernel
theorem dX6_term_38 : decode cX6_term 38 = .ok (.invokevirtual 197, 3) := by decide +kernel
theorem dX6_term_41 : decode cX6_term 41 = .ok (.aload_n 0, 1) := by decide +kernel
theorem dX6_term_42 : decode cX6_term 42 = .ok (.getfield 51, 3) := by decide +kernel
theorem dX6_term_45 : decode cX6_term 45 = .ok (.getfield 196, 3) := by decide +kernel
theorem dX6_term_48 : decode cX6_term 48 = .ok (.ireturn, 1) := by decide +kernel
theorem dX6_empty_0 : decode cX6_empty 0 = .ok (.aload_n 0, 1) := by decide +kernel
theorem dX6_empty_1 : decode cX6_empty 1 = .ok (.getfield 51, 3) := by decide +kernel
theorem dX6_empty_4 : decode cX6_empty 4 = .ok (.getfield 196, 3) := by decide +kernel
theorem dX6_empty_7 : decode cX6_empty 7 = .ok (.istore_n 1, 1) := by decide +kernel
theorem dX6_empty_8 : decode cX6_empty 8 = .ok (.aload_n 0, 1) := by decide +kernel
theorem dX6_empty_9 : decode cX6_empty 9 = .ok (.getfield 51, 3) := by decide +kernel
theorem dX6_empty_12 : decode cX6_empty 12 = .ok (.iconst 0, 1) := by decide +kernel
theorem dX6_empty_13 : decode cX6_empty 13 = .ok (.putfield 196, 3) := by decide +kernel
theorem dX6_empty_16 : decode cX6_empty 16 = .ok (.iload_n 1, 1) := by decide +kernel
theorem dX6_empty_17 : decode cX6_empty 17 = .ok (.ireturn, 1) := by decide +kernel
theorem dX6_brief_0 : decode cX6_brief 0 = .ok (.iconst 0, 1) := by decide +kernel
theorem dX6_brief_1 : decode cX6_brief 1 = .ok (.istore_n 1, 1) := by decide +kernel
theorem dX6_brief_2 : decode cX6_brief 2 = .ok (.iconst 0, 1) := by decide +kernel
theorem dX6_brief_3 : decode cX6_brief 3 = .ok (.istore_n 2, 1) := by decide +kernel
theorem dX6_brief_4 : decode cX6_brief 4 = .ok (.iload_n 2, 1) := by decide +kernel
theorem dX6_brief_5 : decode cX6_brief 5 = .ok (.aload_n 0, 1) := by decide +kernel
theorem dX6_brief_6 : decode cX6_brief 6 = .ok (.getfield 51, 3) := by decide +kernel
theorem dX6_brief_9 : decode cX6_brief 9 = .ok (.getfield 196, 3) := by decide +kernel
theorem dX6_brief_12 : decode cX6_brief 12 = .ok (.if_icmp .ge 30, 3) := by decide +kernel
theorem dX6_brief_15 : decode cX6_brief 15 = .ok (.aload_n 0, 1) := by decide +kernel
theorem dX6_brief_16 : decode cX6_brief 16 = .ok (.getfield 51, 3) := by decide +kernel
theorem dX6_brief_19 : decode cX6_brief 19 = .ok (.iload_n 2, 1) := by decide +kernel
theorem dX6_brief_20 : decode cX6_brief 20 = .ok (.aload_n 0, 1) := by decide +kernel
theorem dX6_brief_21 : decode cX6_brief 21 = .ok (.getfield 33, 3) := by decide +kernel
theorem dX6_brief_24 : decode cX6_brief 24 = .ok (.invokevirtual 201, 3) := by decide +kernel
theorem dX6_brief_27 : decode cX6_brief 27 = .ok (.ifCond .eq 9, 3) := by decide +kernel
theorem dX6_brief_30 : decode cX6_brief 30 = .ok (.iload_n 1, 1) := by decide +kernel
theorem dX6_brief_31 : decode cX6_brief 31 = .ok (.iconst 1, 1) := by decide +kernel
theorem dX6_brief_32 : decode cX6_brief 32 = .ok (.iload_n 2, 1) := by decide +kernel
theorem dX6_brief_33 : decode cX6_brief 33 = .ok (.ishl, 1) := by decide +kernel
theorem dX6_brief_34 : decode cX6_brief 34 = .ok (.ior, 1) := by decide +kernel
theorem dX6_brief_35 : decode cX6_brief 35 = .ok (.istore_n 1, 1) := by decide +kernel
theorem dX6_brief_36 : decode cX6_brief 36 = .ok (.iinc 2 1, 3) := by decide +kernel
theorem dX6_brief_39 : decode cX6_brief 39 = .ok (.goto (-35), 3) := by decide +kernel
theorem dX6_brief_42 : decode cX6_brief 42 = .ok (.iload_n 1, 1) := by decide +kernel
theorem dX6_brief_43 : decode cX6_brief 43 = .ok (.ireturn, 1) := by decide +kernel
theorem dX6_below_0 : decode cX6_below 0 = .ok (.aload_n 0, 1) := by decide +kernel
theorem dX6_below_1 : decode cX6_below 1 = .ok (.iload_n 1, 1) := by decide +kernel
theorem dX6_below_2 : decode cX6_below 2 = .ok (.invokevirtual 93, 3) := by decide +kernel
theorem dX6_below_5 : decode cX6_below 5 = .ok (.ifCond .eq 10, 3) := by decide +kernel
theorem dX6_below_8 : decode cX6_below 8 = .ok (.iload_n 2, 1) := by decide +kernel
theorem dX6_below_9 : decode cX6_below 9 = .ok (.invokestatic 141, 3) := by decide +kernel
theorem dX6_below_12 : decode cX6_below 12 = .ok (.ifCond .ne 5, 3) := by decide +kernel
theorem dX6_below_15 : decode cX6_below 15 = .ok (.iconst (-1), 1) := by decide +kernel
theorem dX6_below_16 : decode cX6_below 16 = .ok (.ireturn, 1) := by decide +kernel
theorem dX6_below_17 : decode cX6_below 17 = .ok (.iconst 0, 1) := by decide +kernel
theorem dX6_below_18 : decode cX6_below 18 = .ok (.istore_n 3, 1) := by decide +kernel
theorem dX6_below_19 : decode cX6_below 19 = .ok (.iload_n 3, 1) := by decide +kernel
theorem dX6_below_20 : decode cX6_below 20 = .ok (.aload_n 0, 1) := by decide +kernel
theorem dX6_below_21 : decode cX6_below 21 = .ok (.getfield 51, 3) := by decide +kernel
theorem dX6_below_24 : decode cX6_below 24 = .ok (.getfield 196, 3) := by decide +kernel
theorem dX6_below_27 : decode cX6_below 27 = .ok (.if_icmp .ge 42, 3) := by decide +kernel
theorem dX6_below_30 : decode cX6_below 30 = .ok (.aload_n 0, 1) := by decide +kernel
theorem dX6_below_31 : decode cX6_below 31 = .ok (.getfield 33, 3) := by decide +kernel
theorem dX6_below_34 : decode cX6_below 34 = .ok (.aload_n 0, 1) := by decide +kernel
theorem dX6_below_35 : decode cX6_below 35 = .ok (.getfield 51, 3) := by decide +kernel
theorem dX6_below_38 : decode cX6_below 38 = .ok (.getfield 205, 3) := by decide +kernel
theorem dX6_below_41 : decode cX6_below 41 = .ok (.iload_n 3, 1) := by decide +kernel
theorem dX6_below_42 : decode cX6_below 42 = .ok (.iaload, 1) := by decide +kernel
theorem dX6_below_43 : decode cX6_below 43 = .ok (.aload_n 0, 1) := by decide +kernel
theorem dX6_below_44 : decode cX6_below 44 = .ok (.getfield 51, 3) := by decide +kernel
theorem dX6_below_47 : decode cX6_below 47 = .ok (.getfield 206, 3) := by decide +kernel
theorem dX6_below_50 : decode cX6_below 50 = .ok (.iload_n 3, 1) := by decide +kernel
theorem dX6_below_51 : decode cX6_below 51 = .ok (.iaload, 1) := by decide +kernel
theorem dX6_below_52 : decode cX6_below 52 = .ok (.iload_n 2, 1) := by decide +kernel
theorem dX6_below_53 : decode cX6_below 53 = .ok (.isub, 1) := by decide +kernel
theorem dX6_below_54 : decode cX6_below 54 = .ok (.iload_n 1, 1) := by decide +kernel
theorem dX6_below_55 : decode cX6_below 55 = .ok (.invokevirtual 174, 3) := by decide +kernel
theorem dX6_below_58 : decode cX6_below 58 = .ok (.ifCond .ne 5, 3) := by decide +kernel
theorem dX6_below_61 : decode cX6_below 61 = .ok (.iconst 0, 1) := by decide +kernel
theorem dX6_below_62 : decode cX6_below 62 = .ok (.ireturn, 1) := by decide +kernel
theorem dX6_below_63 : decode cX6_below 63 = .ok (.iinc 3 1, 3) := by decide +kernel
theorem dX6_below_66 : decode cX6_below 66 = .ok (.goto (-47), 3) := by decide +kernel
theorem dX6_below_69 : decode cX6_below 69 = .ok (.iconst 1, 1) := by decide +kernel
theorem dX6_below_70 : decode cX6_below 70 = .ok (.ireturn, 1) := by decide +kernel
theorem dX6_worth_0 : decode cX6_worth 0 = .ok (.iconst 0, 1) := by decide +kernel
theorem dX6_worth_1 : decode cX6_worth 1 = .ok (.istore_n 1, 1) := by decide +kernel
theorem dX6_worth_2 : decode cX6_worth 2 = .ok (.iconst 0, 1) := by decide +kernel
theorem dX6_worth_3 : decode cX6_worth 3 = .ok (.istore_n 2, 1) := by decide +kernel
theorem dX6_worth_4 : decode cX6_worth 4 = .ok (.iload_n 2, 1) := by decide +kernel
theorem dX6_worth_5 : decode cX6_worth 5 = .ok (.aload_n 0, 1) := by decide +kernel
theorem dX6_worth_6 : decode cX6_worth 6 = .ok (.getfield 51, 3) := by decide +kernel
theorem dX6_worth_9 : decode cX6_worth 9 = .ok (.getfield 196, 3) := by decide +kernel
theorem dX6_worth_12 : decode cX6_worth 12 = .ok (.if_icmp .ge 40, 3) := by decide +kernel
theorem dX6_worth_15 : decode cX6_worth 15 = .ok (.iload_n 1, 1) := by decide +kernel
theorem dX6_worth_16 : decode cX6_worth 16 = .ok (.aload_n 0, 1) := by decide +kernel
theorem dX6_worth_17 : decode cX6_worth 17 = .ok (.getfield 33, 3) := by decide +kernel
theorem dX6_worth_20 : decode cX6_worth 20 = .ok (.aload_n 0, 1) := by decide +kernel
theorem dX6_worth_21 : decode cX6_worth 21 = .ok (.getfield 51, 3) := by decide +kernel
theorem dX6_worth_24 : decode cX6_worth 24 = .ok (.getfield 205, 3) := by decide +kernel
theorem dX6_worth_27 : decode cX6_worth 27 = .ok (.iload_n 2, 1) := by decide +kernel
theorem dX6_worth_28 : decode cX6_worth 28 = .ok (.iaload, 1) := by decide +kernel
theorem dX6_worth_29 : decode cX6_worth 29 = .ok (.invokevirtual 99, 3) := by decide +kernel
theorem dX6_worth_32 : decode cX6_worth 32 = .ok (.aload_n 0, 1) := by decide +kernel
theorem dX6_worth_33 : decode cX6_worth 33 = .ok (.getfield 51, 3) := by decide +kernel
theorem dX6_worth_36 : decode cX6_worth 36 = .ok (.getfield 206, 3) := by decide +kernel
theorem dX6_worth_39 : decode cX6_worth 39 = .ok (.iload_n 2, 1) := by decide +kernel
theorem dX6_worth_40 : decode cX6_worth 40 = .ok (.iaload, 1) := by decide +kernel
theorem dX6_worth_41 : decode cX6_worth 41 = .ok (.iadd, 1) := by decide +kernel
theorem dX6_worth_42 : decode cX6_worth 42 = .ok (.invokestatic 181, 3) := by decide +kernel
theorem dX6_worth_45 : decode cX6_worth 45 = .ok (.istore_n 1, 1) := by decide +kernel
theorem dX6_worth_46 : decode cX6_worth 46 = .ok (.iinc 2 1, 3) := by decide +kernel
theorem dX6_worth_49 : decode cX6_worth 49 = .ok (.goto (-45), 3) := by decide +kernel
theorem dX6_worth_52 : decode cX6_worth 52 = .ok (.iload_n 1, 1) := by decide +kernel
theorem dX6_worth_53 : decode cX6_worth 53 = .ok (.ireturn, 1) := by decide +kernel
theorem dX6_roots_0 : decode cX6_roots 0 = .ok (.aload_n 0, 1) := by decide +kernel
theorem dX6_roots_1 : decode cX6_roots 1 = .ok (.iload_n 1, 1) := by decide +kernel
theorem dX6_roots_2 : decode cX6_roots 2 = .ok (.invokevirtual 93, 3) := by decide +kernel
theorem dX6_roots_5 : decode cX6_roots 5 = .ok (.ifCond .ne 5, 3) := by decide +kernel
theorem dX6_roots_8 : decode cX6_roots 8 = .ok (.iconst (-1), 1) := by decide +kernel
theorem dX6_roots_9 : decode cX6_roots 9 = .ok (.ireturn, 1) := by decide +kernel
theorem dX6_roots_10 : decode cX6_roots 10 = .ok (.aload_n 0, 1) := by decide +kernel
theorem dX6_roots_11 : decode cX6_roots 11 = .ok (.getfield 19, 3) := by decide +kernel
theorem dX6_roots_14 : decode cX6_roots 14 = .ok (.iload_n 1, 1) := by decide +kernel
theorem dX6_roots_15 : decode cX6_roots 15 = .ok (.invokevirtual 109, 3) := by decide +kernel
theorem dX6_roots_18 : decode cX6_roots 18 = .ok (.ifCond .ne 6, 3) := by decide +kernel
theorem dX6_roots_21 : decode cX6_roots 21 = .ok (.bipush (-2), 2) := by decide +kernel
theorem dX6_roots_23 : decode cX6_roots 23 = .ok (.ireturn, 1) := by decide +kernel
theorem dX6_roots_24 : decode cX6_roots 24 = .ok (.aload_n 0, 1) := by decide +kernel
theorem dX6_roots_25 : decode cX6_roots 25 = .ok (.iload_n 1, 1) := by decide +kernel
theorem dX6_roots_26 : decode cX6_roots 26 = .ok (.invokevirtual 209, 3) := by decide +kernel
theorem dX6_roots_29 : decode cX6_roots 29 = .ok (.iconst 0, 1) := by decide +kernel
theorem dX6_roots_30 : decode cX6_roots 30 = .ok (.istore_n 2, 1) := by decide +kernel
theorem dX6_roots_31 : decode cX6_roots 31 = .ok (.iconst 0, 1) := by decide +kernel
theorem dX6_roots_32 : decode cX6_roots 32 = .ok (.istore_n 3, 1) := by decide +kernel
theorem dX6_roots_33 : decode cX6_roots 33 = .ok (.iload_n 3, 1) := by decide +kernel
theorem dX6_roots_34 : decode cX6_roots 34 = .ok (.aload_n 0, 1) := by decide +kernel
theorem dX6_roots_35 : decode cX6_roots 35 = .ok (.getfield 55, 3) := by decide +kernel
theorem dX6_roots_38 : decode cX6_roots 38 = .ok (.getfield 196, 3) := by decide +kernel
theorem dX6_roots_41 : decode cX6_roots 41 = .ok (.if_icmp .ge 38, 3) := by decide +kernel
theorem dX6_roots_44 : decode cX6_roots 44 = .ok (.aload_n 0, 1) := by decide +kernel
theorem dX6_roots_45 : decode cX6_roots 45 = .ok (.getfield 55, 3) := by decide +kernel
theorem dX6_roots_48 : decode cX6_roots 48 = .ok (.iload_n 3, 1) := by decide +kernel
theorem dX6_roots_49 : decode cX6_roots 49 = .ok (.aload_n 0, 1) := by decide +kernel
theorem dX6_roots_50 : decode cX6_roots 50 = .ok (.getfield 33, 3) := by decide +kernel
theorem dX6_roots_53 : decode cX6_roots 53 = .ok (.invokevirtual 201, 3) := by decide +kernel
theorem dX6_roots_56 : decode cX6_roots 56 = .ok (.ifCond .eq 17, 3) := by decide +kernel
theorem dX6_roots_59 : decode cX6_roots 59 = .ok (.iload_n 2, 1) := by decide +kernel
theorem dX6_roots_60 : decode cX6_roots 60 = .ok (.iconst 1, 1) := by decide +kernel
theorem dX6_roots_61 : decode cX6_roots 61 = .ok (.aload_n 0, 1) := by decide +kernel
theorem dX6_roots_62 : decode cX6_roots 62 = .ok (.getfield 55, 3) := by decide +kernel
theorem dX6_roots_65 : decode cX6_roots 65 = .ok (.getfield 205, 3) := by decide +kernel
theorem dX6_roots_68 : decode cX6_roots 68 = .ok (.iload_n 3, 1) := by decide +kernel
theorem dX6_roots_69 : decode cX6_roots 69 = .ok (.iaload, 1) := by decide +kernel
theorem dX6_roots_70 : decode cX6_roots 70 = .ok (.ishl, 1) := by decide +kernel
theorem dX6_roots_71 : decode cX6_roots 71 = .ok (.ior, 1) := by decide +kernel
theorem dX6_roots_72 : decode cX6_roots 72 = .ok (.istore_n 2, 1) := by decide +kernel
theorem dX6_roots_73 : decode cX6_roots 73 = .ok (.iinc 3 1, 3) := by decide +kernel
theorem dX6_roots_76 : decode cX6_roots 76 = .ok (.goto (-43), 3) := by decide +kernel
theorem dX6_roots_79 : decode cX6_roots 79 = .ok (.iload_n 2, 1) := by decide +kernel
theorem dX6_roots_80 : decode cX6_roots 80 = .ok (.ireturn, 1) := by decide +kernel
theorem dX6_loose_0 : decode cX6_loose 0 = .ok (.aload_n 0, 1) := by decide +kernel
theorem dX6_loose_1 : decode cX6_loose 1 = .ok (.iload_n 1, 1) := by decide +kernel
theorem dX6_loose_2 : decode cX6_loose 2 = .ok (.invokevirtual 93, 3) := by decide +kernel
theorem dX6_loose_5 : decode cX6_loose 5 = .ok (.ifCond .eq 12, 3) := by decide +kernel
theorem dX6_loose_8 : decode cX6_loose 8 = .ok (.iload_n 2, 1) := by decide +kernel
theorem dX6_loose_9 : decode cX6_loose 9 = .ok (.ifCond .lt 8, 3) := by decide +kernel
theorem dX6_loose_12 : decode cX6_loose 12 = .ok (.iload_n 2, 1) := by decide +kernel
theorem dX6_loose_13 : decode cX6_loose 13 = .ok (.iconst 1, 1) := by decide +kernel
theorem dX6_loose_14 : decode cX6_loose 14 = .ok (.if_icmp .le 5, 3) := by decide +kernel
theorem dX6_loose_17 : decode cX6_loose 17 = .ok (.iconst (-1), 1) := by decide +kernel
theorem dX6_loose_18 : decode cX6_loose 18 = .ok (.ireturn, 1) := by decide +kernel
theorem dX6_loose_19 : decode cX6_loose 19 = .ok (.aload_n 0, 1) := by decide +kernel
theorem dX6_loose_20 : decode cX6_loose 20 = .ok (.getfield 19, 3) := by decide +kernel
theorem dX6_loose_23 : decode cX6_loose 23 = .ok (.iload_n 1, 1) := by decide +kernel
theorem dX6_loose_24 : decode cX6_loose 24 = .ok (.invokevirtual 109, 3) := by decide +kernel
theorem dX6_loose_27 : decode cX6_loose 27 = .ok (.ifCond .ne 6, 3) := by decide +kernel
theorem dX6_loose_30 : decode cX6_loose 30 = .ok (.bipush (-2), 2) := by decide +kernel
theorem dX6_loose_32 : decode cX6_loose 32 = .ok (.ireturn, 1) := by decide +kernel
theorem dX6_loose_33 : decode cX6_loose 33 = .ok (.iload_n 2, 1) := by decide +kernel
theorem dX6_loose_34 : decode cX6_loose 34 = .ok (.ifCond .ne 11, 3) := by decide +kernel
theorem dX6_loose_37 : decode cX6_loose 37 = .ok (.aload_n 0, 1) := by decide +kernel
theorem dX6_loose_38 : decode cX6_loose 38 = .ok (.iload_n 1, 1) := by decide +kernel
theorem dX6_loose_39 : decode cX6_loose 39 = .ok (.invokevirtual 212, 3) := by decide +kernel
theorem dX6_loose_42 : decode cX6_loose 42 = .ok (.goto 8, 3) := by decide +kernel
theorem dX6_loose_45 : decode cX6_loose 45 = .ok (.aload_n 0, 1) := by decide +kernel
theorem dX6_loose_46 : decode cX6_loose 46 = .ok (.iload_n 1, 1) := by decide +kernel
theorem dX6_loose_47 : decode cX6_loose 47 = .ok (.invokevirtual 215, 3) := by decide +kernel
theorem dX6_loose_50 : decode cX6_loose 50 = .ok (.istore_n 3, 1) := by decide +kernel
theorem dX6_loose_51 : decode cX6_loose 51 = .ok (.iload_n 3, 1) := by decide +kernel
theorem dX6_loose_52 : decode cX6_loose 52 = .ok (.ifCond .eq 7, 3) := by decide +kernel
theorem dX6_loose_55 : decode cX6_loose 55 = .ok (.iconst 1, 1) := by decide +kernel
theorem dX6_loose_56 : decode cX6_loose 56 = .ok (.goto 4, 3) := by decide +kernel
theorem dX6_loose_59 : decode cX6_loose 59 = .ok (.iconst 0, 1) := by decide +kernel
theorem dX6_loose_60 : decode cX6_loose 60 = .ok (.ireturn, 1) := by decide +kernel
theorem dX6_keep_0 : decode cX6_keep 0 = .ok (.aload_n 0, 1) := by decide +kernel
theorem dX6_keep_1 : decode cX6_keep 1 = .ok (.getfield 218, 3) := by decide +kernel
theorem dX6_keep_4 : decode cX6_keep 4 = .ok (.iconst 2, 1) := by decide +kernel
theorem dX6_keep_5 : decode cX6_keep 5 = .ok (.if_icmp .lt 6, 3) := by decide +kernel
theorem dX6_keep_8 : decode cX6_keep 8 = .ok (.bipush (-3), 2) := by decide +kernel
theorem dX6_keep_10 : decode cX6_keep 10 = .ok (.ireturn, 1) := by decide +kernel
theorem dX6_keep_11 : decode cX6_keep 11 = .ok (.aload_n 0, 1) := by decide +kernel
theorem dX6_keep_12 : decode cX6_keep 12 = .ok (.getfield 27, 3) := by decide +kernel
theorem dX6_keep_15 : decode cX6_keep 15 = .ok (.aload_n 0, 1) := by decide +kernel
theorem dX6_keep_16 : decode cX6_keep 16 = .ok (.getfield 218, 3) := by decide +kernel
theorem dX6_keep_19 : decode cX6_keep 19 = .ok (.aaload, 1) := by decide +kernel
theorem dX6_keep_20 : decode cX6_keep 20 = .ok (.aload_n 0, 1) := by decide +kernel
theorem dX6_keep_21 : decode cX6_keep 21 = .ok (.getfield 19, 3) := by decide +kernel
theorem dX6_keep_24 : decode cX6_keep 24 = .ok (.invokevirtual 221, 3) := by decide +kernel
theorem dX6_keep_27 : decode cX6_keep 27 = .ok (.aload_n 0, 1) := by decide +kernel
theorem dX6_keep_28 : decode cX6_keep 28 = .ok (.dup, 1) := by decide +kernel
theorem dX6_keep_29 : decode cX6_keep 29 = .ok (.getfield 218, 3) := by decide +kernel
theorem dX6_keep_32 : decode cX6_keep 32 = .ok (.iconst 1, 1) := by decide +kernel
theorem dX6_keep_33 : decode cX6_keep 33 = .ok (.iadd, 1) := by decide +kernel
theorem dX6_keep_34 : decode cX6_keep 34 = .ok (.putfield 218, 3) := by decide +kernel
theorem dX6_keep_37 : decode cX6_keep 37 = .ok (.aload_n 0, 1) := by decide +kernel
theorem dX6_keep_38 : decode cX6_keep 38 = .ok (.getfield 218, 3) := by decide +kernel
theorem dX6_keep_41 : decode cX6_keep 41 = .ok (.ireturn, 1) := by decide +kernel
theorem dX6_back_0 : decode cX6_back 0 = .ok (.aload_n 0, 1) := by decide +kernel
theorem dX6_back_1 : decode cX6_back 1 = .ok (.getfield 218, 3) := by decide +kernel
theorem dX6_back_4 : decode cX6_back 4 = .ok (.ifCond .gt 6, 3) := by decide +kernel
theorem dX6_back_7 : decode cX6_back 7 = .ok (.bipush (-2), 2) := by decide +kernel
theorem dX6_back_9 : decode cX6_back 9 = .ok (.ireturn, 1) := by decide +kernel
theorem dX6_back_10 : decode cX6_back 10 = .ok (.aload_n 0, 1) := by decide +kernel
theorem dX6_back_11 : decode cX6_back 11 = .ok (.dup, 1) := by decide +kernel
theorem dX6_back_12 : decode cX6_back 12 = .ok (.getfield 218, 3) := by decide +kernel
theorem dX6_back_15 : decode cX6_back 15 = .ok (.iconst 1, 1) := by decide +kernel
theorem dX6_back_16 : decode cX6_back 16 = .ok (.isub, 1) := by decide +kernel
theorem dX6_back_17 : decode cX6_back 17 = .ok (.putfield 218, 3) := by decide +kernel
theorem dX6_back_20 : decode cX6_back 20 = .ok (.aload_n 0, 1) := by decide +kernel
theorem dX6_back_21 : decode cX6_back 21 = .ok (.aload_n 0, 1) := by decide +kernel
theorem dX6_back_22 : decode cX6_back 22 = .ok (.getfield 27, 3) := by decide +kernel
theorem dX6_back_25 : decode cX6_back 25 = .ok (.aload_n 0, 1) := by decide +kernel
theorem dX6_back_26 : decode cX6_back 26 = .ok (.getfield 218, 3) := by decide +kernel
theorem dX6_back_29 : decode cX6_back 29 = .ok (.aaload, 1) := by decide +kernel
theorem dX6_back_30 : decode cX6_back 30 = .ok (.invokevirtual 162, 3) := by decide +kernel
theorem dX6_back_33 : decode cX6_back 33 = .ok (.aload_n 0, 1) := by decide +kernel
theorem dX6_back_34 : decode cX6_back 34 = .ok (.iconst 0, 1) := by decide +kernel
theorem dX6_back_35 : decode cX6_back 35 = .ok (.putfield 159, 3) := by decide +kernel
theorem dX6_back_38 : decode cX6_back 38 = .ok (.aload_n 0, 1) := by decide +kernel
theorem dX6_back_39 : decode cX6_back 39 = .ok (.getfield 218, 3) := by decide +kernel
theorem dX6_back_42 : decode cX6_back 42 = .ok (.ireturn, 1) := by decide +kernel
theorem dX6_count_0 : decode cX6_count 0 = .ok (.iload_n 1, 1) := by decide +kernel
theorem dX6_count_1 : decode cX6_count 1 = .ok (.tableswitch 123 0 9 #[55, 63, 71, 76, 84, 89, 97, 102, 107, 115], 55) := by decide +kernel
theorem dX6_count_56 : decode cX6_count 56 = .ok (.aload_n 0, 1) := by decide +kernel
theorem dX6_count_57 : decode cX6_count 57 = .ok (.getfield 19, 3) := by decide +kernel
theorem dX6_count_60 : decode cX6_count 60 = .ok (.getfield 224, 3) := by decide +kernel
theorem dX6_count_63 : decode cX6_count 63 = .ok (.ireturn, 1) := by decide +kernel
theorem dX6_count_64 : decode cX6_count 64 = .ok (.aload_n 0, 1) := by decide +kernel
theorem dX6_count_65 : decode cX6_count 65 = .ok (.getfield 19, 3) := by decide +kernel
theorem dX6_count_68 : decode cX6_count 68 = .ok (.getfield 90, 3) := by decide +kernel
theorem dX6_count_71 : decode cX6_count 71 = .ok (.ireturn, 1) := by decide +kernel
theorem dX6_count_72 : decode cX6_count 72 = .ok (.aload_n 0, 1) := by decide +kernel
theorem dX6_count_73 : decode cX6_count 73 = .ok (.getfield 226, 3) := by decide +kernel
theorem dX6_count_76 : decode cX6_count 76 = .ok (.ireturn, 1) := by decide +kernel
theorem dX6_count_77 : decode cX6_count 77 = .ok (.aload_n 0, 1) := by decide +kernel
theorem dX6_count_78 : decode cX6_count 78 = .ok (.getfield 33, 3) := by decide +kernel
theorem dX6_count_81 : decode cX6_count 81 = .ok (.invokevirtual 229, 3) := by decide +kernel
theorem dX6_count_84 : decode cX6_count 84 = .ok (.ireturn, 1) := by decide +kernel
theorem dX6_count_85 : decode cX6_count 85 = .ok (.aload_n 0, 1) := by decide +kernel
theorem dX6_count_86 : decode cX6_count 86 = .ok (.invokevirtual 232, 3) := by decide +kernel
theorem dX6_count_89 : decode cX6_count 89 = .ok (.ireturn, 1) := by decide +kernel
theorem dX6_count_90 : decode cX6_count 90 = .ok (.aload_n 0, 1) := by decide +kernel
theorem dX6_count_91 : decode cX6_count 91 = .ok (.getfield 51, 3) := by decide +kernel
theorem dX6_count_94 : decode cX6_count 94 = .ok (.getfield 196, 3) := by decide +kernel
theorem dX6_count_97 : decode cX6_count 97 = .ok (.ireturn, 1) := by decide +kernel
theorem dX6_count_98 : decode cX6_count 98 = .ok (.aload_n 0, 1) := by decide +kernel
theorem dX6_count_99 : decode cX6_count 99 = .ok (.getfield 159, 3) := by decide +kernel
theorem dX6_count_102 : decode cX6_count 102 = .ok (.ireturn, 1) := by decide +kernel
theorem dX6_count_103 : decode cX6_count 103 = .ok (.aload_n 0, 1) := by decide +kernel
theorem dX6_count_104 : decode cX6_count 104 = .ok (.getfield 218, 3) := by decide +kernel
theorem dX6_count_107 : decode cX6_count 107 = .ok (.ireturn, 1) := by decide +kernel
theorem dX6_count_108 : decode cX6_count 108 = .ok (.aload_n 0, 1) := by decide +kernel
theorem dX6_count_109 : decode cX6_count 109 = .ok (.getfield 10, 3) := by decide +kernel
theorem dX6_count_112 : decode cX6_count 112 = .ok (.getfield 84, 3) := by decide +kernel
theorem dX6_count_115 : decode cX6_count 115 = .ok (.ireturn, 1) := by decide +kernel
theorem dX6_count_116 : decode cX6_count 116 = .ok (.aload_n 0, 1) := by decide +kernel
theorem dX6_count_117 : decode cX6_count 117 = .ok (.getfield 33, 3) := by decide +kernel
theorem dX6_count_120 : decode cX6_count 120 = .ok (.invokevirtual 235, 3) := by decide +kernel
theorem dX6_count_123 : decode cX6_count 123 = .ok (.ireturn, 1) := by decide +kernel
theorem dX6_count_124 : decode cX6_count 124 = .ok (.iconst (-1), 1) := by decide +kernel
theorem dX6_count_125 : decode cX6_count 125 = .ok (.ireturn, 1) := by decide +kernel
theorem dX6_isLevel_0 : decode cX6_isLevel 0 = .ok (.iload_n 1, 1) := by decide +kernel
theorem dX6_isLevel_1 : decode cX6_isLevel 1 = .ok (.ifCond .lt 18, 3) := by decide +kernel
theorem dX6_isLevel_4 : decode cX6_isLevel 4 = .ok (.iload_n 1, 1) := by decide +kernel
theorem dX6_isLevel_5 : decode cX6_isLevel 5 = .ok (.aload_n 0, 1) := by decide +kernel
theorem dX6_isLevel_6 : decode cX6_isLevel 6 = .ok (.getfield 19, 3) := by decide +kernel
theorem dX6_isLevel_9 : decode cX6_isLevel 9 = .ok (.getfield 224, 3) := by decide +kernel
theorem dX6_isLevel_12 : decode cX6_isLevel 12 = .ok (.if_icmp .ge 7, 3) := by decide +kernel
theorem dX6_isLevel_15 : decode cX6_isLevel 15 = .ok (.iconst 1, 1) := by decide +kernel
theorem dX6_isLevel_16 : decode cX6_isLevel 16 = .ok (.goto 4, 3) := by decide +kernel
theorem dX6_isLevel_19 : decode cX6_isLevel 19 = .ok (.iconst 0, 1) := by decide +kernel
theorem dX6_isLevel_20 : decode cX6_isLevel 20 = .ok (.ireturn, 1) := by decide +kernel
theorem dX6_areUnlike_0 : decode cX6_areUnlike 0 = .ok (.aload_n 0, 1) := by decide +kernel
theorem dX6_areUnlike_1 : decode cX6_areUnlike 1 = .ok (.iload_n 1, 1) := by decide +kernel
theorem dX6_areUnlike_2 : decode cX6_areUnlike 2 = .ok (.invokevirtual 93, 3) := by decide +kernel
theorem dX6_areUnlike_5 : decode cX6_areUnlike 5 = .ok (.ifCond .eq 20, 3) := by decide +kernel
theorem dX6_areUnlike_8 : decode cX6_areUnlike 8 = .ok (.aload_n 0, 1) := by decide +kernel
theorem dX6_areUnlike_9 : decode cX6_areUnlike 9 = .ok (.iload_n 2, 1) := by decide +kernel
theorem dX6_areUnlike_10 : decode cX6_areUnlike 10 = .ok (.invokevirtual 93, 3) := by decide +kernel
theorem dX6_areUnlike_13 : decode cX6_areUnlike 13 = .ok (.ifCond .eq 12, 3) := by decide +kernel
theorem dX6_areUnlike_16 : decode cX6_areUnlike 16 = .ok (.iload_n 1, 1) := by decide +kernel
theorem dX6_areUnlike_17 : decode cX6_areUnlike 17 = .ok (.iload_n 2, 1) := by decide +kernel
theorem dX6_areUnlike_18 : decode cX6_areUnlike 18 = .ok (.if_icmp .eq 7, 3) := by decide +kernel
theorem dX6_areUnlike_21 : decode cX6_areUnlike 21 = .ok (.iconst 1, 1) := by decide +kernel
theorem dX6_areUnlike_22 : decode cX6_areUnlike 22 = .ok (.goto 4, 3) := by decide +kernel
theorem dX6_areUnlike_25 : decode cX6_areUnlike 25 = .ok (.iconst 0, 1) := by decide +kernel
theorem dX6_areUnlike_26 : decode cX6_areUnlike 26 = .ok (.ireturn, 1) := by decide +kernel
theorem dX6_isBound_0 : decode cX6_isBound 0 = .ok (.iload_n 1, 1) := by decide +kernel
theorem dX6_isBound_1 : decode cX6_isBound 1 = .ok (.ifCond .lt 18, 3) := by decide +kernel
theorem dX6_isBound_4 : decode cX6_isBound 4 = .ok (.iload_n 1, 1) := by decide +kernel
theorem dX6_isBound_5 : decode cX6_isBound 5 = .ok (.aload_n 0, 1) := by decide +kernel
theorem dX6_isBound_6 : decode cX6_isBound 6 = .ok (.getfield 19, 3) := by decide +kernel
theorem dX6_isBound_9 : decode cX6_isBound 9 = .ok (.getfield 90, 3) := by decide +kernel
theorem dX6_isBound_12 : decode cX6_isBound 12 = .ok (.if_icmp .ge 7, 3) := by decide +kernel
theorem dX6_isBound_15 : decode cX6_isBound 15 = .ok (.iconst 1, 1) := by decide +kernel
theorem dX6_isBound_16 : decode cX6_isBound 16 = .ok (.goto 4, 3) := by decide +kernel
theorem dX6_isBound_19 : decode cX6_isBound 19 = .ok (.iconst 0, 1) := by decide +kernel
theorem dX6_isBound_20 : decode cX6_isBound 20 = .ok (.ireturn, 1) := by decide +kernel
theorem dX6_isK_0 : decode cX6_isK 0 = .ok (.iload_n 0, 1) := by decide +kernel
theorem dX6_isK_1 : decode cX6_isK 1 = .ok (.bipush (-9), 2) := by decide +kernel
theorem dX6_isK_3 : decode cX6_isK 3 = .ok (.if_icmp .lt 13, 3) := by decide +kernel
theorem dX6_isK_6 : decode cX6_isK 6 = .ok (.iload_n 0, 1) := by decide +kernel
theorem dX6_isK_7 : decode cX6_isK 7 = .ok (.bipush 9, 2) := by decide +kernel
theorem dX6_isK_9 : decode cX6_isK 9 = .ok (.if_icmp .gt 7, 3) := by decide +kernel
theorem dX6_isK_12 : decode cX6_isK 12 = .ok (.iconst 1, 1) := by decide +kernel
theorem dX6_isK_13 : decode cX6_isK 13 = .ok (.goto 4, 3) := by decide +kernel
theorem dX6_isK_16 : decode cX6_isK 16 = .ok (.iconst 0, 1) := by decide +kernel
theorem dX6_isK_17 : decode cX6_isK 17 = .ok (.ireturn, 1) := by decide +kernel
theorem dX6_isX_0 : decode cX6_isX 0 = .ok (.iload_n 0, 1) := by decide +kernel
theorem dX6_isX_1 : decode cX6_isX 1 = .ok (.ifCond .lt 13, 3) := by decide +kernel
theorem dX6_isX_4 : decode cX6_isX 4 = .ok (.iload_n 0, 1) := by decide +kernel
theorem dX6_isX_5 : decode cX6_isX 5 = .ok (.bipush 99, 2) := by decide +kernel
theorem dX6_isX_7 : decode cX6_isX 7 = .ok (.if_icmp .gt 7, 3) := by decide +kernel
theorem dX6_isX_10 : decode cX6_isX 10 = .ok (.iconst 1, 1) := by decide +kernel
theorem dX6_isX_11 : decode cX6_isX 11 = .ok (.goto 4, 3) := by decide +kernel
theorem dX6_isX_14 : decode cX6_isX 14 = .ok (.iconst 0, 1) := by decide +kernel
theorem dX6_isX_15 : decode cX6_isX 15 = .ok (.ireturn, 1) := by decide +kernel
theorem dX6_layText_0 : decode cX6_layText 0 = .ok (.aload_n 0, 1) := by decide +kernel
theorem dX6_layText_1 : decode cX6_layText 1 = .ok (.getfield 19, 3) := by decide +kernel
theorem dX6_layText_4 : decode cX6_layText 4 = .ok (.iconst 0, 1) := by decide +kernel
theorem dX6_layText_5 : decode cX6_layText 5 = .ok (.putfield 224, 3) := by decide +kernel
theorem dX6_layText_8 : decode cX6_layText 8 = .ok (.aload_n 0, 1) := by decide +kernel
theorem dX6_layText_9 : decode cX6_layText 9 = .ok (.getfield 19, 3) := by decide +kernel
theorem dX6_layText_12 : decode cX6_layText 12 = .ok (.iconst 0, 1) := by decide +kernel
theorem dX6_layText_13 : decode cX6_layText 13 = .ok (.putfield 90, 3) := by decide +kernel
theorem dX6_layText_16 : decode cX6_layText 16 = .ok (.aload_n 0, 1) := by decide +kernel
theorem dX6_layText_17 : decode cX6_layText 17 = .ok (.iconst 0, 1) := by decide +kernel
theorem dX6_layText_18 : decode cX6_layText 18 = .ok (.putfield 218, 3) := by decide +kernel
theorem dX6_layText_21 : decode cX6_layText 21 = .ok (.aload_n 0, 1) := by decide +kernel
theorem dX6_layText_22 : decode cX6_layText 22 = .ok (.getfield 51, 3) := by decide +kernel
theorem dX6_layText_25 : decode cX6_layText 25 = .ok (.iconst 0, 1) := by decide +kernel
theorem dX6_layText_26 : decode cX6_layText 26 = .ok (.putfield 196, 3) := by decide +kernel
theorem dX6_layText_29 : decode cX6_layText 29 = .ok (.aload_n 0, 1) := by decide +kernel
theorem dX6_layText_30 : decode cX6_layText 30 = .ok (.getfield 61, 3) := by decide +kernel
theorem dX6_layText_33 : decode cX6_layText 33 = .ok (.iconst 0, 1) := by decide +kernel
theorem dX6_layText_34 : decode cX6_layText 34 = .ok (.putfield 165, 3) := by decide +kernel
theorem dX6_layText_37 : decode cX6_layText 37 = .ok (.aload_n 0, 1) := by decide +kernel
theorem dX6_layText_38 : decode cX6_layText 38 = .ok (.iconst 0, 1) := by decide +kernel
theorem dX6_layText_39 : decode cX6_layText 39 = .ok (.putfield 226, 3) := by decide +kernel
theorem dX6_layText_42 : decode cX6_layText 42 = .ok (.iconst 0, 1) := by decide +kernel
theorem dX6_layText_43 : decode cX6_layText 43 = .ok (.istore_n 1, 1) := by decide +kernel
theorem dX6_layText_44 : decode cX6_layText 44 = .ok (.iconst 0, 1) := by decide +kernel
theorem dX6_layText_45 : decode cX6_layText 45 = .ok (.istore_n 2, 1) := by decide +kernel
theorem dX6_layText_46 : decode cX6_layText 46 = .ok (.iload_n 2, 1) := by decide +kernel
theorem dX6_layText_47 : decode cX6_layText 47 = .ok (.sipush 200, 3) := by decide +kernel
theorem dX6_layText_50 : decode cX6_layText 50 = .ok (.if_icmp .ge 54, 3) := by decide +kernel
theorem dX6_layText_53 : decode cX6_layText 53 = .ok (.iload_n 1, 1) := by decide +kernel
theorem dX6_layText_54 : decode cX6_layText 54 = .ok (.ifCond .lt 50, 3) := by decide +kernel
theorem dX6_layText_57 : decode cX6_layText 57 = .ok (.iload_n 1, 1) := by decide +kernel
theorem dX6_layText_58 : decode cX6_layText 58 = .ok (.aload_n 0, 1) := by decide +kernel
theorem dX6_layText_59 : decode cX6_layText 59 = .ok (.getfield 10, 3) := by decide +kernel
theorem dX6_layText_62 : decode cX6_layText 62 = .ok (.getfield 84, 3) := by decide +kernel
theorem dX6_layText_65 : decode cX6_layText 65 = .ok (.if_icmp .ge 39, 3) := by decide +kernel
theorem dX6_layText_68 : decode cX6_layText 68 = .ok (.aload_n 0, 1) := by decide +kernel
theorem dX6_layText_69 : decode cX6_layText 69 = .ok (.getfield 10, 3) := by decide +kernel
theorem dX6_layText_72 : decode cX6_layText 72 = .ok (.iload_n 1, 1) := by decide +kernel
theorem dX6_layText_73 : decode cX6_layText 73 = .ok (.invokevirtual 238, 3) := by decide +kernel
theorem dX6_layText_76 : decode cX6_layText 76 = .ok (.istore_n 3, 1) := by decide +kernel
theorem dX6_layText_77 : decode cX6_layText 77 = .ok (.aload_n 0, 1) := by decide +kernel
theorem dX6_layText_78 : decode cX6_layText 78 = .ok (.getfield 10, 3) := by decide +kernel
theorem dX6_layText_81 : decode cX6_layText 81 = .ok (.iload_n 1, 1) := by decide +kernel
theorem dX6_layText_82 : decode cX6_layText 82 = .ok (.invokevirtual 241, 3) := by decide +kernel
theorem dX6_layText_85 : decode cX6_layText 85 = .ok (.istore_n 1, 1) := by decide +kernel
theorem dX6_layText_86 : decode cX6_layText 86 = .ok (.aload_n 0, 1) := by decide +kernel
theorem dX6_layText_87 : decode cX6_layText 87 = .ok (.iload_n 3, 1) := by decide +kernel
theorem dX6_layText_88 : decode cX6_layText 88 = .ok (.aload_n 0, 1) := by decide +kernel
theorem dX6_layText_89 : decode cX6_layText 89 = .ok (.getfield 10, 3) := by decide +kernel
theorem dX6_layText_92 : decode cX6_layText 92 = .ok (.getfield 244, 3) := by decide +kernel
theorem dX6_layText_95 : decode cX6_layText 95 = .ok (.invokevirtual 247, 3) := by decide +kernel
theorem dX6_layText_98 : decode cX6_layText 98 = .ok (.iinc 2 1, 3) := by decide +kernel
theorem dX6_layText_101 : decode cX6_layText 101 = .ok (.goto (-55), 3) := by decide +kernel
theorem dX6_layText_104 : decode cX6_layText 104 = .ok (.aload_n 0, 1) := by decide +kernel
theorem dX6_layText_105 : decode cX6_layText 105 = .ok (.iconst 0, 1) := by decide +kernel
theorem dX6_layText_106 : decode cX6_layText 106 = .ok (.putfield 159, 3) := by decide +kernel
theorem dX6_layText_109 : decode cX6_layText 109 = .ok (.return_, 1) := by decide +kernel
theorem dX6_layItem_0 : decode cX6_layItem 0 = .ok (.iload_n 1, 1) := by decide +kernel
theorem dX6_layItem_1 : decode cX6_layItem 1 = .ok (.bipush 118, 2) := by decide +kernel
theorem dX6_layItem_3 : decode cX6_layItem 3 = .ok (.if_icmp .ne 27, 3) := by decide +kernel
theorem dX6_layItem_6 : decode cX6_layItem 6 = .ok (.aload_n 0, 1) := by decide +kernel
theorem dX6_layItem_7 : decode cX6_layItem 7 = .ok (.getfield 19, 3) := by decide +kernel
theorem dX6_layItem_10 : decode cX6_layItem 10 = .ok (.aload_n 2, 1) := by decide +kernel
theorem dX6_layItem_11 : decode cX6_layItem 11 = .ok (.iconst 0, 1) := by decide +kernel
theorem dX6_layItem_12 : decode cX6_layItem 12 = .ok (.iaload, 1) := by decide +kernel
theorem dX6_layItem_13 : decode cX6_layItem 13 = .ok (.invokevirtual 251, 3) := by decide +kernel
theorem dX6_layItem_16 : decode cX6_layItem 16 = .ok (.aload_n 0, 1) := by decide +kernel
theorem dX6_layItem_17 : decode cX6_layItem 17 = .ok (.getfield 33, 3) := by decide +kernel
theorem dX6_layItem_20 : decode cX6_layItem 20 = .ok (.aload_n 0, 1) := by decide +kernel
theorem dX6_layItem_21 : decode cX6_layItem 21 = .ok (.getfield 19, 3) := by decide +kernel
theorem dX6_layItem_24 : decode cX6_layItem 24 = .ok (.invokevirtual 155, 3) := by decide +kernel
theorem dX6_layItem_27 : decode cX6_layItem 27 = .ok (.goto 47, 3) := by decide +kernel
theorem dX6_layItem_30 : decode cX6_layItem 30 = .ok (.iload_n 1, 1) := by decide +kernel
theorem dX6_layItem_31 : decode cX6_layItem 31 = .ok (.bipush 99, 2) := by decide +kernel
theorem dX6_layItem_33 : decode cX6_layItem 33 = .ok (.if_icmp .ne 20, 3) := by decide +kernel
theorem dX6_layItem_36 : decode cX6_layItem 36 = .ok (.aload_n 0, 1) := by decide +kernel
theorem dX6_layItem_37 : decode cX6_layItem 37 = .ok (.aload_n 2, 1) := by decide +kernel
theorem dX6_layItem_38 : decode cX6_layItem 38 = .ok (.iconst 0, 1) := by decide +kernel
theorem dX6_layItem_39 : decode cX6_layItem 39 = .ok (.iaload, 1) := by decide +kernel
theorem dX6_layItem_40 : decode cX6_layItem 40 = .ok (.aload_n 2, 1) := by decide +kernel
theorem dX6_layItem_41 : decode cX6_layItem 41 = .ok (.iconst 1, 1) := by decide +kernel
theorem dX6_layItem_42 : decode cX6_layItem 42 = .ok (.iaload, 1) := by decide +kernel
theorem dX6_layItem_43 : decode cX6_layItem 43 = .ok (.aload_n 2, 1) := by decide +kernel
theorem dX6_layItem_44 : decode cX6_layItem 44 = .ok (.iconst 2, 1) := by decide +kernel
theorem dX6_layItem_45 : decode cX6_layItem 45 = .ok (.iaload, 1) := by decide +kernel
theorem dX6_layItem_46 : decode cX6_layItem 46 = .ok (.invokevirtual 144, 3) := by decide +kernel
theorem dX6_layItem_49 : decode cX6_layItem 49 = .ok (.pop, 1) := by decide +kernel
theorem dX6_layItem_50 : decode cX6_layItem 50 = .ok (.goto 24, 3) := by decide +kernel
theorem dX6_layItem_53 : decode cX6_layItem 53 = .ok (.iload_n 1, 1) := by decide +kernel
theorem dX6_layItem_54 : decode cX6_layItem 54 = .ok (.bipush 100, 2) := by decide +kernel
theorem dX6_layItem_56 : decode cX6_layItem 56 = .ok (.if_icmp .ne 18, 3) := by decide +kernel
theorem dX6_layItem_59 : decode cX6_layItem 59 = .ok (.aload_n 0, 1) := by decide +kernel
theorem dX6_layItem_60 : decode cX6_layItem 60 = .ok (.aload_n 2, 1) := by decide +kernel
theorem dX6_layItem_61 : decode cX6_layItem 61 = .ok (.iconst 0, 1) := by decide +kernel
theorem dX6_layItem_62 : decode cX6_layItem 62 = .ok (.iaload, 1) := by decide +kernel
theorem dX6_layItem_63 : decode cX6_layItem 63 = .ok (.aload_n 2, 1) := by decide +kernel
theorem dX6_layItem_64 : decode cX6_layItem 64 = .ok (.iconst 2, 1) := by decide +kernel
theorem dX6_layItem_65 : decode cX6_layItem 65 = .ok (.iaload, 1) := by decide +kernel
theorem dX6_layItem_66 : decode cX6_layItem 66 = .ok (.ineg, 1) := by decide +kernel
theorem dX6_layItem_67 : decode cX6_layItem 67 = .ok (.aload_n 2, 1) := by decide +kernel
theorem dX6_layItem_68 : decode cX6_layItem 68 = .ok (.iconst 1, 1) := by decide +kernel
theorem dX6_layItem_69 : decode cX6_layItem 69 = .ok (.iaload, 1) := by decide +kernel
theorem dX6_layItem_70 : decode cX6_layItem 70 = .ok (.invokevirtual 144, 3) := by decide +kernel
theorem dX6_layItem_73 : decode cX6_layItem 73 = .ok (.pop, 1) := by decide +kernel
theorem dX6_layItem_74 : decode cX6_layItem 74 = .ok (.return_, 1) := by decide +kernel
theorem dX6_pose_0 : decode cX6_pose 0 = .ok (.aload_n 0, 1) := by decide +kernel
theorem dX6_pose_1 : decode cX6_pose 1 = .ok (.getfield 19, 3) := by decide +kernel
theorem dX6_pose_4 : decode cX6_pose 4 = .ok (.iload_n 3, 1) := by decide +kernel
theorem dX6_pose_5 : decode cX6_pose 5 = .ok (.iload_n 2, 1) := by decide +kernel
theorem dX6_pose_6 : decode cX6_pose 6 = .ok (.invokevirtual 186, 3) := by decide +kernel
theorem dX6_pose_9 : decode cX6_pose 9 = .ok (.istore 4, 2) := by decide +kernel
theorem dX6_pose_11 : decode cX6_pose 11 = .ok (.aload_n 0, 1) := by decide +kernel
theorem dX6_pose_12 : decode cX6_pose 12 = .ok (.getfield 33, 3) := by decide +kernel
theorem dX6_pose_15 : decode cX6_pose 15 = .ok (.iload_n 3, 1) := by decide +kernel
theorem dX6_pose_16 : decode cX6_pose 16 = .ok (.iload_n 1, 1) := by decide +kernel
theorem dX6_pose_17 : decode cX6_pose 17 = .ok (.invokevirtual 130, 3) := by decide +kernel
theorem dX6_pose_20 : decode cX6_pose 20 = .ok (.ifCond .eq 71, 3) := by decide +kernel
theorem dX6_pose_23 : decode cX6_pose 23 = .ok (.aload_n 0, 1) := by decide +kernel
theorem dX6_pose_24 : decode cX6_pose 24 = .ok (.getfield 33, 3) := by decide +kernel
theorem dX6_pose_27 : decode cX6_pose 27 = .ok (.getfield 134, 3) := by decide +kernel
theorem dX6_pose_30 : decode cX6_pose 30 = .ok (.iload_n 3, 1) := by decide +kernel
theorem dX6_pose_31 : decode cX6_pose 31 = .ok (.aaload, 1) := by decide +kernel
theorem dX6_pose_32 : decode cX6_pose 32 = .ok (.iload_n 1, 1) := by decide +kernel
theorem dX6_pose_33 : decode cX6_pose 33 = .ok (.iaload, 1) := by decide +kernel
theorem dX6_pose_34 : decode cX6_pose 34 = .ok (.iload 4, 2) := by decide +kernel
theorem dX6_pose_36 : decode cX6_pose 36 = .ok (.iadd, 1) := by decide +kernel
theorem dX6_pose_37 : decode cX6_pose 37 = .ok (.ifCond .le 54, 3) := by decide +kernel
theorem dX6_pose_40 : decode cX6_pose 40 = .ok (.aload_n 0, 1) := by decide +kernel
theorem dX6_pose_41 : decode cX6_pose 41 = .ok (.dup, 1) := by decide +kernel
theorem dX6_pose_42 : decode cX6_pose 42 = .ok (.getfield 226, 3) := by decide +kernel
theorem dX6_pose_45 : decode cX6_pose 45 = .ok (.iconst 1, 1) := by decide +kernel
theorem dX6_pose_46 : decode cX6_pose 46 = .ok (.iadd, 1) := by decide +kernel
theorem dX6_pose_47 : decode cX6_pose 47 = .ok (.putfield 226, 3) := by decide +kernel
theorem dX6_pose_50 : decode cX6_pose 50 = .ok (.aload_n 0, 1) := by decide +kernel
theorem dX6_pose_51 : decode cX6_pose 51 = .ok (.getfield 61, 3) := by decide +kernel
theorem dX6_pose_54 : decode cX6_pose 54 = .ok (.aload_n 0, 1) := by decide +kernel
theorem dX6_pose_55 : decode cX6_pose 55 = .ok (.getfield 19, 3) := by decide +kernel
theorem dX6_pose_58 : decode cX6_pose 58 = .ok (.aload_n 0, 1) := by decide +kernel
theorem dX6_pose_59 : decode cX6_pose 59 = .ok (.getfield 33, 3) := by decide +kernel
theorem dX6_pose_62 : decode cX6_pose 62 = .ok (.iload_n 3, 1) := by decide +kernel
theorem dX6_pose_63 : decode cX6_pose 63 = .ok (.iload_n 1, 1) := by decide +kernel
theorem dX6_pose_64 : decode cX6_pose 64 = .ok (.invokevirtual 254, 3) := by decide +kernel
theorem dX6_pose_67 : decode cX6_pose 67 = .ok (.aload_n 0, 1) := by decide +kernel
theorem dX6_pose_68 : decode cX6_pose 68 = .ok (.getfield 61, 3) := by decide +kernel
theorem dX6_pose_71 : decode cX6_pose 71 = .ok (.aload_n 0, 1) := by decide +kernel
theorem dX6_pose_72 : decode cX6_pose 72 = .ok (.getfield 33, 3) := by decide +kernel
theorem dX6_pose_75 : decode cX6_pose 75 = .ok (.getfield 134, 3) := by decide +kernel
theorem dX6_pose_78 : decode cX6_pose 78 = .ok (.iload_n 3, 1) := by decide +kernel
theorem dX6_pose_79 : decode cX6_pose 79 = .ok (.aaload, 1) := by decide +kernel
theorem dX6_pose_80 : decode cX6_pose 80 = .ok (.iload_n 1, 1) := by decide +kernel
theorem dX6_pose_81 : decode cX6_pose 81 = .ok (.iaload, 1) := by decide +kernel
theorem dX6_pose_82 : decode cX6_pose 82 = .ok (.iload 4, 2) := by decide +kernel
theorem dX6_pose_84 : decode cX6_pose 84 = .ok (.iadd, 1) := by decide +kernel
theorem dX6_pose_85 : decode cX6_pose 85 = .ok (.putfield 168, 3) := by decide +kernel
theorem dX6_pose_88 : decode cX6_pose 88 = .ok (.bipush (-2), 2) := by decide +kernel
theorem dX6_pose_90 : decode cX6_pose 90 = .ok (.ireturn, 1) := by decide +kernel
theorem dX6_pose_91 : decode cX6_pose 91 = .ok (.aload_n 0, 1) := by decide +kernel
theorem dX6_pose_92 : decode cX6_pose 92 = .ok (.getfield 19, 3) := by decide +kernel
theorem dX6_pose_95 : decode cX6_pose 95 = .ok (.getfield 90, 3) := by decide +kernel
theorem dX6_pose_98 : decode cX6_pose 98 = .ok (.bipush 16, 2) := by decide +kernel
theorem dX6_pose_100 : decode cX6_pose 100 = .ok (.if_icmp .lt 6, 3) := by decide +kernel
theorem dX6_pose_103 : decode cX6_pose 103 = .ok (.bipush (-3), 2) := by decide +kernel
theorem dX6_pose_105 : decode cX6_pose 105 = .ok (.ireturn, 1) := by decide +kernel
theorem dX6_pose_106 : decode cX6_pose 106 = .ok (.aload_n 0, 1) := by decide +kernel
theorem dX6_pose_107 : decode cX6_pose 107 = .ok (.invokevirtual 148, 3) := by decide +kernel
theorem dX6_pose_110 : decode cX6_pose 110 = .ok (.aload_n 0, 1) := by decide +kernel
theorem dX6_pose_111 : decode cX6_pose 111 = .ok (.getfield 19, 3) := by decide +kernel
theorem dX6_pose_114 : decode cX6_pose 114 = .ok (.iload_n 1, 1) := by decide +kernel
theorem dX6_pose_115 : decode cX6_pose 115 = .ok (.iload 4, 2) := by decide +kernel
theorem dX6_pose_117 : decode cX6_pose 117 = .ok (.iload_n 3, 1) := by decide +kernel
theorem dX6_pose_118 : decode cX6_pose 118 = .ok (.invokevirtual 258, 3) := by decide +kernel
theorem dX6_pose_121 : decode cX6_pose 121 = .ok (.aload_n 0, 1) := by decide +kernel
theorem dX6_pose_122 : decode cX6_pose 122 = .ok (.getfield 33, 3) := by decide +kernel
theorem dX6_pose_125 : decode cX6_pose 125 = .ok (.aload_n 0, 1) := by decide +kernel
theorem dX6_pose_126 : decode cX6_pose 126 = .ok (.getfield 19, 3) := by decide +kernel
theorem dX6_pose_129 : decode cX6_pose 129 = .ok (.invokevirtual 155, 3) := by decide +kernel
theorem dX6_pose_132 : decode cX6_pose 132 = .ok (.aload_n 0, 1) := by decide +kernel
theorem dX6_pose_133 : decode cX6_pose 133 = .ok (.getfield 19, 3) := by decide +kernel
theorem dX6_pose_136 : decode cX6_pose 136 = .ok (.getfield 90, 3) := by decide +kernel
theorem dX6_pose_139 : decode cX6_pose 139 = .ok (.iconst 1, 1) := by decide +kernel
theorem dX6_pose_140 : decode cX6_pose 140 = .ok (.isub, 1) := by decide +kernel
theorem dX6_pose_141 : decode cX6_pose 141 = .ok (.ireturn, 1) := by decide +kernel
theorem dX6_remember_0 : decode cX6_remember 0 = .ok (.aload_n 0, 1) := by decide +kernel
theorem dX6_remember_1 : decode cX6_remember 1 = .ok (.getfield 159, 3) := by decide +kernel
theorem dX6_remember_4 : decode cX6_remember 4 = .ok (.bipush 8, 2) := by decide +kernel
theorem dX6_remember_6 : decode cX6_remember 6 = .ok (.if_icmp .lt 52, 3) := by decide +kernel
theorem dX6_remember_9 : decode cX6_remember 9 = .ok (.aload_n 0, 1) := by decide +kernel
theorem dX6_remember_10 : decode cX6_remember 10 = .ok (.getfield 23, 3) := by decide +kernel
theorem dX6_remember_13 : decode cX6_remember 13 = .ok (.iconst 0, 1) := by decide +kernel
theorem dX6_remember_14 : decode cX6_remember 14 = .ok (.aaload, 1) := by decide +kernel
theorem dX6_remember_15 : decode cX6_remember 15 = .ok (.astore_n 1, 1) := by decide +kernel
theorem dX6_remember_16 : decode cX6_remember 16 = .ok (.iconst 1, 1) := by decide +kernel
theorem dX6_remember_17 : decode cX6_remember 17 = .ok (.istore_n 2, 1) := by decide +kernel
theorem dX6_remember_18 : decode cX6_remember 18 = .ok (.iload_n 2, 1) := by decide +kernel
theorem dX6_remember_19 : decode cX6_remember 19 = .ok (.bipush 8, 2) := by decide +kernel
theorem dX6_remember_21 : decode cX6_remember 21 = .ok (.if_icmp .ge 23, 3) := by decide +kernel
theorem dX6_remember_24 : decode cX6_remember 24 = .ok (.aload_n 0, 1) := by decide +kernel
theorem dX6_remember_25 : decode cX6_remember 25 = .ok (.getfield 23, 3) := by decide +kernel
theorem dX6_remember_28 : decode cX6_remember 28 = .ok (.iload_n 2, 1) := by decide +kernel
theorem dX6_remember_29 : decode cX6_remember 29 = .ok (.iconst 1, 1) := by decide +kernel
theorem dX6_remember_30 : decode cX6_remember 30 = .ok (.isub, 1) := by decide +kernel
theorem dX6_remember_31 : decode cX6_remember 31 = .ok (.aload_n 0, 1) := by decide +kernel
theorem dX6_remember_32 : decode cX6_remember 32 = .ok (.getfield 23, 3) := by decide +kernel
theorem dX6_remember_35 : decode cX6_remember 35 = .ok (.iload_n 2, 1) := by decide +kernel
theorem dX6_remember_36 : decode cX6_remember 36 = .ok (.aaload, 1) := by decide +kernel
theorem dX6_remember_37 : decode cX6_remember 37 = .ok (.aastore, 1) := by decide +kernel
theorem dX6_remember_38 : decode cX6_remember 38 = .ok (.iinc 2 1, 3) := by decide +kernel
theorem dX6_remember_41 : decode cX6_remember 41 = .ok (.goto (-23), 3) := by decide +kernel
theorem dX6_remember_44 : decode cX6_remember 44 = .ok (.aload_n 0, 1) := by decide +kernel
theorem dX6_remember_45 : decode cX6_remember 45 = .ok (.getfield 23, 3) := by decide +kernel
theorem dX6_remember_48 : decode cX6_remember 48 = .ok (.bipush 7, 2) := by decide +kernel
theorem dX6_remember_50 : decode cX6_remember 50 = .ok (.aload_n 1, 1) := by decide +kernel
theorem dX6_remember_51 : decode cX6_remember 51 = .ok (.aastore, 1) := by decide +kernel
theorem dX6_remember_52 : decode cX6_remember 52 = .ok (.aload_n 0, 1) := by decide +kernel
theorem dX6_remember_53 : decode cX6_remember 53 = .ok (.bipush 7, 2) := by decide +kernel
theorem dX6_remember_55 : decode cX6_remember 55 = .ok (.putfield 159, 3) := by decide +kernel
theorem dX6_remember_58 : decode cX6_remember 58 = .ok (.aload_n 0, 1) := by decide +kernel
theorem dX6_remember_59 : decode cX6_remember 59 = .ok (.getfield 23, 3) := by decide +kernel
theorem dX6_remember_62 : decode cX6_remember 62 = .ok (.aload_n 0, 1) := by decide +kernel
theorem dX6_remember_63 : decode cX6_remember 63 = .ok (.getfield 159, 3) := by decide +kernel
theorem dX6_remember_66 : decode cX6_remember 66 = .ok (.aaload, 1) := by decide +kernel
theorem dX6_remember_67 : decode cX6_remember 67 = .ok (.aload_n 0, 1) := by decide +kernel
theorem dX6_remember_68 : decode cX6_remember 68 = .ok (.getfield 19, 3) := by decide +kernel
theorem dX6_remember_71 : decode cX6_remember 71 = .ok (.invokevirtual 221, 3) := by decide +kernel
theorem dX6_remember_74 : decode cX6_remember 74 = .ok (.aload_n 0, 1) := by decide +kernel
theorem dX6_remember_75 : decode cX6_remember 75 = .ok (.dup, 1) := by decide +kernel
theorem dX6_remember_76 : decode cX6_remember 76 = .ok (.getfield 159, 3) := by decide +kernel
theorem dX6_remember_79 : decode cX6_remember 79 = .ok (.iconst 1, 1) := by decide +kernel
theorem dX6_remember_80 : decode cX6_remember 80 = .ok (.iadd, 1) := by decide +kernel
theorem dX6_remember_81 : decode cX6_remember 81 = .ok (.putfield 159, 3) := by decide +kernel
theorem dX6_remember_84 : decode cX6_remember 84 = .ok (.return_, 1) := by decide +kernel
theorem dX6_resume_0 : decode cX6_resume 0 = .ok (.aload_n 0, 1) := by decide +kernel
theorem dX6_resume_1 : decode cX6_resume 1 = .ok (.getfield 19, 3) := by decide +kernel
theorem dX6_resume_4 : decode cX6_resume 4 = .ok (.aload_n 1, 1) := by decide +kernel
theorem dX6_resume_5 : decode cX6_resume 5 = .ok (.invokevirtual 221, 3) := by decide +kernel
theorem dX6_resume_8 : decode cX6_resume 8 = .ok (.aload_n 0, 1) := by decide +kernel
theorem dX6_resume_9 : decode cX6_resume 9 = .ok (.getfield 33, 3) := by decide +kernel
theorem dX6_resume_12 : decode cX6_resume 12 = .ok (.aload_n 0, 1) := by decide +kernel
theorem dX6_resume_13 : decode cX6_resume 13 = .ok (.getfield 19, 3) := by decide +kernel
theorem dX6_resume_16 : decode cX6_resume 16 = .ok (.invokevirtual 155, 3) := by decide +kernel
theorem dX6_resume_19 : decode cX6_resume 19 = .ok (.return_, 1) := by decide +kernel
theorem dX6_placeOf_0 : decode cX6_placeOf 0 = .ok (.aload_n 0, 1) := by decide +kernel
theorem dX6_placeOf_1 : decode cX6_placeOf 1 = .ok (.getfield 33, 3) := by decide +kernel
theorem dX6_placeOf_4 : decode cX6_placeOf 4 = .ok (.iload_n 1, 1) := by decide +kernel
theorem dX6_placeOf_5 : decode cX6_placeOf 5 = .ok (.invokevirtual 99, 3) := by decide +kernel
theorem dX6_placeOf_8 : decode cX6_placeOf 8 = .ok (.istore_n 2, 1) := by decide +kernel
theorem dX6_placeOf_9 : decode cX6_placeOf 9 = .ok (.iconst 0, 1) := by decide +kernel
theorem dX6_placeOf_10 : decode cX6_placeOf 10 = .ok (.istore_n 3, 1) := by decide +kernel
theorem dX6_placeOf_11 : decode cX6_placeOf 11 = .ok (.iconst 0, 1) := by decide +kernel
theorem dX6_placeOf_12 : decode cX6_placeOf 12 = .ok (.istore 4, 2) := by decide +kernel
theorem dX6_placeOf_14 : decode cX6_placeOf 14 = .ok (.iload 4, 2) := by decide +kernel
theorem dX6_placeOf_16 : decode cX6_placeOf 16 = .ok (.aload_n 0, 1) := by decide +kernel
theorem dX6_placeOf_17 : decode cX6_placeOf 17 = .ok (.getfield 19, 3) := by decide +kernel
theorem dX6_placeOf_20 : decode cX6_placeOf 20 = .ok (.getfield 224, 3) := by decide +kernel
theorem dX6_placeOf_23 : decode cX6_placeOf 23 = .ok (.if_icmp .ge 41, 3) := by decide +kernel
theorem dX6_placeOf_26 : decode cX6_placeOf 26 = .ok (.aload_n 0, 1) := by decide +kernel
theorem dX6_placeOf_27 : decode cX6_placeOf 27 = .ok (.getfield 33, 3) := by decide +kernel
theorem dX6_placeOf_30 : decode cX6_placeOf 30 = .ok (.iload 4, 2) := by decide +kernel
theorem dX6_placeOf_32 : decode cX6_placeOf 32 = .ok (.invokevirtual 99, 3) := by decide +kernel
theorem dX6_placeOf_35 : decode cX6_placeOf 35 = .ok (.istore 5, 2) := by decide +kernel
theorem dX6_placeOf_37 : decode cX6_placeOf 37 = .ok (.iload 5, 2) := by decide +kernel
theorem dX6_placeOf_39 : decode cX6_placeOf 39 = .ok (.iload_n 2, 1) := by decide +kernel
theorem dX6_placeOf_40 : decode cX6_placeOf 40 = .ok (.if_icmp .lt 15, 3) := by decide +kernel
theorem dX6_placeOf_43 : decode cX6_placeOf 43 = .ok (.iload 5, 2) := by decide +kernel
theorem dX6_placeOf_45 : decode cX6_placeOf 45 = .ok (.iload_n 2, 1) := by decide +kernel
theorem dX6_placeOf_46 : decode cX6_placeOf 46 = .ok (.if_icmp .ne 12, 3) := by decide +kernel
theorem dX6_placeOf_49 : decode cX6_placeOf 49 = .ok (.iload 4, 2) := by decide +kernel
theorem dX6_placeOf_51 : decode cX6_placeOf 51 = .ok (.iload_n 1, 1) := by decide +kernel
theorem dX6_placeOf_52 : decode cX6_placeOf 52 = .ok (.if_icmp .ge 6, 3) := by decide +kernel
theorem dX6_placeOf_55 : decode cX6_placeOf 55 = .ok (.iinc 3 1, 3) := by decide +kernel
theorem dX6_placeOf_58 : decode cX6_placeOf 58 = .ok (.iinc 4 1, 3) := by decide +kernel
theorem dX6_placeOf_61 : decode cX6_placeOf 61 = .ok (.goto (-47), 3) := by decide +kernel
theorem dX6_placeOf_64 : decode cX6_placeOf 64 = .ok (.iload_n 3, 1) := by decide +kernel
theorem dX6_placeOf_65 : decode cX6_placeOf 65 = .ok (.ireturn, 1) := by decide +kernel
theorem dX6_sameAs_0 : decode cX6_sameAs 0 = .ok (.iconst 0, 1) := by decide +kernel
theorem dX6_sameAs_1 : decode cX6_sameAs 1 = .ok (.istore_n 2, 1) := by decide +kernel
theorem dX6_sameAs_2 : decode cX6_sameAs 2 = .ok (.iconst 0, 1) := by decide +kernel
theorem dX6_sameAs_3 : decode cX6_sameAs 3 = .ok (.istore_n 3, 1) := by decide +kernel
theorem dX6_sameAs_4 : decode cX6_sameAs 4 = .ok (.iload_n 3, 1) := by decide +kernel
theorem dX6_sameAs_5 : decode cX6_sameAs 5 = .ok (.aload_n 0, 1) := by decide +kernel
theorem dX6_sameAs_6 : decode cX6_sameAs 6 = .ok (.getfield 19, 3) := by decide +kernel
theorem dX6_sameAs_9 : decode cX6_sameAs 9 = .ok (.getfield 224, 3) := by decide +kernel
theorem dX6_sameAs_12 : decode cX6_sameAs 12 = .ok (.if_icmp .ge 43, 3) := by decide +kernel
theorem dX6_sameAs_15 : decode cX6_sameAs 15 = .ok (.aload_n 0, 1) := by decide +kernel
theorem dX6_sameAs_16 : decode cX6_sameAs 16 = .ok (.getfield 33, 3) := by decide +kernel
theorem dX6_sameAs_19 : decode cX6_sameAs 19 = .ok (.getfield 134, 3) := by decide +kernel
theorem dX6_sameAs_22 : decode cX6_sameAs 22 = .ok (.iload_n 1, 1) := by decide +kernel
theorem dX6_sameAs_23 : decode cX6_sameAs 23 = .ok (.aaload, 1) := by decide +kernel
theorem dX6_sameAs_24 : decode cX6_sameAs 24 = .ok (.iload_n 3, 1) := by decide +kernel
theorem dX6_sameAs_25 : decode cX6_sameAs 25 = .ok (.iaload, 1) := by decide +kernel
theorem dX6_sameAs_26 : decode cX6_sameAs 26 = .ok (.ifCond .ne 23, 3) := by decide +kernel
theorem dX6_sameAs_29 : decode cX6_sameAs 29 = .ok (.aload_n 0, 1) := by decide +kernel
theorem dX6_sameAs_30 : decode cX6_sameAs 30 = .ok (.getfield 33, 3) := by decide +kernel
theorem dX6_sameAs_33 : decode cX6_sameAs 33 = .ok (.getfield 134, 3) := by decide +kernel
theorem dX6_sameAs_36 : decode cX6_sameAs 36 = .ok (.iload_n 3, 1) := by decide +kernel
theorem dX6_sameAs_37 : decode cX6_sameAs 37 = .ok (.aaload, 1) := by decide +kernel
theorem dX6_sameAs_38 : decode cX6_sameAs 38 = .ok (.iload_n 1, 1) := by decide +kernel
theorem dX6_sameAs_39 : decode cX6_sameAs 39 = .ok (.iaload, 1) := by decide +kernel
theorem dX6_sameAs_40 : decode cX6_sameAs 40 = .ok (.ifCond .ne 9, 3) := by decide +kernel
theorem dX6_sameAs_43 : decode cX6_sameAs 43 = .ok (.iload_n 2, 1) := by decide +kernel
theorem dX6_sameAs_44 : decode cX6_sameAs 44 = .ok (.iconst 1, 1) := by decide +kernel
theorem dX6_sameAs_45 : decode cX6_sameAs 45 = .ok (.iload_n 3, 1) := by decide +kernel
theorem dX6_sameAs_46 : decode cX6_sameAs 46 = .ok (.ishl, 1) := by decide +kernel
theorem dX6_sameAs_47 : decode cX6_sameAs 47 = .ok (.ior, 1) := by decide +kernel
theorem dX6_sameAs_48 : decode cX6_sameAs 48 = .ok (.istore_n 2, 1) := by decide +kernel
theorem dX6_sameAs_49 : decode cX6_sameAs 49 = .ok (.iinc 3 1, 3) := by decide +kernel
theorem dX6_sameAs_52 : decode cX6_sameAs 52 = .ok (.goto (-48), 3) := by decide +kernel
theorem dX6_sameAs_55 : decode cX6_sameAs 55 = .ok (.iload_n 2, 1) := by decide +kernel
theorem dX6_sameAs_56 : decode cX6_sameAs 56 = .ok (.ireturn, 1) := by decide +kernel
theorem dX6_isNeedless_0 : decode cX6_isNeedless 0 = .ok (.aload_n 0, 1) := by decide +kernel
theorem dX6_isNeedless_1 : decode cX6_isNeedless 1 = .ok (.getfield 19, 3) := by decide +kernel
theorem dX6_isNeedless_4 : decode cX6_isNeedless 4 = .ok (.aload_n 0, 1) := by decide +kernel
theorem dX6_isNeedless_5 : decode cX6_isNeedless 5 = .ok (.getfield 19, 3) := by decide +kernel
theorem dX6_isNeedless_8 : decode cX6_isNeedless 8 = .ok (.getfield 115, 3) := by decide +kernel
theorem dX6_isNeedless_11 : decode cX6_isNeedless 11 = .ok (.iload_n 1, 1) := by decide +kernel
theorem dX6_isNeedless_12 : decode cX6_isNeedless 12 = .ok (.iaload, 1) := by decide +kernel
theorem dX6_isNeedless_13 : decode cX6_isNeedless 13 = .ok (.iconst 1, 1) := by decide +kernel
theorem dX6_isNeedless_14 : decode cX6_isNeedless 14 = .ok (.iload_n 1, 1) := by decide +kernel
theorem dX6_isNeedless_15 : decode cX6_isNeedless 15 = .ok (.ishl, 1) := by decide +kernel
theorem dX6_isNeedless_16 : decode cX6_isNeedless 16 = .ok (.aload_n 0, 1) := by decide +kernel
theorem dX6_isNeedless_17 : decode cX6_isNeedless 17 = .ok (.getfield 37, 3) := by decide +kernel
theorem dX6_isNeedless_20 : decode cX6_isNeedless 20 = .ok (.invokevirtual 262, 3) := by decide +kernel
theorem dX6_isNeedless_23 : decode cX6_isNeedless 23 = .ok (.aload_n 0, 1) := by decide +kernel
theorem dX6_isNeedless_24 : decode cX6_isNeedless 24 = .ok (.getfield 37, 3) := by decide +kernel
theorem dX6_isNeedless_27 : decode cX6_isNeedless 27 = .ok (.aload_n 0, 1) := by decide +kernel
theorem dX6_isNeedless_28 : decode cX6_isNeedless 28 = .ok (.getfield 19, 3) := by decide +kernel
theorem dX6_isNeedless_31 : decode cX6_isNeedless 31 = .ok (.getfield 118, 3) := by decide +kernel
theorem dX6_isNeedless_34 : decode cX6_isNeedless 34 = .ok (.iload_n 1, 1) := by decide +kernel
theorem dX6_isNeedless_35 : decode cX6_isNeedless 35 = .ok (.iaload, 1) := by decide +kernel
theorem dX6_isNeedless_36 : decode cX6_isNeedless 36 = .ok (.iaload, 1) := by decide +kernel
theorem dX6_isNeedless_37 : decode cX6_isNeedless 37 = .ok (.aload_n 0, 1) := by decide +kernel
theorem dX6_isNeedless_38 : decode cX6_isNeedless 38 = .ok (.getfield 19, 3) := by decide +kernel
theorem dX6_isNeedless_41 : decode cX6_isNeedless 41 = .ok (.getfield 121, 3) := by decide +kernel
theorem dX6_isNeedless_44 : decode cX6_isNeedless 44 = .ok (.iload_n 1, 1) := by decide +kernel
theorem dX6_isNeedless_45 : decode cX6_isNeedless 45 = .ok (.iaload, 1) := by decide +kernel
theorem dX6_isNeedless_46 : decode cX6_isNeedless 46 = .ok (.if_icmp .lt 7, 3) := by decide +kernel
theorem dX6_isNeedless_49 : decode cX6_isNeedless 49 = .ok (.iconst 1, 1) := by decide +kernel
theorem dX6_isNeedless_50 : decode cX6_isNeedless 50 = .ok (.goto 4, 3) := by decide +kernel
theorem dX6_isNeedless_53 : decode cX6_isNeedless 53 = .ok (.iconst 0, 1) := by decide +kernel
theorem dX6_isNeedless_54 : decode cX6_isNeedless 54 = .ok (.ireturn, 1) := by decide +kernel
theorem dX6_slackOf_0 : decode cX6_slackOf 0 = .ok (.aload_n 0, 1) := by decide +kernel
theorem dX6_slackOf_1 : decode cX6_slackOf 1 = .ok (.getfield 19, 3) := by decide +kernel
theorem dX6_slackOf_4 : decode cX6_slackOf 4 = .ok (.getfield 115, 3) := by decide +kernel
theorem dX6_slackOf_7 : decode cX6_slackOf 7 = .ok (.iload_n 1, 1) := by decide +kernel
theorem dX6_slackOf_8 : decode cX6_slackOf 8 = .ok (.iaload, 1) := by decide +kernel
theorem dX6_slackOf_9 : decode cX6_slackOf 9 = .ok (.istore_n 2, 1) := by decide +kernel
theorem dX6_slackOf_10 : decode cX6_slackOf 10 = .ok (.aload_n 0, 1) := by decide +kernel
theorem dX6_slackOf_11 : decode cX6_slackOf 11 = .ok (.getfield 19, 3) := by decide +kernel
theorem dX6_slackOf_14 : decode cX6_slackOf 14 = .ok (.getfield 118, 3) := by decide +kernel
theorem dX6_slackOf_17 : decode cX6_slackOf 17 = .ok (.iload_n 1, 1) := by decide +kernel
theorem dX6_slackOf_18 : decode cX6_slackOf 18 = .ok (.iaload, 1) := by decide +kernel
theorem dX6_slackOf_19 : decode cX6_slackOf 19 = .ok (.istore_n 3, 1) := by decide +kernel
theorem dX6_slackOf_20 : decode cX6_slackOf 20 = .ok (.aload_n 0, 1) := by decide +kernel
theorem dX6_slackOf_21 : decode cX6_slackOf 21 = .ok (.getfield 33, 3) := by decide +kernel
theorem dX6_slackOf_24 : decode cX6_slackOf 24 = .ok (.iload_n 3, 1) := by decide +kernel
theorem dX6_slackOf_25 : decode cX6_slackOf 25 = .ok (.iload_n 2, 1) := by decide +kernel
theorem dX6_slackOf_26 : decode cX6_slackOf 26 = .ok (.invokevirtual 130, 3) := by decide +kernel
theorem dX6_slackOf_29 : decode cX6_slackOf 29 = .ok (.ifCond .eq 28, 3) := by decide +kernel
theorem dX6_slackOf_32 : decode cX6_slackOf 32 = .ok (.aload_n 0, 1) := by decide +kernel
theorem dX6_slackOf_33 : decode cX6_slackOf 33 = .ok (.getfield 33, 3) := by decide +kernel
theorem dX6_slackOf_36 : decode cX6_slackOf 36 = .ok (.getfield 134, 3) := by decide +kernel
theorem dX6_slackOf_39 : decode cX6_slackOf 39 = .ok (.iload_n 3, 1) := by decide +kernel
theorem dX6_slackOf_40 : decode cX6_slackOf 40 = .ok (.aaload, 1) := by decide +kernel
theorem dX6_slackOf_41 : decode cX6_slackOf 41 = .ok (.iload_n 2, 1) := by decide +kernel
theorem dX6_slackOf_42 : decode cX6_slackOf 42 = .ok (.iaload, 1) := by decide +kernel
theorem dX6_slackOf_43 : decode cX6_slackOf 43 = .ok (.aload_n 0, 1) := by decide +kernel
theorem dX6_slackOf_44 : decode cX6_slackOf 44 = .ok (.getfield 19, 3) := by decide +kernel
theorem dX6_slackOf_47 : decode cX6_slackOf 47 = .ok (.getfield 121, 3) := by decide +kernel
theorem dX6_slackOf_50 : decode cX6_slackOf 50 = .ok (.iload_n 1, 1) := by decide +kernel
theorem dX6_slackOf_51 : decode cX6_slackOf 51 = .ok (.iaload, 1) := by decide +kernel
theorem dX6_slackOf_52 : decode cX6_slackOf 52 = .ok (.iadd, 1) := by decide +kernel
theorem dX6_slackOf_53 : decode cX6_slackOf 53 = .ok (.ineg, 1) := by decide +kernel
theorem dX6_slackOf_54 : decode cX6_slackOf 54 = .ok (.goto 5, 3) := by decide +kernel
theorem dX6_slackOf_57 : decode cX6_slackOf 57 = .ok (.bipush (-4), 2) := by decide +kernel
theorem dX6_slackOf_59 : decode cX6_slackOf 59 = .ok (.ireturn, 1) := by decide +kernel
theorem dX6_floatingOnes_0 : decode cX6_floatingOnes 0 = .ok (.iconst 0, 1) := by decide +kernel
theorem dX6_floatingOnes_1 : decode cX6_floatingOnes 1 = .ok (.istore_n 1, 1) := by decide +kernel
theorem dX6_floatingOnes_2 : decode cX6_floatingOnes 2 = .ok (.iconst 0, 1) := by decide +kernel
theorem dX6_floatingOnes_3 : decode cX6_floatingOnes 3 = .ok (.istore_n 2, 1) := by decide +kernel
theorem dX6_floatingOnes_4 : decode cX6_floatingOnes 4 = .ok (.iload_n 2, 1) := by decide +kernel
theorem dX6_floatingOnes_5 : decode cX6_floatingOnes 5 = .ok (.aload_n 0, 1) := by decide +kernel
theorem dX6_floatingOnes_6 : decode cX6_floatingOnes 6 = .ok (.getfield 19, 3) := by decide +kernel
theorem dX6_floatingOnes_9 : decode cX6_floatingOnes 9 = .ok (.getfield 224, 3) := by decide +kernel
theorem dX6_floatingOnes_12 : decode cX6_floatingOnes 12 = .ok (.if_icmp .ge 23, 3) := by decide +kernel
theorem dX6_floatingOnes_15 : decode cX6_floatingOnes 15 = .ok (.aload_n 0, 1) := by decide +kernel
theorem dX6_floatingOnes_16 : decode cX6_floatingOnes 16 = .ok (.getfield 19, 3) := by decide +kernel
theorem dX6_floatingOnes_19 : decode cX6_floatingOnes 19 = .ok (.iload_n 2, 1) := by decide +kernel
theorem dX6_floatingOnes_20 : decode cX6_floatingOnes 20 = .ok (.invokevirtual 109, 3) := by decide +kernel
theorem dX6_floatingOnes_23 : decode cX6_floatingOnes 23 = .ok (.ifCond .eq 6, 3) := by decide +kernel
theorem dX6_floatingOnes_26 : decode cX6_floatingOnes 26 = .ok (.iinc 1 1, 3) := by decide +kernel
theorem dX6_floatingOnes_29 : decode cX6_floatingOnes 29 = .ok (.iinc 2 1, 3) := by decide +kernel
theorem dX6_floatingOnes_32 : decode cX6_floatingOnes 32 = .ok (.goto (-28), 3) := by decide +kernel
theorem dX6_floatingOnes_35 : decode cX6_floatingOnes 35 = .ok (.iload_n 1, 1) := by decide +kernel
theorem dX6_floatingOnes_36 : decode cX6_floatingOnes 36 = .ok (.ireturn, 1) := by decide +kernel
theorem dX6_isRoot_0 : decode cX6_isRoot 0 = .ok (.iload_n 1, 1) := by decide +kernel
theorem dX6_isRoot_1 : decode cX6_isRoot 1 = .ok (.iload_n 2, 1) := by decide +kernel
theorem dX6_isRoot_2 : decode cX6_isRoot 2 = .ok (.if_icmp .eq 30, 3) := by decide +kernel
theorem dX6_isRoot_5 : decode cX6_isRoot 5 = .ok (.aload_n 0, 1) := by decide +kernel
theorem dX6_isRoot_6 : decode cX6_isRoot 6 = .ok (.getfield 19, 3) := by decide +kernel
theorem dX6_isRoot_9 : decode cX6_isRoot 9 = .ok (.iload_n 1, 1) := by decide +kernel
theorem dX6_isRoot_10 : decode cX6_isRoot 10 = .ok (.invokevirtual 109, 3) := by decide +kernel
theorem dX6_isRoot_13 : decode cX6_isRoot 13 = .ok (.ifCond .ne 19, 3) := by decide +kernel
theorem dX6_isRoot_16 : decode cX6_isRoot 16 = .ok (.aload_n 0, 1) := by decide +kernel
theorem dX6_isRoot_17 : decode cX6_isRoot 17 = .ok (.getfield 33, 3) := by decide +kernel
theorem dX6_isRoot_20 : decode cX6_isRoot 20 = .ok (.iload_n 1, 1) := by decide +kernel
theorem dX6_isRoot_21 : decode cX6_isRoot 21 = .ok (.iload_n 2, 1) := by decide +kernel
theorem dX6_isRoot_22 : decode cX6_isRoot 22 = .ok (.invokevirtual 130, 3) := by decide +kernel
theorem dX6_isRoot_25 : decode cX6_isRoot 25 = .ok (.ifCond .eq 7, 3) := by decide +kernel
